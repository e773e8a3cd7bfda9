/-- a private method of a class that the tables say can be made, by its rows of tables_1 -/
def lw_okq (q : MethodName × Nat) : Prop := (q.1.cls ≠ "java/lang/invoke/MethodHandle" ∧ q.1.cls ≠ "java/lang/invoke/VarHandle") ∧ Cond.instantiable q.1.cls q.2 ∈ tables_1 ∧ Cond.privateMethod q.1 ∈ tables_1 ∧ Cond.instanceMethod q.1 ∈ tables_1
theorem lw_p0 : lw_okq (⟨"OrreryTrains", "splitIntoOne", "(II)I"⟩, 8) := ⟨⟨by decide +kernel, by decide +kernel⟩, List.mem_of_getElem? (i := 17) (by decide +kernel), List.mem_of_getElem? (i := 306) (by decide +kernel), List.mem_of_getElem? (i := 307) (by decide +kernel)⟩
theorem lw_p1 : lw_okq (⟨"OrreryTrains", "splitIntoTwo", "(II)I"⟩, 8) := ⟨⟨by decide +kernel, by decide +kernel⟩, List.mem_of_getElem? (i := 17) (by decide +kernel), List.mem_of_getElem? (i := 310) (by decide +kernel), List.mem_of_getElem? (i := 311) (by decide +kernel)⟩
theorem lw_p2 : lw_okq (⟨"OrreryTrains$Tape", "figureAt", "(I)I"⟩, 2) := ⟨⟨by decide +kernel, by decide +kernel⟩, List.mem_of_getElem? (i := 135) (by decide +kernel), List.mem_of_getElem? (i := 348) (by decide +kernel), List.mem_of_getElem? (i := 349) (by decide +kernel)⟩
theorem lw_p3 : lw_okq (⟨"OrreryTrains$Tape", "numberAt", "(I)I"⟩, 2) := ⟨⟨by decide +kernel, by decide +kernel⟩, List.mem_of_getElem? (i := 135) (by decide +kernel), List.mem_of_getElem? (i := 352) (by decide +kernel), List.mem_of_getElem? (i := 353) (by decide +kernel)⟩
theorem lw_p4 : lw_okq (⟨"OrreryTrains$Tape", "isToldAhead", "(I)Z"⟩, 2) := ⟨⟨by decide +kernel, by decide +kernel⟩, List.mem_of_getElem? (i := 135) (by decide +kernel), List.mem_of_getElem? (i := 411) (by decide +kernel), List.mem_of_getElem? (i := 412) (by decide +kernel)⟩
theorem lw_p5 : lw_okq (⟨"OrreryTrains", "areTwo", "(II)Z"⟩, 8) := ⟨⟨by decide +kernel, by decide +kernel⟩, List.mem_of_getElem? (i := 17) (by decide +kernel), List.mem_of_getElem? (i := 495) (by decide +kernel), List.mem_of_getElem? (i := 496) (by decide +kernel)⟩
theorem lw_p6 : lw_okq (⟨"OrreryTrains", "bestOrder", "(I)I"⟩, 8) := ⟨⟨by decide +kernel, by decide +kernel⟩, List.mem_of_getElem? (i := 17) (by decide +kernel), List.mem_of_getElem? (i := 510) (by decide +kernel), List.mem_of_getElem? (i := 511) (by decide +kernel)⟩
theorem lw_p7 : lw_okq (⟨"OrreryTrains", "wheelsBy", "(II)I"⟩, 8) := ⟨⟨by decide +kernel, by decide +kernel⟩, List.mem_of_getElem? (i := 17) (by decide +kernel), List.mem_of_getElem? (i := 514) (by decide +kernel), List.mem_of_getElem? (i := 515) (by decide +kernel)⟩
theorem lw_p8 : lw_okq (⟨"OrreryTrains$Finder", "seekOnePair", "()V"⟩, 10) := ⟨⟨by decide +kernel, by decide +kernel⟩, List.mem_of_getElem? (i := 179) (by decide +kernel), List.mem_of_getElem? (i := 564) (by decide +kernel), List.mem_of_getElem? (i := 565) (by decide +kernel)⟩
theorem lw_p9 : lw_okq (⟨"OrreryTrains$Finder", "offer", "(IIII)V"⟩, 10) := ⟨⟨by decide +kernel, by decide +kernel⟩, List.mem_of_getElem? (i := 179) (by decide +kernel), List.mem_of_getElem? (i := 568) (by decide +kernel), List.mem_of_getElem? (i := 569) (by decide +kernel)⟩
theorem lw_p10 : lw_okq (⟨"OrreryTrains$Finder", "isAhead", "(IIII)Z"⟩, 10) := ⟨⟨by decide +kernel, by decide +kernel⟩, List.mem_of_getElem? (i := 179) (by decide +kernel), List.mem_of_getElem? (i := 576) (by decide +kernel), List.mem_of_getElem? (i := 577) (by decide +kernel)⟩
theorem lw_p11 : lw_okq (⟨"OrreryTrains$Finder", "seekTwoPairs", "()V"⟩, 10) := ⟨⟨by decide +kernel, by decide +kernel⟩, List.mem_of_getElem? (i := 179) (by decide +kernel), List.mem_of_getElem? (i := 588) (by decide +kernel), List.mem_of_getElem? (i := 589) (by decide +kernel)⟩
theorem lw_p12 : lw_okq (⟨"OrreryTrains$Finder", "offerFourth", "(III)V"⟩, 10) := ⟨⟨by decide +kernel, by decide +kernel⟩, List.mem_of_getElem? (i := 179) (by decide +kernel), List.mem_of_getElem? (i := 592) (by decide +kernel), List.mem_of_getElem? (i := 593) (by decide +kernel)⟩
theorem lw_p13 : lw_okq (⟨"OrreryTrains", "turnsUntilJoined", "(III)I"⟩, 8) := ⟨⟨by decide +kernel, by decide +kernel⟩, List.mem_of_getElem? (i := 17) (by decide +kernel), List.mem_of_getElem? (i := 662) (by decide +kernel), List.mem_of_getElem? (i := 663) (by decide +kernel)⟩
theorem lw_p14 : lw_okq (⟨"OrreryTrainsModel", "becomesRatio", "(III)V"⟩, 22) := ⟨⟨by decide +kernel, by decide +kernel⟩, List.mem_of_getElem? (i := 805) (by decide +kernel), List.mem_of_getElem? (i := 889) (by decide +kernel), List.mem_of_getElem? (i := 890) (by decide +kernel)⟩
theorem lw_p15 : lw_okq (⟨"OrreryTrainsModel", "isBody", "(I)Z"⟩, 22) := ⟨⟨by decide +kernel, by decide +kernel⟩, List.mem_of_getElem? (i := 805) (by decide +kernel), List.mem_of_getElem? (i := 903) (by decide +kernel), List.mem_of_getElem? (i := 904) (by decide +kernel)⟩
def lw_privs_1 : List (MethodName × Nat) := [(⟨"OrreryTrains", "splitIntoOne", "(II)I"⟩, 8), (⟨"OrreryTrains", "splitIntoTwo", "(II)I"⟩, 8), (⟨"OrreryTrains$Tape", "figureAt", "(I)I"⟩, 2), (⟨"OrreryTrains$Tape", "numberAt", "(I)I"⟩, 2), (⟨"OrreryTrains$Tape", "isToldAhead", "(I)Z"⟩, 2), (⟨"OrreryTrains", "areTwo", "(II)Z"⟩, 8), (⟨"OrreryTrains", "bestOrder", "(I)I"⟩, 8), (⟨"OrreryTrains", "wheelsBy", "(II)I"⟩, 8), (⟨"OrreryTrains$Finder", "seekOnePair", "()V"⟩, 10), (⟨"OrreryTrains$Finder", "offer", "(IIII)V"⟩, 10), (⟨"OrreryTrains$Finder", "isAhead", "(IIII)Z"⟩, 10), (⟨"OrreryTrains$Finder", "seekTwoPairs", "()V"⟩, 10), (⟨"OrreryTrains$Finder", "offerFourth", "(III)V"⟩, 10), (⟨"OrreryTrains", "turnsUntilJoined", "(III)I"⟩, 8), (⟨"OrreryTrainsModel", "becomesRatio", "(III)V"⟩, 22), (⟨"OrreryTrainsModel", "isBody", "(I)Z"⟩, 22)]
theorem lw_r1 : ∀ q ∈ lw_privs_1, lw_okq q := List.forall_mem_cons.mpr ⟨lw_p0, List.forall_mem_cons.mpr ⟨lw_p1, List.forall_mem_cons.mpr ⟨lw_p2, List.forall_mem_cons.mpr ⟨lw_p3, List.forall_mem_cons.mpr ⟨lw_p4, List.forall_mem_cons.mpr ⟨lw_p5, List.forall_mem_cons.mpr ⟨lw_p6, List.forall_mem_cons.mpr ⟨lw_p7, List.forall_mem_cons.mpr ⟨lw_p8, List.forall_mem_cons.mpr ⟨lw_p9, List.forall_mem_cons.mpr ⟨lw_p10, List.forall_mem_cons.mpr ⟨lw_p11, List.forall_mem_cons.mpr ⟨lw_p12, List.forall_mem_cons.mpr ⟨lw_p13, List.forall_mem_cons.mpr ⟨lw_p14, List.forall_mem_cons.mpr ⟨lw_p15, fun _ h => absurd h List.not_mem_nil⟩⟩⟩⟩⟩⟩⟩⟩⟩⟩⟩⟩⟩⟩⟩⟩
theorem lw_p16 : lw_okq (⟨"OrreryTrainsModel", "terms", "(I)I"⟩, 22) := ⟨⟨by decide +kernel, by decide +kernel⟩, List.mem_of_getElem? (i := 805) (by decide +kernel), List.mem_of_getElem? (i := 911) (by decide +kernel), List.mem_of_getElem? (i := 912) (by decide +kernel)⟩
theorem lw_p17 : lw_okq (⟨"OrreryTrainsModel", "isWithin", "(I)Z"⟩, 22) := ⟨⟨by decide +kernel, by decide +kernel⟩, List.mem_of_getElem? (i := 805) (by decide +kernel), List.mem_of_getElem? (i := 938) (by decide +kernel), List.mem_of_getElem? (i := 939) (by decide +kernel)⟩
theorem lw_p18 : lw_okq (⟨"OrreryTrainsModel", "clauses", "()I"⟩, 22) := ⟨⟨by decide +kernel, by decide +kernel⟩, List.mem_of_getElem? (i := 805) (by decide +kernel), List.mem_of_getElem? (i := 956) (by decide +kernel), List.mem_of_getElem? (i := 957) (by decide +kernel)⟩
theorem lw_p19 : lw_okq (⟨"OrreryTrainsModel", "kindHere", "()I"⟩, 22) := ⟨⟨by decide +kernel, by decide +kernel⟩, List.mem_of_getElem? (i := 805) (by decide +kernel), List.mem_of_getElem? (i := 960) (by decide +kernel), List.mem_of_getElem? (i := 961) (by decide +kernel)⟩
theorem lw_p20 : lw_okq (⟨"OrreryTrainsModel", "here", "()I"⟩, 22) := ⟨⟨by decide +kernel, by decide +kernel⟩, List.mem_of_getElem? (i := 805) (by decide +kernel), List.mem_of_getElem? (i := 964) (by decide +kernel), List.mem_of_getElem? (i := 965) (by decide +kernel)⟩
theorem lw_p21 : lw_okq (⟨"OrreryTrainsModel", "fails", "()V"⟩, 22) := ⟨⟨by decide +kernel, by decide +kernel⟩, List.mem_of_getElem? (i := 805) (by decide +kernel), List.mem_of_getElem? (i := 1009) (by decide +kernel), List.mem_of_getElem? (i := 1010) (by decide +kernel)⟩
theorem lw_p22 : lw_okq (⟨"OrreryTrainsModel", "figure", "(I)I"⟩, 22) := ⟨⟨by decide +kernel, by decide +kernel⟩, List.mem_of_getElem? (i := 805) (by decide +kernel), List.mem_of_getElem? (i := 1013) (by decide +kernel), List.mem_of_getElem? (i := 1014) (by decide +kernel)⟩
theorem lw_p23 : lw_okq (⟨"OrreryTrainsModel", "must", "(I)V"⟩, 22) := ⟨⟨by decide +kernel, by decide +kernel⟩, List.mem_of_getElem? (i := 805) (by decide +kernel), List.mem_of_getElem? (i := 1018) (by decide +kernel), List.mem_of_getElem? (i := 1019) (by decide +kernel)⟩
theorem lw_p24 : lw_okq (⟨"OrreryTrainsModel", "isPair", "(I)Z"⟩, 22) := ⟨⟨by decide +kernel, by decide +kernel⟩, List.mem_of_getElem? (i := 805) (by decide +kernel), List.mem_of_getElem? (i := 1027) (by decide +kernel), List.mem_of_getElem? (i := 1028) (by decide +kernel)⟩
theorem lw_p25 : lw_okq (⟨"OrreryTrainsModel", "play", "(I)I"⟩, 22) := ⟨⟨by decide +kernel, by decide +kernel⟩, List.mem_of_getElem? (i := 805) (by decide +kernel), List.mem_of_getElem? (i := 1041) (by decide +kernel), List.mem_of_getElem? (i := 1042) (by decide +kernel)⟩
theorem lw_p26 : lw_okq (⟨"OrreryTrainsModel", "trainsOf", "(I)I"⟩, 22) := ⟨⟨by decide +kernel, by decide +kernel⟩, List.mem_of_getElem? (i := 805) (by decide +kernel), List.mem_of_getElem? (i := 1045) (by decide +kernel), List.mem_of_getElem? (i := 1046) (by decide +kernel)⟩
theorem lw_p27 : lw_okq (⟨"OrreryTrainsModel", "pairAt", "(II)I"⟩, 22) := ⟨⟨by decide +kernel, by decide +kernel⟩, List.mem_of_getElem? (i := 805) (by decide +kernel), List.mem_of_getElem? (i := 1049) (by decide +kernel), List.mem_of_getElem? (i := 1050) (by decide +kernel)⟩
theorem lw_p28 : lw_okq (⟨"OrreryTrainsModel", "isRound", "(I)Z"⟩, 22) := ⟨⟨by decide +kernel, by decide +kernel⟩, List.mem_of_getElem? (i := 805) (by decide +kernel), List.mem_of_getElem? (i := 1066) (by decide +kernel), List.mem_of_getElem? (i := 1067) (by decide +kernel)⟩
theorem lw_p29 : lw_okq (⟨"OrreryTrainsModel", "hasTrain", "(I)Z"⟩, 22) := ⟨⟨by decide +kernel, by decide +kernel⟩, List.mem_of_getElem? (i := 805) (by decide +kernel), List.mem_of_getElem? (i := 1074) (by decide +kernel), List.mem_of_getElem? (i := 1075) (by decide +kernel)⟩
theorem lw_p30 : lw_okq (⟨"OrreryTrainsModel", "drivers", "(I)J"⟩, 22) := ⟨⟨by decide +kernel, by decide +kernel⟩, List.mem_of_getElem? (i := 805) (by decide +kernel), List.mem_of_getElem? (i := 1078) (by decide +kernel), List.mem_of_getElem? (i := 1079) (by decide +kernel)⟩
theorem lw_p31 : lw_okq (⟨"OrreryTrainsModel", "product", "(IIII)J"⟩, 22) := ⟨⟨by decide +kernel, by decide +kernel⟩, List.mem_of_getElem? (i := 805) (by decide +kernel), List.mem_of_getElem? (i := 1082) (by decide +kernel), List.mem_of_getElem? (i := 1083) (by decide +kernel)⟩
def lw_privs_2 : List (MethodName × Nat) := [(⟨"OrreryTrainsModel", "terms", "(I)I"⟩, 22), (⟨"OrreryTrainsModel", "isWithin", "(I)Z"⟩, 22), (⟨"OrreryTrainsModel", "clauses", "()I"⟩, 22), (⟨"OrreryTrainsModel", "kindHere", "()I"⟩, 22), (⟨"OrreryTrainsModel", "here", "()I"⟩, 22), (⟨"OrreryTrainsModel", "fails", "()V"⟩, 22), (⟨"OrreryTrainsModel", "figure", "(I)I"⟩, 22), (⟨"OrreryTrainsModel", "must", "(I)V"⟩, 22), (⟨"OrreryTrainsModel", "isPair", "(I)Z"⟩, 22), (⟨"OrreryTrainsModel", "play", "(I)I"⟩, 22), (⟨"OrreryTrainsModel", "trainsOf", "(I)I"⟩, 22), (⟨"OrreryTrainsModel", "pairAt", "(II)I"⟩, 22), (⟨"OrreryTrainsModel", "isRound", "(I)Z"⟩, 22), (⟨"OrreryTrainsModel", "hasTrain", "(I)Z"⟩, 22), (⟨"OrreryTrainsModel", "drivers", "(I)J"⟩, 22), (⟨"OrreryTrainsModel", "product", "(IIII)J"⟩, 22)]
theorem lw_r2 : ∀ q ∈ lw_privs_2, lw_okq q := List.forall_mem_cons.mpr ⟨lw_p16, List.forall_mem_cons.mpr ⟨lw_p17, List.forall_mem_cons.mpr ⟨lw_p18, List.forall_mem_cons.mpr ⟨lw_p19, List.forall_mem_cons.mpr ⟨lw_p20, List.forall_mem_cons.mpr ⟨lw_p21, List.forall_mem_cons.mpr ⟨lw_p22, List.forall_mem_cons.mpr ⟨lw_p23, List.forall_mem_cons.mpr ⟨lw_p24, List.forall_mem_cons.mpr ⟨lw_p25, List.forall_mem_cons.mpr ⟨lw_p26, List.forall_mem_cons.mpr ⟨lw_p27, List.forall_mem_cons.mpr ⟨lw_p28, List.forall_mem_cons.mpr ⟨lw_p29, List.forall_mem_cons.mpr ⟨lw_p30, List.forall_mem_cons.mpr ⟨lw_p31, fun _ h => absurd h List.not_mem_nil⟩⟩⟩⟩⟩⟩⟩⟩⟩⟩⟩⟩⟩⟩⟩⟩
theorem lw_p32 : lw_okq (⟨"OrreryTrainsModel", "drivens", "(I)J"⟩, 22) := ⟨⟨by decide +kernel, by decide +kernel⟩, List.mem_of_getElem? (i := 805) (by decide +kernel), List.mem_of_getElem? (i := 1086) (by decide +kernel), List.mem_of_getElem? (i := 1087) (by decide +kernel)⟩
theorem lw_p33 : lw_okq (⟨"OrreryTrainsModel", "off", "(IJJ)J"⟩, 22) := ⟨⟨by decide +kernel, by decide +kernel⟩, List.mem_of_getElem? (i := 805) (by decide +kernel), List.mem_of_getElem? (i := 1094) (by decide +kernel), List.mem_of_getElem? (i := 1095) (by decide +kernel)⟩
theorem lw_p34 : lw_okq (⟨"OrreryTrainsModel", "lag", "(I)J"⟩, 22) := ⟨⟨by decide +kernel, by decide +kernel⟩, List.mem_of_getElem? (i := 805) (by decide +kernel), List.mem_of_getElem? (i := 1102) (by decide +kernel), List.mem_of_getElem? (i := 1103) (by decide +kernel)⟩
theorem lw_p35 : lw_okq (⟨"OrreryTrainsModel", "areTwo", "(II)Z"⟩, 22) := ⟨⟨by decide +kernel, by decide +kernel⟩, List.mem_of_getElem? (i := 805) (by decide +kernel), List.mem_of_getElem? (i := 1111) (by decide +kernel), List.mem_of_getElem? (i := 1112) (by decide +kernel)⟩
theorem lw_p36 : lw_okq (⟨"OrreryTrainsModel", "shared", "(II)I"⟩, 22) := ⟨⟨by decide +kernel, by decide +kernel⟩, List.mem_of_getElem? (i := 805) (by decide +kernel), List.mem_of_getElem? (i := 1115) (by decide +kernel), List.mem_of_getElem? (i := 1116) (by decide +kernel)⟩
theorem lw_p37 : lw_okq (⟨"OrreryTrainsModel", "wheels", "()I"⟩, 22) := ⟨⟨by decide +kernel, by decide +kernel⟩, List.mem_of_getElem? (i := 805) (by decide +kernel), List.mem_of_getElem? (i := 1123) (by decide +kernel), List.mem_of_getElem? (i := 1124) (by decide +kernel)⟩
theorem lw_p38 : lw_okq (⟨"OrreryTrainsModel", "finds", "(I)V"⟩, 22) := ⟨⟨by decide +kernel, by decide +kernel⟩, List.mem_of_getElem? (i := 805) (by decide +kernel), List.mem_of_getElem? (i := 1132) (by decide +kernel), List.mem_of_getElem? (i := 1133) (by decide +kernel)⟩
theorem lw_p39 : lw_okq (⟨"OrreryTrainsModel", "tries", "(IIIIII)V"⟩, 22) := ⟨⟨by decide +kernel, by decide +kernel⟩, List.mem_of_getElem? (i := 805) (by decide +kernel), List.mem_of_getElem? (i := 1136) (by decide +kernel), List.mem_of_getElem? (i := 1137) (by decide +kernel)⟩
theorem lw_p40 : lw_okq (⟨"OrreryTrainsModel", "goes", "(I)V"⟩, 22) := ⟨⟨by decide +kernel, by decide +kernel⟩, List.mem_of_getElem? (i := 805) (by decide +kernel), List.mem_of_getElem? (i := 1150) (by decide +kernel), List.mem_of_getElem? (i := 1151) (by decide +kernel)⟩
theorem lw_p41 : lw_okq (⟨"OrreryTrainsModel", "standsAt", "(I)J"⟩, 22) := ⟨⟨by decide +kernel, by decide +kernel⟩, List.mem_of_getElem? (i := 805) (by decide +kernel), List.mem_of_getElem? (i := 1162) (by decide +kernel), List.mem_of_getElem? (i := 1163) (by decide +kernel)⟩
theorem lw_p42 : lw_okq (⟨"OrreryTrainsModel", "partOf", "(II)J"⟩, 22) := ⟨⟨by decide +kernel, by decide +kernel⟩, List.mem_of_getElem? (i := 805) (by decide +kernel), List.mem_of_getElem? (i := 1177) (by decide +kernel), List.mem_of_getElem? (i := 1178) (by decide +kernel)⟩
theorem lw_p43 : lw_okq (⟨"OrreryTrainsModel", "slips", "(II)Z"⟩, 22) := ⟨⟨by decide +kernel, by decide +kernel⟩, List.mem_of_getElem? (i := 805) (by decide +kernel), List.mem_of_getElem? (i := 1196) (by decide +kernel), List.mem_of_getElem? (i := 1197) (by decide +kernel)⟩
theorem lw_p44 : lw_okq (⟨"OrreryTrainsModel", "done", "(II)V"⟩, 22) := ⟨⟨by decide +kernel, by decide +kernel⟩, List.mem_of_getElem? (i := 805) (by decide +kernel), List.mem_of_getElem? (i := 1212) (by decide +kernel), List.mem_of_getElem? (i := 1213) (by decide +kernel)⟩
theorem lw_p45 : lw_okq (⟨"OrreryTrainsModel", "changes", "(II)V"⟩, 22) := ⟨⟨by decide +kernel, by decide +kernel⟩, List.mem_of_getElem? (i := 805) (by decide +kernel), List.mem_of_getElem? (i := 1216) (by decide +kernel), List.mem_of_getElem? (i := 1217) (by decide +kernel)⟩
theorem lw_p46 : lw_okq (⟨"OrreryTrainsModel", "two", "(II)V"⟩, 22) := ⟨⟨by decide +kernel, by decide +kernel⟩, List.mem_of_getElem? (i := 805) (by decide +kernel), List.mem_of_getElem? (i := 1224) (by decide +kernel), List.mem_of_getElem? (i := 1225) (by decide +kernel)⟩
def lw_privs_3 : List (MethodName × Nat) := [(⟨"OrreryTrainsModel", "drivens", "(I)J"⟩, 22), (⟨"OrreryTrainsModel", "off", "(IJJ)J"⟩, 22), (⟨"OrreryTrainsModel", "lag", "(I)J"⟩, 22), (⟨"OrreryTrainsModel", "areTwo", "(II)Z"⟩, 22), (⟨"OrreryTrainsModel", "shared", "(II)I"⟩, 22), (⟨"OrreryTrainsModel", "wheels", "()I"⟩, 22), (⟨"OrreryTrainsModel", "finds", "(I)V"⟩, 22), (⟨"OrreryTrainsModel", "tries", "(IIIIII)V"⟩, 22), (⟨"OrreryTrainsModel", "goes", "(I)V"⟩, 22), (⟨"OrreryTrainsModel", "standsAt", "(I)J"⟩, 22), (⟨"OrreryTrainsModel", "partOf", "(II)J"⟩, 22), (⟨"OrreryTrainsModel", "slips", "(II)Z"⟩, 22), (⟨"OrreryTrainsModel", "done", "(II)V"⟩, 22), (⟨"OrreryTrainsModel", "changes", "(II)V"⟩, 22), (⟨"OrreryTrainsModel", "two", "(II)V"⟩, 22)]
theorem lw_r3 : ∀ q ∈ lw_privs_3, lw_okq q := List.forall_mem_cons.mpr ⟨lw_p32, List.forall_mem_cons.mpr ⟨lw_p33, List.forall_mem_cons.mpr ⟨lw_p34, List.forall_mem_cons.mpr ⟨lw_p35, List.forall_mem_cons.mpr ⟨lw_p36, List.forall_mem_cons.mpr ⟨lw_p37, List.forall_mem_cons.mpr ⟨lw_p38, List.forall_mem_cons.mpr ⟨lw_p39, List.forall_mem_cons.mpr ⟨lw_p40, List.forall_mem_cons.mpr ⟨lw_p41, List.forall_mem_cons.mpr ⟨lw_p42, List.forall_mem_cons.mpr ⟨lw_p43, List.forall_mem_cons.mpr ⟨lw_p44, List.forall_mem_cons.mpr ⟨lw_p45, List.forall_mem_cons.mpr ⟨lw_p46, fun _ h => absurd h List.not_mem_nil⟩⟩⟩⟩⟩⟩⟩⟩⟩⟩⟩⟩⟩⟩⟩
def lw_privs : List (MethodName × Nat) := lw_privs_1 ++ (lw_privs_2 ++ (lw_privs_3))
def lw_tbl : List Cond := k2_sels lw_privs ++ tables_1
theorem lw_privs_ok : ∀ q ∈ lw_privs, lw_okq q := by
  show ∀ q ∈ lw_privs_1 ++ (lw_privs_2 ++ (lw_privs_3)), lw_okq q
  exact List.forall_mem_append.mpr ⟨lw_r1, List.forall_mem_append.mpr ⟨lw_r2, lw_r3⟩⟩
/-! ===== BEGIN words of one list among another's, by their places ===== -/
theorem goodIn_r {big : List Cond} (ws : List Cond) (ps : List Nat) (hp : ws = ps.filterMap (fun i => big[i]?)) (h : ws.all goodWord = true) : GoodIn big ws := by
  intro w hw
  have h1 := List.all_eq_true.mp h w hw
  rw [hp] at hw
  obtain ⟨i, -, hi⟩ := List.mem_filterMap.mp hw
  have hm : w ∈ big := by first | exact List.mem_of_getElem? hi | exact List.getElem?_mem hi
  exact ⟨hm, good_of_word h1⟩
theorem goodIn_app {big a b : List Cond} (ha : GoodIn big a) (hb : GoodIn big b) : GoodIn big (a ++ b) := fun w h => (List.mem_append.mp h).elim (ha w) (hb w)
theorem goodIn_ca {big a b : List Cond} {c : Cond} (ha : GoodIn big (c :: a)) (hb : GoodIn big b) : GoodIn big (c :: (a ++ b)) := fun w h => (List.mem_cons.mp h).elim (fun e => ha w (List.mem_cons.mpr (Or.inl e))) (fun h => (List.mem_append.mp h).elim (fun h => ha w (List.mem_cons.mpr (Or.inr h))) (hb w))
theorem goodIn_sub {big ws : List Cond} (hm : ∀ w ∈ ws, w ∈ big) (h : ws.all goodWord = true) : GoodIn big ws := fun w hw => ⟨hm w hw, good_of_word (List.all_eq_true.mp h w hw)⟩
/-! ===== END ===== -/

/-! ===== BEGIN printed: names, fields, word lists, decode rows ===== -/
def RX0 : String := "OrreryTrains$Finder"
def TX0 : u_T := fun k => match k with
  | 0 => ("OrreryTrains$Finder", "above", "J", false)
  | 1 => ("OrreryTrains$Finder", "below", "J", false)
  | 2 => ("OrreryTrains$Finder", "least", "I", false)
  | 3 => ("OrreryTrains$Finder", "most", "I", false)
  | 4 => ("OrreryTrains$Finder", "lesserDriver", "I", false)
  | 5 => ("OrreryTrains$Finder", "greaterDriver", "I", false)
  | 6 => ("OrreryTrains$Finder", "lesserDriven", "I", false)
  | 7 => ("OrreryTrains$Finder", "greaterDriven", "I", false)
  | 8 => ("OrreryTrains$Finder", "off", "J", false)
  | _ => ("OrreryTrains$Finder", "drivens", "J", false)
def tyX0 : Nat → FieldType := fun k => match k with
  | 0 => .long
  | 1 => .long
  | 2 => .int
  | 3 => .int
  | 4 => .int
  | 5 => .int
  | 6 => .int
  | 7 => .int
  | 8 => .long
  | _ => .long
abbrev wsX00 : List Cond := u_ws RX0 TX0 10
theorem nmX0 : ∀ a, a < 10 → ∀ b, b < 10 → a ≠ b → (TX0 a).2.1 ≠ (TX0 b).2.1 := by decide +kernel
theorem tyX0_ok : ∀ k, k < 10 → parseFieldDescriptor (TX0 k).2.2.1 = some (tyX0 k) := by decide +kernel
abbrev cX0_init : ByteArray := prog_2_method_1_code
def yX0_init : MethodName := ⟨RX0, "<init>", "()V"⟩
abbrev cX0_seek : ByteArray := prog_2_method_2_code
def yX0_seek : MethodName := ⟨RX0, "seek", "(IIII)V"⟩
abbrev cX0_isOnePair : ByteArray := prog_2_method_3_code
def yX0_isOnePair : MethodName := ⟨RX0, "isOnePair", "()Z"⟩
abbrev cX0_allTeeth : ByteArray := prog_2_method_4_code
def yX0_allTeeth : MethodName := ⟨RX0, "allTeeth", "()I"⟩
abbrev cX0_wheel : ByteArray := prog_2_method_5_code
def yX0_wheel : MethodName := ⟨RX0, "wheel", "(I)I"⟩
abbrev cX0_wrongAbove : ByteArray := prog_2_method_6_code
def yX0_wrongAbove : MethodName := ⟨RX0, "wrongAbove", "()J"⟩
abbrev cX0_wrongBelow : ByteArray := prog_2_method_7_code
def yX0_wrongBelow : MethodName := ⟨RX0, "wrongBelow", "()J"⟩
abbrev cX0_seekOnePair : ByteArray := prog_2_method_8_code
def yX0_seekOnePair : MethodName := ⟨RX0, "seekOnePair", "()V"⟩
abbrev cX0_seekTwoPairs : ByteArray := prog_2_method_9_code
def yX0_seekTwoPairs : MethodName := ⟨RX0, "seekTwoPairs", "()V"⟩
abbrev cX0_offerFourth : ByteArray := prog_2_method_10_code
def yX0_offerFourth : MethodName := ⟨RX0, "offerFourth", "(III)V"⟩
abbrev cX0_offer : ByteArray := prog_2_method_11_code
def yX0_offer : MethodName := ⟨RX0, "offer", "(IIII)V"⟩
abbrev cX0_isAhead : ByteArray := prog_2_method_12_code
def yX0_isAhead : MethodName := ⟨RX0, "isAhead", "(IIII)Z"⟩
abbrev cX0_product : ByteArray := prog_2_method_13_code
def yX0_product : MethodName := ⟨RX0, "product", "(II)J"⟩
abbrev cX0_within : ByteArray := prog_2_method_14_code
def yX0_within : MethodName := ⟨RX0, "within", "(JII)I"⟩
def RX1 : String := "OrreryTrains$Orrery"
def TX1 : u_T := fun k => match k with
  | 0 => ("OrreryTrains$Orrery", "bodies", "I", false)
  | 1 => ("OrreryTrains$Orrery", "above", "[I", true)
  | 2 => ("OrreryTrains$Orrery", "below", "[I", true)
  | 3 => ("OrreryTrains$Orrery", "least", "I", false)
  | 4 => ("OrreryTrains$Orrery", "most", "I", false)
  | 5 => ("OrreryTrains$Orrery", "pairs", "LOrreryTrains$Pairs;", true)
  | 6 => ("OrreryTrains$Orrery", "trains", "LOrreryTrains$Trains;", true)
  | 7 => ("OrreryTrains$Orrery", "turn", "I", false)
  | 8 => ("OrreryTrains$Orrery", "back", "Z", false)
  | _ => ("OrreryTrains$Orrery", "plan", "LOrreryTrains$Plan;", true)
def tyX1 : Nat → FieldType := fun k => match k with
  | 0 => .int
  | 1 => .array .int
  | 2 => .array .int
  | 3 => .int
  | 4 => .int
  | 5 => .object "OrreryTrains$Pairs"
  | 6 => .object "OrreryTrains$Trains"
  | 7 => .int
  | 8 => .boolean
  | _ => .object "OrreryTrains$Plan"
abbrev wsX10 : List Cond := u_ws RX1 TX1 10
theorem nmX1 : ∀ a, a < 10 → ∀ b, b < 10 → a ≠ b → (TX1 a).2.1 ≠ (TX1 b).2.1 := by decide +kernel
theorem tyX1_ok : ∀ k, k < 10 → parseFieldDescriptor (TX1 k).2.2.1 = some (tyX1 k) := by decide +kernel
abbrev cX1_init : ByteArray := prog_3_method_1_code
def yX1_init : MethodName := ⟨RX1, "<init>", "()V"⟩
abbrev cX1_copyFrom : ByteArray := prog_3_method_2_code
def yX1_copyFrom : MethodName := ⟨RX1, "copyFrom", "(LOrreryTrains$Orrery;)V"⟩
abbrev cX1_hasBody : ByteArray := prog_3_method_3_code
def yX1_hasBody : MethodName := ⟨RX1, "hasBody", "(I)Z"⟩
abbrev cX1_hasTrain : ByteArray := prog_3_method_4_code
def yX1_hasTrain : MethodName := ⟨RX1, "hasTrain", "(I)Z"⟩
abbrev cX1_wish : ByteArray := prog_3_method_5_code
def yX1_wish : MethodName := ⟨RX1, "wish", "(III)V"⟩
abbrev cX1_drivers : ByteArray := prog_3_method_6_code
def yX1_drivers : MethodName := ⟨RX1, "drivers", "(I)J"⟩
abbrev cX1_drivens : ByteArray := prog_3_method_7_code
def yX1_drivens : MethodName := ⟨RX1, "drivens", "(I)J"⟩
abbrev cX1_wrongAbove : ByteArray := prog_3_method_8_code
def yX1_wrongAbove : MethodName := ⟨RX1, "wrongAbove", "(I)J"⟩
abbrev cX1_wrongBelow : ByteArray := prog_3_method_9_code
def yX1_wrongBelow : MethodName := ⟨RX1, "wrongBelow", "(I)J"⟩
abbrev cX1_isRound : ByteArray := prog_3_method_10_code
def yX1_isRound : MethodName := ⟨RX1, "isRound", "(I)Z"⟩
abbrev cX1_slackAbove : ByteArray := prog_3_method_11_code
def yX1_slackAbove : MethodName := ⟨RX1, "slackAbove", "(I)J"⟩
abbrev cX1_slackBelow : ByteArray := prog_3_method_12_code
def yX1_slackBelow : MethodName := ⟨RX1, "slackBelow", "(I)J"⟩
abbrev cX1_standing : ByteArray := prog_3_method_13_code
def yX1_standing : MethodName := ⟨RX1, "standing", "(I)J"⟩
abbrev cX1_slips : ByteArray := prog_3_method_14_code
def yX1_slips : MethodName := ⟨RX1, "slips", "(II)Z"⟩
abbrev cX1_crankBy : ByteArray := prog_3_method_15_code
def yX1_crankBy : MethodName := ⟨RX1, "crankBy", "(I)V"⟩
abbrev cX1_followPlan : ByteArray := prog_3_method_16_code
def yX1_followPlan : MethodName := ⟨RX1, "followPlan", "()V"⟩
def RX2 : String := "OrreryTrains$Pairs"
def TX2 : u_T := fun k => match k with
  | 0 => ("OrreryTrains$Pairs", "size", "I", false)
  | 1 => ("OrreryTrains$Pairs", "kinds", "[I", true)
  | 2 => ("OrreryTrains$Pairs", "figures", "[I", true)
  | 3 => ("OrreryTrains$Pairs", "drivers", "[I", true)
  | _ => ("OrreryTrains$Pairs", "drivens", "[I", true)
def tyX2 : Nat → FieldType := fun k => match k with
  | 0 => .int
  | 1 => .array .int
  | 2 => .array .int
  | 3 => .array .int
  | _ => .array .int
abbrev wsX20 : List Cond := u_ws RX2 TX2 5
theorem nmX2 : ∀ a, a < 5 → ∀ b, b < 5 → a ≠ b → (TX2 a).2.1 ≠ (TX2 b).2.1 := by decide +kernel
theorem tyX2_ok : ∀ k, k < 5 → parseFieldDescriptor (TX2 k).2.2.1 = some (tyX2 k) := by decide +kernel
abbrev cX2_init : ByteArray := prog_4_method_1_code
def yX2_init : MethodName := ⟨RX2, "<init>", "()V"⟩
abbrev cX2_copyFrom : ByteArray := prog_4_method_2_code
def yX2_copyFrom : MethodName := ⟨RX2, "copyFrom", "(LOrreryTrains$Pairs;)V"⟩
abbrev cX2_has : ByteArray := prog_4_method_3_code
def yX2_has : MethodName := ⟨RX2, "has", "(I)Z"⟩
abbrev cX2_add : ByteArray := prog_4_method_4_code
def yX2_add : MethodName := ⟨RX2, "add", "(IIII)V"⟩
abbrev cX2_goesRound : ByteArray := prog_4_method_5_code
def yX2_goesRound : MethodName := ⟨RX2, "goesRound", "(I)Z"⟩
abbrev cX2_play : ByteArray := prog_4_method_6_code
def yX2_play : MethodName := ⟨RX2, "play", "(I)I"⟩
abbrev cX2_changeWheels : ByteArray := prog_4_method_7_code
def yX2_changeWheels : MethodName := ⟨RX2, "changeWheels", "(I)V"⟩
def RX3 : String := "OrreryTrains$Plan"
def TX3 : u_T := fun k => match k with
  | 0 => ("OrreryTrains$Plan", "size", "I", false)
  | 1 => ("OrreryTrains$Plan", "whats", "[I", true)
  | _ => ("OrreryTrains$Plan", "values", "[I", true)
def tyX3 : Nat → FieldType := fun k => match k with
  | 0 => .int
  | 1 => .array .int
  | _ => .array .int
abbrev wsX30 : List Cond := u_ws RX3 TX3 3
theorem nmX3 : ∀ a, a < 3 → ∀ b, b < 3 → a ≠ b → (TX3 a).2.1 ≠ (TX3 b).2.1 := by decide +kernel
theorem tyX3_ok : ∀ k, k < 3 → parseFieldDescriptor (TX3 k).2.2.1 = some (tyX3 k) := by decide +kernel
abbrev cX3_init : ByteArray := prog_5_method_1_code
def yX3_init : MethodName := ⟨RX3, "<init>", "()V"⟩
abbrev cX3_copyFrom : ByteArray := prog_5_method_2_code
def yX3_copyFrom : MethodName := ⟨RX3, "copyFrom", "(LOrreryTrains$Plan;)V"⟩
abbrev cX3_add : ByteArray := prog_5_method_3_code
def yX3_add : MethodName := ⟨RX3, "add", "(II)V"⟩
def RX4 : String := "OrreryTrains$Rows"
def TX4 : u_T := fun k => match k with
  | 0 => ("OrreryTrains$Rows", "sizes", "[I", true)
  | _ => ("OrreryTrains$Rows", "cells", "[J", true)
def tyX4 : Nat → FieldType := fun k => match k with
  | 0 => .array .int
  | _ => .array .long
abbrev wsX40 : List Cond := u_ws RX4 TX4 2
theorem nmX4 : ∀ a, a < 2 → ∀ b, b < 2 → a ≠ b → (TX4 a).2.1 ≠ (TX4 b).2.1 := by decide +kernel
theorem tyX4_ok : ∀ k, k < 2 → parseFieldDescriptor (TX4 k).2.2.1 = some (tyX4 k) := by decide +kernel
abbrev cX4_init : ByteArray := prog_6_method_1_code
def yX4_init : MethodName := ⟨RX4, "<init>", "()V"⟩
abbrev cX4_has : ByteArray := prog_6_method_2_code
def yX4_has : MethodName := ⟨RX4, "has", "(I)Z"⟩
abbrev cX4_isHeld : ByteArray := prog_6_method_3_code
def yX4_isHeld : MethodName := ⟨RX4, "isHeld", "(I)Z"⟩
abbrev cX4_size : ByteArray := prog_6_method_4_code
def yX4_size : MethodName := ⟨RX4, "size", "(I)I"⟩
abbrev cX4_hold : ByteArray := prog_6_method_5_code
def yX4_hold : MethodName := ⟨RX4, "hold", "(II)V"⟩
abbrev cX4_cell : ByteArray := prog_6_method_6_code
def yX4_cell : MethodName := ⟨RX4, "cell", "(II)J"⟩
abbrev cX4_fill : ByteArray := prog_6_method_7_code
def yX4_fill : MethodName := ⟨RX4, "fill", "(IIJ)V"⟩
def RX5 : String := "OrreryTrains$Sheet"
def TX5 : u_T := fun k => match k with
  | 0 => ("OrreryTrains$Sheet", "length", "I", false)
  | _ => ("OrreryTrains$Sheet", "bytes", "[I", true)
def tyX5 : Nat → FieldType := fun k => match k with
  | 0 => .int
  | _ => .array .int
abbrev wsX50 : List Cond := u_ws RX5 TX5 2
theorem nmX5 : ∀ a, a < 2 → ∀ b, b < 2 → a ≠ b → (TX5 a).2.1 ≠ (TX5 b).2.1 := by decide +kernel
theorem tyX5_ok : ∀ k, k < 2 → parseFieldDescriptor (TX5 k).2.2.1 = some (tyX5 k) := by decide +kernel
abbrev cX5_init : ByteArray := prog_7_method_1_code
def yX5_init : MethodName := ⟨RX5, "<init>", "()V"⟩
abbrev cX5_add : ByteArray := prog_7_method_2_code
def yX5_add : MethodName := ⟨RX5, "add", "(I)V"⟩
abbrev cX5_addTwoFigures : ByteArray := prog_7_method_3_code
def yX5_addTwoFigures : MethodName := ⟨RX5, "addTwoFigures", "(I)V"⟩
def RX6 : String := "OrreryTrains$Tape"
def TX6 : u_T := fun k => match k with
  | 0 => ("OrreryTrains$Tape", "length", "I", false)
  | _ => ("OrreryTrains$Tape", "bytes", "[I", true)
def tyX6 : Nat → FieldType := fun k => match k with
  | 0 => .int
  | _ => .array .int
abbrev wsX60 : List Cond := u_ws RX6 TX6 2
theorem nmX6 : ∀ a, a < 2 → ∀ b, b < 2 → a ≠ b → (TX6 a).2.1 ≠ (TX6 b).2.1 := by decide +kernel
theorem tyX6_ok : ∀ k, k < 2 → parseFieldDescriptor (TX6 k).2.2.1 = some (tyX6 k) := by decide +kernel
abbrev cX6_init : ByteArray := prog_8_method_1_code
def yX6_init : MethodName := ⟨RX6, "<init>", "()V"⟩
abbrev cX6_clauses : ByteArray := prog_8_method_2_code
def yX6_clauses : MethodName := ⟨RX6, "clauses", "()I"⟩
abbrev cX6_faultAsPairs : ByteArray := prog_8_method_3_code
def yX6_faultAsPairs : MethodName := ⟨RX6, "faultAsPairs", "()I"⟩
abbrev cX6_fitsClause : ByteArray := prog_8_method_4_code
def yX6_fitsClause : MethodName := ⟨RX6, "fitsClause", "(II)Z"⟩
abbrev cX6_tellPair : ByteArray := prog_8_method_5_code
def yX6_tellPair : MethodName := ⟨RX6, "tellPair", "(ILOrreryTrains$Pairs;)V"⟩
abbrev cX6_figureAt : ByteArray := prog_8_method_6_code
def yX6_figureAt : MethodName := ⟨RX6, "figureAt", "(I)I"⟩
abbrev cX6_numberAt : ByteArray := prog_8_method_7_code
def yX6_numberAt : MethodName := ⟨RX6, "numberAt", "(I)I"⟩
abbrev cX6_pairTold : ByteArray := prog_8_method_8_code
def yX6_pairTold : MethodName := ⟨RX6, "pairTold", "(I)I"⟩
abbrev cX6_faultAsTrain : ByteArray := prog_8_method_9_code
def yX6_faultAsTrain : MethodName := ⟨RX6, "faultAsTrain", "(I)I"⟩
abbrev cX6_isToldAhead : ByteArray := prog_8_method_10_code
def yX6_isToldAhead : MethodName := ⟨RX6, "isToldAhead", "(I)Z"⟩
def RX7 : String := "OrreryTrains$Trains"
def TX7 : u_T := fun k => match k with
  | 0 => ("OrreryTrains$Trains", "lengths", "[I", true)
  | _ => ("OrreryTrains$Trains", "places", "[I", true)
def tyX7 : Nat → FieldType := fun k => match k with
  | 0 => .array .int
  | _ => .array .int
abbrev wsX70 : List Cond := u_ws RX7 TX7 2
theorem nmX7 : ∀ a, a < 2 → ∀ b, b < 2 → a ≠ b → (TX7 a).2.1 ≠ (TX7 b).2.1 := by decide +kernel
theorem tyX7_ok : ∀ k, k < 2 → parseFieldDescriptor (TX7 k).2.2.1 = some (tyX7 k) := by decide +kernel
abbrev cX7_init : ByteArray := prog_9_method_1_code
def yX7_init : MethodName := ⟨RX7, "<init>", "()V"⟩
abbrev cX7_copyFrom : ByteArray := prog_9_method_2_code
def yX7_copyFrom : MethodName := ⟨RX7, "copyFrom", "(LOrreryTrains$Trains;)V"⟩
abbrev cX7_length : ByteArray := prog_9_method_3_code
def yX7_length : MethodName := ⟨RX7, "length", "(I)I"⟩
abbrev cX7_pairAt : ByteArray := prog_9_method_4_code
def yX7_pairAt : MethodName := ⟨RX7, "pairAt", "(II)I"⟩
abbrev cX7_cut : ByteArray := prog_9_method_5_code
def yX7_cut : MethodName := ⟨RX7, "cut", "(II)V"⟩
abbrev cX7_become : ByteArray := prog_9_method_6_code
def yX7_become : MethodName := ⟨RX7, "become", "(III)V"⟩
abbrev cX7_turnAbout : ByteArray := prog_9_method_7_code
def yX7_turnAbout : MethodName := ⟨RX7, "turnAbout", "(I)V"⟩
abbrev cX7_number : ByteArray := prog_9_method_8_code
def yX7_number : MethodName := ⟨RX7, "number", "()I"⟩
abbrev cX7_holding : ByteArray := prog_9_method_9_code
def yX7_holding : MethodName := ⟨RX7, "holding", "(I)I"⟩
abbrev cX7_shared : ByteArray := prog_9_method_10_code
def yX7_shared : MethodName := ⟨RX7, "shared", "(II)I"⟩
abbrev cX7_wheels : ByteArray := prog_9_method_11_code
def yX7_wheels : MethodName := ⟨RX7, "wheels", "()I"⟩
def RX8 : String := "OrreryTrains"
def TX8 : u_T := fun k => match k with
  | 0 => ("OrreryTrains", "now", "LOrreryTrains$Orrery;", true)
  | 1 => ("OrreryTrains", "kept", "LOrreryTrains$Orrery;", true)
  | 2 => ("OrreryTrains", "thought", "LOrreryTrains$Orrery;", true)
  | 3 => ("OrreryTrains", "imaged", "Z", false)
  | 4 => ("OrreryTrains", "tape", "LOrreryTrains$Tape;", true)
  | 5 => ("OrreryTrains", "sheet", "LOrreryTrains$Sheet;", true)
  | 6 => ("OrreryTrains", "rows", "LOrreryTrains$Rows;", true)
  | _ => ("OrreryTrains", "finder", "LOrreryTrains$Finder;", true)
def tyX8 : Nat → FieldType := fun k => match k with
  | 0 => .object "OrreryTrains$Orrery"
  | 1 => .object "OrreryTrains$Orrery"
  | 2 => .object "OrreryTrains$Orrery"
  | 3 => .boolean
  | 4 => .object "OrreryTrains$Tape"
  | 5 => .object "OrreryTrains$Sheet"
  | 6 => .object "OrreryTrains$Rows"
  | _ => .object "OrreryTrains$Finder"
abbrev wsX80 : List Cond := u_ws RX8 TX8 8
theorem nmX8 : ∀ a, a < 8 → ∀ b, b < 8 → a ≠ b → (TX8 a).2.1 ≠ (TX8 b).2.1 := by decide +kernel
theorem tyX8_ok : ∀ k, k < 8 → parseFieldDescriptor (TX8 k).2.2.1 = some (tyX8 k) := by decide +kernel
abbrev cX8_init : ByteArray := prog_1_method_1_code
def yX8_init : MethodName := ⟨RX8, "<init>", "()V"⟩
abbrev cX8_body : ByteArray := prog_1_method_2_code
def yX8_body : MethodName := ⟨RX8, "body", "(II)I"⟩
abbrev cX8_ratio : ByteArray := prog_1_method_3_code
def yX8_ratio : MethodName := ⟨RX8, "ratio", "(III)I"⟩
abbrev cX8_term : ByteArray := prog_1_method_4_code
def yX8_term : MethodName := ⟨RX8, "term", "(II)I"⟩
abbrev cX8_convergent : ByteArray := prog_1_method_5_code
def yX8_convergent : MethodName := ⟨RX8, "convergent", "(III)J"⟩
abbrev cX8_near : ByteArray := prog_1_method_6_code
def yX8_near : MethodName := ⟨RX8, "near", "(III)J"⟩
abbrev cX8_bounds : ByteArray := prog_1_method_7_code
def yX8_bounds : MethodName := ⟨RX8, "bounds", "(II)I"⟩
abbrev cX8_split : ByteArray := prog_1_method_8_code
def yX8_split : MethodName := ⟨RX8, "split", "(III)I"⟩
abbrev cX8_prime : ByteArray := prog_1_method_9_code
def yX8_prime : MethodName := ⟨RX8, "prime", "(II)I"⟩
abbrev cX8_feed : ByteArray := prog_1_method_10_code
def yX8_feed : MethodName := ⟨RX8, "feed", "(I)I"⟩
abbrev cX8_pairs : ByteArray := prog_1_method_11_code
def yX8_pairs : MethodName := ⟨RX8, "pairs", "()I"⟩
abbrev cX8_becomes : ByteArray := prog_1_method_12_code
def yX8_becomes : MethodName := ⟨RX8, "becomes", "(III)I"⟩
abbrev cX8_teeth : ByteArray := prog_1_method_13_code
def yX8_teeth : MethodName := ⟨RX8, "teeth", "(III)I"⟩
abbrev cX8_pair : ByteArray := prog_1_method_14_code
def yX8_pair : MethodName := ⟨RX8, "pair", "(II)I"⟩
abbrev cX8_train : ByteArray := prog_1_method_15_code
def yX8_train : MethodName := ⟨RX8, "train", "(I)I"⟩
abbrev cX8_drop : ByteArray := prog_1_method_16_code
def yX8_drop : MethodName := ⟨RX8, "drop", "(I)I"⟩
abbrev cX8_of : ByteArray := prog_1_method_17_code
def yX8_of : MethodName := ⟨RX8, "of", "(II)I"⟩
abbrev cX8_turns : ByteArray := prog_1_method_18_code
def yX8_turns : MethodName := ⟨RX8, "turns", "(II)J"⟩
abbrev cX8_wrong : ByteArray := prog_1_method_19_code
def yX8_wrong : MethodName := ⟨RX8, "wrong", "(II)J"⟩
abbrev cX8_backlash : ByteArray := prog_1_method_20_code
def yX8_backlash : MethodName := ⟨RX8, "backlash", "(II)J"⟩
abbrev cX8_share : ByteArray := prog_1_method_21_code
def yX8_share : MethodName := ⟨RX8, "share", "(II)I"⟩
abbrev cX8_order : ByteArray := prog_1_method_22_code
def yX8_order : MethodName := ⟨RX8, "order", "(II)I"⟩
abbrev cX8_found : ByteArray := prog_1_method_23_code
def yX8_found : MethodName := ⟨RX8, "found", "(II)I"⟩
abbrev cX8_foundWrong : ByteArray := prog_1_method_24_code
def yX8_foundWrong : MethodName := ⟨RX8, "foundWrong", "(II)J"⟩
abbrev cX8_turn : ByteArray := prog_1_method_25_code
def yX8_turn : MethodName := ⟨RX8, "turn", "(I)I"⟩
abbrev cX8_crank : ByteArray := prog_1_method_26_code
def yX8_crank : MethodName := ⟨RX8, "crank", "(I)I"⟩
abbrev cX8_stands : ByteArray := prog_1_method_27_code
def yX8_stands : MethodName := ⟨RX8, "stands", "(I)J"⟩
abbrev cX8_meet : ByteArray := prog_1_method_28_code
def yX8_meet : MethodName := ⟨RX8, "meet", "(II)J"⟩
abbrev cX8_join : ByteArray := prog_1_method_29_code
def yX8_join : MethodName := ⟨RX8, "join", "(III)I"⟩
abbrev cX8_drift : ByteArray := prog_1_method_30_code
def yX8_drift : MethodName := ⟨RX8, "drift", "(II)J"⟩
abbrev cX8_were : ByteArray := prog_1_method_31_code
def yX8_were : MethodName := ⟨RX8, "were", "(IIJI)I"⟩
abbrev cX8_odds : ByteArray := prog_1_method_32_code
def yX8_odds : MethodName := ⟨RX8, "odds", "(IIII)J"⟩
abbrev cX8_plan : ByteArray := prog_1_method_33_code
def yX8_plan : MethodName := ⟨RX8, "plan", "(II)I"⟩
abbrev cX8_ends : ByteArray := prog_1_method_34_code
def yX8_ends : MethodName := ⟨RX8, "ends", "(I)J"⟩
abbrev cX8_writePair : ByteArray := prog_1_method_35_code
def yX8_writePair : MethodName := ⟨RX8, "writePair", "(I)I"⟩
abbrev cX8_writeTrain : ByteArray := prog_1_method_36_code
def yX8_writeTrain : MethodName := ⟨RX8, "writeTrain", "(I)I"⟩
abbrev cX8_paper : ByteArray := prog_1_method_37_code
def yX8_paper : MethodName := ⟨RX8, "paper", "(I)I"⟩
abbrev cX8_judge : ByteArray := prog_1_method_38_code
def yX8_judge : MethodName := ⟨RX8, "judge", "(I)I"⟩
abbrev cX8_list : ByteArray := prog_1_method_39_code
def yX8_list : MethodName := ⟨RX8, "list", "(II)I"⟩
abbrev cX8_put : ByteArray := prog_1_method_40_code
def yX8_put : MethodName := ⟨RX8, "put", "(IIJ)I"⟩
abbrev cX8_get : ByteArray := prog_1_method_41_code
def yX8_get : MethodName := ⟨RX8, "get", "(II)J"⟩
abbrev cX8_image : ByteArray := prog_1_method_42_code
def yX8_image : MethodName := ⟨RX8, "image", "()I"⟩
abbrev cX8_undo : ByteArray := prog_1_method_43_code
def yX8_undo : MethodName := ⟨RX8, "undo", "()I"⟩
abbrev cX8_count : ByteArray := prog_1_method_44_code
def yX8_count : MethodName := ⟨RX8, "count", "(I)I"⟩
abbrev cX8_areTwo : ByteArray := prog_1_method_45_code
def yX8_areTwo : MethodName := ⟨RX8, "areTwo", "(II)Z"⟩
abbrev cX8_splitIntoOne : ByteArray := prog_1_method_46_code
def yX8_splitIntoOne : MethodName := ⟨RX8, "splitIntoOne", "(II)I"⟩
abbrev cX8_splitIntoTwo : ByteArray := prog_1_method_47_code
def yX8_splitIntoTwo : MethodName := ⟨RX8, "splitIntoTwo", "(II)I"⟩
abbrev cX8_bestOrder : ByteArray := prog_1_method_48_code
def yX8_bestOrder : MethodName := ⟨RX8, "bestOrder", "(I)I"⟩
abbrev cX8_wheelsBy : ByteArray := prog_1_method_49_code
def yX8_wheelsBy : MethodName := ⟨RX8, "wheelsBy", "(II)I"⟩
abbrev cX8_turnsUntilJoined : ByteArray := prog_1_method_50_code
def yX8_turnsUntilJoined : MethodName := ⟨RX8, "turnsUntilJoined", "(III)I"⟩
abbrev cX8_isRatio : ByteArray := prog_1_method_51_code
def yX8_isRatio : MethodName := ⟨RX8, "isRatio", "(II)Z"⟩
abbrev cX8_isPart : ByteArray := prog_1_method_52_code
def yX8_isPart : MethodName := ⟨RX8, "isPart", "(I)Z"⟩
abbrev cX8_isTeeth : ByteArray := prog_1_method_53_code
def yX8_isTeeth : MethodName := ⟨RX8, "isTeeth", "(I)Z"⟩
abbrev cX8_isCranked : ByteArray := prog_1_method_54_code
def yX8_isCranked : MethodName := ⟨RX8, "isCranked", "(I)Z"⟩
abbrev cX8_isPlanned : ByteArray := prog_1_method_55_code
def yX8_isPlanned : MethodName := ⟨RX8, "isPlanned", "(II)Z"⟩
abbrev cX8_asksPlace : ByteArray := prog_1_method_56_code
def yX8_asksPlace : MethodName := ⟨RX8, "asksPlace", "(I)Z"⟩
abbrev cX8_isOrderOf : ByteArray := prog_1_method_57_code
def yX8_isOrderOf : MethodName := ⟨RX8, "isOrderOf", "(II)Z"⟩
abbrev cX8_placeBy : ByteArray := prog_1_method_58_code
def yX8_placeBy : MethodName := ⟨RX8, "placeBy", "(II)I"⟩
abbrev cX8_kindLetter : ByteArray := prog_1_method_59_code
def yX8_kindLetter : MethodName := ⟨RX8, "kindLetter", "(I)I"⟩
abbrev cX8_kindOf : ByteArray := prog_1_method_60_code
def yX8_kindOf : MethodName := ⟨RX8, "kindOf", "(I)I"⟩
abbrev cX8_at : ByteArray := prog_1_method_61_code
def yX8_at : MethodName := ⟨RX8, "at", "([II)I"⟩
abbrev cX8_set : ByteArray := prog_1_method_62_code
def yX8_set : MethodName := ⟨RX8, "set", "([III)V"⟩
abbrev cX8_copy : ByteArray := prog_1_method_63_code
def yX8_copy : MethodName := ⟨RX8, "copy", "([I[I)V"⟩
abbrev cX8_quotient : ByteArray := prog_1_method_64_code
def yX8_quotient : MethodName := ⟨RX8, "quotient", "(JJ)J"⟩
abbrev cX8_lowest : ByteArray := prog_1_method_65_code
def yX8_lowest : MethodName := ⟨RX8, "lowest", "(JJI)J"⟩
abbrev cX8_greatestCommon : ByteArray := prog_1_method_66_code
def yX8_greatestCommon : MethodName := ⟨RX8, "greatestCommon", "(JJ)J"⟩
def RX9 : String := "OrreryTrainsModel"
def TX9 : u_T := fun k => match k with
  | 0 => ("OrreryTrainsModel", "s", "[I", true)
  | 1 => ("OrreryTrainsModel", "kept", "[I", true)
  | 2 => ("OrreryTrainsModel", "aside", "[I", true)
  | 3 => ("OrreryTrainsModel", "isKept", "Z", false)
  | 4 => ("OrreryTrainsModel", "tape", "[I", true)
  | 5 => ("OrreryTrainsModel", "paper", "[I", true)
  | 6 => ("OrreryTrainsModel", "size", "[I", true)
  | 7 => ("OrreryTrainsModel", "items", "[J", true)
  | 8 => ("OrreryTrainsModel", "taped", "I", false)
  | 9 => ("OrreryTrainsModel", "written", "I", false)
  | 10 => ("OrreryTrainsModel", "term", "[I", true)
  | 11 => ("OrreryTrainsModel", "at", "I", false)
  | 12 => ("OrreryTrainsModel", "fault", "I", false)
  | 13 => ("OrreryTrainsModel", "read", "[I", true)
  | 14 => ("OrreryTrainsModel", "foundMany", "I", false)
  | 15 => ("OrreryTrainsModel", "foundTeeth", "I", false)
  | 16 => ("OrreryTrainsModel", "foundOne", "I", false)
  | 17 => ("OrreryTrainsModel", "foundTwo", "I", false)
  | 18 => ("OrreryTrainsModel", "foundThree", "I", false)
  | 19 => ("OrreryTrainsModel", "foundFour", "I", false)
  | 20 => ("OrreryTrainsModel", "foundOff", "J", false)
  | _ => ("OrreryTrainsModel", "foundLine", "J", false)
def tyX9 : Nat → FieldType := fun k => match k with
  | 0 => .array .int
  | 1 => .array .int
  | 2 => .array .int
  | 3 => .boolean
  | 4 => .array .int
  | 5 => .array .int
  | 6 => .array .int
  | 7 => .array .long
  | 8 => .int
  | 9 => .int
  | 10 => .array .int
  | 11 => .int
  | 12 => .int
  | 13 => .array .int
  | 14 => .int
  | 15 => .int
  | 16 => .int
  | 17 => .int
  | 18 => .int
  | 19 => .int
  | 20 => .long
  | _ => .long
abbrev wsX90 : List Cond := u_ws RX9 TX9 22
theorem nmX9 : ∀ a, a < 22 → ∀ b, b < 22 → a ≠ b → (TX9 a).2.1 ≠ (TX9 b).2.1 := by decide +kernel
theorem tyX9_ok : ∀ k, k < 22 → parseFieldDescriptor (TX9 k).2.2.1 = some (tyX9 k) := by decide +kernel
abbrev cX9_init : ByteArray := prog_11_method_1_code
def yX9_init : MethodName := ⟨RX9, "<init>", "()V"⟩
abbrev cX9_isIn : ByteArray := prog_11_method_2_code
def yX9_isIn : MethodName := ⟨RX9, "isIn", "(JJJ)Z"⟩
abbrev cX9_common : ByteArray := prog_11_method_3_code
def yX9_common : MethodName := ⟨RX9, "common", "(JJ)J"⟩
abbrev cX9_told : ByteArray := prog_11_method_4_code
def yX9_told : MethodName := ⟨RX9, "told", "(JJI)J"⟩
abbrev cX9_isPart : ByteArray := prog_11_method_5_code
def yX9_isPart : MethodName := ⟨RX9, "isPart", "(I)Z"⟩
abbrev cX9_isBody : ByteArray := prog_11_method_6_code
def yX9_isBody : MethodName := ⟨RX9, "isBody", "(I)Z"⟩
abbrev cX9_isRatio : ByteArray := prog_11_method_7_code
def yX9_isRatio : MethodName := ⟨RX9, "isRatio", "(II)Z"⟩
abbrev cX9_becomesRatio : ByteArray := prog_11_method_8_code
def yX9_becomesRatio : MethodName := ⟨RX9, "becomesRatio", "(III)V"⟩
abbrev cX9_body : ByteArray := prog_11_method_9_code
def yX9_body : MethodName := ⟨RX9, "body", "(II)I"⟩
abbrev cX9_ratio : ByteArray := prog_11_method_10_code
def yX9_ratio : MethodName := ⟨RX9, "ratio", "(III)I"⟩
abbrev cX9_terms : ByteArray := prog_11_method_11_code
def yX9_terms : MethodName := ⟨RX9, "terms", "(I)I"⟩
abbrev cX9_term : ByteArray := prog_11_method_12_code
def yX9_term : MethodName := ⟨RX9, "term", "(II)I"⟩
abbrev cX9_convergent : ByteArray := prog_11_method_13_code
def yX9_convergent : MethodName := ⟨RX9, "convergent", "(III)J"⟩
abbrev cX9_near : ByteArray := prog_11_method_14_code
def yX9_near : MethodName := ⟨RX9, "near", "(III)J"⟩
abbrev cX9_bounds : ByteArray := prog_11_method_15_code
def yX9_bounds : MethodName := ⟨RX9, "bounds", "(II)I"⟩
abbrev cX9_isWithin : ByteArray := prog_11_method_16_code
def yX9_isWithin : MethodName := ⟨RX9, "isWithin", "(I)Z"⟩
abbrev cX9_split : ByteArray := prog_11_method_17_code
def yX9_split : MethodName := ⟨RX9, "split", "(III)I"⟩
abbrev cX9_prime : ByteArray := prog_11_method_18_code
def yX9_prime : MethodName := ⟨RX9, "prime", "(II)I"⟩
abbrev cX9_isPair : ByteArray := prog_11_method_19_code
def yX9_isPair : MethodName := ⟨RX9, "isPair", "(I)Z"⟩
abbrev cX9_play : ByteArray := prog_11_method_20_code
def yX9_play : MethodName := ⟨RX9, "play", "(I)I"⟩
abbrev cX9_trainsOf : ByteArray := prog_11_method_21_code
def yX9_trainsOf : MethodName := ⟨RX9, "trainsOf", "(I)I"⟩
abbrev cX9_feed : ByteArray := prog_11_method_22_code
def yX9_feed : MethodName := ⟨RX9, "feed", "(I)I"⟩
abbrev cX9_here : ByteArray := prog_11_method_23_code
def yX9_here : MethodName := ⟨RX9, "here", "()I"⟩
abbrev cX9_fails : ByteArray := prog_11_method_24_code
def yX9_fails : MethodName := ⟨RX9, "fails", "()V"⟩
abbrev cX9_figure : ByteArray := prog_11_method_25_code
def yX9_figure : MethodName := ⟨RX9, "figure", "(I)I"⟩
abbrev cX9_must : ByteArray := prog_11_method_26_code
def yX9_must : MethodName := ⟨RX9, "must", "(I)V"⟩
abbrev cX9_kindHere : ByteArray := prog_11_method_27_code
def yX9_kindHere : MethodName := ⟨RX9, "kindHere", "()I"⟩
abbrev cX9_clauses : ByteArray := prog_11_method_28_code
def yX9_clauses : MethodName := ⟨RX9, "clauses", "()I"⟩
abbrev cX9_pairs : ByteArray := prog_11_method_29_code
def yX9_pairs : MethodName := ⟨RX9, "pairs", "()I"⟩
abbrev cX9_becomes : ByteArray := prog_11_method_30_code
def yX9_becomes : MethodName := ⟨RX9, "becomes", "(III)I"⟩
abbrev cX9_teeth : ByteArray := prog_11_method_31_code
def yX9_teeth : MethodName := ⟨RX9, "teeth", "(III)I"⟩
abbrev cX9_pair : ByteArray := prog_11_method_32_code
def yX9_pair : MethodName := ⟨RX9, "pair", "(II)I"⟩
abbrev cX9_pairAt : ByteArray := prog_11_method_33_code
def yX9_pairAt : MethodName := ⟨RX9, "pairAt", "(II)I"⟩
abbrev cX9_hasTrain : ByteArray := prog_11_method_34_code
def yX9_hasTrain : MethodName := ⟨RX9, "hasTrain", "(I)Z"⟩
abbrev cX9_train : ByteArray := prog_11_method_35_code
def yX9_train : MethodName := ⟨RX9, "train", "(I)I"⟩
abbrev cX9_drop : ByteArray := prog_11_method_36_code
def yX9_drop : MethodName := ⟨RX9, "drop", "(I)I"⟩
abbrev cX9_isRound : ByteArray := prog_11_method_37_code
def yX9_isRound : MethodName := ⟨RX9, "isRound", "(I)Z"⟩
abbrev cX9_of : ByteArray := prog_11_method_38_code
def yX9_of : MethodName := ⟨RX9, "of", "(II)I"⟩
abbrev cX9_product : ByteArray := prog_11_method_39_code
def yX9_product : MethodName := ⟨RX9, "product", "(IIII)J"⟩
abbrev cX9_drivers : ByteArray := prog_11_method_40_code
def yX9_drivers : MethodName := ⟨RX9, "drivers", "(I)J"⟩
abbrev cX9_drivens : ByteArray := prog_11_method_41_code
def yX9_drivens : MethodName := ⟨RX9, "drivens", "(I)J"⟩
abbrev cX9_turns : ByteArray := prog_11_method_42_code
def yX9_turns : MethodName := ⟨RX9, "turns", "(II)J"⟩
abbrev cX9_off : ByteArray := prog_11_method_43_code
def yX9_off : MethodName := ⟨RX9, "off", "(IJJ)J"⟩
abbrev cX9_wrong : ByteArray := prog_11_method_44_code
def yX9_wrong : MethodName := ⟨RX9, "wrong", "(II)J"⟩
abbrev cX9_lag : ByteArray := prog_11_method_45_code
def yX9_lag : MethodName := ⟨RX9, "lag", "(I)J"⟩
abbrev cX9_backlash : ByteArray := prog_11_method_46_code
def yX9_backlash : MethodName := ⟨RX9, "backlash", "(II)J"⟩
abbrev cX9_shared : ByteArray := prog_11_method_47_code
def yX9_shared : MethodName := ⟨RX9, "shared", "(II)I"⟩
abbrev cX9_areTwo : ByteArray := prog_11_method_48_code
def yX9_areTwo : MethodName := ⟨RX9, "areTwo", "(II)Z"⟩
abbrev cX9_share : ByteArray := prog_11_method_49_code
def yX9_share : MethodName := ⟨RX9, "share", "(II)I"⟩
abbrev cX9_wheels : ByteArray := prog_11_method_50_code
def yX9_wheels : MethodName := ⟨RX9, "wheels", "()I"⟩
abbrev cX9_order : ByteArray := prog_11_method_51_code
def yX9_order : MethodName := ⟨RX9, "order", "(II)I"⟩
abbrev cX9_tries : ByteArray := prog_11_method_52_code
def yX9_tries : MethodName := ⟨RX9, "tries", "(IIIIII)V"⟩
abbrev cX9_finds : ByteArray := prog_11_method_53_code
def yX9_finds : MethodName := ⟨RX9, "finds", "(I)V"⟩
abbrev cX9_found : ByteArray := prog_11_method_54_code
def yX9_found : MethodName := ⟨RX9, "found", "(II)I"⟩
abbrev cX9_foundWrong : ByteArray := prog_11_method_55_code
def yX9_foundWrong : MethodName := ⟨RX9, "foundWrong", "(II)J"⟩
abbrev cX9_goes : ByteArray := prog_11_method_56_code
def yX9_goes : MethodName := ⟨RX9, "goes", "(I)V"⟩
abbrev cX9_turn : ByteArray := prog_11_method_57_code
def yX9_turn : MethodName := ⟨RX9, "turn", "(I)I"⟩
abbrev cX9_crank : ByteArray := prog_11_method_58_code
def yX9_crank : MethodName := ⟨RX9, "crank", "(I)I"⟩
abbrev cX9_standsAt : ByteArray := prog_11_method_59_code
def yX9_standsAt : MethodName := ⟨RX9, "standsAt", "(I)J"⟩
abbrev cX9_stands : ByteArray := prog_11_method_60_code
def yX9_stands : MethodName := ⟨RX9, "stands", "(I)J"⟩
abbrev cX9_meet : ByteArray := prog_11_method_61_code
def yX9_meet : MethodName := ⟨RX9, "meet", "(II)J"⟩
abbrev cX9_partOf : ByteArray := prog_11_method_62_code
def yX9_partOf : MethodName := ⟨RX9, "partOf", "(II)J"⟩
abbrev cX9_join : ByteArray := prog_11_method_63_code
def yX9_join : MethodName := ⟨RX9, "join", "(III)I"⟩
abbrev cX9_drift : ByteArray := prog_11_method_64_code
def yX9_drift : MethodName := ⟨RX9, "drift", "(II)J"⟩
abbrev cX9_were : ByteArray := prog_11_method_65_code
def yX9_were : MethodName := ⟨RX9, "were", "(IIJI)I"⟩
abbrev cX9_slips : ByteArray := prog_11_method_66_code
def yX9_slips : MethodName := ⟨RX9, "slips", "(II)Z"⟩
abbrev cX9_odds : ByteArray := prog_11_method_67_code
def yX9_odds : MethodName := ⟨RX9, "odds", "(IIII)J"⟩
abbrev cX9_plan : ByteArray := prog_11_method_68_code
def yX9_plan : MethodName := ⟨RX9, "plan", "(II)I"⟩
abbrev cX9_changes : ByteArray := prog_11_method_69_code
def yX9_changes : MethodName := ⟨RX9, "changes", "(II)V"⟩
abbrev cX9_done : ByteArray := prog_11_method_70_code
def yX9_done : MethodName := ⟨RX9, "done", "(II)V"⟩
abbrev cX9_ends : ByteArray := prog_11_method_71_code
def yX9_ends : MethodName := ⟨RX9, "ends", "(I)J"⟩
abbrev cX9_two : ByteArray := prog_11_method_72_code
def yX9_two : MethodName := ⟨RX9, "two", "(II)V"⟩
abbrev cX9_writePair : ByteArray := prog_11_method_73_code
def yX9_writePair : MethodName := ⟨RX9, "writePair", "(I)I"⟩
abbrev cX9_writeTrain : ByteArray := prog_11_method_74_code
def yX9_writeTrain : MethodName := ⟨RX9, "writeTrain", "(I)I"⟩
abbrev cX9_paper : ByteArray := prog_11_method_75_code
def yX9_paper : MethodName := ⟨RX9, "paper", "(I)I"⟩
abbrev cX9_isList : ByteArray := prog_11_method_76_code
def yX9_isList : MethodName := ⟨RX9, "isList", "(I)Z"⟩
abbrev cX9_judge : ByteArray := prog_11_method_77_code
def yX9_judge : MethodName := ⟨RX9, "judge", "(I)I"⟩
abbrev cX9_list : ByteArray := prog_11_method_78_code
def yX9_list : MethodName := ⟨RX9, "list", "(II)I"⟩
abbrev cX9_put : ByteArray := prog_11_method_79_code
def yX9_put : MethodName := ⟨RX9, "put", "(IIJ)I"⟩
abbrev cX9_get : ByteArray := prog_11_method_80_code
def yX9_get : MethodName := ⟨RX9, "get", "(II)J"⟩
abbrev cX9_copies : ByteArray := prog_11_method_81_code
def yX9_copies : MethodName := ⟨RX9, "copies", "([I[I)V"⟩
abbrev cX9_image : ByteArray := prog_11_method_82_code
def yX9_image : MethodName := ⟨RX9, "image", "()I"⟩
abbrev cX9_undo : ByteArray := prog_11_method_83_code
def yX9_undo : MethodName := ⟨RX9, "undo", "()I"⟩
abbrev cX9_count : ByteArray := prog_11_method_84_code
def yX9_count : MethodName := ⟨RX9, "count", "(I)I"⟩
def RJ9 : String := "java/lang/Math"
def TJ9 : u_T := fun k => match k with
  | _ => ("", "", "", false)
def tyJ9 : Nat → FieldType := fun k => match k with
  | _ => .int
abbrev wsJ90 : List Cond := u_ws RJ9 TJ9 0
abbrev cJ9_floorMod_f86c9 : ByteArray := prog_12_method_52_code
def yJ9_floorMod_f86c9 : MethodName := ⟨RJ9, "floorMod", "(JJ)J"⟩
abbrev cJ9_abs_067f4 : ByteArray := prog_12_method_61_code
def yJ9_abs_067f4 : MethodName := ⟨RJ9, "abs", "(J)J"⟩
abbrev cJ9_max_7cf53 : ByteArray := prog_12_method_65_code
def yJ9_max_7cf53 : MethodName := ⟨RJ9, "max", "(II)I"⟩
abbrev cJ9_max_f86c9 : ByteArray := prog_12_method_66_code
def yJ9_max_f86c9 : MethodName := ⟨RJ9, "max", "(JJ)J"⟩
abbrev cJ9_min_7cf53 : ByteArray := prog_12_method_69_code
def yJ9_min_7cf53 : MethodName := ⟨RJ9, "min", "(II)I"⟩
abbrev cJ9_min_f86c9 : ByteArray := prog_12_method_70_code
def yJ9_min_f86c9 : MethodName := ⟨RJ9, "min", "(JJ)J"⟩
def RJ0 : String := "java/lang/String"
def TJ0 : u_T := fun k => match k with
  | _ => ("", "", "", false)
def tyJ0 : Nat → FieldType := fun k => match k with
  | _ => .int
abbrev wsJ00 : List Cond := u_ws RJ0 TJ0 0
abbrev cJ0_charAt_5068e : ByteArray := prog_13_method_56_code
def yJ0_charAt_5068e : MethodName := ⟨RJ0, "charAt", "(I)C"⟩
abbrev cJ0_isLatin1_aae02 : ByteArray := prog_13_method_154_code
def yJ0_isLatin1_aae02 : MethodName := ⟨RJ0, "isLatin1", "()Z"⟩
abbrev cJ0_checkIndex_df160 : ByteArray := prog_13_method_155_code
def yJ0_checkIndex_df160 : MethodName := ⟨RJ0, "checkIndex", "(II)V"⟩
def RJ1 : String := "java/lang/StringLatin1"
def TJ1 : u_T := fun k => match k with
  | _ => ("", "", "", false)
def tyJ1 : Nat → FieldType := fun k => match k with
  | _ => .int
abbrev wsJ10 : List Cond := u_ws RJ1 TJ1 0
abbrev cJ1_charAt_3b067 : ByteArray := prog_14_method_2_code
def yJ1_charAt_3b067 : MethodName := ⟨RJ1, "charAt", "([BI)C"⟩
def RJ2 : String := "java/lang/StringUTF16"
def TJ2 : u_T := fun k => match k with
  | _ => ("", "", "", false)
def tyJ2 : Nat → FieldType := fun k => match k with
  | _ => .int
abbrev wsJ20 : List Cond := u_ws RJ2 TJ2 0
abbrev cJ2_getChar_3b067 : ByteArray := prog_15_method_5_code
def yJ2_getChar_3b067 : MethodName := ⟨RJ2, "getChar", "([BI)C"⟩
abbrev cJ2_length_9d52b : ByteArray := prog_15_method_6_code
def yJ2_length_9d52b : MethodName := ⟨RJ2, "length", "([B)I"⟩
abbrev cJ2_charAt_3b067 : ByteArray := prog_15_method_83_code
def yJ2_charAt_3b067 : MethodName := ⟨RJ2, "charAt", "([BI)C"⟩
abbrev cJ2_checkIndex_2214a : ByteArray := prog_15_method_91_code
def yJ2_checkIndex_2214a : MethodName := ⟨RJ2, "checkIndex", "(I[B)V"⟩
def RJ3 : String := "jdk/internal/util/Preconditions"
def TJ3 : u_T := fun k => match k with
  | _ => ("", "", "", false)
def tyJ3 : Nat → FieldType := fun k => match k with
  | _ => .int
abbrev wsJ30 : List Cond := u_ws RJ3 TJ3 0
abbrev cJ3_checkIndex_8e157 : ByteArray := prog_16_method_11_code
def yJ3_checkIndex_8e157 : MethodName := ⟨RJ3, "checkIndex", "(IILjava/util/function/BiFunction;)I"⟩
def RL : String := "OrreryTrainsLaw"
abbrev cL_law : ByteArray := code
def yL_law : MethodName := ⟨RL, "law", "([I)Z"⟩
abbrev vwCl : List vw_C := [(RX0, TX0, 10), (RX1, TX1, 10), (RX2, TX2, 5), (RX3, TX3, 3), (RX4, TX4, 2), (RX5, TX5, 2), (RX6, TX6, 2), (RX7, TX7, 2), (RX8, TX8, 8), (RX9, TX9, 22)]
