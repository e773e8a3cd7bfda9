section
/-- a private method of a class that the tables say can be made, by its rows of tables_1 -/
def lw_okq (q : MethodName × Nat) : Prop := (q.1.cls ≠ "java/lang/invoke/MethodHandle" ∧ q.1.cls ≠ "java/lang/invoke/VarHandle") ∧ Cond.instantiable q.1.cls q.2 ∈ tables_1 ∧ Cond.privateMethod q.1 ∈ tables_1 ∧ Cond.instanceMethod q.1 ∈ tables_1
theorem lw_p0 : lw_okq (⟨"OrreryTrains", "splitIntoOne", "(II)I"⟩, 8) := ⟨⟨by decide +kernel, by decide +kernel⟩, List.mem_of_getElem? (i := 17) (by decide +kernel), List.mem_of_getElem? (i := 306) (by decide +kernel), List.mem_of_getElem? (i := 307) (by decide +kernel)⟩
theorem lw_p1 : lw_okq (⟨"OrreryTrains", "splitIntoTwo", "(II)I"⟩, 8) := ⟨⟨by decide +kernel, by decide +kernel⟩, List.mem_of_getElem? (i := 17) (by decide +kernel), List.mem_of_getElem? (i := 310) (by decide +kernel), List.mem_of_getElem? (i := 311) (by decide +kernel)⟩
theorem lw_p2 : lw_okq (⟨"OrreryTrains$Tape", "figureAt", "(I)I"⟩, 2) := ⟨⟨by decide +kernel, by decide +kernel⟩, List.mem_of_getElem? (i := 135) (by decide +kernel), List.mem_of_getElem? (i := 348) (by decide +kernel), List.mem_of_getElem? (i := 349) (by decide +kernel)⟩
theorem lw_p3 : lw_okq (⟨"OrreryTrains$Tape", "numberAt", "(I)I"⟩, 2) := ⟨⟨by decide +kernel, by decide +kernel⟩, List.mem_of_getElem? (i := 135) (by decide +kernel), List.mem_of_getElem? (i := 352) (by decide +kernel), List.mem_of_getElem? (i := 353) (by decide +kernel)⟩
theorem lw_p4 : lw_okq (⟨"OrreryTrains$Tape", "isToldAhead", "(I)Z"⟩, 2) := ⟨⟨by decide +kernel, by decide +kernel⟩, List.mem_of_getElem? (i := 135) (by decide +kernel), List.mem_of_getElem? (i := 411) (by decide +kernel), List.mem_of_getElem? (i := 412) (by decide +kernel)⟩
theorem lw_p5 : lw_okq (⟨"OrreryTrains", "areTwo", "(II)Z"⟩, 8) := ⟨⟨by decide +kernel, by decide +kernel⟩, List.mem_of_getElem? (i := 17) (by decide +kernel), List.mem_of_getElem? (i := 495) (by decide +kernel), List.mem_of_getElem? (i := 496) (by decide +kernel)⟩
theorem lw_p6 : lw_okq (⟨"OrreryTrains", "bestOrder", "(I)I"⟩, 8) := ⟨⟨by decide +kernel, by decide +kernel⟩, List.mem_of_getElem? (i := 17) (by decide +kernel), List.mem_of_getElem? (i := 510) (by decide +kernel), List.mem_of_getElem? (i := 511) (by decide +kernel)⟩
theorem lw_p7 : lw_okq (⟨"OrreryTrains", "wheelsBy", "(II)I"⟩, 8) := ⟨⟨by decide +kernel, by decide +kernel⟩, List.mem_of_getElem? (i := 17) (by decide +kernel), List.mem_of_getElem? (i := 514) (by decide +kernel), List.mem_of_getElem? (i := 515) (by decide +kernel)⟩
theorem lw_p8 : lw_okq (⟨"OrreryTrains$Finder", "seekOnePair", "()V"⟩, 10) := ⟨⟨by decide +kernel, by decide +kernel⟩, List.mem_of_getElem? (i := 179) (by decide +kernel), List.mem_of_getElem? (i := 564) (by decide +kernel), List.mem_of_getElem? (i := 565) (by decide +kernel)⟩
theorem lw_p9 : lw_okq (⟨"OrreryTrains$Finder", "offer", "(IIII)V"⟩, 10) := ⟨⟨by decide +kernel, by decide +kernel⟩, List.mem_of_getElem? (i := 179) (by decide +kernel), List.mem_of_getElem? (i := 568) (by decide +kernel), List.mem_of_getElem? (i := 569) (by decide +kernel)⟩
theorem lw_p10 : lw_okq (⟨"OrreryTrains$Finder", "isAhead", "(IIII)Z"⟩, 10) := ⟨⟨by decide +kernel, by decide +kernel⟩, List.mem_of_getElem? (i := 179) (by decide +kernel), List.mem_of_getElem? (i := 576) (by decide +kernel), List.mem_of_getElem? (i := 577) (by decide +kernel)⟩
theorem lw_p11 : lw_okq (⟨"OrreryTrains$Finder", "seekTwoPairs", "()V"⟩, 10) := ⟨⟨by decide +kernel, by decide +kernel⟩, List.mem_of_getElem? (i := 179) (by decide +kernel), List.mem_of_getElem? (i := 588) (by decide +kernel), List.mem_of_getElem? (i := 589) (by decide +kernel)⟩
theorem lw_p12 : lw_okq (⟨"OrreryTrains$Finder", "offerFourth", "(III)V"⟩, 10) := ⟨⟨by decide +kernel, by decide +kernel⟩, List.mem_of_getElem? (i := 179) (by decide +kernel), List.mem_of_getElem? (i := 592) (by decide +kernel), List.mem_of_getElem? (i := 593) (by decide +kernel)⟩
theorem lw_p13 : lw_okq (⟨"OrreryTrains", "turnsUntilJoined", "(III)I"⟩, 8) := ⟨⟨by decide +kernel, by decide +kernel⟩, List.mem_of_getElem? (i := 17) (by decide +kernel), List.mem_of_getElem? (i := 662) (by decide +kernel), List.mem_of_getElem? (i := 663) (by decide +kernel)⟩
theorem lw_p14 : lw_okq (⟨"OrreryTrainsModel", "becomesRatio", "(III)V"⟩, 22) := ⟨⟨by decide +kernel, by decide +kernel⟩, List.mem_of_getElem? (i := 805) (by decide +kernel), List.mem_of_getElem? (i := 889) (by decide +kernel), List.mem_of_getElem? (i := 890) (by decide +kernel)⟩
theorem lw_p15 : lw_okq (⟨"OrreryTrainsModel", "isBody", "(I)Z"⟩, 22) := ⟨⟨by decide +kernel, by decide +kernel⟩, List.mem_of_getElem? (i := 805) (by decide +kernel), List.mem_of_getElem? (i := 903) (by decide +kernel), List.mem_of_getElem? (i := 904) (by decide +kernel)⟩
def lw_privs_1 : List (MethodName × Nat) := [(⟨"OrreryTrains", "splitIntoOne", "(II)I"⟩, 8), (⟨"OrreryTrains", "splitIntoTwo", "(II)I"⟩, 8), (⟨"OrreryTrains$Tape", "figureAt", "(I)I"⟩, 2), (⟨"OrreryTrains$Tape", "numberAt", "(I)I"⟩, 2), (⟨"OrreryTrains$Tape", "isToldAhead", "(I)Z"⟩, 2), (⟨"OrreryTrains", "areTwo", "(II)Z"⟩, 8), (⟨"OrreryTrains", "bestOrder", "(I)I"⟩, 8), (⟨"OrreryTrains", "wheelsBy", "(II)I"⟩, 8), (⟨"OrreryTrains$Finder", "seekOnePair", "()V"⟩, 10), (⟨"OrreryTrains$Finder", "offer", "(IIII)V"⟩, 10), (⟨"OrreryTrains$Finder", "isAhead", "(IIII)Z"⟩, 10), (⟨"OrreryTrains$Finder", "seekTwoPairs", "()V"⟩, 10), (⟨"OrreryTrains$Finder", "offerFourth", "(III)V"⟩, 10), (⟨"OrreryTrains", "turnsUntilJoined", "(III)I"⟩, 8), (⟨"OrreryTrainsModel", "becomesRatio", "(III)V"⟩, 22), (⟨"OrreryTrainsModel", "isBody", "(I)Z"⟩, 22)]
theorem lw_r1 : ∀ q ∈ lw_privs_1, lw_okq q := List.forall_mem_cons.mpr ⟨lw_p0, List.forall_mem_cons.mpr ⟨lw_p1, List.forall_mem_cons.mpr ⟨lw_p2, List.forall_mem_cons.mpr ⟨lw_p3, List.forall_mem_cons.mpr ⟨lw_p4, List.forall_mem_cons.mpr ⟨lw_p5, List.forall_mem_cons.mpr ⟨lw_p6, List.forall_mem_cons.mpr ⟨lw_p7, List.forall_mem_cons.mpr ⟨lw_p8, List.forall_mem_cons.mpr ⟨lw_p9, List.forall_mem_cons.mpr ⟨lw_p10, List.forall_mem_cons.mpr ⟨lw_p11, List.forall_mem_cons.mpr ⟨lw_p12, List.forall_mem_cons.mpr ⟨lw_p13, List.forall_mem_cons.mpr ⟨lw_p14, List.forall_mem_cons.mpr ⟨lw_p15, fun _ h => absurd h List.not_mem_nil⟩⟩⟩⟩⟩⟩⟩⟩⟩⟩⟩⟩⟩⟩⟩⟩
theorem lw_p16 : lw_okq (⟨"OrreryTrainsModel", "terms", "(I)I"⟩, 22) := ⟨⟨by decide +kernel, by decide +kernel⟩, List.mem_of_getElem? (i := 805) (by decide +kernel), List.mem_of_getElem? (i := 911) (by decide +kernel), List.mem_of_getElem? (i := 912) (by decide +kernel)⟩
theorem lw_p17 : lw_okq (⟨"OrreryTrainsModel", "isWithin", "(I)Z"⟩, 22) := ⟨⟨by decide +kernel, by decide +kernel⟩, List.mem_of_getElem? (i := 805) (by decide +kernel), List.mem_of_getElem? (i := 938) (by decide +kernel), List.mem_of_getElem? (i := 939) (by decide +kernel)⟩
theorem lw_p18 : lw_okq (⟨"OrreryTrainsModel", "clauses", "()I"⟩, 22) := ⟨⟨by decide +kernel, by decide +kernel⟩, List.mem_of_getElem? (i := 805) (by decide +kernel), List.mem_of_getElem? (i := 956) (by decide +kernel), List.mem_of_getElem? (i := 957) (by decide +kernel)⟩
theorem lw_p19 : lw_okq (⟨"OrreryTrainsModel", "kindHere", "()I"⟩, 22) := ⟨⟨by decide +kernel, by decide +kernel⟩, List.mem_of_getElem? (i := 805) (by decide +kernel), List.mem_of_getElem? (i := 960) (by decide +kernel), List.mem_of_getElem? (i := 961) (by decide +kernel)⟩
theorem lw_p20 : lw_okq (⟨"OrreryTrainsModel", "here", "()I"⟩, 22) := ⟨⟨by decide +kernel, by decide +kernel⟩, List.mem_of_getElem? (i := 805) (by decide +kernel), List.mem_of_getElem? (i := 964) (by decide +kernel), List.mem_of_getElem? (i := 965) (by decide +kernel)⟩
theorem lw_p21 : lw_okq (⟨"OrreryTrainsModel", "fails", "()V"⟩, 22) := ⟨⟨by decide +kernel, by decide +kernel⟩, List.mem_of_getElem? (i := 805) (by decide +kernel), List.mem_of_getElem? (i := 1009) (by decide +kernel), List.mem_of_getElem? (i := 1010) (by decide +kernel)⟩
theorem lw_p22 : lw_okq (⟨"OrreryTrainsModel", "figure", "(I)I"⟩, 22) := ⟨⟨by decide +kernel, by decide +kernel⟩, List.mem_of_getElem? (i := 805) (by decide +kernel), List.mem_of_getElem? (i := 1013) (by decide +kernel), List.mem_of_getElem? (i := 1014) (by decide +kernel)⟩
theorem lw_p23 : lw_okq (⟨"OrreryTrainsModel", "must", "(I)V"⟩, 22) := ⟨⟨by decide +kernel, by decide +kernel⟩, List.mem_of_getElem? (i := 805) (by decide +kernel), List.mem_of_getElem? (i := 1018) (by decide +kernel), List.mem_of_getElem? (i := 1019) (by decide +kernel)⟩
theorem lw_p24 : lw_okq (⟨"OrreryTrainsModel", "isPair", "(I)Z"⟩, 22) := ⟨⟨by decide +kernel, by decide +kernel⟩, List.mem_of_getElem? (i := 805) (by decide +kernel), List.mem_of_getElem? (i := 1027) (by decide +kernel), List.mem_of_getElem? (i := 1028) (by decide +kernel)⟩
theorem lw_p25 : lw_okq (⟨"OrreryTrainsModel", "play", "(I)I"⟩, 22) := ⟨⟨by decide +kernel, by decide +kernel⟩, List.mem_of_getElem? (i := 805) (by decide +kernel), List.mem_of_getElem? (i := 1041) (by decide +kernel), List.mem_of_getElem? (i := 1042) (by decide +kernel)⟩
theorem lw_p26 : lw_okq (⟨"OrreryTrainsModel", "trainsOf", "(I)I"⟩, 22) := ⟨⟨by decide +kernel, by decide +kernel⟩, List.mem_of_getElem? (i := 805) (by decide +kernel), List.mem_of_getElem? (i := 1045) (by decide +kernel), List.mem_of_getElem? (i := 1046) (by decide +kernel)⟩
theorem lw_p27 : lw_okq (⟨"OrreryTrainsModel", "pairAt", "(II)I"⟩, 22) := ⟨⟨by decide +kernel, by decide +kernel⟩, List.mem_of_getElem? (i := 805) (by decide +kernel), List.mem_of_getElem? (i := 1049) (by decide +kernel), List.mem_of_getElem? (i := 1050) (by decide +kernel)⟩
theorem lw_p28 : lw_okq (⟨"OrreryTrainsModel", "isRound", "(I)Z"⟩, 22) := ⟨⟨by decide +kernel, by decide +kernel⟩, List.mem_of_getElem? (i := 805) (by decide +kernel), List.mem_of_getElem? (i := 1066) (by decide +kernel), List.mem_of_getElem? (i := 1067) (by decide +kernel)⟩
theorem lw_p29 : lw_okq (⟨"OrreryTrainsModel", "hasTrain", "(I)Z"⟩, 22) := ⟨⟨by decide +kernel, by decide +kernel⟩, List.mem_of_getElem? (i := 805) (by decide +kernel), List.mem_of_getElem? (i := 1074) (by decide +kernel), List.mem_of_getElem? (i := 1075) (by decide +kernel)⟩
theorem lw_p30 : lw_okq (⟨"OrreryTrainsModel", "drivers", "(I)J"⟩, 22) := ⟨⟨by decide +kernel, by decide +kernel⟩, List.mem_of_getElem? (i := 805) (by decide +kernel), List.mem_of_getElem? (i := 1078) (by decide +kernel), List.mem_of_getElem? (i := 1079) (by decide +kernel)⟩
theorem lw_p31 : lw_okq (⟨"OrreryTrainsModel", "product", "(IIII)J"⟩, 22) := ⟨⟨by decide +kernel, by decide +kernel⟩, List.mem_of_getElem? (i := 805) (by decide +kernel), List.mem_of_getElem? (i := 1082) (by decide +kernel), List.mem_of_getElem? (i := 1083) (by decide +kernel)⟩
def lw_privs_2 : List (MethodName × Nat) := [(⟨"OrreryTrainsModel", "terms", "(I)I"⟩, 22), (⟨"OrreryTrainsModel", "isWithin", "(I)Z"⟩, 22), (⟨"OrreryTrainsModel", "clauses", "()I"⟩, 22), (⟨"OrreryTrainsModel", "kindHere", "()I"⟩, 22), (⟨"OrreryTrainsModel", "here", "()I"⟩, 22), (⟨"OrreryTrainsModel", "fails", "()V"⟩, 22), (⟨"OrreryTrainsModel", "figure", "(I)I"⟩, 22), (⟨"OrreryTrainsModel", "must", "(I)V"⟩, 22), (⟨"OrreryTrainsModel", "isPair", "(I)Z"⟩, 22), (⟨"OrreryTrainsModel", "play", "(I)I"⟩, 22), (⟨"OrreryTrainsModel", "trainsOf", "(I)I"⟩, 22), (⟨"OrreryTrainsModel", "pairAt", "(II)I"⟩, 22), (⟨"OrreryTrainsModel", "isRound", "(I)Z"⟩, 22), (⟨"OrreryTrainsModel", "hasTrain", "(I)Z"⟩, 22), (⟨"OrreryTrainsModel", "drivers", "(I)J"⟩, 22), (⟨"OrreryTrainsModel", "product", "(IIII)J"⟩, 22)]
theorem lw_r2 : ∀ q ∈ lw_privs_2, lw_okq q := List.forall_mem_cons.mpr ⟨lw_p16, List.forall_mem_cons.mpr ⟨lw_p17, List.forall_mem_cons.mpr ⟨lw_p18, List.forall_mem_cons.mpr ⟨lw_p19, List.forall_mem_cons.mpr ⟨lw_p20, List.forall_mem_cons.mpr ⟨lw_p21, List.forall_mem_cons.mpr ⟨lw_p22, List.forall_mem_cons.mpr ⟨lw_p23, List.forall_mem_cons.mpr ⟨lw_p24, List.forall_mem_cons.mpr ⟨lw_p25, List.forall_mem_cons.mpr ⟨lw_p26, List.forall_mem_cons.mpr ⟨lw_p27, List.forall_mem_cons.mpr ⟨lw_p28, List.forall_mem_cons.mpr ⟨lw_p29, List.forall_mem_cons.mpr ⟨lw_p30, List.forall_mem_cons.mpr ⟨lw_p31, fun _ h => absurd h List.not_mem_nil⟩⟩⟩⟩⟩⟩⟩⟩⟩⟩⟩⟩⟩⟩⟩⟩
theorem lw_p32 : lw_okq (⟨"OrreryTrainsModel", "drivens", "(I)J"⟩, 22) := ⟨⟨by decide +kernel, by decide +kernel⟩, List.mem_of_getElem? (i := 805) (by decide +kernel), List.mem_of_getElem? (i := 1086) (by decide +kernel), List.mem_of_getElem? (i := 1087) (by decide +kernel)⟩
theorem lw_p33 : lw_okq (⟨"OrreryTrainsModel", "off", "(IJJ)J"⟩, 22) := ⟨⟨by decide +kernel, by decide +kernel⟩, List.mem_of_getElem? (i := 805) (by decide +kernel), List.mem_of_getElem? (i := 1094) (by decide +kernel), List.mem_of_getElem? (i := 1095) (by decide +kernel)⟩
theorem lw_p34 : lw_okq (⟨"OrreryTrainsModel", "lag", "(I)J"⟩, 22) := ⟨⟨by decide +kernel, by decide +kernel⟩, List.mem_of_getElem? (i := 805) (by decide +kernel), List.mem_of_getElem? (i := 1102) (by decide +kernel), List.mem_of_getElem? (i := 1103) (by decide +kernel)⟩
theorem lw_p35 : lw_okq (⟨"OrreryTrainsModel", "areTwo", "(II)Z"⟩, 22) := ⟨⟨by decide +kernel, by decide +kernel⟩, List.mem_of_getElem? (i := 805) (by decide +kernel), List.mem_of_getElem? (i := 1111) (by decide +kernel), List.mem_of_getElem? (i := 1112) (by decide +kernel)⟩
theorem lw_p36 : lw_okq (⟨"OrreryTrainsModel", "shared", "(II)I"⟩, 22) := ⟨⟨by decide +kernel, by decide +kernel⟩, List.mem_of_getElem? (i := 805) (by decide +kernel), List.mem_of_getElem? (i := 1115) (by decide +kernel), List.mem_of_getElem? (i := 1116) (by decide +kernel)⟩
theorem lw_p37 : lw_okq (⟨"OrreryTrainsModel", "wheels", "()I"⟩, 22) := ⟨⟨by decide +kernel, by decide +kernel⟩, List.mem_of_getElem? (i := 805) (by decide +kernel), List.mem_of_getElem? (i := 1123) (by decide +kernel), List.mem_of_getElem? (i := 1124) (by decide +kernel)⟩
theorem lw_p38 : lw_okq (⟨"OrreryTrainsModel", "finds", "(I)V"⟩, 22) := ⟨⟨by decide +kernel, by decide +kernel⟩, List.mem_of_getElem? (i := 805) (by decide +kernel), List.mem_of_getElem? (i := 1132) (by decide +kernel), List.mem_of_getElem? (i := 1133) (by decide +kernel)⟩
theorem lw_p39 : lw_okq (⟨"OrreryTrainsModel", "tries", "(IIIIII)V"⟩, 22) := ⟨⟨by decide +kernel, by decide +kernel⟩, List.mem_of_getElem? (i := 805) (by decide +kernel), List.mem_of_getElem? (i := 1136) (by decide +kernel), List.mem_of_getElem? (i := 1137) (by decide +kernel)⟩
theorem lw_p40 : lw_okq (⟨"OrreryTrainsModel", "goes", "(I)V"⟩, 22) := ⟨⟨by decide +kernel, by decide +kernel⟩, List.mem_of_getElem? (i := 805) (by decide +kernel), List.mem_of_getElem? (i := 1150) (by decide +kernel), List.mem_of_getElem? (i := 1151) (by decide +kernel)⟩
theorem lw_p41 : lw_okq (⟨"OrreryTrainsModel", "standsAt", "(I)J"⟩, 22) := ⟨⟨by decide +kernel, by decide +kernel⟩, List.mem_of_getElem? (i := 805) (by decide +kernel), List.mem_of_getElem? (i := 1162) (by decide +kernel), List.mem_of_getElem? (i := 1163) (by decide +kernel)⟩
theorem lw_p42 : lw_okq (⟨"OrreryTrainsModel", "partOf", "(II)J"⟩, 22) := ⟨⟨by decide +kernel, by decide +kernel⟩, List.mem_of_getElem? (i := 805) (by decide +kernel), List.mem_of_getElem? (i := 1177) (by decide +kernel), List.mem_of_getElem? (i := 1178) (by decide +kernel)⟩
theorem lw_p43 : lw_okq (⟨"OrreryTrainsModel", "slips", "(II)Z"⟩, 22) := ⟨⟨by decide +kernel, by decide +kernel⟩, List.mem_of_getElem? (i := 805) (by decide +kernel), List.mem_of_getElem? (i := 1196) (by decide +kernel), List.mem_of_getElem? (i := 1197) (by decide +kernel)⟩
theorem lw_p44 : lw_okq (⟨"OrreryTrainsModel", "done", "(II)V"⟩, 22) := ⟨⟨by decide +kernel, by decide +kernel⟩, List.mem_of_getElem? (i := 805) (by decide +kernel), List.mem_of_getElem? (i := 1212) (by decide +kernel), List.mem_of_getElem? (i := 1213) (by decide +kernel)⟩
theorem lw_p45 : lw_okq (⟨"OrreryTrainsModel", "changes", "(II)V"⟩, 22) := ⟨⟨by decide +kernel, by decide +kernel⟩, List.mem_of_getElem? (i := 805) (by decide +kernel), List.mem_of_getElem? (i := 1216) (by decide +kernel), List.mem_of_getElem? (i := 1217) (by decide +kernel)⟩
theorem lw_p46 : lw_okq (⟨"OrreryTrainsModel", "two", "(II)V"⟩, 22) := ⟨⟨by decide +kernel, by decide +kernel⟩, List.mem_of_getElem? (i := 805) (by decide +kernel), List.mem_of_getElem? (i := 1224) (by decide +kernel), List.mem_of_getElem? (i := 1225) (by decide +kernel)⟩
def lw_privs_3 : List (MethodName × Nat) := [(⟨"OrreryTrainsModel", "drivens", "(I)J"⟩, 22), (⟨"OrreryTrainsModel", "off", "(IJJ)J"⟩, 22), (⟨"OrreryTrainsModel", "lag", "(I)J"⟩, 22), (⟨"OrreryTrainsModel", "areTwo", "(II)Z"⟩, 22), (⟨"OrreryTrainsModel", "shared", "(II)I"⟩, 22), (⟨"OrreryTrainsModel", "wheels", "()I"⟩, 22), (⟨"OrreryTrainsModel", "finds", "(I)V"⟩, 22), (⟨"OrreryTrainsModel", "tries", "(IIIIII)V"⟩, 22), (⟨"OrreryTrainsModel", "goes", "(I)V"⟩, 22), (⟨"OrreryTrainsModel", "standsAt", "(I)J"⟩, 22), (⟨"OrreryTrainsModel", "partOf", "(II)J"⟩, 22), (⟨"OrreryTrainsModel", "slips", "(II)Z"⟩, 22), (⟨"OrreryTrainsModel", "done", "(II)V"⟩, 22), (⟨"OrreryTrainsModel", "changes", "(II)V"⟩, 22), (⟨"OrreryTrainsModel", "two", "(II)V"⟩, 22)]
theorem lw_r3 : ∀ q ∈ lw_privs_3, lw_okq q := List.forall_mem_cons.mpr ⟨lw_p32, List.forall_mem_cons.mpr ⟨lw_p33, List.forall_mem_cons.mpr ⟨lw_p34, List.forall_mem_cons.mpr ⟨lw_p35, List.forall_mem_cons.mpr ⟨lw_p36, List.forall_mem_cons.mpr ⟨lw_p37, List.forall_mem_cons.mpr ⟨lw_p38, List.forall_mem_cons.mpr ⟨lw_p39, List.forall_mem_cons.mpr ⟨lw_p40, List.forall_mem_cons.mpr ⟨lw_p41, List.forall_mem_cons.mpr ⟨lw_p42, List.forall_mem_cons.mpr ⟨lw_p43, List.forall_mem_cons.mpr ⟨lw_p44, List.forall_mem_cons.mpr ⟨lw_p45, List.forall_mem_cons.mpr ⟨lw_p46, fun _ h => absurd h List.not_mem_nil⟩⟩⟩⟩⟩⟩⟩⟩⟩⟩⟩⟩⟩⟩⟩
def lw_privs : List (MethodName × Nat) := lw_privs_1 ++ (lw_privs_2 ++ (lw_privs_3))
def lw_tbl : List Cond := k2_sels lw_privs ++ tables_1
theorem lw_privs_ok : ∀ q ∈ lw_privs, lw_okq q := by
  show ∀ q ∈ lw_privs_1 ++ (lw_privs_2 ++ (lw_privs_3)), lw_okq q
  exact List.forall_mem_append.mpr ⟨lw_r1, List.forall_mem_append.mpr ⟨lw_r2, lw_r3⟩⟩
/-! ===== BEGIN words of one list among another's, by their places ===== -/
theorem goodIn_r {big : List Cond} (ws : List Cond) (ps : List Nat) (hp : ws = ps.filterMap (fun i => big[i]?)) (h : ws.all goodWord = true) : GoodIn big ws := by
  intro w hw
  have h1 := List.all_eq_true.mp h w hw
  rw [hp] at hw
  obtain ⟨i, -, hi⟩ := List.mem_filterMap.mp hw
  have hm : w ∈ big := by first | exact List.mem_of_getElem? hi | exact List.getElem?_mem hi
  exact ⟨hm, good_of_word h1⟩
theorem goodIn_app {big a b : List Cond} (ha : GoodIn big a) (hb : GoodIn big b) : GoodIn big (a ++ b) := fun w h => (List.mem_append.mp h).elim (ha w) (hb w)
theorem goodIn_ca {big a b : List Cond} {c : Cond} (ha : GoodIn big (c :: a)) (hb : GoodIn big b) : GoodIn big (c :: (a ++ b)) := fun w h => (List.mem_cons.mp h).elim (fun e => ha w (List.mem_cons.mpr (Or.inl e))) (fun h => (List.mem_append.mp h).elim (fun h => ha w (List.mem_cons.mpr (Or.inr h))) (hb w))
theorem goodIn_sub {big ws : List Cond} (hm : ∀ w ∈ ws, w ∈ big) (h : ws.all goodWord = true) : GoodIn big ws := fun w hw => ⟨hm w hw, good_of_word (List.all_eq_true.mp h w hw)⟩
/-! ===== END ===== -/

/-! ===== BEGIN printed: names, fields, word lists, decode rows ===== -/
def RX0 : String := "OrreryTrains$Finder"
def TX0 : u_T := fun k => match k with
  | 0 => ("OrreryTrains$Finder", "above", "J", false)
  | 1 => ("OrreryTrains$Finder", "below", "J", false)
  | 2 => ("OrreryTrains$Finder", "least", "I", false)
  | 3 => ("OrreryTrains$Finder", "most", "I", false)
  | 4 => ("OrreryTrains$Finder", "lesserDriver", "I", false)
  | 5 => ("OrreryTrains$Finder", "greaterDriver", "I", false)
  | 6 => ("OrreryTrains$Finder", "lesserDriven", "I", false)
  | 7 => ("OrreryTrains$Finder", "greaterDriven", "I", false)
  | 8 => ("OrreryTrains$Finder", "off", "J", false)
  | _ => ("OrreryTrains$Finder", "drivens", "J", false)
def tyX0 : Nat → FieldType := fun k => match k with
  | 0 => .long
  | 1 => .long
  | 2 => .int
  | 3 => .int
  | 4 => .int
  | 5 => .int
  | 6 => .int
  | 7 => .int
  | 8 => .long
  | _ => .long
abbrev wsX00 : List Cond := u_ws RX0 TX0 10
theorem nmX0 : ∀ a, a < 10 → ∀ b, b < 10 → a ≠ b → (TX0 a).2.1 ≠ (TX0 b).2.1 := by decide +kernel
theorem tyX0_ok : ∀ k, k < 10 → parseFieldDescriptor (TX0 k).2.2.1 = some (tyX0 k) := by decide +kernel
abbrev cX0_init : ByteArray := prog_2_method_1_code
def yX0_init : MethodName := ⟨RX0, "<init>", "()V"⟩
abbrev cX0_seek : ByteArray := prog_2_method_2_code
def yX0_seek : MethodName := ⟨RX0, "seek", "(IIII)V"⟩
abbrev cX0_isOnePair : ByteArray := prog_2_method_3_code
def yX0_isOnePair : MethodName := ⟨RX0, "isOnePair", "()Z"⟩
abbrev cX0_allTeeth : ByteArray := prog_2_method_4_code
def yX0_allTeeth : MethodName := ⟨RX0, "allTeeth", "()I"⟩
abbrev cX0_wheel : ByteArray := prog_2_method_5_code
def yX0_wheel : MethodName := ⟨RX0, "wheel", "(I)I"⟩
abbrev cX0_wrongAbove : ByteArray := prog_2_method_6_code
def yX0_wrongAbove : MethodName := ⟨RX0, "wrongAbove", "()J"⟩
abbrev cX0_wrongBelow : ByteArray := prog_2_method_7_code
def yX0_wrongBelow : MethodName := ⟨RX0, "wrongBelow", "()J"⟩
abbrev cX0_seekOnePair : ByteArray := prog_2_method_8_code
def yX0_seekOnePair : MethodName := ⟨RX0, "seekOnePair", "()V"⟩
abbrev cX0_seekTwoPairs : ByteArray := prog_2_method_9_code
def yX0_seekTwoPairs : MethodName := ⟨RX0, "seekTwoPairs", "()V"⟩
abbrev cX0_offerFourth : ByteArray := prog_2_method_10_code
def yX0_offerFourth : MethodName := ⟨RX0, "offerFourth", "(III)V"⟩
abbrev cX0_offer : ByteArray := prog_2_method_11_code
def yX0_offer : MethodName := ⟨RX0, "offer", "(IIII)V"⟩
abbrev cX0_isAhead : ByteArray := prog_2_method_12_code
def yX0_isAhead : MethodName := ⟨RX0, "isAhead", "(IIII)Z"⟩
abbrev cX0_product : ByteArray := prog_2_method_13_code
def yX0_product : MethodName := ⟨RX0, "product", "(II)J"⟩
abbrev cX0_within : ByteArray := prog_2_method_14_code
def yX0_within : MethodName := ⟨RX0, "within", "(JII)I"⟩
def RX1 : String := "OrreryTrains$Orrery"
def TX1 : u_T := fun k => match k with
  | 0 => ("OrreryTrains$Orrery", "bodies", "I", false)
  | 1 => ("OrreryTrains$Orrery", "above", "[I", true)
  | 2 => ("OrreryTrains$Orrery", "below", "[I", true)
  | 3 => ("OrreryTrains$Orrery", "least", "I", false)
  | 4 => ("OrreryTrains$Orrery", "most", "I", false)
  | 5 => ("OrreryTrains$Orrery", "pairs", "LOrreryTrains$Pairs;", true)
  | 6 => ("OrreryTrains$Orrery", "trains", "LOrreryTrains$Trains;", true)
  | 7 => ("OrreryTrains$Orrery", "turn", "I", false)
  | 8 => ("OrreryTrains$Orrery", "back", "Z", false)
  | _ => ("OrreryTrains$Orrery", "plan", "LOrreryTrains$Plan;", true)
def tyX1 : Nat → FieldType := fun k => match k with
  | 0 => .int
  | 1 => .array .int
  | 2 => .array .int
  | 3 => .int
  | 4 => .int
  | 5 => .object "OrreryTrains$Pairs"
  | 6 => .object "OrreryTrains$Trains"
  | 7 => .int
  | 8 => .boolean
  | _ => .object "OrreryTrains$Plan"
abbrev wsX10 : List Cond := u_ws RX1 TX1 10
theorem nmX1 : ∀ a, a < 10 → ∀ b, b < 10 → a ≠ b → (TX1 a).2.1 ≠ (TX1 b).2.1 := by decide +kernel
theorem tyX1_ok : ∀ k, k < 10 → parseFieldDescriptor (TX1 k).2.2.1 = some (tyX1 k) := by decide +kernel
abbrev cX1_init : ByteArray := prog_3_method_1_code
def yX1_init : MethodName := ⟨RX1, "<init>", "()V"⟩
abbrev cX1_copyFrom : ByteArray := prog_3_method_2_code
def yX1_copyFrom : MethodName := ⟨RX1, "copyFrom", "(LOrreryTrains$Orrery;)V"⟩
abbrev cX1_hasBody : ByteArray := prog_3_method_3_code
def yX1_hasBody : MethodName := ⟨RX1, "hasBody", "(I)Z"⟩
abbrev cX1_hasTrain : ByteArray := prog_3_method_4_code
def yX1_hasTrain : MethodName := ⟨RX1, "hasTrain", "(I)Z"⟩
abbrev cX1_wish : ByteArray := prog_3_method_5_code
def yX1_wish : MethodName := ⟨RX1, "wish", "(III)V"⟩
abbrev cX1_drivers : ByteArray := prog_3_method_6_code
def yX1_drivers : MethodName := ⟨RX1, "drivers", "(I)J"⟩
abbrev cX1_drivens : ByteArray := prog_3_method_7_code
def yX1_drivens : MethodName := ⟨RX1, "drivens", "(I)J"⟩
abbrev cX1_wrongAbove : ByteArray := prog_3_method_8_code
def yX1_wrongAbove : MethodName := ⟨RX1, "wrongAbove", "(I)J"⟩
abbrev cX1_wrongBelow : ByteArray := prog_3_method_9_code
def yX1_wrongBelow : MethodName := ⟨RX1, "wrongBelow", "(I)J"⟩
abbrev cX1_isRound : ByteArray := prog_3_method_10_code
def yX1_isRound : MethodName := ⟨RX1, "isRound", "(I)Z"⟩
abbrev cX1_slackAbove : ByteArray := prog_3_method_11_code
def yX1_slackAbove : MethodName := ⟨RX1, "slackAbove", "(I)J"⟩
abbrev cX1_slackBelow : ByteArray := prog_3_method_12_code
def yX1_slackBelow : MethodName := ⟨RX1, "slackBelow", "(I)J"⟩
abbrev cX1_standing : ByteArray := prog_3_method_13_code
def yX1_standing : MethodName := ⟨RX1, "standing", "(I)J"⟩
abbrev cX1_slips : ByteArray := prog_3_method_14_code
def yX1_slips : MethodName := ⟨RX1, "slips", "(II)Z"⟩
abbrev cX1_crankBy : ByteArray := prog_3_method_15_code
def yX1_crankBy : MethodName := ⟨RX1, "crankBy", "(I)V"⟩
abbrev cX1_followPlan : ByteArray := prog_3_method_16_code
def yX1_followPlan : MethodName := ⟨RX1, "followPlan", "()V"⟩
def RX2 : String := "OrreryTrains$Pairs"
def TX2 : u_T := fun k => match k with
  | 0 => ("OrreryTrains$Pairs", "size", "I", false)
  | 1 => ("OrreryTrains$Pairs", "kinds", "[I", true)
  | 2 => ("OrreryTrains$Pairs", "figures", "[I", true)
  | 3 => ("OrreryTrains$Pairs", "drivers", "[I", true)
  | _ => ("OrreryTrains$Pairs", "drivens", "[I", true)
def tyX2 : Nat → FieldType := fun k => match k with
  | 0 => .int
  | 1 => .array .int
  | 2 => .array .int
  | 3 => .array .int
  | _ => .array .int
abbrev wsX20 : List Cond := u_ws RX2 TX2 5
theorem nmX2 : ∀ a, a < 5 → ∀ b, b < 5 → a ≠ b → (TX2 a).2.1 ≠ (TX2 b).2.1 := by decide +kernel
theorem tyX2_ok : ∀ k, k < 5 → parseFieldDescriptor (TX2 k).2.2.1 = some (tyX2 k) := by decide +kernel
abbrev cX2_init : ByteArray := prog_4_method_1_code
def yX2_init : MethodName := ⟨RX2, "<init>", "()V"⟩
abbrev cX2_copyFrom : ByteArray := prog_4_method_2_code
def yX2_copyFrom : MethodName := ⟨RX2, "copyFrom", "(LOrreryTrains$Pairs;)V"⟩
abbrev cX2_has : ByteArray := prog_4_method_3_code
def yX2_has : MethodName := ⟨RX2, "has", "(I)Z"⟩
abbrev cX2_add : ByteArray := prog_4_method_4_code
def yX2_add : MethodName := ⟨RX2, "add", "(IIII)V"⟩
abbrev cX2_goesRound : ByteArray := prog_4_method_5_code
def yX2_goesRound : MethodName := ⟨RX2, "goesRound", "(I)Z"⟩
abbrev cX2_play : ByteArray := prog_4_method_6_code
def yX2_play : MethodName := ⟨RX2, "play", "(I)I"⟩
abbrev cX2_changeWheels : ByteArray := prog_4_method_7_code
def yX2_changeWheels : MethodName := ⟨RX2, "changeWheels", "(I)V"⟩
def RX3 : String := "OrreryTrains$Plan"
def TX3 : u_T := fun k => match k with
  | 0 => ("OrreryTrains$Plan", "size", "I", false)
  | 1 => ("OrreryTrains$Plan", "whats", "[I", true)
  | _ => ("OrreryTrains$Plan", "values", "[I", true)
def tyX3 : Nat → FieldType := fun k => match k with
  | 0 => .int
  | 1 => .array .int
  | _ => .array .int
abbrev wsX30 : List Cond := u_ws RX3 TX3 3
theorem nmX3 : ∀ a, a < 3 → ∀ b, b < 3 → a ≠ b → (TX3 a).2.1 ≠ (TX3 b).2.1 := by decide +kernel
theorem tyX3_ok : ∀ k, k < 3 → parseFieldDescriptor (TX3 k).2.2.1 = some (tyX3 k) := by decide +kernel
abbrev cX3_init : ByteArray := prog_5_method_1_code
def yX3_init : MethodName := ⟨RX3, "<init>", "()V"⟩
abbrev cX3_copyFrom : ByteArray := prog_5_method_2_code
def yX3_copyFrom : MethodName := ⟨RX3, "copyFrom", "(LOrreryTrains$Plan;)V"⟩
abbrev cX3_add : ByteArray := prog_5_method_3_code
def yX3_add : MethodName := ⟨RX3, "add", "(II)V"⟩
def RX4 : String := "OrreryTrains$Rows"
def TX4 : u_T := fun k => match k with
  | 0 => ("OrreryTrains$Rows", "sizes", "[I", true)
  | _ => ("OrreryTrains$Rows", "cells", "[J", true)
def tyX4 : Nat → FieldType := fun k => match k with
  | 0 => .array .int
  | _ => .array .long
abbrev wsX40 : List Cond := u_ws RX4 TX4 2
theorem nmX4 : ∀ a, a < 2 → ∀ b, b < 2 → a ≠ b → (TX4 a).2.1 ≠ (TX4 b).2.1 := by decide +kernel
theorem tyX4_ok : ∀ k, k < 2 → parseFieldDescriptor (TX4 k).2.2.1 = some (tyX4 k) := by decide +kernel
abbrev cX4_init : ByteArray := prog_6_method_1_code
def yX4_init : MethodName := ⟨RX4, "<init>", "()V"⟩
abbrev cX4_has : ByteArray := prog_6_method_2_code
def yX4_has : MethodName := ⟨RX4, "has", "(I)Z"⟩
abbrev cX4_isHeld : ByteArray := prog_6_method_3_code
def yX4_isHeld : MethodName := ⟨RX4, "isHeld", "(I)Z"⟩
abbrev cX4_size : ByteArray := prog_6_method_4_code
def yX4_size : MethodName := ⟨RX4, "size", "(I)I"⟩
abbrev cX4_hold : ByteArray := prog_6_method_5_code
def yX4_hold : MethodName := ⟨RX4, "hold", "(II)V"⟩
abbrev cX4_cell : ByteArray := prog_6_method_6_code
def yX4_cell : MethodName := ⟨RX4, "cell", "(II)J"⟩
abbrev cX4_fill : ByteArray := prog_6_method_7_code
def yX4_fill : MethodName := ⟨RX4, "fill", "(IIJ)V"⟩
def RX5 : String := "OrreryTrains$Sheet"
def TX5 : u_T := fun k => match k with
  | 0 => ("OrreryTrains$Sheet", "length", "I", false)
  | _ => ("OrreryTrains$Sheet", "bytes", "[I", true)
def tyX5 : Nat → FieldType := fun k => match k with
  | 0 => .int
  | _ => .array .int
abbrev wsX50 : List Cond := u_ws RX5 TX5 2
theorem nmX5 : ∀ a, a < 2 → ∀ b, b < 2 → a ≠ b → (TX5 a).2.1 ≠ (TX5 b).2.1 := by decide +kernel
theorem tyX5_ok : ∀ k, k < 2 → parseFieldDescriptor (TX5 k).2.2.1 = some (tyX5 k) := by decide +kernel
abbrev cX5_init : ByteArray := prog_7_method_1_code
def yX5_init : MethodName := ⟨RX5, "<init>", "()V"⟩
abbrev cX5_add : ByteArray := prog_7_method_2_code
def yX5_add : MethodName := ⟨RX5, "add", "(I)V"⟩
abbrev cX5_addTwoFigures : ByteArray := prog_7_method_3_code
def yX5_addTwoFigures : MethodName := ⟨RX5, "addTwoFigures", "(I)V"⟩
def RX6 : String := "OrreryTrains$Tape"
def TX6 : u_T := fun k => match k with
  | 0 => ("OrreryTrains$Tape", "length", "I", false)
  | _ => ("OrreryTrains$Tape", "bytes", "[I", true)
def tyX6 : Nat → FieldType := fun k => match k with
  | 0 => .int
  | _ => .array .int
abbrev wsX60 : List Cond := u_ws RX6 TX6 2
theorem nmX6 : ∀ a, a < 2 → ∀ b, b < 2 → a ≠ b → (TX6 a).2.1 ≠ (TX6 b).2.1 := by decide +kernel
theorem tyX6_ok : ∀ k, k < 2 → parseFieldDescriptor (TX6 k).2.2.1 = some (tyX6 k) := by decide +kernel
abbrev cX6_init : ByteArray := prog_8_method_1_code
def yX6_init : MethodName := ⟨RX6, "<init>", "()V"⟩
abbrev cX6_clauses : ByteArray := prog_8_method_2_code
def yX6_clauses : MethodName := ⟨RX6, "clauses", "()I"⟩
abbrev cX6_faultAsPairs : ByteArray := prog_8_method_3_code
def yX6_faultAsPairs : MethodName := ⟨RX6, "faultAsPairs", "()I"⟩
abbrev cX6_fitsClause : ByteArray := prog_8_method_4_code
def yX6_fitsClause : MethodName := ⟨RX6, "fitsClause", "(II)Z"⟩
abbrev cX6_tellPair : ByteArray := prog_8_method_5_code
def yX6_tellPair : MethodName := ⟨RX6, "tellPair", "(ILOrreryTrains$Pairs;)V"⟩
abbrev cX6_figureAt : ByteArray := prog_8_method_6_code
def yX6_figureAt : MethodName := ⟨RX6, "figureAt", "(I)I"⟩
abbrev cX6_numberAt : ByteArray := prog_8_method_7_code
def yX6_numberAt : MethodName := ⟨RX6, "numberAt", "(I)I"⟩
abbrev cX6_pairTold : ByteArray := prog_8_method_8_code
def yX6_pairTold : MethodName := ⟨RX6, "pairTold", "(I)I"⟩
abbrev cX6_faultAsTrain : ByteArray := prog_8_method_9_code
def yX6_faultAsTrain : MethodName := ⟨RX6, "faultAsTrain", "(I)I"⟩
abbrev cX6_isToldAhead : ByteArray := prog_8_method_10_code
def yX6_isToldAhead : MethodName := ⟨RX6, "isToldAhead", "(I)Z"⟩
def RX7 : String := "OrreryTrains$Trains"
def TX7 : u_T := fun k => match k with
  | 0 => ("OrreryTrains$Trains", "lengths", "[I", true)
  | _ => ("OrreryTrains$Trains", "places", "[I", true)
def tyX7 : Nat → FieldType := fun k => match k with
  | 0 => .array .int
  | _ => .array .int
abbrev wsX70 : List Cond := u_ws RX7 TX7 2
theorem nmX7 : ∀ a, a < 2 → ∀ b, b < 2 → a ≠ b → (TX7 a).2.1 ≠ (TX7 b).2.1 := by decide +kernel
theorem tyX7_ok : ∀ k, k < 2 → parseFieldDescriptor (TX7 k).2.2.1 = some (tyX7 k) := by decide +kernel
abbrev cX7_init : ByteArray := prog_9_method_1_code
def yX7_init : MethodName := ⟨RX7, "<init>", "()V"⟩
abbrev cX7_copyFrom : ByteArray := prog_9_method_2_code
def yX7_copyFrom : MethodName := ⟨RX7, "copyFrom", "(LOrreryTrains$Trains;)V"⟩
abbrev cX7_length : ByteArray := prog_9_method_3_code
def yX7_length : MethodName := ⟨RX7, "length", "(I)I"⟩
abbrev cX7_pairAt : ByteArray := prog_9_method_4_code
def yX7_pairAt : MethodName := ⟨RX7, "pairAt", "(II)I"⟩
abbrev cX7_cut : ByteArray := prog_9_method_5_code
def yX7_cut : MethodName := ⟨RX7, "cut", "(II)V"⟩
abbrev cX7_become : ByteArray := prog_9_method_6_code
def yX7_become : MethodName := ⟨RX7, "become", "(III)V"⟩
abbrev cX7_turnAbout : ByteArray := prog_9_method_7_code
def yX7_turnAbout : MethodName := ⟨RX7, "turnAbout", "(I)V"⟩
abbrev cX7_number : ByteArray := prog_9_method_8_code
def yX7_number : MethodName := ⟨RX7, "number", "()I"⟩
abbrev cX7_holding : ByteArray := prog_9_method_9_code
def yX7_holding : MethodName := ⟨RX7, "holding", "(I)I"⟩
abbrev cX7_shared : ByteArray := prog_9_method_10_code
def yX7_shared : MethodName := ⟨RX7, "shared", "(II)I"⟩
abbrev cX7_wheels : ByteArray := prog_9_method_11_code
def yX7_wheels : MethodName := ⟨RX7, "wheels", "()I"⟩
def RX8 : String := "OrreryTrains"
def TX8 : u_T := fun k => match k with
  | 0 => ("OrreryTrains", "now", "LOrreryTrains$Orrery;", true)
  | 1 => ("OrreryTrains", "kept", "LOrreryTrains$Orrery;", true)
  | 2 => ("OrreryTrains", "thought", "LOrreryTrains$Orrery;", true)
  | 3 => ("OrreryTrains", "imaged", "Z", false)
  | 4 => ("OrreryTrains", "tape", "LOrreryTrains$Tape;", true)
  | 5 => ("OrreryTrains", "sheet", "LOrreryTrains$Sheet;", true)
  | 6 => ("OrreryTrains", "rows", "LOrreryTrains$Rows;", true)
  | _ => ("OrreryTrains", "finder", "LOrreryTrains$Finder;", true)
def tyX8 : Nat → FieldType := fun k => match k with
  | 0 => .object "OrreryTrains$Orrery"
  | 1 => .object "OrreryTrains$Orrery"
  | 2 => .object "OrreryTrains$Orrery"
  | 3 => .boolean
  | 4 => .object "OrreryTrains$Tape"
  | 5 => .object "OrreryTrains$Sheet"
  | 6 => .object "OrreryTrains$Rows"
  | _ => .object "OrreryTrains$Finder"
abbrev wsX80 : List Cond := u_ws RX8 TX8 8
theorem nmX8 : ∀ a, a < 8 → ∀ b, b < 8 → a ≠ b → (TX8 a).2.1 ≠ (TX8 b).2.1 := by decide +kernel
theorem tyX8_ok : ∀ k, k < 8 → parseFieldDescriptor (TX8 k).2.2.1 = some (tyX8 k) := by decide +kernel
abbrev cX8_init : ByteArray := prog_1_method_1_code
def yX8_init : MethodName := ⟨RX8, "<init>", "()V"⟩
abbrev cX8_body : ByteArray := prog_1_method_2_code
def yX8_body : MethodName := ⟨RX8, "body", "(II)I"⟩
abbrev cX8_ratio : ByteArray := prog_1_method_3_code
def yX8_ratio : MethodName := ⟨RX8, "ratio", "(III)I"⟩
abbrev cX8_term : ByteArray := prog_1_method_4_code
def yX8_term : MethodName := ⟨RX8, "term", "(II)I"⟩
abbrev cX8_convergent : ByteArray := prog_1_method_5_code
def yX8_convergent : MethodName := ⟨RX8, "convergent", "(III)J"⟩
abbrev cX8_near : ByteArray := prog_1_method_6_code
def yX8_near : MethodName := ⟨RX8, "near", "(III)J"⟩
abbrev cX8_bounds : ByteArray := prog_1_method_7_code
def yX8_bounds : MethodName := ⟨RX8, "bounds", "(II)I"⟩
abbrev cX8_split : ByteArray := prog_1_method_8_code
def yX8_split : MethodName := ⟨RX8, "split", "(III)I"⟩
abbrev cX8_prime : ByteArray := prog_1_method_9_code
def yX8_prime : MethodName := ⟨RX8, "prime", "(II)I"⟩
abbrev cX8_feed : ByteArray := prog_1_method_10_code
def yX8_feed : MethodName := ⟨RX8, "feed", "(I)I"⟩
abbrev cX8_pairs : ByteArray := prog_1_method_11_code
def yX8_pairs : MethodName := ⟨RX8, "pairs", "()I"⟩
abbrev cX8_becomes : ByteArray := prog_1_method_12_code
def yX8_becomes : MethodName := ⟨RX8, "becomes", "(III)I"⟩
abbrev cX8_teeth : ByteArray := prog_1_method_13_code
def yX8_teeth : MethodName := ⟨RX8, "teeth", "(III)I"⟩
abbrev cX8_pair : ByteArray := prog_1_method_14_code
def yX8_pair : MethodName := ⟨RX8, "pair", "(II)I"⟩
abbrev cX8_train : ByteArray := prog_1_method_15_code
def yX8_train : MethodName := ⟨RX8, "train", "(I)I"⟩
abbrev cX8_drop : ByteArray := prog_1_method_16_code
def yX8_drop : MethodName := ⟨RX8, "drop", "(I)I"⟩
abbrev cX8_of : ByteArray := prog_1_method_17_code
def yX8_of : MethodName := ⟨RX8, "of", "(II)I"⟩
abbrev cX8_turns : ByteArray := prog_1_method_18_code
def yX8_turns : MethodName := ⟨RX8, "turns", "(II)J"⟩
abbrev cX8_wrong : ByteArray := prog_1_method_19_code
def yX8_wrong : MethodName := ⟨RX8, "wrong", "(II)J"⟩
abbrev cX8_backlash : ByteArray := prog_1_method_20_code
def yX8_backlash : MethodName := ⟨RX8, "backlash", "(II)J"⟩
abbrev cX8_share : ByteArray := prog_1_method_21_code
def yX8_share : MethodName := ⟨RX8, "share", "(II)I"⟩
abbrev cX8_order : ByteArray := prog_1_method_22_code
def yX8_order : MethodName := ⟨RX8, "order", "(II)I"⟩
abbrev cX8_found : ByteArray := prog_1_method_23_code
def yX8_found : MethodName := ⟨RX8, "found", "(II)I"⟩
abbrev cX8_foundWrong : ByteArray := prog_1_method_24_code
def yX8_foundWrong : MethodName := ⟨RX8, "foundWrong", "(II)J"⟩
abbrev cX8_turn : ByteArray := prog_1_method_25_code
def yX8_turn : MethodName := ⟨RX8, "turn", "(I)I"⟩
abbrev cX8_crank : ByteArray := prog_1_method_26_code
def yX8_crank : MethodName := ⟨RX8, "crank", "(I)I"⟩
abbrev cX8_stands : ByteArray := prog_1_method_27_code
def yX8_stands : MethodName := ⟨RX8, "stands", "(I)J"⟩
abbrev cX8_meet : ByteArray := prog_1_method_28_code
def yX8_meet : MethodName := ⟨RX8, "meet", "(II)J"⟩
abbrev cX8_join : ByteArray := prog_1_method_29_code
def yX8_join : MethodName := ⟨RX8, "join", "(III)I"⟩
abbrev cX8_drift : ByteArray := prog_1_method_30_code
def yX8_drift : MethodName := ⟨RX8, "drift", "(II)J"⟩
abbrev cX8_were : ByteArray := prog_1_method_31_code
def yX8_were : MethodName := ⟨RX8, "were", "(IIJI)I"⟩
abbrev cX8_odds : ByteArray := prog_1_method_32_code
def yX8_odds : MethodName := ⟨RX8, "odds", "(IIII)J"⟩
abbrev cX8_plan : ByteArray := prog_1_method_33_code
def yX8_plan : MethodName := ⟨RX8, "plan", "(II)I"⟩
abbrev cX8_ends : ByteArray := prog_1_method_34_code
def yX8_ends : MethodName := ⟨RX8, "ends", "(I)J"⟩
abbrev cX8_writePair : ByteArray := prog_1_method_35_code
def yX8_writePair : MethodName := ⟨RX8, "writePair", "(I)I"⟩
abbrev cX8_writeTrain : ByteArray := prog_1_method_36_code
def yX8_writeTrain : MethodName := ⟨RX8, "writeTrain", "(I)I"⟩
abbrev cX8_paper : ByteArray := prog_1_method_37_code
def yX8_paper : MethodName := ⟨RX8, "paper", "(I)I"⟩
abbrev cX8_judge : ByteArray := prog_1_method_38_code
def yX8_judge : MethodName := ⟨RX8, "judge", "(I)I"⟩
abbrev cX8_list : ByteArray := prog_1_method_39_code
def yX8_list : MethodName := ⟨RX8, "list", "(II)I"⟩
abbrev cX8_put : ByteArray := prog_1_method_40_code
def yX8_put : MethodName := ⟨RX8, "put", "(IIJ)I"⟩
abbrev cX8_get : ByteArray := prog_1_method_41_code
def yX8_get : MethodName := ⟨RX8, "get", "(II)J"⟩
abbrev cX8_image : ByteArray := prog_1_method_42_code
def yX8_image : MethodName := ⟨RX8, "image", "()I"⟩
abbrev cX8_undo : ByteArray := prog_1_method_43_code
def yX8_undo : MethodName := ⟨RX8, "undo", "()I"⟩
abbrev cX8_count : ByteArray := prog_1_method_44_code
def yX8_count : MethodName := ⟨RX8, "count", "(I)I"⟩
abbrev cX8_areTwo : ByteArray := prog_1_method_45_code
def yX8_areTwo : MethodName := ⟨RX8, "areTwo", "(II)Z"⟩
abbrev cX8_splitIntoOne : ByteArray := prog_1_method_46_code
def yX8_splitIntoOne : MethodName := ⟨RX8, "splitIntoOne", "(II)I"⟩
abbrev cX8_splitIntoTwo : ByteArray := prog_1_method_47_code
def yX8_splitIntoTwo : MethodName := ⟨RX8, "splitIntoTwo", "(II)I"⟩
abbrev cX8_bestOrder : ByteArray := prog_1_method_48_code
def yX8_bestOrder : MethodName := ⟨RX8, "bestOrder", "(I)I"⟩
abbrev cX8_wheelsBy : ByteArray := prog_1_method_49_code
def yX8_wheelsBy : MethodName := ⟨RX8, "wheelsBy", "(II)I"⟩
abbrev cX8_turnsUntilJoined : ByteArray := prog_1_method_50_code
def yX8_turnsUntilJoined : MethodName := ⟨RX8, "turnsUntilJoined", "(III)I"⟩
abbrev cX8_isRatio : ByteArray := prog_1_method_51_code
def yX8_isRatio : MethodName := ⟨RX8, "isRatio", "(II)Z"⟩
abbrev cX8_isPart : ByteArray := prog_1_method_52_code
def yX8_isPart : MethodName := ⟨RX8, "isPart", "(I)Z"⟩
abbrev cX8_isTeeth : ByteArray := prog_1_method_53_code
def yX8_isTeeth : MethodName := ⟨RX8, "isTeeth", "(I)Z"⟩
abbrev cX8_isCranked : ByteArray := prog_1_method_54_code
def yX8_isCranked : MethodName := ⟨RX8, "isCranked", "(I)Z"⟩
abbrev cX8_isPlanned : ByteArray := prog_1_method_55_code
def yX8_isPlanned : MethodName := ⟨RX8, "isPlanned", "(II)Z"⟩
abbrev cX8_asksPlace : ByteArray := prog_1_method_56_code
def yX8_asksPlace : MethodName := ⟨RX8, "asksPlace", "(I)Z"⟩
abbrev cX8_isOrderOf : ByteArray := prog_1_method_57_code
def yX8_isOrderOf : MethodName := ⟨RX8, "isOrderOf", "(II)Z"⟩
abbrev cX8_placeBy : ByteArray := prog_1_method_58_code
def yX8_placeBy : MethodName := ⟨RX8, "placeBy", "(II)I"⟩
abbrev cX8_kindLetter : ByteArray := prog_1_method_59_code
def yX8_kindLetter : MethodName := ⟨RX8, "kindLetter", "(I)I"⟩
abbrev cX8_kindOf : ByteArray := prog_1_method_60_code
def yX8_kindOf : MethodName := ⟨RX8, "kindOf", "(I)I"⟩
abbrev cX8_at : ByteArray := prog_1_method_61_code
def yX8_at : MethodName := ⟨RX8, "at", "([II)I"⟩
abbrev cX8_set : ByteArray := prog_1_method_62_code
def yX8_set : MethodName := ⟨RX8, "set", "([III)V"⟩
abbrev cX8_copy : ByteArray := prog_1_method_63_code
def yX8_copy : MethodName := ⟨RX8, "copy", "([I[I)V"⟩
abbrev cX8_quotient : ByteArray := prog_1_method_64_code
def yX8_quotient : MethodName := ⟨RX8, "quotient", "(JJ)J"⟩
abbrev cX8_lowest : ByteArray := prog_1_method_65_code
def yX8_lowest : MethodName := ⟨RX8, "lowest", "(JJI)J"⟩
abbrev cX8_greatestCommon : ByteArray := prog_1_method_66_code
def yX8_greatestCommon : MethodName := ⟨RX8, "greatestCommon", "(JJ)J"⟩
def RX9 : String := "OrreryTrainsModel"
def TX9 : u_T := fun k => match k with
  | 0 => ("OrreryTrainsModel", "s", "[I", true)
  | 1 => ("OrreryTrainsModel", "kept", "[I", true)
  | 2 => ("OrreryTrainsModel", "aside", "[I", true)
  | 3 => ("OrreryTrainsModel", "isKept", "Z", false)
  | 4 => ("OrreryTrainsModel", "tape", "[I", true)
  | 5 => ("OrreryTrainsModel", "paper", "[I", true)
  | 6 => ("OrreryTrainsModel", "size", "[I", true)
  | 7 => ("OrreryTrainsModel", "items", "[J", true)
  | 8 => ("OrreryTrainsModel", "taped", "I", false)
  | 9 => ("OrreryTrainsModel", "written", "I", false)
  | 10 => ("OrreryTrainsModel", "term", "[I", true)
  | 11 => ("OrreryTrainsModel", "at", "I", false)
  | 12 => ("OrreryTrainsModel", "fault", "I", false)
  | 13 => ("OrreryTrainsModel", "read", "[I", true)
  | 14 => ("OrreryTrainsModel", "foundMany", "I", false)
  | 15 => ("OrreryTrainsModel", "foundTeeth", "I", false)
  | 16 => ("OrreryTrainsModel", "foundOne", "I", false)
  | 17 => ("OrreryTrainsModel", "foundTwo", "I", false)
  | 18 => ("OrreryTrainsModel", "foundThree", "I", false)
  | 19 => ("OrreryTrainsModel", "foundFour", "I", false)
  | 20 => ("OrreryTrainsModel", "foundOff", "J", false)
  | _ => ("OrreryTrainsModel", "foundLine", "J", false)
def tyX9 : Nat → FieldType := fun k => match k with
  | 0 => .array .int
  | 1 => .array .int
  | 2 => .array .int
  | 3 => .boolean
  | 4 => .array .int
  | 5 => .array .int
  | 6 => .array .int
  | 7 => .array .long
  | 8 => .int
  | 9 => .int
  | 10 => .array .int
  | 11 => .int
  | 12 => .int
  | 13 => .array .int
  | 14 => .int
  | 15 => .int
  | 16 => .int
  | 17 => .int
  | 18 => .int
  | 19 => .int
  | 20 => .long
  | _ => .long
abbrev wsX90 : List Cond := u_ws RX9 TX9 22
theorem nmX9 : ∀ a, a < 22 → ∀ b, b < 22 → a ≠ b → (TX9 a).2.1 ≠ (TX9 b).2.1 := by decide +kernel
theorem tyX9_ok : ∀ k, k < 22 → parseFieldDescriptor (TX9 k).2.2.1 = some (tyX9 k) := by decide +kernel
abbrev cX9_init : ByteArray := prog_11_method_1_code
def yX9_init : MethodName := ⟨RX9, "<init>", "()V"⟩
abbrev cX9_isIn : ByteArray := prog_11_method_2_code
def yX9_isIn : MethodName := ⟨RX9, "isIn", "(JJJ)Z"⟩
abbrev cX9_common : ByteArray := prog_11_method_3_code
def yX9_common : MethodName := ⟨RX9, "common", "(JJ)J"⟩
abbrev cX9_told : ByteArray := prog_11_method_4_code
def yX9_told : MethodName := ⟨RX9, "told", "(JJI)J"⟩
abbrev cX9_isPart : ByteArray := prog_11_method_5_code
def yX9_isPart : MethodName := ⟨RX9, "isPart", "(I)Z"⟩
abbrev cX9_isBody : ByteArray := prog_11_method_6_code
def yX9_isBody : MethodName := ⟨RX9, "isBody", "(I)Z"⟩
abbrev cX9_isRatio : ByteArray := prog_11_method_7_code
def yX9_isRatio : MethodName := ⟨RX9, "isRatio", "(II)Z"⟩
abbrev cX9_becomesRatio : ByteArray := prog_11_method_8_code
def yX9_becomesRatio : MethodName := ⟨RX9, "becomesRatio", "(III)V"⟩
abbrev cX9_body : ByteArray := prog_11_method_9_code
def yX9_body : MethodName := ⟨RX9, "body", "(II)I"⟩
abbrev cX9_ratio : ByteArray := prog_11_method_10_code
def yX9_ratio : MethodName := ⟨RX9, "ratio", "(III)I"⟩
abbrev cX9_terms : ByteArray := prog_11_method_11_code
def yX9_terms : MethodName := ⟨RX9, "terms", "(I)I"⟩
abbrev cX9_term : ByteArray := prog_11_method_12_code
def yX9_term : MethodName := ⟨RX9, "term", "(II)I"⟩
abbrev cX9_convergent : ByteArray := prog_11_method_13_code
def yX9_convergent : MethodName := ⟨RX9, "convergent", "(III)J"⟩
abbrev cX9_near : ByteArray := prog_11_method_14_code
def yX9_near : MethodName := ⟨RX9, "near", "(III)J"⟩
abbrev cX9_bounds : ByteArray := prog_11_method_15_code
def yX9_bounds : MethodName := ⟨RX9, "bounds", "(II)I"⟩
abbrev cX9_isWithin : ByteArray := prog_11_method_16_code
def yX9_isWithin : MethodName := ⟨RX9, "isWithin", "(I)Z"⟩
abbrev cX9_split : ByteArray := prog_11_method_17_code
def yX9_split : MethodName := ⟨RX9, "split", "(III)I"⟩
abbrev cX9_prime : ByteArray := prog_11_method_18_code
def yX9_prime : MethodName := ⟨RX9, "prime", "(II)I"⟩
abbrev cX9_isPair : ByteArray := prog_11_method_19_code
def yX9_isPair : MethodName := ⟨RX9, "isPair", "(I)Z"⟩
abbrev cX9_play : ByteArray := prog_11_method_20_code
def yX9_play : MethodName := ⟨RX9, "play", "(I)I"⟩
abbrev cX9_trainsOf : ByteArray := prog_11_method_21_code
def yX9_trainsOf : MethodName := ⟨RX9, "trainsOf", "(I)I"⟩
abbrev cX9_feed : ByteArray := prog_11_method_22_code
def yX9_feed : MethodName := ⟨RX9, "feed", "(I)I"⟩
abbrev cX9_here : ByteArray := prog_11_method_23_code
def yX9_here : MethodName := ⟨RX9, "here", "()I"⟩
abbrev cX9_fails : ByteArray := prog_11_method_24_code
def yX9_fails : MethodName := ⟨RX9, "fails", "()V"⟩
abbrev cX9_figure : ByteArray := prog_11_method_25_code
def yX9_figure : MethodName := ⟨RX9, "figure", "(I)I"⟩
abbrev cX9_must : ByteArray := prog_11_method_26_code
def yX9_must : MethodName := ⟨RX9, "must", "(I)V"⟩
abbrev cX9_kindHere : ByteArray := prog_11_method_27_code
def yX9_kindHere : MethodName := ⟨RX9, "kindHere", "()I"⟩
abbrev cX9_clauses : ByteArray := prog_11_method_28_code
def yX9_clauses : MethodName := ⟨RX9, "clauses", "()I"⟩
abbrev cX9_pairs : ByteArray := prog_11_method_29_code
def yX9_pairs : MethodName := ⟨RX9, "pairs", "()I"⟩
abbrev cX9_becomes : ByteArray := prog_11_method_30_code
def yX9_becomes : MethodName := ⟨RX9, "becomes", "(III)I"⟩
abbrev cX9_teeth : ByteArray := prog_11_method_31_code
def yX9_teeth : MethodName := ⟨RX9, "teeth", "(III)I"⟩
abbrev cX9_pair : ByteArray := prog_11_method_32_code
def yX9_pair : MethodName := ⟨RX9, "pair", "(II)I"⟩
abbrev cX9_pairAt : ByteArray := prog_11_method_33_code
def yX9_pairAt : MethodName := ⟨RX9, "pairAt", "(II)I"⟩
abbrev cX9_hasTrain : ByteArray := prog_11_method_34_code
def yX9_hasTrain : MethodName := ⟨RX9, "hasTrain", "(I)Z"⟩
abbrev cX9_train : ByteArray := prog_11_method_35_code
def yX9_train : MethodName := ⟨RX9, "train", "(I)I"⟩
abbrev cX9_drop : ByteArray := prog_11_method_36_code
def yX9_drop : MethodName := ⟨RX9, "drop", "(I)I"⟩
abbrev cX9_isRound : ByteArray := prog_11_method_37_code
def yX9_isRound : MethodName := ⟨RX9, "isRound", "(I)Z"⟩
abbrev cX9_of : ByteArray := prog_11_method_38_code
def yX9_of : MethodName := ⟨RX9, "of", "(II)I"⟩
abbrev cX9_product : ByteArray := prog_11_method_39_code
def yX9_product : MethodName := ⟨RX9, "product", "(IIII)J"⟩
abbrev cX9_drivers : ByteArray := prog_11_method_40_code
def yX9_drivers : MethodName := ⟨RX9, "drivers", "(I)J"⟩
abbrev cX9_drivens : ByteArray := prog_11_method_41_code
def yX9_drivens : MethodName := ⟨RX9, "drivens", "(I)J"⟩
abbrev cX9_turns : ByteArray := prog_11_method_42_code
def yX9_turns : MethodName := ⟨RX9, "turns", "(II)J"⟩
abbrev cX9_off : ByteArray := prog_11_method_43_code
def yX9_off : MethodName := ⟨RX9, "off", "(IJJ)J"⟩
abbrev cX9_wrong : ByteArray := prog_11_method_44_code
def yX9_wrong : MethodName := ⟨RX9, "wrong", "(II)J"⟩
abbrev cX9_lag : ByteArray := prog_11_method_45_code
def yX9_lag : MethodName := ⟨RX9, "lag", "(I)J"⟩
abbrev cX9_backlash : ByteArray := prog_11_method_46_code
def yX9_backlash : MethodName := ⟨RX9, "backlash", "(II)J"⟩
abbrev cX9_shared : ByteArray := prog_11_method_47_code
def yX9_shared : MethodName := ⟨RX9, "shared", "(II)I"⟩
abbrev cX9_areTwo : ByteArray := prog_11_method_48_code
def yX9_areTwo : MethodName := ⟨RX9, "areTwo", "(II)Z"⟩
abbrev cX9_share : ByteArray := prog_11_method_49_code
def yX9_share : MethodName := ⟨RX9, "share", "(II)I"⟩
abbrev cX9_wheels : ByteArray := prog_11_method_50_code
def yX9_wheels : MethodName := ⟨RX9, "wheels", "()I"⟩
abbrev cX9_order : ByteArray := prog_11_method_51_code
def yX9_order : MethodName := ⟨RX9, "order", "(II)I"⟩
abbrev cX9_tries : ByteArray := prog_11_method_52_code
def yX9_tries : MethodName := ⟨RX9, "tries", "(IIIIII)V"⟩
abbrev cX9_finds : ByteArray := prog_11_method_53_code
def yX9_finds : MethodName := ⟨RX9, "finds", "(I)V"⟩
abbrev cX9_found : ByteArray := prog_11_method_54_code
def yX9_found : MethodName := ⟨RX9, "found", "(II)I"⟩
abbrev cX9_foundWrong : ByteArray := prog_11_method_55_code
def yX9_foundWrong : MethodName := ⟨RX9, "foundWrong", "(II)J"⟩
abbrev cX9_goes : ByteArray := prog_11_method_56_code
def yX9_goes : MethodName := ⟨RX9, "goes", "(I)V"⟩
abbrev cX9_turn : ByteArray := prog_11_method_57_code
def yX9_turn : MethodName := ⟨RX9, "turn", "(I)I"⟩
abbrev cX9_crank : ByteArray := prog_11_method_58_code
def yX9_crank : MethodName := ⟨RX9, "crank", "(I)I"⟩
abbrev cX9_standsAt : ByteArray := prog_11_method_59_code
def yX9_standsAt : MethodName := ⟨RX9, "standsAt", "(I)J"⟩
abbrev cX9_stands : ByteArray := prog_11_method_60_code
def yX9_stands : MethodName := ⟨RX9, "stands", "(I)J"⟩
abbrev cX9_meet : ByteArray := prog_11_method_61_code
def yX9_meet : MethodName := ⟨RX9, "meet", "(II)J"⟩
abbrev cX9_partOf : ByteArray := prog_11_method_62_code
def yX9_partOf : MethodName := ⟨RX9, "partOf", "(II)J"⟩
abbrev cX9_join : ByteArray := prog_11_method_63_code
def yX9_join : MethodName := ⟨RX9, "join", "(III)I"⟩
abbrev cX9_drift : ByteArray := prog_11_method_64_code
def yX9_drift : MethodName := ⟨RX9, "drift", "(II)J"⟩
abbrev cX9_were : ByteArray := prog_11_method_65_code
def yX9_were : MethodName := ⟨RX9, "were", "(IIJI)I"⟩
abbrev cX9_slips : ByteArray := prog_11_method_66_code
def yX9_slips : MethodName := ⟨RX9, "slips", "(II)Z"⟩
abbrev cX9_odds : ByteArray := prog_11_method_67_code
def yX9_odds : MethodName := ⟨RX9, "odds", "(IIII)J"⟩
abbrev cX9_plan : ByteArray := prog_11_method_68_code
def yX9_plan : MethodName := ⟨RX9, "plan", "(II)I"⟩
abbrev cX9_changes : ByteArray := prog_11_method_69_code
def yX9_changes : MethodName := ⟨RX9, "changes", "(II)V"⟩
abbrev cX9_done : ByteArray := prog_11_method_70_code
def yX9_done : MethodName := ⟨RX9, "done", "(II)V"⟩
abbrev cX9_ends : ByteArray := prog_11_method_71_code
def yX9_ends : MethodName := ⟨RX9, "ends", "(I)J"⟩
abbrev cX9_two : ByteArray := prog_11_method_72_code
def yX9_two : MethodName := ⟨RX9, "two", "(II)V"⟩
abbrev cX9_writePair : ByteArray := prog_11_method_73_code
def yX9_writePair : MethodName := ⟨RX9, "writePair", "(I)I"⟩
abbrev cX9_writeTrain : ByteArray := prog_11_method_74_code
def yX9_writeTrain : MethodName := ⟨RX9, "writeTrain", "(I)I"⟩
abbrev cX9_paper : ByteArray := prog_11_method_75_code
def yX9_paper : MethodName := ⟨RX9, "paper", "(I)I"⟩
abbrev cX9_isList : ByteArray := prog_11_method_76_code
def yX9_isList : MethodName := ⟨RX9, "isList", "(I)Z"⟩
abbrev cX9_judge : ByteArray := prog_11_method_77_code
def yX9_judge : MethodName := ⟨RX9, "judge", "(I)I"⟩
abbrev cX9_list : ByteArray := prog_11_method_78_code
def yX9_list : MethodName := ⟨RX9, "list", "(II)I"⟩
abbrev cX9_put : ByteArray := prog_11_method_79_code
def yX9_put : MethodName := ⟨RX9, "put", "(IIJ)I"⟩
abbrev cX9_get : ByteArray := prog_11_method_80_code
def yX9_get : MethodName := ⟨RX9, "get", "(II)J"⟩
abbrev cX9_copies : ByteArray := prog_11_method_81_code
def yX9_copies : MethodName := ⟨RX9, "copies", "([I[I)V"⟩
abbrev cX9_image : ByteArray := prog_11_method_82_code
def yX9_image : MethodName := ⟨RX9, "image", "()I"⟩
abbrev cX9_undo : ByteArray := prog_11_method_83_code
def yX9_undo : MethodName := ⟨RX9, "undo", "()I"⟩
abbrev cX9_count : ByteArray := prog_11_method_84_code
def yX9_count : MethodName := ⟨RX9, "count", "(I)I"⟩
def RJ9 : String := "java/lang/Math"
def TJ9 : u_T := fun k => match k with
  | _ => ("", "", "", false)
def tyJ9 : Nat → FieldType := fun k => match k with
  | _ => .int
abbrev wsJ90 : List Cond := u_ws RJ9 TJ9 0
abbrev cJ9_floorMod_f86c9 : ByteArray := prog_12_method_52_code
def yJ9_floorMod_f86c9 : MethodName := ⟨RJ9, "floorMod", "(JJ)J"⟩
abbrev cJ9_abs_067f4 : ByteArray := prog_12_method_61_code
def yJ9_abs_067f4 : MethodName := ⟨RJ9, "abs", "(J)J"⟩
abbrev cJ9_max_7cf53 : ByteArray := prog_12_method_65_code
def yJ9_max_7cf53 : MethodName := ⟨RJ9, "max", "(II)I"⟩
abbrev cJ9_max_f86c9 : ByteArray := prog_12_method_66_code
def yJ9_max_f86c9 : MethodName := ⟨RJ9, "max", "(JJ)J"⟩
abbrev cJ9_min_7cf53 : ByteArray := prog_12_method_69_code
def yJ9_min_7cf53 : MethodName := ⟨RJ9, "min", "(II)I"⟩
abbrev cJ9_min_f86c9 : ByteArray := prog_12_method_70_code
def yJ9_min_f86c9 : MethodName := ⟨RJ9, "min", "(JJ)J"⟩
def RJ0 : String := "java/lang/String"
def TJ0 : u_T := fun k => match k with
  | _ => ("", "", "", false)
def tyJ0 : Nat → FieldType := fun k => match k with
  | _ => .int
abbrev wsJ00 : List Cond := u_ws RJ0 TJ0 0
abbrev cJ0_charAt_5068e : ByteArray := prog_13_method_56_code
def yJ0_charAt_5068e : MethodName := ⟨RJ0, "charAt", "(I)C"⟩
abbrev cJ0_isLatin1_aae02 : ByteArray := prog_13_method_154_code
def yJ0_isLatin1_aae02 : MethodName := ⟨RJ0, "isLatin1", "()Z"⟩
abbrev cJ0_checkIndex_df160 : ByteArray := prog_13_method_155_code
def yJ0_checkIndex_df160 : MethodName := ⟨RJ0, "checkIndex", "(II)V"⟩
def RJ1 : String := "java/lang/StringLatin1"
def TJ1 : u_T := fun k => match k with
  | _ => ("", "", "", false)
def tyJ1 : Nat → FieldType := fun k => match k with
  | _ => .int
abbrev wsJ10 : List Cond := u_ws RJ1 TJ1 0
abbrev cJ1_charAt_3b067 : ByteArray := prog_14_method_2_code
def yJ1_charAt_3b067 : MethodName := ⟨RJ1, "charAt", "([BI)C"⟩
def RJ2 : String := "java/lang/StringUTF16"
def TJ2 : u_T := fun k => match k with
  | _ => ("", "", "", false)
def tyJ2 : Nat → FieldType := fun k => match k with
  | _ => .int
abbrev wsJ20 : List Cond := u_ws RJ2 TJ2 0
abbrev cJ2_getChar_3b067 : ByteArray := prog_15_method_5_code
def yJ2_getChar_3b067 : MethodName := ⟨RJ2, "getChar", "([BI)C"⟩
abbrev cJ2_length_9d52b : ByteArray := prog_15_method_6_code
def yJ2_length_9d52b : MethodName := ⟨RJ2, "length", "([B)I"⟩
abbrev cJ2_charAt_3b067 : ByteArray := prog_15_method_83_code
def yJ2_charAt_3b067 : MethodName := ⟨RJ2, "charAt", "([BI)C"⟩
abbrev cJ2_checkIndex_2214a : ByteArray := prog_15_method_91_code
def yJ2_checkIndex_2214a : MethodName := ⟨RJ2, "checkIndex", "(I[B)V"⟩
def RJ3 : String := "jdk/internal/util/Preconditions"
def TJ3 : u_T := fun k => match k with
  | _ => ("", "", "", false)
def tyJ3 : Nat → FieldType := fun k => match k with
  | _ => .int
abbrev wsJ30 : List Cond := u_ws RJ3 TJ3 0
abbrev cJ3_checkIndex_8e157 : ByteArray := prog_16_method_11_code
def yJ3_checkIndex_8e157 : MethodName := ⟨RJ3, "checkIndex", "(IILjava/util/function/BiFunction;)I"⟩
def RL : String := "OrreryTrainsLaw"
abbrev cL_law : ByteArray := code
def yL_law : MethodName := ⟨RL, "law", "([I)Z"⟩
abbrev vwCl : List vw_C := [(RX0, TX0, 10), (RX1, TX1, 10), (RX2, TX2, 5), (RX3, TX3, 3), (RX4, TX4, 2), (RX5, TX5, 2), (RX6, TX6, 2), (RX7, TX7, 2), (RX8, TX8, 8), (RX9, TX9, 22)]
end
section
/-- the words of the tables that a callee can take over -/
def oTB : List Cond := lw_tbl.filter goodWord
theorem oTB_in {w : Cond} (h : w ∈ lw_tbl) (g : goodWord w = true) : w ∈ oTB := List.mem_filter.mpr ⟨h, g⟩
theorem oTB_lw {w : Cond} (h : w ∈ oTB) : w ∈ lw_tbl := (List.mem_filter.mp h).1
theorem oTB_good : ∀ w ∈ oTB, (w.onTables && w.keeps) = true ∨ ∃ ty, w = .arrayClass ty := fun _ h => good_of_word (List.mem_filter.mp h).2
theorem oTB_t {w : Cond} (h : w ∈ tables_1) (g : goodWord w = true) : w ∈ oTB := oTB_in (List.mem_append_right _ h) g
theorem oTB_s {q : MethodName × Nat} (h : q ∈ lw_privs) : Cond.selects q.1.cls q.1 q.1 ∈ oTB := oTB_in (List.mem_append_left _ (List.mem_map.mpr ⟨q, h, rfl⟩)) rfl
theorem oT1 {w : Cond} (i : Nat) (h : tables_1_1[i]? = some w) (g : goodWord w = true) : w ∈ oTB := oTB_t (List.mem_append_left _ (List.mem_of_getElem? h)) g
theorem oT2 {w : Cond} (i : Nat) (h : tables_1_2[i]? = some w) (g : goodWord w = true) : w ∈ oTB := oTB_t (List.mem_append_right _ (List.mem_append_left _ (List.mem_of_getElem? h))) g
theorem oT3 {w : Cond} (i : Nat) (h : tables_1_3[i]? = some w) (g : goodWord w = true) : w ∈ oTB := oTB_t (List.mem_append_right _ (List.mem_append_right _ (List.mem_append_left _ (List.mem_of_getElem? h)))) g
theorem oT4 {w : Cond} (i : Nat) (h : tables_1_4[i]? = some w) (g : goodWord w = true) : w ∈ oTB := oTB_t (List.mem_append_right _ (List.mem_append_right _ (List.mem_append_right _ (List.mem_append_left _ (List.mem_of_getElem? h))))) g
theorem oT5 {w : Cond} (i : Nat) (h : tables_1_5[i]? = some w) (g : goodWord w = true) : w ∈ oTB := oTB_t (List.mem_append_right _ (List.mem_append_right _ (List.mem_append_right _ (List.mem_append_right _ (List.mem_append_left _ (List.mem_of_getElem? h)))))) g
theorem oT6 {w : Cond} (i : Nat) (h : tables_1_6[i]? = some w) (g : goodWord w = true) : w ∈ oTB := oTB_t (List.mem_append_right _ (List.mem_append_right _ (List.mem_append_right _ (List.mem_append_right _ (List.mem_append_right _ (List.mem_of_getElem? h)))))) g
theorem wd_1_0 : Jvm.Cond.initialized "OrreryTrainsLaw" ∈ oTB := oT1 0 rfl rfl
theorem wd_1_1 : Jvm.Cond.initialized "OrreryTrains" ∈ oTB := oT1 1 rfl rfl
theorem wd_1_2 : Jvm.Cond.initialized "OrreryTrains$Orrery" ∈ oTB := oT1 2 rfl rfl
theorem wd_1_3 : Jvm.Cond.initialized "OrreryTrains$Pairs" ∈ oTB := oT1 3 rfl rfl
theorem wd_1_4 : Jvm.Cond.initialized "OrreryTrains$Trains" ∈ oTB := oT1 4 rfl rfl
theorem wd_1_5 : Jvm.Cond.initialized "OrreryTrains$Plan" ∈ oTB := oT1 5 rfl rfl
theorem wd_1_6 : Jvm.Cond.initialized "OrreryTrains$Tape" ∈ oTB := oT1 6 rfl rfl
theorem wd_1_7 : Jvm.Cond.initialized "OrreryTrains$Sheet" ∈ oTB := oT1 7 rfl rfl
theorem wd_1_8 : Jvm.Cond.initialized "OrreryTrains$Rows" ∈ oTB := oT1 8 rfl rfl
theorem wd_1_9 : Jvm.Cond.initialized "OrreryTrains$Finder" ∈ oTB := oT1 9 rfl rfl
theorem wd_1_10 : Jvm.Cond.initialized "OrreryTrainsModel" ∈ oTB := oT1 10 rfl rfl
theorem wd_1_11 : Jvm.Cond.initialized "java/lang/Math" ∈ oTB := oT1 11 rfl rfl
theorem wd_1_12 : Jvm.Cond.initialized "java/lang/String" ∈ oTB := oT1 12 rfl rfl
theorem wd_1_13 : Jvm.Cond.initialized "java/lang/StringLatin1" ∈ oTB := oT1 13 rfl rfl
theorem wd_1_14 : Jvm.Cond.initialized "jdk/internal/util/Preconditions" ∈ oTB := oT1 14 rfl rfl
theorem wd_1_15 : Jvm.Cond.initialized "java/lang/StringUTF16" ∈ oTB := oT1 15 rfl rfl
theorem wd_1_16 : Jvm.Cond.classLink "OrreryTrainsLaw" (7 : Nat) "OrreryTrains" ∈ oTB := oT1 16 rfl rfl
theorem wd_1_17 : Jvm.Cond.instantiable "OrreryTrains" (8 : Nat) ∈ oTB := oT1 17 rfl rfl
theorem wd_1_18 : Jvm.Cond.methodLink "OrreryTrainsLaw" (9 : Nat) ({ cls := "OrreryTrains", name := "<init>", desc := "()V" } : Jvm.MethodName) ∈ oTB := oT1 18 rfl rfl
theorem wd_1_19 : Jvm.Cond.instanceMethod ({ cls := "OrreryTrains", name := "<init>", desc := "()V" } : Jvm.MethodName) ∈ oTB := oT1 19 rfl rfl
theorem wd_1_20 : Jvm.Cond.code ({ cls := "OrreryTrains", name := "<init>", desc := "()V" } : Jvm.MethodName) prog_1_method_1_code (1 : Nat) (Option.none : Option Jvm.ClassFile.FieldType) ∈ oTB := oT1 20 rfl rfl
theorem wd_1_21 : Jvm.Cond.methodLink "OrreryTrains" (3 : Nat) ({ cls := "java/lang/Object", name := "<init>", desc := "()V" } : Jvm.MethodName) ∈ oTB := oT1 21 rfl rfl
theorem wd_1_22 : Jvm.Cond.instanceMethod ({ cls := "java/lang/Object", name := "<init>", desc := "()V" } : Jvm.MethodName) ∈ oTB := oT1 22 rfl rfl
theorem wd_1_23 : Jvm.Cond.code ({ cls := "java/lang/Object", name := "<init>", desc := "()V" } : Jvm.MethodName) object_method_1_code (1 : Nat) (Option.none : Option Jvm.ClassFile.FieldType) ∈ oTB := oT1 23 rfl rfl
theorem wd_1_24 : Jvm.Cond.classLink "OrreryTrains" (9 : Nat) "OrreryTrains$Orrery" ∈ oTB := oT1 24 rfl rfl
theorem wd_1_25 : Jvm.Cond.instantiable "OrreryTrains$Orrery" (10 : Nat) ∈ oTB := oT1 25 rfl rfl
theorem wd_1_27 : Jvm.Cond.instanceMethod ({ cls := "OrreryTrains$Orrery", name := "<init>", desc := "()V" } : Jvm.MethodName) ∈ oTB := oT1 27 rfl rfl
theorem wd_1_28 : Jvm.Cond.code ({ cls := "OrreryTrains$Orrery", name := "<init>", desc := "()V" } : Jvm.MethodName) prog_3_method_1_code (1 : Nat) (Option.none : Option Jvm.ClassFile.FieldType) ∈ oTB := oT1 28 rfl rfl
theorem wd_1_29 : Jvm.Cond.methodLink "OrreryTrains$Orrery" (3 : Nat) ({ cls := "java/lang/Object", name := "<init>", desc := "()V" } : Jvm.MethodName) ∈ oTB := oT1 29 rfl rfl
theorem wd_1_30 : Jvm.Cond.classLink "OrreryTrains$Orrery" (28 : Nat) "OrreryTrains$Pairs" ∈ oTB := oT1 30 rfl rfl
theorem wd_1_31 : Jvm.Cond.instantiable "OrreryTrains$Pairs" (5 : Nat) ∈ oTB := oT1 31 rfl rfl
theorem wd_1_33 : Jvm.Cond.instanceMethod ({ cls := "OrreryTrains$Pairs", name := "<init>", desc := "()V" } : Jvm.MethodName) ∈ oTB := oT1 33 rfl rfl
theorem wd_1_34 : Jvm.Cond.code ({ cls := "OrreryTrains$Pairs", name := "<init>", desc := "()V" } : Jvm.MethodName) prog_4_method_1_code (1 : Nat) (Option.none : Option Jvm.ClassFile.FieldType) ∈ oTB := oT1 34 rfl rfl
theorem wd_1_35 : Jvm.Cond.methodLink "OrreryTrains$Pairs" (3 : Nat) ({ cls := "java/lang/Object", name := "<init>", desc := "()V" } : Jvm.MethodName) ∈ oTB := oT1 35 rfl rfl
theorem wd_1_36 : Jvm.Cond.fieldLink "OrreryTrains$Pairs" (9 : Nat) "OrreryTrains$Pairs" "size" "I" ∈ oTB := oT1 36 rfl rfl
theorem wd_1_37 : Jvm.Cond.fieldLink "OrreryTrains" (139 : Nat) "OrreryTrains$Pairs" "size" "I" ∈ oTB := oT1 37 rfl rfl
theorem wd_1_38 : Jvm.Cond.fieldLink "OrreryTrains$Pairs" (15 : Nat) "OrreryTrains$Pairs" "kinds" "[I" ∈ oTB := oT1 38 rfl rfl
theorem wd_1_39 : Jvm.Cond.fieldLink "OrreryTrains" (151 : Nat) "OrreryTrains$Pairs" "kinds" "[I" ∈ oTB := oT1 39 rfl rfl
theorem wd_1_40 : Jvm.Cond.fieldLink "OrreryTrains$Pairs" (19 : Nat) "OrreryTrains$Pairs" "figures" "[I" ∈ oTB := oT1 40 rfl rfl
theorem wd_1_41 : Jvm.Cond.fieldLink "OrreryTrains" (154 : Nat) "OrreryTrains$Pairs" "figures" "[I" ∈ oTB := oT1 41 rfl rfl
theorem wd_1_42 : Jvm.Cond.fieldLink "OrreryTrains$Pairs" (22 : Nat) "OrreryTrains$Pairs" "drivers" "[I" ∈ oTB := oT1 42 rfl rfl
theorem wd_1_43 : Jvm.Cond.fieldLink "OrreryTrains$Orrery" (86 : Nat) "OrreryTrains$Pairs" "drivers" "[I" ∈ oTB := oT1 43 rfl rfl
theorem wd_1_44 : Jvm.Cond.fieldLink "OrreryTrains" (157 : Nat) "OrreryTrains$Pairs" "drivers" "[I" ∈ oTB := oT1 44 rfl rfl
theorem wd_1_45 : Jvm.Cond.fieldLink "OrreryTrains$Pairs" (25 : Nat) "OrreryTrains$Pairs" "drivens" "[I" ∈ oTB := oT1 45 rfl rfl
theorem wd_1_46 : Jvm.Cond.fieldLink "OrreryTrains$Orrery" (97 : Nat) "OrreryTrains$Pairs" "drivens" "[I" ∈ oTB := oT1 46 rfl rfl
theorem wd_1_47 : Jvm.Cond.fieldLink "OrreryTrains" (160 : Nat) "OrreryTrains$Pairs" "drivens" "[I" ∈ oTB := oT1 47 rfl rfl
theorem wd_1_60 : Jvm.Cond.classLink "OrreryTrains$Orrery" (35 : Nat) "OrreryTrains$Trains" ∈ oTB := oT1 60 rfl rfl
theorem wd_1_61 : Jvm.Cond.instantiable "OrreryTrains$Trains" (2 : Nat) ∈ oTB := oT1 61 rfl rfl
theorem wd_1_63 : Jvm.Cond.instanceMethod ({ cls := "OrreryTrains$Trains", name := "<init>", desc := "()V" } : Jvm.MethodName) ∈ oTB := oT1 63 rfl rfl
theorem wd_1_64 : Jvm.Cond.code ({ cls := "OrreryTrains$Trains", name := "<init>", desc := "()V" } : Jvm.MethodName) prog_9_method_1_code (1 : Nat) (Option.none : Option Jvm.ClassFile.FieldType) ∈ oTB := oT1 64 rfl rfl
theorem wd_1_65 : Jvm.Cond.methodLink "OrreryTrains$Trains" (3 : Nat) ({ cls := "java/lang/Object", name := "<init>", desc := "()V" } : Jvm.MethodName) ∈ oTB := oT1 65 rfl rfl
theorem wd_1_66 : Jvm.Cond.fieldLink "OrreryTrains$Trains" (9 : Nat) "OrreryTrains$Trains" "lengths" "[I" ∈ oTB := oT1 66 rfl rfl
theorem wd_1_67 : Jvm.Cond.fieldLink "OrreryTrains$Trains" (15 : Nat) "OrreryTrains$Trains" "places" "[I" ∈ oTB := oT1 67 rfl rfl
theorem wd_1_73 : Jvm.Cond.classLink "OrreryTrains$Orrery" (49 : Nat) "OrreryTrains$Plan" ∈ oTB := oT1 73 rfl rfl
theorem wd_1_74 : Jvm.Cond.instantiable "OrreryTrains$Plan" (3 : Nat) ∈ oTB := oT1 74 rfl rfl
theorem wd_1_76 : Jvm.Cond.instanceMethod ({ cls := "OrreryTrains$Plan", name := "<init>", desc := "()V" } : Jvm.MethodName) ∈ oTB := oT1 76 rfl rfl
theorem wd_1_77 : Jvm.Cond.code ({ cls := "OrreryTrains$Plan", name := "<init>", desc := "()V" } : Jvm.MethodName) prog_5_method_1_code (1 : Nat) (Option.none : Option Jvm.ClassFile.FieldType) ∈ oTB := oT1 77 rfl rfl
theorem wd_1_78 : Jvm.Cond.methodLink "OrreryTrains$Plan" (3 : Nat) ({ cls := "java/lang/Object", name := "<init>", desc := "()V" } : Jvm.MethodName) ∈ oTB := oT1 78 rfl rfl
theorem wd_1_79 : Jvm.Cond.fieldLink "OrreryTrains$Plan" (9 : Nat) "OrreryTrains$Plan" "size" "I" ∈ oTB := oT1 79 rfl rfl
theorem wd_1_80 : Jvm.Cond.fieldLink "OrreryTrains$Orrery" (137 : Nat) "OrreryTrains$Plan" "size" "I" ∈ oTB := oT1 80 rfl rfl
theorem wd_1_81 : Jvm.Cond.fieldLink "OrreryTrains" (293 : Nat) "OrreryTrains$Plan" "size" "I" ∈ oTB := oT1 81 rfl rfl
theorem wd_1_82 : Jvm.Cond.fieldLink "OrreryTrains$Plan" (15 : Nat) "OrreryTrains$Plan" "whats" "[I" ∈ oTB := oT1 82 rfl rfl
theorem wd_1_83 : Jvm.Cond.fieldLink "OrreryTrains$Orrery" (140 : Nat) "OrreryTrains$Plan" "whats" "[I" ∈ oTB := oT1 83 rfl rfl
theorem wd_1_84 : Jvm.Cond.fieldLink "OrreryTrains$Plan" (19 : Nat) "OrreryTrains$Plan" "values" "[I" ∈ oTB := oT1 84 rfl rfl
theorem wd_1_85 : Jvm.Cond.fieldLink "OrreryTrains$Orrery" (143 : Nat) "OrreryTrains$Plan" "values" "[I" ∈ oTB := oT1 85 rfl rfl
theorem wd_1_93 : Jvm.Cond.fieldLink "OrreryTrains$Orrery" (9 : Nat) "OrreryTrains$Orrery" "bodies" "I" ∈ oTB := oT1 93 rfl rfl
theorem wd_1_94 : Jvm.Cond.fieldLink "OrreryTrains" (60 : Nat) "OrreryTrains$Orrery" "bodies" "I" ∈ oTB := oT1 94 rfl rfl
theorem wd_1_95 : Jvm.Cond.fieldLink "OrreryTrains$Orrery" (15 : Nat) "OrreryTrains$Orrery" "above" "[I" ∈ oTB := oT1 95 rfl rfl
theorem wd_1_96 : Jvm.Cond.fieldLink "OrreryTrains" (72 : Nat) "OrreryTrains$Orrery" "above" "[I" ∈ oTB := oT1 96 rfl rfl
theorem wd_1_97 : Jvm.Cond.fieldLink "OrreryTrains$Orrery" (19 : Nat) "OrreryTrains$Orrery" "below" "[I" ∈ oTB := oT1 97 rfl rfl
theorem wd_1_98 : Jvm.Cond.fieldLink "OrreryTrains" (80 : Nat) "OrreryTrains$Orrery" "below" "[I" ∈ oTB := oT1 98 rfl rfl
theorem wd_1_99 : Jvm.Cond.fieldLink "OrreryTrains$Orrery" (22 : Nat) "OrreryTrains$Orrery" "least" "I" ∈ oTB := oT1 99 rfl rfl
theorem wd_1_100 : Jvm.Cond.fieldLink "OrreryTrains" (105 : Nat) "OrreryTrains$Orrery" "least" "I" ∈ oTB := oT1 100 rfl rfl
theorem wd_1_101 : Jvm.Cond.fieldLink "OrreryTrains$Orrery" (25 : Nat) "OrreryTrains$Orrery" "most" "I" ∈ oTB := oT1 101 rfl rfl
theorem wd_1_102 : Jvm.Cond.fieldLink "OrreryTrains" (108 : Nat) "OrreryTrains$Orrery" "most" "I" ∈ oTB := oT1 102 rfl rfl
theorem wd_1_103 : Jvm.Cond.fieldLink "OrreryTrains$Orrery" (31 : Nat) "OrreryTrains$Orrery" "pairs" "LOrreryTrains$Pairs;" ∈ oTB := oT1 103 rfl rfl
theorem wd_1_104 : Jvm.Cond.fieldLink "OrreryTrains" (135 : Nat) "OrreryTrains$Orrery" "pairs" "LOrreryTrains$Pairs;" ∈ oTB := oT1 104 rfl rfl
theorem wd_1_105 : Jvm.Cond.fieldLink "OrreryTrains$Orrery" (38 : Nat) "OrreryTrains$Orrery" "trains" "LOrreryTrains$Trains;" ∈ oTB := oT1 105 rfl rfl
theorem wd_1_106 : Jvm.Cond.fieldLink "OrreryTrains" (170 : Nat) "OrreryTrains$Orrery" "trains" "LOrreryTrains$Trains;" ∈ oTB := oT1 106 rfl rfl
theorem wd_1_107 : Jvm.Cond.fieldLink "OrreryTrains$Orrery" (42 : Nat) "OrreryTrains$Orrery" "turn" "I" ∈ oTB := oT1 107 rfl rfl
theorem wd_1_108 : Jvm.Cond.fieldLink "OrreryTrains" (260 : Nat) "OrreryTrains$Orrery" "turn" "I" ∈ oTB := oT1 108 rfl rfl
theorem wd_1_109 : Jvm.Cond.fieldLink "OrreryTrains$Orrery" (45 : Nat) "OrreryTrains$Orrery" "back" "Z" ∈ oTB := oT1 109 rfl rfl
theorem wd_1_110 : Jvm.Cond.fieldLink "OrreryTrains" (267 : Nat) "OrreryTrains$Orrery" "back" "Z" ∈ oTB := oT1 110 rfl rfl
theorem wd_1_111 : Jvm.Cond.fieldLink "OrreryTrains$Orrery" (52 : Nat) "OrreryTrains$Orrery" "plan" "LOrreryTrains$Plan;" ∈ oTB := oT1 111 rfl rfl
theorem wd_1_112 : Jvm.Cond.fieldLink "OrreryTrains" (289 : Nat) "OrreryTrains$Orrery" "plan" "LOrreryTrains$Plan;" ∈ oTB := oT1 112 rfl rfl
theorem wd_1_134 : Jvm.Cond.classLink "OrreryTrains" (28 : Nat) "OrreryTrains$Tape" ∈ oTB := oT1 134 rfl rfl
theorem wd_1_135 : Jvm.Cond.instantiable "OrreryTrains$Tape" (2 : Nat) ∈ oTB := oT1 135 rfl rfl
theorem wd_1_137 : Jvm.Cond.instanceMethod ({ cls := "OrreryTrains$Tape", name := "<init>", desc := "()V" } : Jvm.MethodName) ∈ oTB := oT1 137 rfl rfl
theorem wd_1_138 : Jvm.Cond.code ({ cls := "OrreryTrains$Tape", name := "<init>", desc := "()V" } : Jvm.MethodName) prog_8_method_1_code (1 : Nat) (Option.none : Option Jvm.ClassFile.FieldType) ∈ oTB := oT1 138 rfl rfl
theorem wd_1_139 : Jvm.Cond.methodLink "OrreryTrains$Tape" (3 : Nat) ({ cls := "java/lang/Object", name := "<init>", desc := "()V" } : Jvm.MethodName) ∈ oTB := oT1 139 rfl rfl
theorem wd_1_140 : Jvm.Cond.fieldLink "OrreryTrains$Tape" (9 : Nat) "OrreryTrains$Tape" "length" "I" ∈ oTB := oT1 140 rfl rfl
theorem wd_1_141 : Jvm.Cond.fieldLink "OrreryTrains" (118 : Nat) "OrreryTrains$Tape" "length" "I" ∈ oTB := oT1 141 rfl rfl
theorem wd_1_142 : Jvm.Cond.fieldLink "OrreryTrains$Tape" (15 : Nat) "OrreryTrains$Tape" "bytes" "[I" ∈ oTB := oT1 142 rfl rfl
theorem wd_1_143 : Jvm.Cond.fieldLink "OrreryTrains" (121 : Nat) "OrreryTrains$Tape" "bytes" "[I" ∈ oTB := oT1 143 rfl rfl
theorem wd_1_149 : Jvm.Cond.classLink "OrreryTrains" (35 : Nat) "OrreryTrains$Sheet" ∈ oTB := oT1 149 rfl rfl
theorem wd_1_150 : Jvm.Cond.instantiable "OrreryTrains$Sheet" (2 : Nat) ∈ oTB := oT1 150 rfl rfl
theorem wd_1_152 : Jvm.Cond.instanceMethod ({ cls := "OrreryTrains$Sheet", name := "<init>", desc := "()V" } : Jvm.MethodName) ∈ oTB := oT1 152 rfl rfl
theorem wd_1_153 : Jvm.Cond.code ({ cls := "OrreryTrains$Sheet", name := "<init>", desc := "()V" } : Jvm.MethodName) prog_7_method_1_code (1 : Nat) (Option.none : Option Jvm.ClassFile.FieldType) ∈ oTB := oT1 153 rfl rfl
theorem wd_1_154 : Jvm.Cond.methodLink "OrreryTrains$Sheet" (3 : Nat) ({ cls := "java/lang/Object", name := "<init>", desc := "()V" } : Jvm.MethodName) ∈ oTB := oT1 154 rfl rfl
theorem wd_1_155 : Jvm.Cond.fieldLink "OrreryTrains$Sheet" (9 : Nat) "OrreryTrains$Sheet" "length" "I" ∈ oTB := oT1 155 rfl rfl
theorem wd_1_156 : Jvm.Cond.fieldLink "OrreryTrains" (305 : Nat) "OrreryTrains$Sheet" "length" "I" ∈ oTB := oT1 156 rfl rfl
theorem wd_1_157 : Jvm.Cond.fieldLink "OrreryTrains$Sheet" (15 : Nat) "OrreryTrains$Sheet" "bytes" "[I" ∈ oTB := oT1 157 rfl rfl
theorem wd_1_158 : Jvm.Cond.fieldLink "OrreryTrains" (314 : Nat) "OrreryTrains$Sheet" "bytes" "[I" ∈ oTB := oT1 158 rfl rfl
theorem wd_1_164 : Jvm.Cond.classLink "OrreryTrains" (42 : Nat) "OrreryTrains$Rows" ∈ oTB := oT1 164 rfl rfl
theorem wd_1_165 : Jvm.Cond.instantiable "OrreryTrains$Rows" (2 : Nat) ∈ oTB := oT1 165 rfl rfl
theorem wd_1_167 : Jvm.Cond.instanceMethod ({ cls := "OrreryTrains$Rows", name := "<init>", desc := "()V" } : Jvm.MethodName) ∈ oTB := oT1 167 rfl rfl
theorem wd_1_168 : Jvm.Cond.code ({ cls := "OrreryTrains$Rows", name := "<init>", desc := "()V" } : Jvm.MethodName) prog_6_method_1_code (1 : Nat) (Option.none : Option Jvm.ClassFile.FieldType) ∈ oTB := oT1 168 rfl rfl
theorem wd_1_169 : Jvm.Cond.methodLink "OrreryTrains$Rows" (3 : Nat) ({ cls := "java/lang/Object", name := "<init>", desc := "()V" } : Jvm.MethodName) ∈ oTB := oT1 169 rfl rfl
theorem wd_1_170 : Jvm.Cond.fieldLink "OrreryTrains$Rows" (9 : Nat) "OrreryTrains$Rows" "sizes" "[I" ∈ oTB := oT1 170 rfl rfl
theorem wd_1_171 : Jvm.Cond.fieldLink "OrreryTrains$Rows" (15 : Nat) "OrreryTrains$Rows" "cells" "[J" ∈ oTB := oT1 171 rfl rfl
theorem wd_1_178 : Jvm.Cond.classLink "OrreryTrains" (49 : Nat) "OrreryTrains$Finder" ∈ oTB := oT1 178 rfl rfl
theorem wd_1_179 : Jvm.Cond.instantiable "OrreryTrains$Finder" (10 : Nat) ∈ oTB := oT1 179 rfl rfl
theorem wd_1_181 : Jvm.Cond.instanceMethod ({ cls := "OrreryTrains$Finder", name := "<init>", desc := "()V" } : Jvm.MethodName) ∈ oTB := oT1 181 rfl rfl
theorem wd_1_182 : Jvm.Cond.code ({ cls := "OrreryTrains$Finder", name := "<init>", desc := "()V" } : Jvm.MethodName) prog_2_method_1_code (1 : Nat) (Option.none : Option Jvm.ClassFile.FieldType) ∈ oTB := oT1 182 rfl rfl
theorem wd_1_183 : Jvm.Cond.methodLink "OrreryTrains$Finder" (1 : Nat) ({ cls := "java/lang/Object", name := "<init>", desc := "()V" } : Jvm.MethodName) ∈ oTB := oT1 183 rfl rfl
theorem wd_1_184 : Jvm.Cond.fieldLink "OrreryTrains$Finder" (7 : Nat) "OrreryTrains$Finder" "above" "J" ∈ oTB := oT1 184 rfl rfl
theorem wd_1_185 : Jvm.Cond.fieldLink "OrreryTrains$Finder" (13 : Nat) "OrreryTrains$Finder" "below" "J" ∈ oTB := oT1 185 rfl rfl
theorem wd_1_186 : Jvm.Cond.fieldLink "OrreryTrains$Finder" (16 : Nat) "OrreryTrains$Finder" "least" "I" ∈ oTB := oT1 186 rfl rfl
theorem wd_1_187 : Jvm.Cond.fieldLink "OrreryTrains$Finder" (20 : Nat) "OrreryTrains$Finder" "most" "I" ∈ oTB := oT1 187 rfl rfl
theorem wd_1_188 : Jvm.Cond.fieldLink "OrreryTrains$Finder" (23 : Nat) "OrreryTrains$Finder" "lesserDriver" "I" ∈ oTB := oT1 188 rfl rfl
theorem wd_1_189 : Jvm.Cond.fieldLink "OrreryTrains$Finder" (26 : Nat) "OrreryTrains$Finder" "greaterDriver" "I" ∈ oTB := oT1 189 rfl rfl
theorem wd_1_190 : Jvm.Cond.fieldLink "OrreryTrains$Finder" (29 : Nat) "OrreryTrains$Finder" "lesserDriven" "I" ∈ oTB := oT1 190 rfl rfl
theorem wd_1_191 : Jvm.Cond.fieldLink "OrreryTrains$Finder" (32 : Nat) "OrreryTrains$Finder" "greaterDriven" "I" ∈ oTB := oT1 191 rfl rfl
theorem wd_1_192 : Jvm.Cond.fieldLink "OrreryTrains$Finder" (35 : Nat) "OrreryTrains$Finder" "off" "J" ∈ oTB := oT1 192 rfl rfl
theorem wd_1_193 : Jvm.Cond.fieldLink "OrreryTrains$Finder" (38 : Nat) "OrreryTrains$Finder" "drivens" "J" ∈ oTB := oT1 193 rfl rfl
theorem wd_1_215 : Jvm.Cond.fieldLink "OrreryTrains" (12 : Nat) "OrreryTrains" "now" "LOrreryTrains$Orrery;" ∈ oTB := oT1 215 rfl rfl
theorem wd_1_216 : Jvm.Cond.fieldLink "OrreryTrains" (18 : Nat) "OrreryTrains" "kept" "LOrreryTrains$Orrery;" ∈ oTB := oT1 216 rfl rfl
theorem wd_1_217 : Jvm.Cond.fieldLink "OrreryTrains" (21 : Nat) "OrreryTrains" "thought" "LOrreryTrains$Orrery;" ∈ oTB := oT1 217 rfl rfl
theorem wd_1_218 : Jvm.Cond.fieldLink "OrreryTrains" (24 : Nat) "OrreryTrains" "imaged" "Z" ∈ oTB := oT1 218 rfl rfl
theorem wd_1_219 : Jvm.Cond.fieldLink "OrreryTrains" (31 : Nat) "OrreryTrains" "tape" "LOrreryTrains$Tape;" ∈ oTB := oT1 219 rfl rfl
theorem wd_1_220 : Jvm.Cond.fieldLink "OrreryTrains" (38 : Nat) "OrreryTrains" "sheet" "LOrreryTrains$Sheet;" ∈ oTB := oT1 220 rfl rfl
theorem wd_1_221 : Jvm.Cond.fieldLink "OrreryTrains" (45 : Nat) "OrreryTrains" "rows" "LOrreryTrains$Rows;" ∈ oTB := oT1 221 rfl rfl
theorem wd_1_222 : Jvm.Cond.fieldLink "OrreryTrains" (52 : Nat) "OrreryTrains" "finder" "LOrreryTrains$Finder;" ∈ oTB := oT1 222 rfl rfl
theorem wd_2_0 : Jvm.Cond.methodLink "OrreryTrainsLaw" (13 : Nat) ({ cls := "OrreryTrains", name := "body", desc := "(II)I" } : Jvm.MethodName) ∈ oTB := oT2 0 rfl rfl
theorem wd_2_1 : Jvm.Cond.instanceMethod ({ cls := "OrreryTrains", name := "body", desc := "(II)I" } : Jvm.MethodName) ∈ oTB := oT2 1 rfl rfl
theorem wd_2_2 : Jvm.Cond.selects "OrreryTrains" ({ cls := "OrreryTrains", name := "body", desc := "(II)I" } : Jvm.MethodName) ({ cls := "OrreryTrains", name := "body", desc := "(II)I" } : Jvm.MethodName) ∈ oTB := oT2 2 rfl rfl
theorem wd_2_3 : Jvm.Cond.code ({ cls := "OrreryTrains", name := "body", desc := "(II)I" } : Jvm.MethodName) prog_1_method_2_code (3 : Nat) (Option.some Jvm.ClassFile.FieldType.int) ∈ oTB := oT2 3 rfl rfl
theorem wd_2_4 : Jvm.Cond.methodLink "OrreryTrains" (56 : Nat) ({ cls := "OrreryTrains", name := "isRatio", desc := "(II)Z" } : Jvm.MethodName) ∈ oTB := oT2 4 rfl rfl
theorem wd_2_5 : Jvm.Cond.static ({ cls := "OrreryTrains", name := "isRatio", desc := "(II)Z" } : Jvm.MethodName) ∈ oTB := oT2 5 rfl rfl
theorem wd_2_6 : Jvm.Cond.code ({ cls := "OrreryTrains", name := "isRatio", desc := "(II)Z" } : Jvm.MethodName) prog_1_method_51_code (2 : Nat) (Option.some Jvm.ClassFile.FieldType.boolean) ∈ oTB := oT2 6 rfl rfl
theorem wd_2_7 : Jvm.Cond.methodLink "OrreryTrains" (64 : Nat) ({ cls := "OrreryTrains$Orrery", name := "wish", desc := "(III)V" } : Jvm.MethodName) ∈ oTB := oT2 7 rfl rfl
theorem wd_2_8 : Jvm.Cond.instanceMethod ({ cls := "OrreryTrains$Orrery", name := "wish", desc := "(III)V" } : Jvm.MethodName) ∈ oTB := oT2 8 rfl rfl
theorem wd_2_9 : Jvm.Cond.selects "OrreryTrains$Orrery" ({ cls := "OrreryTrains$Orrery", name := "wish", desc := "(III)V" } : Jvm.MethodName) ({ cls := "OrreryTrains$Orrery", name := "wish", desc := "(III)V" } : Jvm.MethodName) ∈ oTB := oT2 9 rfl rfl
theorem wd_2_10 : Jvm.Cond.code ({ cls := "OrreryTrains$Orrery", name := "wish", desc := "(III)V" } : Jvm.MethodName) prog_3_method_5_code (4 : Nat) (Option.none : Option Jvm.ClassFile.FieldType) ∈ oTB := oT2 10 rfl rfl
theorem wd_2_12 : Jvm.Cond.static ({ cls := "OrreryTrains", name := "lowest", desc := "(JJI)J" } : Jvm.MethodName) ∈ oTB := oT2 12 rfl rfl
theorem wd_2_13 : Jvm.Cond.code ({ cls := "OrreryTrains", name := "lowest", desc := "(JJI)J" } : Jvm.MethodName) prog_1_method_65_code (7 : Nat) (Option.some Jvm.ClassFile.FieldType.long) ∈ oTB := oT2 13 rfl rfl
theorem wd_2_14 : Jvm.Cond.methodLink "OrreryTrains" (96 : Nat) ({ cls := "java/lang/Math", name := "abs", desc := "(J)J" } : Jvm.MethodName) ∈ oTB := oT2 14 rfl rfl
theorem wd_2_15 : Jvm.Cond.static ({ cls := "java/lang/Math", name := "abs", desc := "(J)J" } : Jvm.MethodName) ∈ oTB := oT2 15 rfl rfl
theorem wd_2_16 : Jvm.Cond.code ({ cls := "java/lang/Math", name := "abs", desc := "(J)J" } : Jvm.MethodName) prog_12_method_61_code (2 : Nat) (Option.some Jvm.ClassFile.FieldType.long) ∈ oTB := oT2 16 rfl rfl
theorem wd_2_17 : Jvm.Cond.methodLink "OrreryTrains" (273 : Nat) ({ cls := "OrreryTrains", name := "greatestCommon", desc := "(JJ)J" } : Jvm.MethodName) ∈ oTB := oT2 17 rfl rfl
theorem wd_2_18 : Jvm.Cond.static ({ cls := "OrreryTrains", name := "greatestCommon", desc := "(JJ)J" } : Jvm.MethodName) ∈ oTB := oT2 18 rfl rfl
theorem wd_2_19 : Jvm.Cond.code ({ cls := "OrreryTrains", name := "greatestCommon", desc := "(JJ)J" } : Jvm.MethodName) prog_1_method_66_code (11 : Nat) (Option.some Jvm.ClassFile.FieldType.long) ∈ oTB := oT2 19 rfl rfl
theorem wd_2_20 : Jvm.Cond.methodLink "OrreryTrains" (92 : Nat) ({ cls := "OrreryTrains", name := "quotient", desc := "(JJ)J" } : Jvm.MethodName) ∈ oTB := oT2 20 rfl rfl
theorem wd_2_21 : Jvm.Cond.static ({ cls := "OrreryTrains", name := "quotient", desc := "(JJ)J" } : Jvm.MethodName) ∈ oTB := oT2 21 rfl rfl
theorem wd_2_22 : Jvm.Cond.code ({ cls := "OrreryTrains", name := "quotient", desc := "(JJ)J" } : Jvm.MethodName) prog_1_method_64_code (4 : Nat) (Option.some Jvm.ClassFile.FieldType.long) ∈ oTB := oT2 22 rfl rfl
theorem wd_2_24 : Jvm.Cond.static ({ cls := "OrreryTrains", name := "set", desc := "([III)V" } : Jvm.MethodName) ∈ oTB := oT2 24 rfl rfl
theorem wd_2_25 : Jvm.Cond.code ({ cls := "OrreryTrains", name := "set", desc := "([III)V" } : Jvm.MethodName) prog_1_method_62_code (3 : Nat) (Option.none : Option Jvm.ClassFile.FieldType) ∈ oTB := oT2 25 rfl rfl
theorem wd_2_26 : Jvm.Cond.methodLink "OrreryTrainsLaw" (18 : Nat) ({ cls := "OrreryTrains", name := "ratio", desc := "(III)I" } : Jvm.MethodName) ∈ oTB := oT2 26 rfl rfl
theorem wd_2_27 : Jvm.Cond.instanceMethod ({ cls := "OrreryTrains", name := "ratio", desc := "(III)I" } : Jvm.MethodName) ∈ oTB := oT2 27 rfl rfl
theorem wd_2_28 : Jvm.Cond.selects "OrreryTrains" ({ cls := "OrreryTrains", name := "ratio", desc := "(III)I" } : Jvm.MethodName) ({ cls := "OrreryTrains", name := "ratio", desc := "(III)I" } : Jvm.MethodName) ∈ oTB := oT2 28 rfl rfl
theorem wd_2_29 : Jvm.Cond.code ({ cls := "OrreryTrains", name := "ratio", desc := "(III)I" } : Jvm.MethodName) prog_1_method_3_code (5 : Nat) (Option.some Jvm.ClassFile.FieldType.int) ∈ oTB := oT2 29 rfl rfl
theorem wd_2_30 : Jvm.Cond.methodLink "OrreryTrains" (68 : Nat) ({ cls := "OrreryTrains$Orrery", name := "hasBody", desc := "(I)Z" } : Jvm.MethodName) ∈ oTB := oT2 30 rfl rfl
theorem wd_2_31 : Jvm.Cond.instanceMethod ({ cls := "OrreryTrains$Orrery", name := "hasBody", desc := "(I)Z" } : Jvm.MethodName) ∈ oTB := oT2 31 rfl rfl
theorem wd_2_32 : Jvm.Cond.selects "OrreryTrains$Orrery" ({ cls := "OrreryTrains$Orrery", name := "hasBody", desc := "(I)Z" } : Jvm.MethodName) ({ cls := "OrreryTrains$Orrery", name := "hasBody", desc := "(I)Z" } : Jvm.MethodName) ∈ oTB := oT2 32 rfl rfl
theorem wd_2_33 : Jvm.Cond.code ({ cls := "OrreryTrains$Orrery", name := "hasBody", desc := "(I)Z" } : Jvm.MethodName) prog_3_method_3_code (2 : Nat) (Option.some Jvm.ClassFile.FieldType.boolean) ∈ oTB := oT2 33 rfl rfl
theorem wd_2_34 : Jvm.Cond.methodLink "OrreryTrains" (76 : Nat) ({ cls := "OrreryTrains", name := "at", desc := "([II)I" } : Jvm.MethodName) ∈ oTB := oT2 34 rfl rfl
theorem wd_2_35 : Jvm.Cond.static ({ cls := "OrreryTrains", name := "at", desc := "([II)I" } : Jvm.MethodName) ∈ oTB := oT2 35 rfl rfl
theorem wd_2_36 : Jvm.Cond.code ({ cls := "OrreryTrains", name := "at", desc := "([II)I" } : Jvm.MethodName) prog_1_method_61_code (2 : Nat) (Option.some Jvm.ClassFile.FieldType.int) ∈ oTB := oT2 36 rfl rfl
theorem wd_2_37 : Jvm.Cond.methodLink "OrreryTrainsLaw" (23 : Nat) ({ cls := "OrreryTrains", name := "term", desc := "(II)I" } : Jvm.MethodName) ∈ oTB := oT2 37 rfl rfl
theorem wd_2_38 : Jvm.Cond.instanceMethod ({ cls := "OrreryTrains", name := "term", desc := "(II)I" } : Jvm.MethodName) ∈ oTB := oT2 38 rfl rfl
theorem wd_2_39 : Jvm.Cond.selects "OrreryTrains" ({ cls := "OrreryTrains", name := "term", desc := "(II)I" } : Jvm.MethodName) ({ cls := "OrreryTrains", name := "term", desc := "(II)I" } : Jvm.MethodName) ∈ oTB := oT2 39 rfl rfl
theorem wd_2_40 : Jvm.Cond.code ({ cls := "OrreryTrains", name := "term", desc := "(II)I" } : Jvm.MethodName) prog_1_method_4_code (8 : Nat) (Option.some Jvm.ClassFile.FieldType.int) ∈ oTB := oT2 40 rfl rfl
theorem wd_2_41 : Jvm.Cond.methodLink "OrreryTrainsLaw" (27 : Nat) ({ cls := "OrreryTrains", name := "convergent", desc := "(III)J" } : Jvm.MethodName) ∈ oTB := oT2 41 rfl rfl
theorem wd_2_42 : Jvm.Cond.instanceMethod ({ cls := "OrreryTrains", name := "convergent", desc := "(III)J" } : Jvm.MethodName) ∈ oTB := oT2 42 rfl rfl
theorem wd_2_43 : Jvm.Cond.selects "OrreryTrains" ({ cls := "OrreryTrains", name := "convergent", desc := "(III)J" } : Jvm.MethodName) ({ cls := "OrreryTrains", name := "convergent", desc := "(III)J" } : Jvm.MethodName) ∈ oTB := oT2 43 rfl rfl
theorem wd_2_44 : Jvm.Cond.code ({ cls := "OrreryTrains", name := "convergent", desc := "(III)J" } : Jvm.MethodName) prog_1_method_5_code (22 : Nat) (Option.some Jvm.ClassFile.FieldType.long) ∈ oTB := oT2 44 rfl rfl
theorem wd_2_45 : Jvm.Cond.methodLink "OrreryTrains" (83 : Nat) ({ cls := "OrreryTrains", name := "isPart", desc := "(I)Z" } : Jvm.MethodName) ∈ oTB := oT2 45 rfl rfl
theorem wd_2_46 : Jvm.Cond.static ({ cls := "OrreryTrains", name := "isPart", desc := "(I)Z" } : Jvm.MethodName) ∈ oTB := oT2 46 rfl rfl
theorem wd_2_47 : Jvm.Cond.code ({ cls := "OrreryTrains", name := "isPart", desc := "(I)Z" } : Jvm.MethodName) prog_1_method_52_code (1 : Nat) (Option.some Jvm.ClassFile.FieldType.boolean) ∈ oTB := oT2 47 rfl rfl
theorem wd_2_48 : Jvm.Cond.constantLong "OrreryTrains" (86 : Nat) (-9223372036854775808 : Int64) ∈ oTB := oT2 48 rfl rfl
theorem wd_2_49 : Jvm.Cond.methodLink "OrreryTrains" (88 : Nat) ({ cls := "OrreryTrains", name := "lowest", desc := "(JJI)J" } : Jvm.MethodName) ∈ oTB := oT2 49 rfl rfl
theorem wd_2_50 : Jvm.Cond.methodLink "OrreryTrainsLaw" (32 : Nat) ({ cls := "OrreryTrains", name := "near", desc := "(III)J" } : Jvm.MethodName) ∈ oTB := oT2 50 rfl rfl
theorem wd_2_51 : Jvm.Cond.instanceMethod ({ cls := "OrreryTrains", name := "near", desc := "(III)J" } : Jvm.MethodName) ∈ oTB := oT2 51 rfl rfl
theorem wd_2_52 : Jvm.Cond.selects "OrreryTrains" ({ cls := "OrreryTrains", name := "near", desc := "(III)J" } : Jvm.MethodName) ({ cls := "OrreryTrains", name := "near", desc := "(III)J" } : Jvm.MethodName) ∈ oTB := oT2 52 rfl rfl
theorem wd_2_53 : Jvm.Cond.code ({ cls := "OrreryTrains", name := "near", desc := "(III)J" } : Jvm.MethodName) prog_1_method_6_code (18 : Nat) (Option.some Jvm.ClassFile.FieldType.long) ∈ oTB := oT2 53 rfl rfl
theorem wd_2_54 : Jvm.Cond.methodLink "OrreryTrainsLaw" (36 : Nat) ({ cls := "OrreryTrains", name := "bounds", desc := "(II)I" } : Jvm.MethodName) ∈ oTB := oT2 54 rfl rfl
theorem wd_2_55 : Jvm.Cond.instanceMethod ({ cls := "OrreryTrains", name := "bounds", desc := "(II)I" } : Jvm.MethodName) ∈ oTB := oT2 55 rfl rfl
theorem wd_2_56 : Jvm.Cond.selects "OrreryTrains" ({ cls := "OrreryTrains", name := "bounds", desc := "(II)I" } : Jvm.MethodName) ({ cls := "OrreryTrains", name := "bounds", desc := "(II)I" } : Jvm.MethodName) ∈ oTB := oT2 56 rfl rfl
theorem wd_2_57 : Jvm.Cond.code ({ cls := "OrreryTrains", name := "bounds", desc := "(II)I" } : Jvm.MethodName) prog_1_method_7_code (4 : Nat) (Option.some Jvm.ClassFile.FieldType.int) ∈ oTB := oT2 57 rfl rfl
theorem wd_2_58 : Jvm.Cond.methodLink "OrreryTrains" (102 : Nat) ({ cls := "OrreryTrains", name := "isTeeth", desc := "(I)Z" } : Jvm.MethodName) ∈ oTB := oT2 58 rfl rfl
theorem wd_2_59 : Jvm.Cond.static ({ cls := "OrreryTrains", name := "isTeeth", desc := "(I)Z" } : Jvm.MethodName) ∈ oTB := oT2 59 rfl rfl
theorem wd_2_60 : Jvm.Cond.code ({ cls := "OrreryTrains", name := "isTeeth", desc := "(I)Z" } : Jvm.MethodName) prog_1_method_53_code (1 : Nat) (Option.some Jvm.ClassFile.FieldType.boolean) ∈ oTB := oT2 60 rfl rfl
theorem wd_2_61 : Jvm.Cond.methodLink "OrreryTrainsLaw" (40 : Nat) ({ cls := "OrreryTrains", name := "split", desc := "(III)I" } : Jvm.MethodName) ∈ oTB := oT2 61 rfl rfl
theorem wd_2_62 : Jvm.Cond.instanceMethod ({ cls := "OrreryTrains", name := "split", desc := "(III)I" } : Jvm.MethodName) ∈ oTB := oT2 62 rfl rfl
theorem wd_2_63 : Jvm.Cond.selects "OrreryTrains" ({ cls := "OrreryTrains", name := "split", desc := "(III)I" } : Jvm.MethodName) ({ cls := "OrreryTrains", name := "split", desc := "(III)I" } : Jvm.MethodName) ∈ oTB := oT2 63 rfl rfl
theorem wd_2_64 : Jvm.Cond.code ({ cls := "OrreryTrains", name := "split", desc := "(III)I" } : Jvm.MethodName) prog_1_method_8_code (7 : Nat) (Option.some Jvm.ClassFile.FieldType.int) ∈ oTB := oT2 64 rfl rfl
theorem wd_2_65 : Jvm.Cond.methodLink "OrreryTrains" (111 : Nat) ({ cls := "OrreryTrains", name := "splitIntoOne", desc := "(II)I" } : Jvm.MethodName) ∈ oTB := oT2 65 rfl rfl
theorem wd_2_67 : Jvm.Cond.instanceMethod ({ cls := "OrreryTrains", name := "splitIntoOne", desc := "(II)I" } : Jvm.MethodName) ∈ oTB := oT2 67 rfl rfl
theorem wd_2_68 : Jvm.Cond.code ({ cls := "OrreryTrains", name := "splitIntoOne", desc := "(II)I" } : Jvm.MethodName) prog_1_method_46_code (3 : Nat) (Option.some Jvm.ClassFile.FieldType.int) ∈ oTB := oT2 68 rfl rfl
theorem wd_2_69 : Jvm.Cond.methodLink "OrreryTrains" (115 : Nat) ({ cls := "OrreryTrains", name := "splitIntoTwo", desc := "(II)I" } : Jvm.MethodName) ∈ oTB := oT2 69 rfl rfl
theorem wd_2_71 : Jvm.Cond.instanceMethod ({ cls := "OrreryTrains", name := "splitIntoTwo", desc := "(II)I" } : Jvm.MethodName) ∈ oTB := oT2 71 rfl rfl
theorem wd_2_72 : Jvm.Cond.code ({ cls := "OrreryTrains", name := "splitIntoTwo", desc := "(II)I" } : Jvm.MethodName) prog_1_method_47_code (4 : Nat) (Option.some Jvm.ClassFile.FieldType.int) ∈ oTB := oT2 72 rfl rfl
theorem wd_2_73 : Jvm.Cond.methodLink "OrreryTrainsLaw" (44 : Nat) ({ cls := "OrreryTrains", name := "prime", desc := "(II)I" } : Jvm.MethodName) ∈ oTB := oT2 73 rfl rfl
theorem wd_2_74 : Jvm.Cond.instanceMethod ({ cls := "OrreryTrains", name := "prime", desc := "(II)I" } : Jvm.MethodName) ∈ oTB := oT2 74 rfl rfl
theorem wd_2_75 : Jvm.Cond.selects "OrreryTrains" ({ cls := "OrreryTrains", name := "prime", desc := "(II)I" } : Jvm.MethodName) ({ cls := "OrreryTrains", name := "prime", desc := "(II)I" } : Jvm.MethodName) ∈ oTB := oT2 75 rfl rfl
theorem wd_2_76 : Jvm.Cond.code ({ cls := "OrreryTrains", name := "prime", desc := "(II)I" } : Jvm.MethodName) prog_1_method_9_code (7 : Nat) (Option.some Jvm.ClassFile.FieldType.int) ∈ oTB := oT2 76 rfl rfl
theorem wd_2_77 : Jvm.Cond.methodLink "OrreryTrainsLaw" (48 : Nat) ({ cls := "OrreryTrains", name := "feed", desc := "(I)I" } : Jvm.MethodName) ∈ oTB := oT2 77 rfl rfl
theorem wd_2_78 : Jvm.Cond.instanceMethod ({ cls := "OrreryTrains", name := "feed", desc := "(I)I" } : Jvm.MethodName) ∈ oTB := oT2 78 rfl rfl
theorem wd_2_79 : Jvm.Cond.selects "OrreryTrains" ({ cls := "OrreryTrains", name := "feed", desc := "(I)I" } : Jvm.MethodName) ({ cls := "OrreryTrains", name := "feed", desc := "(I)I" } : Jvm.MethodName) ∈ oTB := oT2 79 rfl rfl
theorem wd_2_80 : Jvm.Cond.code ({ cls := "OrreryTrains", name := "feed", desc := "(I)I" } : Jvm.MethodName) prog_1_method_10_code (2 : Nat) (Option.some Jvm.ClassFile.FieldType.int) ∈ oTB := oT2 80 rfl rfl
theorem wd_2_81 : Jvm.Cond.methodLink "OrreryTrains" (124 : Nat) ({ cls := "OrreryTrains", name := "set", desc := "([III)V" } : Jvm.MethodName) ∈ oTB := oT2 81 rfl rfl
theorem wd_2_82 : Jvm.Cond.methodLink "OrreryTrainsLaw" (53 : Nat) ({ cls := "OrreryTrains", name := "pairs", desc := "()I" } : Jvm.MethodName) ∈ oTB := oT2 82 rfl rfl
theorem wd_2_83 : Jvm.Cond.instanceMethod ({ cls := "OrreryTrains", name := "pairs", desc := "()I" } : Jvm.MethodName) ∈ oTB := oT2 83 rfl rfl
theorem wd_2_84 : Jvm.Cond.selects "OrreryTrains" ({ cls := "OrreryTrains", name := "pairs", desc := "()I" } : Jvm.MethodName) ({ cls := "OrreryTrains", name := "pairs", desc := "()I" } : Jvm.MethodName) ∈ oTB := oT2 84 rfl rfl
theorem wd_2_85 : Jvm.Cond.code ({ cls := "OrreryTrains", name := "pairs", desc := "()I" } : Jvm.MethodName) prog_1_method_11_code (4 : Nat) (Option.some Jvm.ClassFile.FieldType.int) ∈ oTB := oT2 85 rfl rfl
theorem wd_2_86 : Jvm.Cond.methodLink "OrreryTrains" (128 : Nat) ({ cls := "OrreryTrains$Tape", name := "faultAsPairs", desc := "()I" } : Jvm.MethodName) ∈ oTB := oT2 86 rfl rfl
theorem wd_2_87 : Jvm.Cond.instanceMethod ({ cls := "OrreryTrains$Tape", name := "faultAsPairs", desc := "()I" } : Jvm.MethodName) ∈ oTB := oT2 87 rfl rfl
theorem wd_2_88 : Jvm.Cond.selects "OrreryTrains$Tape" ({ cls := "OrreryTrains$Tape", name := "faultAsPairs", desc := "()I" } : Jvm.MethodName) ({ cls := "OrreryTrains$Tape", name := "faultAsPairs", desc := "()I" } : Jvm.MethodName) ∈ oTB := oT2 88 rfl rfl
theorem wd_2_89 : Jvm.Cond.code ({ cls := "OrreryTrains$Tape", name := "faultAsPairs", desc := "()I" } : Jvm.MethodName) prog_8_method_3_code (2 : Nat) (Option.some Jvm.ClassFile.FieldType.int) ∈ oTB := oT2 89 rfl rfl
theorem wd_2_91 : Jvm.Cond.methodLink "OrreryTrains$Tape" (23 : Nat) ({ cls := "OrreryTrains$Tape", name := "fitsClause", desc := "(II)Z" } : Jvm.MethodName) ∈ oTB := oT2 91 rfl rfl
theorem wd_2_92 : Jvm.Cond.static ({ cls := "OrreryTrains$Tape", name := "fitsClause", desc := "(II)Z" } : Jvm.MethodName) ∈ oTB := oT2 92 rfl rfl
theorem wd_2_93 : Jvm.Cond.code ({ cls := "OrreryTrains$Tape", name := "fitsClause", desc := "(II)Z" } : Jvm.MethodName) prog_8_method_4_code (2 : Nat) (Option.some Jvm.ClassFile.FieldType.boolean) ∈ oTB := oT2 93 rfl rfl
theorem wd_2_95 : Jvm.Cond.static ({ cls := "OrreryTrains", name := "kindOf", desc := "(I)I" } : Jvm.MethodName) ∈ oTB := oT2 95 rfl rfl
theorem wd_2_96 : Jvm.Cond.code ({ cls := "OrreryTrains", name := "kindOf", desc := "(I)I" } : Jvm.MethodName) prog_1_method_60_code (2 : Nat) (Option.some Jvm.ClassFile.FieldType.int) ∈ oTB := oT2 96 rfl rfl
theorem wd_2_97 : Jvm.Cond.fieldLink "OrreryTrains" (350 : Nat) "OrreryTrains" "KIND_LETTERS" "[C" ∈ oTB := oT2 97 rfl rfl
theorem wd_2_99 : Jvm.Cond.methodLink "OrreryTrains" (132 : Nat) ({ cls := "OrreryTrains$Tape", name := "clauses", desc := "()I" } : Jvm.MethodName) ∈ oTB := oT2 99 rfl rfl
theorem wd_2_100 : Jvm.Cond.instanceMethod ({ cls := "OrreryTrains$Tape", name := "clauses", desc := "()I" } : Jvm.MethodName) ∈ oTB := oT2 100 rfl rfl
theorem wd_2_101 : Jvm.Cond.selects "OrreryTrains$Tape" ({ cls := "OrreryTrains$Tape", name := "clauses", desc := "()I" } : Jvm.MethodName) ({ cls := "OrreryTrains$Tape", name := "clauses", desc := "()I" } : Jvm.MethodName) ∈ oTB := oT2 101 rfl rfl
theorem wd_2_102 : Jvm.Cond.code ({ cls := "OrreryTrains$Tape", name := "clauses", desc := "()I" } : Jvm.MethodName) prog_8_method_2_code (1 : Nat) (Option.some Jvm.ClassFile.FieldType.int) ∈ oTB := oT2 102 rfl rfl
theorem wd_2_103 : Jvm.Cond.methodLink "OrreryTrains" (144 : Nat) ({ cls := "OrreryTrains$Tape", name := "tellPair", desc := "(ILOrreryTrains$Pairs;)V" } : Jvm.MethodName) ∈ oTB := oT2 103 rfl rfl
theorem wd_2_104 : Jvm.Cond.instanceMethod ({ cls := "OrreryTrains$Tape", name := "tellPair", desc := "(ILOrreryTrains$Pairs;)V" } : Jvm.MethodName) ∈ oTB := oT2 104 rfl rfl
theorem wd_2_105 : Jvm.Cond.selects "OrreryTrains$Tape" ({ cls := "OrreryTrains$Tape", name := "tellPair", desc := "(ILOrreryTrains$Pairs;)V" } : Jvm.MethodName) ({ cls := "OrreryTrains$Tape", name := "tellPair", desc := "(ILOrreryTrains$Pairs;)V" } : Jvm.MethodName) ∈ oTB := oT2 105 rfl rfl
theorem wd_2_106 : Jvm.Cond.code ({ cls := "OrreryTrains$Tape", name := "tellPair", desc := "(ILOrreryTrains$Pairs;)V" } : Jvm.MethodName) prog_8_method_5_code (4 : Nat) (Option.none : Option Jvm.ClassFile.FieldType) ∈ oTB := oT2 106 rfl rfl
theorem wd_2_107 : Jvm.Cond.methodLink "OrreryTrains$Tape" (31 : Nat) ({ cls := "OrreryTrains$Tape", name := "figureAt", desc := "(I)I" } : Jvm.MethodName) ∈ oTB := oT2 107 rfl rfl
theorem wd_2_109 : Jvm.Cond.instanceMethod ({ cls := "OrreryTrains$Tape", name := "figureAt", desc := "(I)I" } : Jvm.MethodName) ∈ oTB := oT2 109 rfl rfl
theorem wd_2_110 : Jvm.Cond.code ({ cls := "OrreryTrains$Tape", name := "figureAt", desc := "(I)I" } : Jvm.MethodName) prog_8_method_6_code (2 : Nat) (Option.some Jvm.ClassFile.FieldType.int) ∈ oTB := oT2 110 rfl rfl
theorem wd_2_111 : Jvm.Cond.methodLink "OrreryTrains$Tape" (34 : Nat) ({ cls := "OrreryTrains$Tape", name := "numberAt", desc := "(I)I" } : Jvm.MethodName) ∈ oTB := oT2 111 rfl rfl
theorem wd_2_113 : Jvm.Cond.instanceMethod ({ cls := "OrreryTrains$Tape", name := "numberAt", desc := "(I)I" } : Jvm.MethodName) ∈ oTB := oT2 113 rfl rfl
theorem wd_2_114 : Jvm.Cond.code ({ cls := "OrreryTrains$Tape", name := "numberAt", desc := "(I)I" } : Jvm.MethodName) prog_8_method_7_code (2 : Nat) (Option.some Jvm.ClassFile.FieldType.int) ∈ oTB := oT2 114 rfl rfl
theorem wd_2_115 : Jvm.Cond.methodLink "OrreryTrains$Tape" (37 : Nat) ({ cls := "OrreryTrains$Pairs", name := "add", desc := "(IIII)V" } : Jvm.MethodName) ∈ oTB := oT2 115 rfl rfl
theorem wd_2_116 : Jvm.Cond.instanceMethod ({ cls := "OrreryTrains$Pairs", name := "add", desc := "(IIII)V" } : Jvm.MethodName) ∈ oTB := oT2 116 rfl rfl
theorem wd_2_117 : Jvm.Cond.selects "OrreryTrains$Pairs" ({ cls := "OrreryTrains$Pairs", name := "add", desc := "(IIII)V" } : Jvm.MethodName) ({ cls := "OrreryTrains$Pairs", name := "add", desc := "(IIII)V" } : Jvm.MethodName) ∈ oTB := oT2 117 rfl rfl
theorem wd_2_118 : Jvm.Cond.code ({ cls := "OrreryTrains$Pairs", name := "add", desc := "(IIII)V" } : Jvm.MethodName) prog_4_method_4_code (5 : Nat) (Option.none : Option Jvm.ClassFile.FieldType) ∈ oTB := oT2 118 rfl rfl
theorem wd_2_120 : Jvm.Cond.methodLink "OrreryTrainsLaw" (58 : Nat) ({ cls := "OrreryTrains", name := "becomes", desc := "(III)I" } : Jvm.MethodName) ∈ oTB := oT2 120 rfl rfl
theorem wd_2_121 : Jvm.Cond.instanceMethod ({ cls := "OrreryTrains", name := "becomes", desc := "(III)I" } : Jvm.MethodName) ∈ oTB := oT2 121 rfl rfl
theorem wd_2_122 : Jvm.Cond.selects "OrreryTrains" ({ cls := "OrreryTrains", name := "becomes", desc := "(III)I" } : Jvm.MethodName) ({ cls := "OrreryTrains", name := "becomes", desc := "(III)I" } : Jvm.MethodName) ∈ oTB := oT2 122 rfl rfl
theorem wd_2_123 : Jvm.Cond.code ({ cls := "OrreryTrains", name := "becomes", desc := "(III)I" } : Jvm.MethodName) prog_1_method_12_code (5 : Nat) (Option.some Jvm.ClassFile.FieldType.int) ∈ oTB := oT2 123 rfl rfl
theorem wd_2_124 : Jvm.Cond.methodLink "OrreryTrains" (148 : Nat) ({ cls := "OrreryTrains$Pairs", name := "has", desc := "(I)Z" } : Jvm.MethodName) ∈ oTB := oT2 124 rfl rfl
theorem wd_2_125 : Jvm.Cond.instanceMethod ({ cls := "OrreryTrains$Pairs", name := "has", desc := "(I)Z" } : Jvm.MethodName) ∈ oTB := oT2 125 rfl rfl
theorem wd_2_126 : Jvm.Cond.selects "OrreryTrains$Pairs" ({ cls := "OrreryTrains$Pairs", name := "has", desc := "(I)Z" } : Jvm.MethodName) ({ cls := "OrreryTrains$Pairs", name := "has", desc := "(I)Z" } : Jvm.MethodName) ∈ oTB := oT2 126 rfl rfl
theorem wd_2_127 : Jvm.Cond.code ({ cls := "OrreryTrains$Pairs", name := "has", desc := "(I)Z" } : Jvm.MethodName) prog_4_method_3_code (2 : Nat) (Option.some Jvm.ClassFile.FieldType.boolean) ∈ oTB := oT2 127 rfl rfl
theorem wd_2_128 : Jvm.Cond.methodLink "OrreryTrainsLaw" (62 : Nat) ({ cls := "OrreryTrains", name := "teeth", desc := "(III)I" } : Jvm.MethodName) ∈ oTB := oT2 128 rfl rfl
theorem wd_2_129 : Jvm.Cond.instanceMethod ({ cls := "OrreryTrains", name := "teeth", desc := "(III)I" } : Jvm.MethodName) ∈ oTB := oT2 129 rfl rfl
theorem wd_2_130 : Jvm.Cond.selects "OrreryTrains" ({ cls := "OrreryTrains", name := "teeth", desc := "(III)I" } : Jvm.MethodName) ({ cls := "OrreryTrains", name := "teeth", desc := "(III)I" } : Jvm.MethodName) ∈ oTB := oT2 130 rfl rfl
theorem wd_2_131 : Jvm.Cond.code ({ cls := "OrreryTrains", name := "teeth", desc := "(III)I" } : Jvm.MethodName) prog_1_method_13_code (6 : Nat) (Option.some Jvm.ClassFile.FieldType.int) ∈ oTB := oT2 131 rfl rfl
theorem wd_2_132 : Jvm.Cond.methodLink "OrreryTrainsLaw" (66 : Nat) ({ cls := "OrreryTrains", name := "pair", desc := "(II)I" } : Jvm.MethodName) ∈ oTB := oT2 132 rfl rfl
theorem wd_2_133 : Jvm.Cond.instanceMethod ({ cls := "OrreryTrains", name := "pair", desc := "(II)I" } : Jvm.MethodName) ∈ oTB := oT2 133 rfl rfl
theorem wd_2_134 : Jvm.Cond.selects "OrreryTrains" ({ cls := "OrreryTrains", name := "pair", desc := "(II)I" } : Jvm.MethodName) ({ cls := "OrreryTrains", name := "pair", desc := "(II)I" } : Jvm.MethodName) ∈ oTB := oT2 134 rfl rfl
theorem wd_2_135 : Jvm.Cond.code ({ cls := "OrreryTrains", name := "pair", desc := "(II)I" } : Jvm.MethodName) prog_1_method_14_code (3 : Nat) (Option.some Jvm.ClassFile.FieldType.int) ∈ oTB := oT2 135 rfl rfl
theorem wd_2_136 : Jvm.Cond.methodLink "OrreryTrains" (163 : Nat) ({ cls := "OrreryTrains$Pairs", name := "play", desc := "(I)I" } : Jvm.MethodName) ∈ oTB := oT2 136 rfl rfl
theorem wd_2_137 : Jvm.Cond.instanceMethod ({ cls := "OrreryTrains$Pairs", name := "play", desc := "(I)I" } : Jvm.MethodName) ∈ oTB := oT2 137 rfl rfl
theorem wd_2_138 : Jvm.Cond.selects "OrreryTrains$Pairs" ({ cls := "OrreryTrains$Pairs", name := "play", desc := "(I)I" } : Jvm.MethodName) ({ cls := "OrreryTrains$Pairs", name := "play", desc := "(I)I" } : Jvm.MethodName) ∈ oTB := oT2 138 rfl rfl
theorem wd_2_139 : Jvm.Cond.code ({ cls := "OrreryTrains$Pairs", name := "play", desc := "(I)I" } : Jvm.MethodName) prog_4_method_6_code (3 : Nat) (Option.some Jvm.ClassFile.FieldType.int) ∈ oTB := oT2 139 rfl rfl
theorem wd_2_141 : Jvm.Cond.methodLink "OrreryTrains" (167 : Nat) ({ cls := "OrreryTrains$Pairs", name := "goesRound", desc := "(I)Z" } : Jvm.MethodName) ∈ oTB := oT2 141 rfl rfl
theorem wd_2_142 : Jvm.Cond.instanceMethod ({ cls := "OrreryTrains$Pairs", name := "goesRound", desc := "(I)Z" } : Jvm.MethodName) ∈ oTB := oT2 142 rfl rfl
theorem wd_2_143 : Jvm.Cond.selects "OrreryTrains$Pairs" ({ cls := "OrreryTrains$Pairs", name := "goesRound", desc := "(I)Z" } : Jvm.MethodName) ({ cls := "OrreryTrains$Pairs", name := "goesRound", desc := "(I)Z" } : Jvm.MethodName) ∈ oTB := oT2 143 rfl rfl
theorem wd_2_144 : Jvm.Cond.code ({ cls := "OrreryTrains$Pairs", name := "goesRound", desc := "(I)Z" } : Jvm.MethodName) prog_4_method_5_code (2 : Nat) (Option.some Jvm.ClassFile.FieldType.boolean) ∈ oTB := oT2 144 rfl rfl
theorem wd_2_145 : Jvm.Cond.methodLink "OrreryTrains" (174 : Nat) ({ cls := "OrreryTrains$Trains", name := "holding", desc := "(I)I" } : Jvm.MethodName) ∈ oTB := oT2 145 rfl rfl
theorem wd_2_146 : Jvm.Cond.instanceMethod ({ cls := "OrreryTrains$Trains", name := "holding", desc := "(I)I" } : Jvm.MethodName) ∈ oTB := oT2 146 rfl rfl
theorem wd_2_147 : Jvm.Cond.selects "OrreryTrains$Trains" ({ cls := "OrreryTrains$Trains", name := "holding", desc := "(I)I" } : Jvm.MethodName) ({ cls := "OrreryTrains$Trains", name := "holding", desc := "(I)I" } : Jvm.MethodName) ∈ oTB := oT2 147 rfl rfl
theorem wd_2_148 : Jvm.Cond.code ({ cls := "OrreryTrains$Trains", name := "holding", desc := "(I)I" } : Jvm.MethodName) prog_9_method_9_code (5 : Nat) (Option.some Jvm.ClassFile.FieldType.int) ∈ oTB := oT2 148 rfl rfl
theorem wd_2_149 : Jvm.Cond.methodLink "OrreryTrains$Trains" (30 : Nat) ({ cls := "OrreryTrains$Trains", name := "length", desc := "(I)I" } : Jvm.MethodName) ∈ oTB := oT2 149 rfl rfl
theorem wd_2_150 : Jvm.Cond.instanceMethod ({ cls := "OrreryTrains$Trains", name := "length", desc := "(I)I" } : Jvm.MethodName) ∈ oTB := oT2 150 rfl rfl
theorem wd_2_151 : Jvm.Cond.selects "OrreryTrains$Trains" ({ cls := "OrreryTrains$Trains", name := "length", desc := "(I)I" } : Jvm.MethodName) ({ cls := "OrreryTrains$Trains", name := "length", desc := "(I)I" } : Jvm.MethodName) ∈ oTB := oT2 151 rfl rfl
theorem wd_2_152 : Jvm.Cond.code ({ cls := "OrreryTrains$Trains", name := "length", desc := "(I)I" } : Jvm.MethodName) prog_9_method_3_code (2 : Nat) (Option.some Jvm.ClassFile.FieldType.int) ∈ oTB := oT2 152 rfl rfl
theorem wd_2_154 : Jvm.Cond.methodLink "OrreryTrains$Trains" (34 : Nat) ({ cls := "OrreryTrains$Trains", name := "pairAt", desc := "(II)I" } : Jvm.MethodName) ∈ oTB := oT2 154 rfl rfl
theorem wd_2_155 : Jvm.Cond.instanceMethod ({ cls := "OrreryTrains$Trains", name := "pairAt", desc := "(II)I" } : Jvm.MethodName) ∈ oTB := oT2 155 rfl rfl
theorem wd_2_156 : Jvm.Cond.selects "OrreryTrains$Trains" ({ cls := "OrreryTrains$Trains", name := "pairAt", desc := "(II)I" } : Jvm.MethodName) ({ cls := "OrreryTrains$Trains", name := "pairAt", desc := "(II)I" } : Jvm.MethodName) ∈ oTB := oT2 156 rfl rfl
theorem wd_2_157 : Jvm.Cond.code ({ cls := "OrreryTrains$Trains", name := "pairAt", desc := "(II)I" } : Jvm.MethodName) prog_9_method_4_code (3 : Nat) (Option.some Jvm.ClassFile.FieldType.int) ∈ oTB := oT2 157 rfl rfl
theorem wd_2_158 : Jvm.Cond.methodLink "OrreryTrainsLaw" (70 : Nat) ({ cls := "OrreryTrains", name := "train", desc := "(I)I" } : Jvm.MethodName) ∈ oTB := oT2 158 rfl rfl
theorem wd_2_159 : Jvm.Cond.instanceMethod ({ cls := "OrreryTrains", name := "train", desc := "(I)I" } : Jvm.MethodName) ∈ oTB := oT2 159 rfl rfl
theorem wd_2_160 : Jvm.Cond.selects "OrreryTrains" ({ cls := "OrreryTrains", name := "train", desc := "(I)I" } : Jvm.MethodName) ({ cls := "OrreryTrains", name := "train", desc := "(I)I" } : Jvm.MethodName) ∈ oTB := oT2 160 rfl rfl
theorem wd_2_161 : Jvm.Cond.code ({ cls := "OrreryTrains", name := "train", desc := "(I)I" } : Jvm.MethodName) prog_1_method_15_code (5 : Nat) (Option.some Jvm.ClassFile.FieldType.int) ∈ oTB := oT2 161 rfl rfl
theorem wd_2_162 : Jvm.Cond.methodLink "OrreryTrains" (179 : Nat) ({ cls := "OrreryTrains$Tape", name := "faultAsTrain", desc := "(I)I" } : Jvm.MethodName) ∈ oTB := oT2 162 rfl rfl
theorem wd_2_163 : Jvm.Cond.instanceMethod ({ cls := "OrreryTrains$Tape", name := "faultAsTrain", desc := "(I)I" } : Jvm.MethodName) ∈ oTB := oT2 163 rfl rfl
theorem wd_2_164 : Jvm.Cond.selects "OrreryTrains$Tape" ({ cls := "OrreryTrains$Tape", name := "faultAsTrain", desc := "(I)I" } : Jvm.MethodName) ({ cls := "OrreryTrains$Tape", name := "faultAsTrain", desc := "(I)I" } : Jvm.MethodName) ∈ oTB := oT2 164 rfl rfl
theorem wd_2_165 : Jvm.Cond.code ({ cls := "OrreryTrains$Tape", name := "faultAsTrain", desc := "(I)I" } : Jvm.MethodName) prog_8_method_9_code (4 : Nat) (Option.some Jvm.ClassFile.FieldType.int) ∈ oTB := oT2 165 rfl rfl
theorem wd_2_166 : Jvm.Cond.methodLink "OrreryTrains$Tape" (43 : Nat) ({ cls := "OrreryTrains$Tape", name := "pairTold", desc := "(I)I" } : Jvm.MethodName) ∈ oTB := oT2 166 rfl rfl
theorem wd_2_167 : Jvm.Cond.instanceMethod ({ cls := "OrreryTrains$Tape", name := "pairTold", desc := "(I)I" } : Jvm.MethodName) ∈ oTB := oT2 167 rfl rfl
theorem wd_2_168 : Jvm.Cond.selects "OrreryTrains$Tape" ({ cls := "OrreryTrains$Tape", name := "pairTold", desc := "(I)I" } : Jvm.MethodName) ({ cls := "OrreryTrains$Tape", name := "pairTold", desc := "(I)I" } : Jvm.MethodName) ∈ oTB := oT2 168 rfl rfl
theorem wd_2_169 : Jvm.Cond.code ({ cls := "OrreryTrains$Tape", name := "pairTold", desc := "(I)I" } : Jvm.MethodName) prog_8_method_8_code (2 : Nat) (Option.some Jvm.ClassFile.FieldType.int) ∈ oTB := oT2 169 rfl rfl
theorem wd_2_170 : Jvm.Cond.methodLink "OrreryTrains$Tape" (46 : Nat) ({ cls := "OrreryTrains$Tape", name := "isToldAhead", desc := "(I)Z" } : Jvm.MethodName) ∈ oTB := oT2 170 rfl rfl
theorem wd_2_172 : Jvm.Cond.instanceMethod ({ cls := "OrreryTrains$Tape", name := "isToldAhead", desc := "(I)Z" } : Jvm.MethodName) ∈ oTB := oT2 172 rfl rfl
theorem wd_2_173 : Jvm.Cond.code ({ cls := "OrreryTrains$Tape", name := "isToldAhead", desc := "(I)Z" } : Jvm.MethodName) prog_8_method_10_code (3 : Nat) (Option.some Jvm.ClassFile.FieldType.boolean) ∈ oTB := oT2 173 rfl rfl
theorem wd_2_174 : Jvm.Cond.methodLink "OrreryTrains" (182 : Nat) ({ cls := "OrreryTrains$Trains", name := "cut", desc := "(II)V" } : Jvm.MethodName) ∈ oTB := oT2 174 rfl rfl
theorem wd_2_175 : Jvm.Cond.instanceMethod ({ cls := "OrreryTrains$Trains", name := "cut", desc := "(II)V" } : Jvm.MethodName) ∈ oTB := oT2 175 rfl rfl
theorem wd_2_176 : Jvm.Cond.selects "OrreryTrains$Trains" ({ cls := "OrreryTrains$Trains", name := "cut", desc := "(II)V" } : Jvm.MethodName) ({ cls := "OrreryTrains$Trains", name := "cut", desc := "(II)V" } : Jvm.MethodName) ∈ oTB := oT2 176 rfl rfl
theorem wd_2_177 : Jvm.Cond.code ({ cls := "OrreryTrains$Trains", name := "cut", desc := "(II)V" } : Jvm.MethodName) prog_9_method_5_code (3 : Nat) (Option.none : Option Jvm.ClassFile.FieldType) ∈ oTB := oT2 177 rfl rfl
theorem wd_2_179 : Jvm.Cond.methodLink "OrreryTrains" (186 : Nat) ({ cls := "OrreryTrains$Tape", name := "pairTold", desc := "(I)I" } : Jvm.MethodName) ∈ oTB := oT2 179 rfl rfl
theorem wd_2_180 : Jvm.Cond.methodLink "OrreryTrains" (189 : Nat) ({ cls := "OrreryTrains$Trains", name := "become", desc := "(III)V" } : Jvm.MethodName) ∈ oTB := oT2 180 rfl rfl
theorem wd_2_181 : Jvm.Cond.instanceMethod ({ cls := "OrreryTrains$Trains", name := "become", desc := "(III)V" } : Jvm.MethodName) ∈ oTB := oT2 181 rfl rfl
theorem wd_2_182 : Jvm.Cond.selects "OrreryTrains$Trains" ({ cls := "OrreryTrains$Trains", name := "become", desc := "(III)V" } : Jvm.MethodName) ({ cls := "OrreryTrains$Trains", name := "become", desc := "(III)V" } : Jvm.MethodName) ∈ oTB := oT2 182 rfl rfl
theorem wd_2_183 : Jvm.Cond.code ({ cls := "OrreryTrains$Trains", name := "become", desc := "(III)V" } : Jvm.MethodName) prog_9_method_6_code (4 : Nat) (Option.none : Option Jvm.ClassFile.FieldType) ∈ oTB := oT2 183 rfl rfl
theorem wd_2_184 : Jvm.Cond.methodLink "OrreryTrainsLaw" (74 : Nat) ({ cls := "OrreryTrains", name := "drop", desc := "(I)I" } : Jvm.MethodName) ∈ oTB := oT2 184 rfl rfl
theorem wd_2_185 : Jvm.Cond.instanceMethod ({ cls := "OrreryTrains", name := "drop", desc := "(I)I" } : Jvm.MethodName) ∈ oTB := oT2 185 rfl rfl
theorem wd_2_186 : Jvm.Cond.selects "OrreryTrains" ({ cls := "OrreryTrains", name := "drop", desc := "(I)I" } : Jvm.MethodName) ({ cls := "OrreryTrains", name := "drop", desc := "(I)I" } : Jvm.MethodName) ∈ oTB := oT2 186 rfl rfl
theorem wd_2_187 : Jvm.Cond.code ({ cls := "OrreryTrains", name := "drop", desc := "(I)I" } : Jvm.MethodName) prog_1_method_16_code (3 : Nat) (Option.some Jvm.ClassFile.FieldType.int) ∈ oTB := oT2 187 rfl rfl
theorem wd_2_188 : Jvm.Cond.methodLink "OrreryTrains" (192 : Nat) ({ cls := "OrreryTrains$Orrery", name := "hasTrain", desc := "(I)Z" } : Jvm.MethodName) ∈ oTB := oT2 188 rfl rfl
theorem wd_2_189 : Jvm.Cond.instanceMethod ({ cls := "OrreryTrains$Orrery", name := "hasTrain", desc := "(I)Z" } : Jvm.MethodName) ∈ oTB := oT2 189 rfl rfl
theorem wd_2_190 : Jvm.Cond.selects "OrreryTrains$Orrery" ({ cls := "OrreryTrains$Orrery", name := "hasTrain", desc := "(I)Z" } : Jvm.MethodName) ({ cls := "OrreryTrains$Orrery", name := "hasTrain", desc := "(I)Z" } : Jvm.MethodName) ∈ oTB := oT2 190 rfl rfl
theorem wd_2_191 : Jvm.Cond.code ({ cls := "OrreryTrains$Orrery", name := "hasTrain", desc := "(I)Z" } : Jvm.MethodName) prog_3_method_4_code (2 : Nat) (Option.some Jvm.ClassFile.FieldType.boolean) ∈ oTB := oT2 191 rfl rfl
theorem wd_2_192 : Jvm.Cond.methodLink "OrreryTrains$Orrery" (70 : Nat) ({ cls := "OrreryTrains$Orrery", name := "hasBody", desc := "(I)Z" } : Jvm.MethodName) ∈ oTB := oT2 192 rfl rfl
theorem wd_2_193 : Jvm.Cond.methodLink "OrreryTrains$Orrery" (74 : Nat) ({ cls := "OrreryTrains$Trains", name := "length", desc := "(I)I" } : Jvm.MethodName) ∈ oTB := oT2 193 rfl rfl
theorem wd_2_194 : Jvm.Cond.methodLink "OrreryTrains" (195 : Nat) ({ cls := "OrreryTrains$Trains", name := "length", desc := "(I)I" } : Jvm.MethodName) ∈ oTB := oT2 194 rfl rfl
theorem wd_2_195 : Jvm.Cond.methodLink "OrreryTrainsLaw" (78 : Nat) ({ cls := "OrreryTrains", name := "of", desc := "(II)I" } : Jvm.MethodName) ∈ oTB := oT2 195 rfl rfl
theorem wd_2_196 : Jvm.Cond.instanceMethod ({ cls := "OrreryTrains", name := "of", desc := "(II)I" } : Jvm.MethodName) ∈ oTB := oT2 196 rfl rfl
theorem wd_2_197 : Jvm.Cond.selects "OrreryTrains" ({ cls := "OrreryTrains", name := "of", desc := "(II)I" } : Jvm.MethodName) ({ cls := "OrreryTrains", name := "of", desc := "(II)I" } : Jvm.MethodName) ∈ oTB := oT2 197 rfl rfl
theorem wd_2_198 : Jvm.Cond.code ({ cls := "OrreryTrains", name := "of", desc := "(II)I" } : Jvm.MethodName) prog_1_method_17_code (3 : Nat) (Option.some Jvm.ClassFile.FieldType.int) ∈ oTB := oT2 198 rfl rfl
theorem wd_2_199 : Jvm.Cond.methodLink "OrreryTrains" (197 : Nat) ({ cls := "OrreryTrains", name := "asksPlace", desc := "(I)Z" } : Jvm.MethodName) ∈ oTB := oT2 199 rfl rfl
theorem wd_2_200 : Jvm.Cond.static ({ cls := "OrreryTrains", name := "asksPlace", desc := "(I)Z" } : Jvm.MethodName) ∈ oTB := oT2 200 rfl rfl
theorem wd_2_201 : Jvm.Cond.code ({ cls := "OrreryTrains", name := "asksPlace", desc := "(I)Z" } : Jvm.MethodName) prog_1_method_56_code (1 : Nat) (Option.some Jvm.ClassFile.FieldType.boolean) ∈ oTB := oT2 201 rfl rfl
theorem wd_2_202 : Jvm.Cond.methodLink "OrreryTrains" (200 : Nat) ({ cls := "OrreryTrains$Orrery", name := "isRound", desc := "(I)Z" } : Jvm.MethodName) ∈ oTB := oT2 202 rfl rfl
theorem wd_2_203 : Jvm.Cond.instanceMethod ({ cls := "OrreryTrains$Orrery", name := "isRound", desc := "(I)Z" } : Jvm.MethodName) ∈ oTB := oT2 203 rfl rfl
theorem wd_2_204 : Jvm.Cond.selects "OrreryTrains$Orrery" ({ cls := "OrreryTrains$Orrery", name := "isRound", desc := "(I)Z" } : Jvm.MethodName) ({ cls := "OrreryTrains$Orrery", name := "isRound", desc := "(I)Z" } : Jvm.MethodName) ∈ oTB := oT2 204 rfl rfl
theorem wd_2_205 : Jvm.Cond.code ({ cls := "OrreryTrains$Orrery", name := "isRound", desc := "(I)Z" } : Jvm.MethodName) prog_3_method_10_code (4 : Nat) (Option.some Jvm.ClassFile.FieldType.boolean) ∈ oTB := oT2 205 rfl rfl
theorem wd_2_206 : Jvm.Cond.methodLink "OrreryTrains$Orrery" (89 : Nat) ({ cls := "OrreryTrains$Trains", name := "pairAt", desc := "(II)I" } : Jvm.MethodName) ∈ oTB := oT2 206 rfl rfl
theorem wd_2_207 : Jvm.Cond.methodLink "OrreryTrains$Orrery" (105 : Nat) ({ cls := "OrreryTrains$Pairs", name := "goesRound", desc := "(I)Z" } : Jvm.MethodName) ∈ oTB := oT2 207 rfl rfl
theorem wd_2_208 : Jvm.Cond.methodLink "OrreryTrains" (203 : Nat) ({ cls := "OrreryTrains$Trains", name := "pairAt", desc := "(II)I" } : Jvm.MethodName) ∈ oTB := oT2 208 rfl rfl
theorem wd_2_209 : Jvm.Cond.methodLink "OrreryTrainsLaw" (82 : Nat) ({ cls := "OrreryTrains", name := "turns", desc := "(II)J" } : Jvm.MethodName) ∈ oTB := oT2 209 rfl rfl
theorem wd_2_210 : Jvm.Cond.instanceMethod ({ cls := "OrreryTrains", name := "turns", desc := "(II)J" } : Jvm.MethodName) ∈ oTB := oT2 210 rfl rfl
theorem wd_2_211 : Jvm.Cond.selects "OrreryTrains" ({ cls := "OrreryTrains", name := "turns", desc := "(II)J" } : Jvm.MethodName) ({ cls := "OrreryTrains", name := "turns", desc := "(II)J" } : Jvm.MethodName) ∈ oTB := oT2 211 rfl rfl
theorem wd_2_212 : Jvm.Cond.code ({ cls := "OrreryTrains", name := "turns", desc := "(II)J" } : Jvm.MethodName) prog_1_method_18_code (3 : Nat) (Option.some Jvm.ClassFile.FieldType.long) ∈ oTB := oT2 212 rfl rfl
theorem wd_2_213 : Jvm.Cond.methodLink "OrreryTrains" (206 : Nat) ({ cls := "OrreryTrains$Orrery", name := "drivers", desc := "(I)J" } : Jvm.MethodName) ∈ oTB := oT2 213 rfl rfl
theorem wd_2_214 : Jvm.Cond.instanceMethod ({ cls := "OrreryTrains$Orrery", name := "drivers", desc := "(I)J" } : Jvm.MethodName) ∈ oTB := oT2 214 rfl rfl
theorem wd_2_215 : Jvm.Cond.selects "OrreryTrains$Orrery" ({ cls := "OrreryTrains$Orrery", name := "drivers", desc := "(I)J" } : Jvm.MethodName) ({ cls := "OrreryTrains$Orrery", name := "drivers", desc := "(I)J" } : Jvm.MethodName) ∈ oTB := oT2 215 rfl rfl
theorem wd_2_216 : Jvm.Cond.code ({ cls := "OrreryTrains$Orrery", name := "drivers", desc := "(I)J" } : Jvm.MethodName) prog_3_method_6_code (5 : Nat) (Option.some Jvm.ClassFile.FieldType.long) ∈ oTB := oT2 216 rfl rfl
theorem wd_2_218 : Jvm.Cond.methodLink "OrreryTrains" (209 : Nat) ({ cls := "OrreryTrains$Orrery", name := "drivens", desc := "(I)J" } : Jvm.MethodName) ∈ oTB := oT2 218 rfl rfl
theorem wd_2_219 : Jvm.Cond.instanceMethod ({ cls := "OrreryTrains$Orrery", name := "drivens", desc := "(I)J" } : Jvm.MethodName) ∈ oTB := oT2 219 rfl rfl
theorem wd_2_220 : Jvm.Cond.selects "OrreryTrains$Orrery" ({ cls := "OrreryTrains$Orrery", name := "drivens", desc := "(I)J" } : Jvm.MethodName) ({ cls := "OrreryTrains$Orrery", name := "drivens", desc := "(I)J" } : Jvm.MethodName) ∈ oTB := oT2 220 rfl rfl
theorem wd_2_221 : Jvm.Cond.code ({ cls := "OrreryTrains$Orrery", name := "drivens", desc := "(I)J" } : Jvm.MethodName) prog_3_method_7_code (5 : Nat) (Option.some Jvm.ClassFile.FieldType.long) ∈ oTB := oT2 221 rfl rfl
theorem wd_2_222 : Jvm.Cond.methodLink "OrreryTrainsLaw" (87 : Nat) ({ cls := "OrreryTrains", name := "wrong", desc := "(II)J" } : Jvm.MethodName) ∈ oTB := oT2 222 rfl rfl
theorem wd_2_223 : Jvm.Cond.instanceMethod ({ cls := "OrreryTrains", name := "wrong", desc := "(II)J" } : Jvm.MethodName) ∈ oTB := oT2 223 rfl rfl
theorem wd_2_224 : Jvm.Cond.selects "OrreryTrains" ({ cls := "OrreryTrains", name := "wrong", desc := "(II)J" } : Jvm.MethodName) ({ cls := "OrreryTrains", name := "wrong", desc := "(II)J" } : Jvm.MethodName) ∈ oTB := oT2 224 rfl rfl
theorem wd_2_225 : Jvm.Cond.code ({ cls := "OrreryTrains", name := "wrong", desc := "(II)J" } : Jvm.MethodName) prog_1_method_19_code (3 : Nat) (Option.some Jvm.ClassFile.FieldType.long) ∈ oTB := oT2 225 rfl rfl
theorem wd_2_226 : Jvm.Cond.methodLink "OrreryTrains" (211 : Nat) ({ cls := "OrreryTrains$Orrery", name := "wrongAbove", desc := "(I)J" } : Jvm.MethodName) ∈ oTB := oT2 226 rfl rfl
theorem wd_2_227 : Jvm.Cond.instanceMethod ({ cls := "OrreryTrains$Orrery", name := "wrongAbove", desc := "(I)J" } : Jvm.MethodName) ∈ oTB := oT2 227 rfl rfl
theorem wd_2_228 : Jvm.Cond.selects "OrreryTrains$Orrery" ({ cls := "OrreryTrains$Orrery", name := "wrongAbove", desc := "(I)J" } : Jvm.MethodName) ({ cls := "OrreryTrains$Orrery", name := "wrongAbove", desc := "(I)J" } : Jvm.MethodName) ∈ oTB := oT2 228 rfl rfl
theorem wd_2_229 : Jvm.Cond.code ({ cls := "OrreryTrains$Orrery", name := "wrongAbove", desc := "(I)J" } : Jvm.MethodName) prog_3_method_8_code (2 : Nat) (Option.some Jvm.ClassFile.FieldType.long) ∈ oTB := oT2 229 rfl rfl
theorem wd_2_230 : Jvm.Cond.methodLink "OrreryTrains$Orrery" (100 : Nat) ({ cls := "OrreryTrains$Orrery", name := "drivers", desc := "(I)J" } : Jvm.MethodName) ∈ oTB := oT2 230 rfl rfl
theorem wd_2_231 : Jvm.Cond.methodLink "OrreryTrains$Orrery" (103 : Nat) ({ cls := "OrreryTrains$Orrery", name := "drivens", desc := "(I)J" } : Jvm.MethodName) ∈ oTB := oT2 231 rfl rfl
theorem wd_2_232 : Jvm.Cond.methodLink "OrreryTrains" (214 : Nat) ({ cls := "OrreryTrains$Orrery", name := "wrongBelow", desc := "(I)J" } : Jvm.MethodName) ∈ oTB := oT2 232 rfl rfl
theorem wd_2_233 : Jvm.Cond.instanceMethod ({ cls := "OrreryTrains$Orrery", name := "wrongBelow", desc := "(I)J" } : Jvm.MethodName) ∈ oTB := oT2 233 rfl rfl
theorem wd_2_234 : Jvm.Cond.selects "OrreryTrains$Orrery" ({ cls := "OrreryTrains$Orrery", name := "wrongBelow", desc := "(I)J" } : Jvm.MethodName) ({ cls := "OrreryTrains$Orrery", name := "wrongBelow", desc := "(I)J" } : Jvm.MethodName) ∈ oTB := oT2 234 rfl rfl
theorem wd_2_235 : Jvm.Cond.code ({ cls := "OrreryTrains$Orrery", name := "wrongBelow", desc := "(I)J" } : Jvm.MethodName) prog_3_method_9_code (2 : Nat) (Option.some Jvm.ClassFile.FieldType.long) ∈ oTB := oT2 235 rfl rfl
theorem wd_2_236 : Jvm.Cond.methodLink "OrreryTrainsLaw" (91 : Nat) ({ cls := "OrreryTrains", name := "backlash", desc := "(II)J" } : Jvm.MethodName) ∈ oTB := oT2 236 rfl rfl
theorem wd_2_237 : Jvm.Cond.instanceMethod ({ cls := "OrreryTrains", name := "backlash", desc := "(II)J" } : Jvm.MethodName) ∈ oTB := oT2 237 rfl rfl
theorem wd_2_238 : Jvm.Cond.selects "OrreryTrains" ({ cls := "OrreryTrains", name := "backlash", desc := "(II)J" } : Jvm.MethodName) ({ cls := "OrreryTrains", name := "backlash", desc := "(II)J" } : Jvm.MethodName) ∈ oTB := oT2 238 rfl rfl
theorem wd_2_239 : Jvm.Cond.code ({ cls := "OrreryTrains", name := "backlash", desc := "(II)J" } : Jvm.MethodName) prog_1_method_20_code (3 : Nat) (Option.some Jvm.ClassFile.FieldType.long) ∈ oTB := oT2 239 rfl rfl
theorem wd_3_0 : Jvm.Cond.methodLink "OrreryTrains" (217 : Nat) ({ cls := "OrreryTrains$Orrery", name := "slackAbove", desc := "(I)J" } : Jvm.MethodName) ∈ oTB := oT3 0 rfl rfl
theorem wd_3_1 : Jvm.Cond.instanceMethod ({ cls := "OrreryTrains$Orrery", name := "slackAbove", desc := "(I)J" } : Jvm.MethodName) ∈ oTB := oT3 1 rfl rfl
theorem wd_3_2 : Jvm.Cond.selects "OrreryTrains$Orrery" ({ cls := "OrreryTrains$Orrery", name := "slackAbove", desc := "(I)J" } : Jvm.MethodName) ({ cls := "OrreryTrains$Orrery", name := "slackAbove", desc := "(I)J" } : Jvm.MethodName) ∈ oTB := oT3 2 rfl rfl
theorem wd_3_3 : Jvm.Cond.code ({ cls := "OrreryTrains$Orrery", name := "slackAbove", desc := "(I)J" } : Jvm.MethodName) prog_3_method_11_code (8 : Nat) (Option.some Jvm.ClassFile.FieldType.long) ∈ oTB := oT3 3 rfl rfl
theorem wd_3_4 : Jvm.Cond.methodLink "OrreryTrains$Orrery" (108 : Nat) ({ cls := "OrreryTrains$Pairs", name := "play", desc := "(I)I" } : Jvm.MethodName) ∈ oTB := oT3 4 rfl rfl
theorem wd_3_5 : Jvm.Cond.methodLink "OrreryTrains" (220 : Nat) ({ cls := "OrreryTrains$Orrery", name := "slackBelow", desc := "(I)J" } : Jvm.MethodName) ∈ oTB := oT3 5 rfl rfl
theorem wd_3_6 : Jvm.Cond.instanceMethod ({ cls := "OrreryTrains$Orrery", name := "slackBelow", desc := "(I)J" } : Jvm.MethodName) ∈ oTB := oT3 6 rfl rfl
theorem wd_3_7 : Jvm.Cond.selects "OrreryTrains$Orrery" ({ cls := "OrreryTrains$Orrery", name := "slackBelow", desc := "(I)J" } : Jvm.MethodName) ({ cls := "OrreryTrains$Orrery", name := "slackBelow", desc := "(I)J" } : Jvm.MethodName) ∈ oTB := oT3 7 rfl rfl
theorem wd_3_8 : Jvm.Cond.code ({ cls := "OrreryTrains$Orrery", name := "slackBelow", desc := "(I)J" } : Jvm.MethodName) prog_3_method_12_code (2 : Nat) (Option.some Jvm.ClassFile.FieldType.long) ∈ oTB := oT3 8 rfl rfl
theorem wd_3_9 : Jvm.Cond.constantLong "OrreryTrains$Orrery" (111 : Nat) (100 : Int64) ∈ oTB := oT3 9 rfl rfl
theorem wd_3_10 : Jvm.Cond.methodLink "OrreryTrainsLaw" (95 : Nat) ({ cls := "OrreryTrains", name := "share", desc := "(II)I" } : Jvm.MethodName) ∈ oTB := oT3 10 rfl rfl
theorem wd_3_11 : Jvm.Cond.instanceMethod ({ cls := "OrreryTrains", name := "share", desc := "(II)I" } : Jvm.MethodName) ∈ oTB := oT3 11 rfl rfl
theorem wd_3_12 : Jvm.Cond.selects "OrreryTrains" ({ cls := "OrreryTrains", name := "share", desc := "(II)I" } : Jvm.MethodName) ({ cls := "OrreryTrains", name := "share", desc := "(II)I" } : Jvm.MethodName) ∈ oTB := oT3 12 rfl rfl
theorem wd_3_13 : Jvm.Cond.code ({ cls := "OrreryTrains", name := "share", desc := "(II)I" } : Jvm.MethodName) prog_1_method_21_code (3 : Nat) (Option.some Jvm.ClassFile.FieldType.int) ∈ oTB := oT3 13 rfl rfl
theorem wd_3_14 : Jvm.Cond.methodLink "OrreryTrains" (223 : Nat) ({ cls := "OrreryTrains", name := "areTwo", desc := "(II)Z" } : Jvm.MethodName) ∈ oTB := oT3 14 rfl rfl
theorem wd_3_16 : Jvm.Cond.instanceMethod ({ cls := "OrreryTrains", name := "areTwo", desc := "(II)Z" } : Jvm.MethodName) ∈ oTB := oT3 16 rfl rfl
theorem wd_3_17 : Jvm.Cond.code ({ cls := "OrreryTrains", name := "areTwo", desc := "(II)Z" } : Jvm.MethodName) prog_1_method_45_code (3 : Nat) (Option.some Jvm.ClassFile.FieldType.boolean) ∈ oTB := oT3 17 rfl rfl
theorem wd_3_18 : Jvm.Cond.methodLink "OrreryTrains" (226 : Nat) ({ cls := "OrreryTrains$Trains", name := "shared", desc := "(II)I" } : Jvm.MethodName) ∈ oTB := oT3 18 rfl rfl
theorem wd_3_19 : Jvm.Cond.instanceMethod ({ cls := "OrreryTrains$Trains", name := "shared", desc := "(II)I" } : Jvm.MethodName) ∈ oTB := oT3 19 rfl rfl
theorem wd_3_20 : Jvm.Cond.selects "OrreryTrains$Trains" ({ cls := "OrreryTrains$Trains", name := "shared", desc := "(II)I" } : Jvm.MethodName) ({ cls := "OrreryTrains$Trains", name := "shared", desc := "(II)I" } : Jvm.MethodName) ∈ oTB := oT3 20 rfl rfl
theorem wd_3_21 : Jvm.Cond.code ({ cls := "OrreryTrains$Trains", name := "shared", desc := "(II)I" } : Jvm.MethodName) prog_9_method_10_code (5 : Nat) (Option.some Jvm.ClassFile.FieldType.int) ∈ oTB := oT3 21 rfl rfl
theorem wd_3_22 : Jvm.Cond.methodLink "OrreryTrains$Trains" (42 : Nat) ({ cls := "java/lang/Math", name := "min", desc := "(II)I" } : Jvm.MethodName) ∈ oTB := oT3 22 rfl rfl
theorem wd_3_23 : Jvm.Cond.static ({ cls := "java/lang/Math", name := "min", desc := "(II)I" } : Jvm.MethodName) ∈ oTB := oT3 23 rfl rfl
theorem wd_3_24 : Jvm.Cond.code ({ cls := "java/lang/Math", name := "min", desc := "(II)I" } : Jvm.MethodName) prog_12_method_69_code (2 : Nat) (Option.some Jvm.ClassFile.FieldType.int) ∈ oTB := oT3 24 rfl rfl
theorem wd_3_25 : Jvm.Cond.methodLink "OrreryTrainsLaw" (99 : Nat) ({ cls := "OrreryTrains", name := "order", desc := "(II)I" } : Jvm.MethodName) ∈ oTB := oT3 25 rfl rfl
theorem wd_3_26 : Jvm.Cond.instanceMethod ({ cls := "OrreryTrains", name := "order", desc := "(II)I" } : Jvm.MethodName) ∈ oTB := oT3 26 rfl rfl
theorem wd_3_27 : Jvm.Cond.selects "OrreryTrains" ({ cls := "OrreryTrains", name := "order", desc := "(II)I" } : Jvm.MethodName) ({ cls := "OrreryTrains", name := "order", desc := "(II)I" } : Jvm.MethodName) ∈ oTB := oT3 27 rfl rfl
theorem wd_3_28 : Jvm.Cond.code ({ cls := "OrreryTrains", name := "order", desc := "(II)I" } : Jvm.MethodName) prog_1_method_22_code (4 : Nat) (Option.some Jvm.ClassFile.FieldType.int) ∈ oTB := oT3 28 rfl rfl
theorem wd_3_29 : Jvm.Cond.methodLink "OrreryTrains" (229 : Nat) ({ cls := "OrreryTrains", name := "bestOrder", desc := "(I)I" } : Jvm.MethodName) ∈ oTB := oT3 29 rfl rfl
theorem wd_3_31 : Jvm.Cond.instanceMethod ({ cls := "OrreryTrains", name := "bestOrder", desc := "(I)I" } : Jvm.MethodName) ∈ oTB := oT3 31 rfl rfl
theorem wd_3_32 : Jvm.Cond.code ({ cls := "OrreryTrains", name := "bestOrder", desc := "(I)I" } : Jvm.MethodName) prog_1_method_48_code (6 : Nat) (Option.some Jvm.ClassFile.FieldType.int) ∈ oTB := oT3 32 rfl rfl
theorem wd_3_33 : Jvm.Cond.methodLink "OrreryTrains" (232 : Nat) ({ cls := "OrreryTrains", name := "wheelsBy", desc := "(II)I" } : Jvm.MethodName) ∈ oTB := oT3 33 rfl rfl
theorem wd_3_35 : Jvm.Cond.instanceMethod ({ cls := "OrreryTrains", name := "wheelsBy", desc := "(II)I" } : Jvm.MethodName) ∈ oTB := oT3 35 rfl rfl
theorem wd_3_36 : Jvm.Cond.code ({ cls := "OrreryTrains", name := "wheelsBy", desc := "(II)I" } : Jvm.MethodName) prog_1_method_49_code (4 : Nat) (Option.some Jvm.ClassFile.FieldType.int) ∈ oTB := oT3 36 rfl rfl
theorem wd_3_37 : Jvm.Cond.methodLink "OrreryTrains" (282 : Nat) ({ cls := "OrreryTrains$Orrery", name := "copyFrom", desc := "(LOrreryTrains$Orrery;)V" } : Jvm.MethodName) ∈ oTB := oT3 37 rfl rfl
theorem wd_3_38 : Jvm.Cond.instanceMethod ({ cls := "OrreryTrains$Orrery", name := "copyFrom", desc := "(LOrreryTrains$Orrery;)V" } : Jvm.MethodName) ∈ oTB := oT3 38 rfl rfl
theorem wd_3_39 : Jvm.Cond.selects "OrreryTrains$Orrery" ({ cls := "OrreryTrains$Orrery", name := "copyFrom", desc := "(LOrreryTrains$Orrery;)V" } : Jvm.MethodName) ({ cls := "OrreryTrains$Orrery", name := "copyFrom", desc := "(LOrreryTrains$Orrery;)V" } : Jvm.MethodName) ∈ oTB := oT3 39 rfl rfl
theorem wd_3_40 : Jvm.Cond.code ({ cls := "OrreryTrains$Orrery", name := "copyFrom", desc := "(LOrreryTrains$Orrery;)V" } : Jvm.MethodName) prog_3_method_2_code (2 : Nat) (Option.none : Option Jvm.ClassFile.FieldType) ∈ oTB := oT3 40 rfl rfl
theorem wd_3_42 : Jvm.Cond.static ({ cls := "OrreryTrains", name := "copy", desc := "([I[I)V" } : Jvm.MethodName) ∈ oTB := oT3 42 rfl rfl
theorem wd_3_43 : Jvm.Cond.code ({ cls := "OrreryTrains", name := "copy", desc := "([I[I)V" } : Jvm.MethodName) prog_1_method_63_code (3 : Nat) (Option.none : Option Jvm.ClassFile.FieldType) ∈ oTB := oT3 43 rfl rfl
theorem wd_3_44 : Jvm.Cond.methodLink "OrreryTrains$Orrery" (60 : Nat) ({ cls := "OrreryTrains$Pairs", name := "copyFrom", desc := "(LOrreryTrains$Pairs;)V" } : Jvm.MethodName) ∈ oTB := oT3 44 rfl rfl
theorem wd_3_45 : Jvm.Cond.instanceMethod ({ cls := "OrreryTrains$Pairs", name := "copyFrom", desc := "(LOrreryTrains$Pairs;)V" } : Jvm.MethodName) ∈ oTB := oT3 45 rfl rfl
theorem wd_3_46 : Jvm.Cond.selects "OrreryTrains$Pairs" ({ cls := "OrreryTrains$Pairs", name := "copyFrom", desc := "(LOrreryTrains$Pairs;)V" } : Jvm.MethodName) ({ cls := "OrreryTrains$Pairs", name := "copyFrom", desc := "(LOrreryTrains$Pairs;)V" } : Jvm.MethodName) ∈ oTB := oT3 46 rfl rfl
theorem wd_3_47 : Jvm.Cond.code ({ cls := "OrreryTrains$Pairs", name := "copyFrom", desc := "(LOrreryTrains$Pairs;)V" } : Jvm.MethodName) prog_4_method_2_code (2 : Nat) (Option.none : Option Jvm.ClassFile.FieldType) ∈ oTB := oT3 47 rfl rfl
theorem wd_3_49 : Jvm.Cond.methodLink "OrreryTrains$Orrery" (64 : Nat) ({ cls := "OrreryTrains$Trains", name := "copyFrom", desc := "(LOrreryTrains$Trains;)V" } : Jvm.MethodName) ∈ oTB := oT3 49 rfl rfl
theorem wd_3_50 : Jvm.Cond.instanceMethod ({ cls := "OrreryTrains$Trains", name := "copyFrom", desc := "(LOrreryTrains$Trains;)V" } : Jvm.MethodName) ∈ oTB := oT3 50 rfl rfl
theorem wd_3_51 : Jvm.Cond.selects "OrreryTrains$Trains" ({ cls := "OrreryTrains$Trains", name := "copyFrom", desc := "(LOrreryTrains$Trains;)V" } : Jvm.MethodName) ({ cls := "OrreryTrains$Trains", name := "copyFrom", desc := "(LOrreryTrains$Trains;)V" } : Jvm.MethodName) ∈ oTB := oT3 51 rfl rfl
theorem wd_3_52 : Jvm.Cond.code ({ cls := "OrreryTrains$Trains", name := "copyFrom", desc := "(LOrreryTrains$Trains;)V" } : Jvm.MethodName) prog_9_method_2_code (2 : Nat) (Option.none : Option Jvm.ClassFile.FieldType) ∈ oTB := oT3 52 rfl rfl
theorem wd_3_54 : Jvm.Cond.methodLink "OrreryTrains$Orrery" (67 : Nat) ({ cls := "OrreryTrains$Plan", name := "copyFrom", desc := "(LOrreryTrains$Plan;)V" } : Jvm.MethodName) ∈ oTB := oT3 54 rfl rfl
theorem wd_3_55 : Jvm.Cond.instanceMethod ({ cls := "OrreryTrains$Plan", name := "copyFrom", desc := "(LOrreryTrains$Plan;)V" } : Jvm.MethodName) ∈ oTB := oT3 55 rfl rfl
theorem wd_3_56 : Jvm.Cond.selects "OrreryTrains$Plan" ({ cls := "OrreryTrains$Plan", name := "copyFrom", desc := "(LOrreryTrains$Plan;)V" } : Jvm.MethodName) ({ cls := "OrreryTrains$Plan", name := "copyFrom", desc := "(LOrreryTrains$Plan;)V" } : Jvm.MethodName) ∈ oTB := oT3 56 rfl rfl
theorem wd_3_57 : Jvm.Cond.code ({ cls := "OrreryTrains$Plan", name := "copyFrom", desc := "(LOrreryTrains$Plan;)V" } : Jvm.MethodName) prog_5_method_2_code (2 : Nat) (Option.none : Option Jvm.ClassFile.FieldType) ∈ oTB := oT3 57 rfl rfl
theorem wd_3_59 : Jvm.Cond.methodLink "OrreryTrains" (235 : Nat) ({ cls := "OrreryTrains", name := "placeBy", desc := "(II)I" } : Jvm.MethodName) ∈ oTB := oT3 59 rfl rfl
theorem wd_3_60 : Jvm.Cond.static ({ cls := "OrreryTrains", name := "placeBy", desc := "(II)I" } : Jvm.MethodName) ∈ oTB := oT3 60 rfl rfl
theorem wd_3_61 : Jvm.Cond.code ({ cls := "OrreryTrains", name := "placeBy", desc := "(II)I" } : Jvm.MethodName) prog_1_method_58_code (2 : Nat) (Option.some Jvm.ClassFile.FieldType.int) ∈ oTB := oT3 61 rfl rfl
theorem wd_3_62 : Jvm.Cond.fieldLink "OrreryTrains" (338 : Nat) "OrreryTrains" "ORDERS" "[I" ∈ oTB := oT3 62 rfl rfl
theorem wd_3_64 : Jvm.Cond.methodLink "OrreryTrains" (335 : Nat) ({ cls := "OrreryTrains$Trains", name := "wheels", desc := "()I" } : Jvm.MethodName) ∈ oTB := oT3 64 rfl rfl
theorem wd_3_65 : Jvm.Cond.instanceMethod ({ cls := "OrreryTrains$Trains", name := "wheels", desc := "()I" } : Jvm.MethodName) ∈ oTB := oT3 65 rfl rfl
theorem wd_3_66 : Jvm.Cond.selects "OrreryTrains$Trains" ({ cls := "OrreryTrains$Trains", name := "wheels", desc := "()I" } : Jvm.MethodName) ({ cls := "OrreryTrains$Trains", name := "wheels", desc := "()I" } : Jvm.MethodName) ∈ oTB := oT3 66 rfl rfl
theorem wd_3_67 : Jvm.Cond.code ({ cls := "OrreryTrains$Trains", name := "wheels", desc := "()I" } : Jvm.MethodName) prog_9_method_11_code (5 : Nat) (Option.some Jvm.ClassFile.FieldType.int) ∈ oTB := oT3 67 rfl rfl
theorem wd_3_68 : Jvm.Cond.methodLink "OrreryTrains$Trains" (47 : Nat) ({ cls := "OrreryTrains$Trains", name := "shared", desc := "(II)I" } : Jvm.MethodName) ∈ oTB := oT3 68 rfl rfl
theorem wd_3_69 : Jvm.Cond.methodLink "OrreryTrains$Trains" (50 : Nat) ({ cls := "java/lang/Math", name := "max", desc := "(II)I" } : Jvm.MethodName) ∈ oTB := oT3 69 rfl rfl
theorem wd_3_70 : Jvm.Cond.static ({ cls := "java/lang/Math", name := "max", desc := "(II)I" } : Jvm.MethodName) ∈ oTB := oT3 70 rfl rfl
theorem wd_3_71 : Jvm.Cond.code ({ cls := "java/lang/Math", name := "max", desc := "(II)I" } : Jvm.MethodName) prog_12_method_65_code (2 : Nat) (Option.some Jvm.ClassFile.FieldType.int) ∈ oTB := oT3 71 rfl rfl
theorem wd_3_72 : Jvm.Cond.methodLink "OrreryTrains" (341 : Nat) ({ cls := "OrreryTrains", name := "isOrderOf", desc := "(II)Z" } : Jvm.MethodName) ∈ oTB := oT3 72 rfl rfl
theorem wd_3_73 : Jvm.Cond.static ({ cls := "OrreryTrains", name := "isOrderOf", desc := "(II)Z" } : Jvm.MethodName) ∈ oTB := oT3 73 rfl rfl
theorem wd_3_74 : Jvm.Cond.code ({ cls := "OrreryTrains", name := "isOrderOf", desc := "(II)Z" } : Jvm.MethodName) prog_1_method_57_code (3 : Nat) (Option.some Jvm.ClassFile.FieldType.boolean) ∈ oTB := oT3 74 rfl rfl
theorem wd_3_75 : Jvm.Cond.methodLink "OrreryTrainsLaw" (103 : Nat) ({ cls := "OrreryTrains", name := "found", desc := "(II)I" } : Jvm.MethodName) ∈ oTB := oT3 75 rfl rfl
theorem wd_3_76 : Jvm.Cond.instanceMethod ({ cls := "OrreryTrains", name := "found", desc := "(II)I" } : Jvm.MethodName) ∈ oTB := oT3 76 rfl rfl
theorem wd_3_77 : Jvm.Cond.selects "OrreryTrains" ({ cls := "OrreryTrains", name := "found", desc := "(II)I" } : Jvm.MethodName) ({ cls := "OrreryTrains", name := "found", desc := "(II)I" } : Jvm.MethodName) ∈ oTB := oT3 77 rfl rfl
theorem wd_3_78 : Jvm.Cond.code ({ cls := "OrreryTrains", name := "found", desc := "(II)I" } : Jvm.MethodName) prog_1_method_23_code (4 : Nat) (Option.some Jvm.ClassFile.FieldType.int) ∈ oTB := oT3 78 rfl rfl
theorem wd_3_79 : Jvm.Cond.methodLink "OrreryTrains" (238 : Nat) ({ cls := "OrreryTrains$Finder", name := "seek", desc := "(IIII)V" } : Jvm.MethodName) ∈ oTB := oT3 79 rfl rfl
theorem wd_3_80 : Jvm.Cond.instanceMethod ({ cls := "OrreryTrains$Finder", name := "seek", desc := "(IIII)V" } : Jvm.MethodName) ∈ oTB := oT3 80 rfl rfl
theorem wd_3_81 : Jvm.Cond.selects "OrreryTrains$Finder" ({ cls := "OrreryTrains$Finder", name := "seek", desc := "(IIII)V" } : Jvm.MethodName) ({ cls := "OrreryTrains$Finder", name := "seek", desc := "(IIII)V" } : Jvm.MethodName) ∈ oTB := oT3 81 rfl rfl
theorem wd_3_82 : Jvm.Cond.code ({ cls := "OrreryTrains$Finder", name := "seek", desc := "(IIII)V" } : Jvm.MethodName) prog_2_method_2_code (5 : Nat) (Option.none : Option Jvm.ClassFile.FieldType) ∈ oTB := oT3 82 rfl rfl
theorem wd_3_83 : Jvm.Cond.methodLink "OrreryTrains$Finder" (41 : Nat) ({ cls := "OrreryTrains$Finder", name := "seekOnePair", desc := "()V" } : Jvm.MethodName) ∈ oTB := oT3 83 rfl rfl
theorem wd_3_85 : Jvm.Cond.instanceMethod ({ cls := "OrreryTrains$Finder", name := "seekOnePair", desc := "()V" } : Jvm.MethodName) ∈ oTB := oT3 85 rfl rfl
theorem wd_3_86 : Jvm.Cond.code ({ cls := "OrreryTrains$Finder", name := "seekOnePair", desc := "()V" } : Jvm.MethodName) prog_2_method_8_code (3 : Nat) (Option.none : Option Jvm.ClassFile.FieldType) ∈ oTB := oT3 86 rfl rfl
theorem wd_3_87 : Jvm.Cond.methodLink "OrreryTrains$Finder" (47 : Nat) ({ cls := "OrreryTrains$Finder", name := "offer", desc := "(IIII)V" } : Jvm.MethodName) ∈ oTB := oT3 87 rfl rfl
theorem wd_3_89 : Jvm.Cond.instanceMethod ({ cls := "OrreryTrains$Finder", name := "offer", desc := "(IIII)V" } : Jvm.MethodName) ∈ oTB := oT3 89 rfl rfl
theorem wd_3_90 : Jvm.Cond.code ({ cls := "OrreryTrains$Finder", name := "offer", desc := "(IIII)V" } : Jvm.MethodName) prog_2_method_11_code (13 : Nat) (Option.none : Option Jvm.ClassFile.FieldType) ∈ oTB := oT3 90 rfl rfl
theorem wd_3_91 : Jvm.Cond.methodLink "OrreryTrains$Finder" (65 : Nat) ({ cls := "OrreryTrains$Finder", name := "product", desc := "(II)J" } : Jvm.MethodName) ∈ oTB := oT3 91 rfl rfl
theorem wd_3_92 : Jvm.Cond.static ({ cls := "OrreryTrains$Finder", name := "product", desc := "(II)J" } : Jvm.MethodName) ∈ oTB := oT3 92 rfl rfl
theorem wd_3_93 : Jvm.Cond.code ({ cls := "OrreryTrains$Finder", name := "product", desc := "(II)J" } : Jvm.MethodName) prog_2_method_13_code (2 : Nat) (Option.some Jvm.ClassFile.FieldType.long) ∈ oTB := oT3 93 rfl rfl
theorem wd_3_94 : Jvm.Cond.methodLink "OrreryTrains$Finder" (69 : Nat) ({ cls := "java/lang/Math", name := "abs", desc := "(J)J" } : Jvm.MethodName) ∈ oTB := oT3 94 rfl rfl
theorem wd_3_95 : Jvm.Cond.methodLink "OrreryTrains$Finder" (75 : Nat) ({ cls := "OrreryTrains$Finder", name := "isAhead", desc := "(IIII)Z" } : Jvm.MethodName) ∈ oTB := oT3 95 rfl rfl
theorem wd_3_97 : Jvm.Cond.instanceMethod ({ cls := "OrreryTrains$Finder", name := "isAhead", desc := "(IIII)Z" } : Jvm.MethodName) ∈ oTB := oT3 97 rfl rfl
theorem wd_3_98 : Jvm.Cond.code ({ cls := "OrreryTrains$Finder", name := "isAhead", desc := "(IIII)Z" } : Jvm.MethodName) prog_2_method_12_code (6 : Nat) (Option.some Jvm.ClassFile.FieldType.boolean) ∈ oTB := oT3 98 rfl rfl
theorem wd_3_99 : Jvm.Cond.methodLink "OrreryTrains$Finder" (79 : Nat) ({ cls := "OrreryTrains$Finder", name := "isOnePair", desc := "()Z" } : Jvm.MethodName) ∈ oTB := oT3 99 rfl rfl
theorem wd_3_100 : Jvm.Cond.instanceMethod ({ cls := "OrreryTrains$Finder", name := "isOnePair", desc := "()Z" } : Jvm.MethodName) ∈ oTB := oT3 100 rfl rfl
theorem wd_3_101 : Jvm.Cond.selects "OrreryTrains$Finder" ({ cls := "OrreryTrains$Finder", name := "isOnePair", desc := "()Z" } : Jvm.MethodName) ({ cls := "OrreryTrains$Finder", name := "isOnePair", desc := "()Z" } : Jvm.MethodName) ∈ oTB := oT3 101 rfl rfl
theorem wd_3_102 : Jvm.Cond.code ({ cls := "OrreryTrains$Finder", name := "isOnePair", desc := "()Z" } : Jvm.MethodName) prog_2_method_3_code (1 : Nat) (Option.some Jvm.ClassFile.FieldType.boolean) ∈ oTB := oT3 102 rfl rfl
theorem wd_3_103 : Jvm.Cond.methodLink "OrreryTrains$Finder" (83 : Nat) ({ cls := "OrreryTrains$Finder", name := "allTeeth", desc := "()I" } : Jvm.MethodName) ∈ oTB := oT3 103 rfl rfl
theorem wd_3_104 : Jvm.Cond.instanceMethod ({ cls := "OrreryTrains$Finder", name := "allTeeth", desc := "()I" } : Jvm.MethodName) ∈ oTB := oT3 104 rfl rfl
theorem wd_3_105 : Jvm.Cond.selects "OrreryTrains$Finder" ({ cls := "OrreryTrains$Finder", name := "allTeeth", desc := "()I" } : Jvm.MethodName) ({ cls := "OrreryTrains$Finder", name := "allTeeth", desc := "()I" } : Jvm.MethodName) ∈ oTB := oT3 105 rfl rfl
theorem wd_3_106 : Jvm.Cond.code ({ cls := "OrreryTrains$Finder", name := "allTeeth", desc := "()I" } : Jvm.MethodName) prog_2_method_4_code (1 : Nat) (Option.some Jvm.ClassFile.FieldType.int) ∈ oTB := oT3 106 rfl rfl
theorem wd_3_107 : Jvm.Cond.methodLink "OrreryTrains$Finder" (44 : Nat) ({ cls := "OrreryTrains$Finder", name := "seekTwoPairs", desc := "()V" } : Jvm.MethodName) ∈ oTB := oT3 107 rfl rfl
theorem wd_3_109 : Jvm.Cond.instanceMethod ({ cls := "OrreryTrains$Finder", name := "seekTwoPairs", desc := "()V" } : Jvm.MethodName) ∈ oTB := oT3 109 rfl rfl
theorem wd_3_110 : Jvm.Cond.code ({ cls := "OrreryTrains$Finder", name := "seekTwoPairs", desc := "()V" } : Jvm.MethodName) prog_2_method_9_code (4 : Nat) (Option.none : Option Jvm.ClassFile.FieldType) ∈ oTB := oT3 110 rfl rfl
theorem wd_3_111 : Jvm.Cond.methodLink "OrreryTrains$Finder" (51 : Nat) ({ cls := "OrreryTrains$Finder", name := "offerFourth", desc := "(III)V" } : Jvm.MethodName) ∈ oTB := oT3 111 rfl rfl
theorem wd_3_113 : Jvm.Cond.instanceMethod ({ cls := "OrreryTrains$Finder", name := "offerFourth", desc := "(III)V" } : Jvm.MethodName) ∈ oTB := oT3 113 rfl rfl
theorem wd_3_114 : Jvm.Cond.code ({ cls := "OrreryTrains$Finder", name := "offerFourth", desc := "(III)V" } : Jvm.MethodName) prog_2_method_10_code (8 : Nat) (Option.none : Option Jvm.ClassFile.FieldType) ∈ oTB := oT3 114 rfl rfl
theorem wd_3_116 : Jvm.Cond.methodLink "OrreryTrains$Finder" (61 : Nat) ({ cls := "OrreryTrains$Finder", name := "within", desc := "(JII)I" } : Jvm.MethodName) ∈ oTB := oT3 116 rfl rfl
theorem wd_3_117 : Jvm.Cond.static ({ cls := "OrreryTrains$Finder", name := "within", desc := "(JII)I" } : Jvm.MethodName) ∈ oTB := oT3 117 rfl rfl
theorem wd_3_118 : Jvm.Cond.code ({ cls := "OrreryTrains$Finder", name := "within", desc := "(JII)I" } : Jvm.MethodName) prog_2_method_14_code (4 : Nat) (Option.some Jvm.ClassFile.FieldType.int) ∈ oTB := oT3 118 rfl rfl
theorem wd_3_119 : Jvm.Cond.methodLink "OrreryTrains$Finder" (87 : Nat) ({ cls := "java/lang/Math", name := "min", desc := "(JJ)J" } : Jvm.MethodName) ∈ oTB := oT3 119 rfl rfl
theorem wd_3_120 : Jvm.Cond.static ({ cls := "java/lang/Math", name := "min", desc := "(JJ)J" } : Jvm.MethodName) ∈ oTB := oT3 120 rfl rfl
theorem wd_3_121 : Jvm.Cond.code ({ cls := "java/lang/Math", name := "min", desc := "(JJ)J" } : Jvm.MethodName) prog_12_method_70_code (4 : Nat) (Option.some Jvm.ClassFile.FieldType.long) ∈ oTB := oT3 121 rfl rfl
theorem wd_3_122 : Jvm.Cond.methodLink "OrreryTrains$Finder" (90 : Nat) ({ cls := "java/lang/Math", name := "max", desc := "(JJ)J" } : Jvm.MethodName) ∈ oTB := oT3 122 rfl rfl
theorem wd_3_123 : Jvm.Cond.static ({ cls := "java/lang/Math", name := "max", desc := "(JJ)J" } : Jvm.MethodName) ∈ oTB := oT3 123 rfl rfl
theorem wd_3_124 : Jvm.Cond.code ({ cls := "java/lang/Math", name := "max", desc := "(JJ)J" } : Jvm.MethodName) prog_12_method_66_code (4 : Nat) (Option.some Jvm.ClassFile.FieldType.long) ∈ oTB := oT3 124 rfl rfl
theorem wd_3_125 : Jvm.Cond.methodLink "OrreryTrains" (242 : Nat) ({ cls := "OrreryTrains$Finder", name := "isOnePair", desc := "()Z" } : Jvm.MethodName) ∈ oTB := oT3 125 rfl rfl
theorem wd_3_126 : Jvm.Cond.methodLink "OrreryTrains" (246 : Nat) ({ cls := "OrreryTrains$Finder", name := "allTeeth", desc := "()I" } : Jvm.MethodName) ∈ oTB := oT3 126 rfl rfl
theorem wd_3_127 : Jvm.Cond.methodLink "OrreryTrains" (249 : Nat) ({ cls := "OrreryTrains$Finder", name := "wheel", desc := "(I)I" } : Jvm.MethodName) ∈ oTB := oT3 127 rfl rfl
theorem wd_3_128 : Jvm.Cond.instanceMethod ({ cls := "OrreryTrains$Finder", name := "wheel", desc := "(I)I" } : Jvm.MethodName) ∈ oTB := oT3 128 rfl rfl
theorem wd_3_129 : Jvm.Cond.selects "OrreryTrains$Finder" ({ cls := "OrreryTrains$Finder", name := "wheel", desc := "(I)I" } : Jvm.MethodName) ({ cls := "OrreryTrains$Finder", name := "wheel", desc := "(I)I" } : Jvm.MethodName) ∈ oTB := oT3 129 rfl rfl
theorem wd_3_130 : Jvm.Cond.code ({ cls := "OrreryTrains$Finder", name := "wheel", desc := "(I)I" } : Jvm.MethodName) prog_2_method_5_code (2 : Nat) (Option.some Jvm.ClassFile.FieldType.int) ∈ oTB := oT3 130 rfl rfl
theorem wd_3_131 : Jvm.Cond.methodLink "OrreryTrainsLaw" (107 : Nat) ({ cls := "OrreryTrains", name := "foundWrong", desc := "(II)J" } : Jvm.MethodName) ∈ oTB := oT3 131 rfl rfl
theorem wd_3_132 : Jvm.Cond.instanceMethod ({ cls := "OrreryTrains", name := "foundWrong", desc := "(II)J" } : Jvm.MethodName) ∈ oTB := oT3 132 rfl rfl
theorem wd_3_133 : Jvm.Cond.selects "OrreryTrains" ({ cls := "OrreryTrains", name := "foundWrong", desc := "(II)J" } : Jvm.MethodName) ({ cls := "OrreryTrains", name := "foundWrong", desc := "(II)J" } : Jvm.MethodName) ∈ oTB := oT3 133 rfl rfl
theorem wd_3_134 : Jvm.Cond.code ({ cls := "OrreryTrains", name := "foundWrong", desc := "(II)J" } : Jvm.MethodName) prog_1_method_24_code (3 : Nat) (Option.some Jvm.ClassFile.FieldType.long) ∈ oTB := oT3 134 rfl rfl
theorem wd_3_135 : Jvm.Cond.methodLink "OrreryTrains" (252 : Nat) ({ cls := "OrreryTrains$Finder", name := "wrongAbove", desc := "()J" } : Jvm.MethodName) ∈ oTB := oT3 135 rfl rfl
theorem wd_3_136 : Jvm.Cond.instanceMethod ({ cls := "OrreryTrains$Finder", name := "wrongAbove", desc := "()J" } : Jvm.MethodName) ∈ oTB := oT3 136 rfl rfl
theorem wd_3_137 : Jvm.Cond.selects "OrreryTrains$Finder" ({ cls := "OrreryTrains$Finder", name := "wrongAbove", desc := "()J" } : Jvm.MethodName) ({ cls := "OrreryTrains$Finder", name := "wrongAbove", desc := "()J" } : Jvm.MethodName) ∈ oTB := oT3 137 rfl rfl
theorem wd_3_138 : Jvm.Cond.code ({ cls := "OrreryTrains$Finder", name := "wrongAbove", desc := "()J" } : Jvm.MethodName) prog_2_method_6_code (1 : Nat) (Option.some Jvm.ClassFile.FieldType.long) ∈ oTB := oT3 138 rfl rfl
theorem wd_3_139 : Jvm.Cond.methodLink "OrreryTrains" (255 : Nat) ({ cls := "OrreryTrains$Finder", name := "wrongBelow", desc := "()J" } : Jvm.MethodName) ∈ oTB := oT3 139 rfl rfl
theorem wd_3_140 : Jvm.Cond.instanceMethod ({ cls := "OrreryTrains$Finder", name := "wrongBelow", desc := "()J" } : Jvm.MethodName) ∈ oTB := oT3 140 rfl rfl
theorem wd_3_141 : Jvm.Cond.selects "OrreryTrains$Finder" ({ cls := "OrreryTrains$Finder", name := "wrongBelow", desc := "()J" } : Jvm.MethodName) ({ cls := "OrreryTrains$Finder", name := "wrongBelow", desc := "()J" } : Jvm.MethodName) ∈ oTB := oT3 141 rfl rfl
theorem wd_3_142 : Jvm.Cond.code ({ cls := "OrreryTrains$Finder", name := "wrongBelow", desc := "()J" } : Jvm.MethodName) prog_2_method_7_code (1 : Nat) (Option.some Jvm.ClassFile.FieldType.long) ∈ oTB := oT3 142 rfl rfl
theorem wd_3_143 : Jvm.Cond.methodLink "OrreryTrainsLaw" (111 : Nat) ({ cls := "OrreryTrains", name := "turn", desc := "(I)I" } : Jvm.MethodName) ∈ oTB := oT3 143 rfl rfl
theorem wd_3_144 : Jvm.Cond.instanceMethod ({ cls := "OrreryTrains", name := "turn", desc := "(I)I" } : Jvm.MethodName) ∈ oTB := oT3 144 rfl rfl
theorem wd_3_145 : Jvm.Cond.selects "OrreryTrains" ({ cls := "OrreryTrains", name := "turn", desc := "(I)I" } : Jvm.MethodName) ({ cls := "OrreryTrains", name := "turn", desc := "(I)I" } : Jvm.MethodName) ∈ oTB := oT3 145 rfl rfl
theorem wd_3_146 : Jvm.Cond.code ({ cls := "OrreryTrains", name := "turn", desc := "(I)I" } : Jvm.MethodName) prog_1_method_25_code (2 : Nat) (Option.some Jvm.ClassFile.FieldType.int) ∈ oTB := oT3 146 rfl rfl
theorem wd_3_147 : Jvm.Cond.methodLink "OrreryTrains" (257 : Nat) ({ cls := "OrreryTrains", name := "isCranked", desc := "(I)Z" } : Jvm.MethodName) ∈ oTB := oT3 147 rfl rfl
theorem wd_3_148 : Jvm.Cond.static ({ cls := "OrreryTrains", name := "isCranked", desc := "(I)Z" } : Jvm.MethodName) ∈ oTB := oT3 148 rfl rfl
theorem wd_3_149 : Jvm.Cond.code ({ cls := "OrreryTrains", name := "isCranked", desc := "(I)Z" } : Jvm.MethodName) prog_1_method_54_code (1 : Nat) (Option.some Jvm.ClassFile.FieldType.boolean) ∈ oTB := oT3 149 rfl rfl
theorem wd_3_150 : Jvm.Cond.methodLink "OrreryTrains" (263 : Nat) ({ cls := "OrreryTrains$Orrery", name := "crankBy", desc := "(I)V" } : Jvm.MethodName) ∈ oTB := oT3 150 rfl rfl
theorem wd_3_151 : Jvm.Cond.instanceMethod ({ cls := "OrreryTrains$Orrery", name := "crankBy", desc := "(I)V" } : Jvm.MethodName) ∈ oTB := oT3 151 rfl rfl
theorem wd_3_152 : Jvm.Cond.selects "OrreryTrains$Orrery" ({ cls := "OrreryTrains$Orrery", name := "crankBy", desc := "(I)V" } : Jvm.MethodName) ({ cls := "OrreryTrains$Orrery", name := "crankBy", desc := "(I)V" } : Jvm.MethodName) ∈ oTB := oT3 152 rfl rfl
theorem wd_3_153 : Jvm.Cond.code ({ cls := "OrreryTrains$Orrery", name := "crankBy", desc := "(I)V" } : Jvm.MethodName) prog_3_method_15_code (2 : Nat) (Option.none : Option Jvm.ClassFile.FieldType) ∈ oTB := oT3 153 rfl rfl
theorem wd_3_154 : Jvm.Cond.methodLink "OrreryTrains$Orrery" (129 : Nat) ({ cls := "java/lang/Math", name := "min", desc := "(II)I" } : Jvm.MethodName) ∈ oTB := oT3 154 rfl rfl
theorem wd_3_155 : Jvm.Cond.methodLink "OrreryTrains$Orrery" (134 : Nat) ({ cls := "java/lang/Math", name := "max", desc := "(II)I" } : Jvm.MethodName) ∈ oTB := oT3 155 rfl rfl
theorem wd_3_156 : Jvm.Cond.methodLink "OrreryTrainsLaw" (115 : Nat) ({ cls := "OrreryTrains", name := "crank", desc := "(I)I" } : Jvm.MethodName) ∈ oTB := oT3 156 rfl rfl
theorem wd_3_157 : Jvm.Cond.instanceMethod ({ cls := "OrreryTrains", name := "crank", desc := "(I)I" } : Jvm.MethodName) ∈ oTB := oT3 157 rfl rfl
theorem wd_3_158 : Jvm.Cond.selects "OrreryTrains" ({ cls := "OrreryTrains", name := "crank", desc := "(I)I" } : Jvm.MethodName) ({ cls := "OrreryTrains", name := "crank", desc := "(I)I" } : Jvm.MethodName) ∈ oTB := oT3 158 rfl rfl
theorem wd_3_159 : Jvm.Cond.code ({ cls := "OrreryTrains", name := "crank", desc := "(I)I" } : Jvm.MethodName) prog_1_method_26_code (2 : Nat) (Option.some Jvm.ClassFile.FieldType.int) ∈ oTB := oT3 159 rfl rfl
theorem wd_3_160 : Jvm.Cond.methodLink "OrreryTrainsLaw" (119 : Nat) ({ cls := "OrreryTrains", name := "stands", desc := "(I)J" } : Jvm.MethodName) ∈ oTB := oT3 160 rfl rfl
theorem wd_3_161 : Jvm.Cond.instanceMethod ({ cls := "OrreryTrains", name := "stands", desc := "(I)J" } : Jvm.MethodName) ∈ oTB := oT3 161 rfl rfl
theorem wd_3_162 : Jvm.Cond.selects "OrreryTrains" ({ cls := "OrreryTrains", name := "stands", desc := "(I)J" } : Jvm.MethodName) ({ cls := "OrreryTrains", name := "stands", desc := "(I)J" } : Jvm.MethodName) ∈ oTB := oT3 162 rfl rfl
theorem wd_3_163 : Jvm.Cond.code ({ cls := "OrreryTrains", name := "stands", desc := "(I)J" } : Jvm.MethodName) prog_1_method_27_code (2 : Nat) (Option.some Jvm.ClassFile.FieldType.long) ∈ oTB := oT3 163 rfl rfl
theorem wd_3_164 : Jvm.Cond.methodLink "OrreryTrains" (270 : Nat) ({ cls := "OrreryTrains$Orrery", name := "standing", desc := "(I)J" } : Jvm.MethodName) ∈ oTB := oT3 164 rfl rfl
theorem wd_3_165 : Jvm.Cond.instanceMethod ({ cls := "OrreryTrains$Orrery", name := "standing", desc := "(I)J" } : Jvm.MethodName) ∈ oTB := oT3 165 rfl rfl
theorem wd_3_166 : Jvm.Cond.selects "OrreryTrains$Orrery" ({ cls := "OrreryTrains$Orrery", name := "standing", desc := "(I)J" } : Jvm.MethodName) ({ cls := "OrreryTrains$Orrery", name := "standing", desc := "(I)J" } : Jvm.MethodName) ∈ oTB := oT3 166 rfl rfl
theorem wd_3_167 : Jvm.Cond.code ({ cls := "OrreryTrains$Orrery", name := "standing", desc := "(I)J" } : Jvm.MethodName) prog_3_method_13_code (4 : Nat) (Option.some Jvm.ClassFile.FieldType.long) ∈ oTB := oT3 167 rfl rfl
theorem wd_3_168 : Jvm.Cond.constantLong "OrreryTrains$Orrery" (113 : Nat) (1000000 : Int64) ∈ oTB := oT3 168 rfl rfl
theorem wd_3_170 : Jvm.Cond.methodLink "OrreryTrains$Orrery" (119 : Nat) ({ cls := "OrreryTrains$Orrery", name := "slackAbove", desc := "(I)J" } : Jvm.MethodName) ∈ oTB := oT3 170 rfl rfl
theorem wd_3_171 : Jvm.Cond.methodLink "OrreryTrains$Orrery" (122 : Nat) ({ cls := "OrreryTrains$Orrery", name := "slackBelow", desc := "(I)J" } : Jvm.MethodName) ∈ oTB := oT3 171 rfl rfl
theorem wd_3_172 : Jvm.Cond.methodLink "OrreryTrains$Orrery" (125 : Nat) ({ cls := "OrreryTrains$Orrery", name := "isRound", desc := "(I)Z" } : Jvm.MethodName) ∈ oTB := oT3 172 rfl rfl
theorem wd_3_173 : Jvm.Cond.methodLink "OrreryTrainsLaw" (124 : Nat) ({ cls := "OrreryTrains", name := "meet", desc := "(II)J" } : Jvm.MethodName) ∈ oTB := oT3 173 rfl rfl
theorem wd_3_174 : Jvm.Cond.instanceMethod ({ cls := "OrreryTrains", name := "meet", desc := "(II)J" } : Jvm.MethodName) ∈ oTB := oT3 174 rfl rfl
theorem wd_3_175 : Jvm.Cond.selects "OrreryTrains" ({ cls := "OrreryTrains", name := "meet", desc := "(II)J" } : Jvm.MethodName) ({ cls := "OrreryTrains", name := "meet", desc := "(II)J" } : Jvm.MethodName) ∈ oTB := oT3 175 rfl rfl
theorem wd_3_176 : Jvm.Cond.code ({ cls := "OrreryTrains", name := "meet", desc := "(II)J" } : Jvm.MethodName) prog_1_method_28_code (7 : Nat) (Option.some Jvm.ClassFile.FieldType.long) ∈ oTB := oT3 176 rfl rfl
theorem wd_3_177 : Jvm.Cond.methodLink "OrreryTrainsLaw" (128 : Nat) ({ cls := "OrreryTrains", name := "join", desc := "(III)I" } : Jvm.MethodName) ∈ oTB := oT3 177 rfl rfl
theorem wd_3_178 : Jvm.Cond.instanceMethod ({ cls := "OrreryTrains", name := "join", desc := "(III)I" } : Jvm.MethodName) ∈ oTB := oT3 178 rfl rfl
theorem wd_3_179 : Jvm.Cond.selects "OrreryTrains" ({ cls := "OrreryTrains", name := "join", desc := "(III)I" } : Jvm.MethodName) ({ cls := "OrreryTrains", name := "join", desc := "(III)I" } : Jvm.MethodName) ∈ oTB := oT3 179 rfl rfl
theorem wd_3_180 : Jvm.Cond.code ({ cls := "OrreryTrains", name := "join", desc := "(III)I" } : Jvm.MethodName) prog_1_method_29_code (4 : Nat) (Option.some Jvm.ClassFile.FieldType.int) ∈ oTB := oT3 180 rfl rfl
theorem wd_3_181 : Jvm.Cond.methodLink "OrreryTrains" (276 : Nat) ({ cls := "OrreryTrains", name := "turnsUntilJoined", desc := "(III)I" } : Jvm.MethodName) ∈ oTB := oT3 181 rfl rfl
theorem wd_3_183 : Jvm.Cond.instanceMethod ({ cls := "OrreryTrains", name := "turnsUntilJoined", desc := "(III)I" } : Jvm.MethodName) ∈ oTB := oT3 183 rfl rfl
theorem wd_3_184 : Jvm.Cond.code ({ cls := "OrreryTrains", name := "turnsUntilJoined", desc := "(III)I" } : Jvm.MethodName) prog_1_method_50_code (21 : Nat) (Option.some Jvm.ClassFile.FieldType.int) ∈ oTB := oT3 184 rfl rfl
theorem wd_3_185 : Jvm.Cond.methodLink "OrreryTrains" (344 : Nat) ({ cls := "java/lang/Math", name := "floorMod", desc := "(JJ)J" } : Jvm.MethodName) ∈ oTB := oT3 185 rfl rfl
theorem wd_3_186 : Jvm.Cond.static ({ cls := "java/lang/Math", name := "floorMod", desc := "(JJ)J" } : Jvm.MethodName) ∈ oTB := oT3 186 rfl rfl
theorem wd_3_187 : Jvm.Cond.code ({ cls := "java/lang/Math", name := "floorMod", desc := "(JJ)J" } : Jvm.MethodName) prog_12_method_52_code (6 : Nat) (Option.some Jvm.ClassFile.FieldType.long) ∈ oTB := oT3 187 rfl rfl
theorem wd_3_188 : Jvm.Cond.methodLink "OrreryTrains" (347 : Nat) ({ cls := "java/lang/Math", name := "min", desc := "(JJ)J" } : Jvm.MethodName) ∈ oTB := oT3 188 rfl rfl
theorem wd_3_189 : Jvm.Cond.constantLong "OrreryTrains" (280 : Nat) (1000 : Int64) ∈ oTB := oT3 189 rfl rfl
theorem wd_3_190 : Jvm.Cond.methodLink "OrreryTrainsLaw" (132 : Nat) ({ cls := "OrreryTrains", name := "drift", desc := "(II)J" } : Jvm.MethodName) ∈ oTB := oT3 190 rfl rfl
theorem wd_3_191 : Jvm.Cond.instanceMethod ({ cls := "OrreryTrains", name := "drift", desc := "(II)J" } : Jvm.MethodName) ∈ oTB := oT3 191 rfl rfl
theorem wd_3_192 : Jvm.Cond.selects "OrreryTrains" ({ cls := "OrreryTrains", name := "drift", desc := "(II)J" } : Jvm.MethodName) ({ cls := "OrreryTrains", name := "drift", desc := "(II)J" } : Jvm.MethodName) ∈ oTB := oT3 192 rfl rfl
theorem wd_3_193 : Jvm.Cond.code ({ cls := "OrreryTrains", name := "drift", desc := "(II)J" } : Jvm.MethodName) prog_1_method_30_code (3 : Nat) (Option.some Jvm.ClassFile.FieldType.long) ∈ oTB := oT3 193 rfl rfl
theorem wd_3_194 : Jvm.Cond.methodLink "OrreryTrainsLaw" (138 : Nat) ({ cls := "OrreryTrains", name := "were", desc := "(IIJI)I" } : Jvm.MethodName) ∈ oTB := oT3 194 rfl rfl
theorem wd_3_195 : Jvm.Cond.instanceMethod ({ cls := "OrreryTrains", name := "were", desc := "(IIJI)I" } : Jvm.MethodName) ∈ oTB := oT3 195 rfl rfl
theorem wd_3_196 : Jvm.Cond.selects "OrreryTrains" ({ cls := "OrreryTrains", name := "were", desc := "(IIJI)I" } : Jvm.MethodName) ({ cls := "OrreryTrains", name := "were", desc := "(IIJI)I" } : Jvm.MethodName) ∈ oTB := oT3 196 rfl rfl
theorem wd_3_197 : Jvm.Cond.code ({ cls := "OrreryTrains", name := "were", desc := "(IIJI)I" } : Jvm.MethodName) prog_1_method_31_code (10 : Nat) (Option.some Jvm.ClassFile.FieldType.int) ∈ oTB := oT3 197 rfl rfl
theorem wd_3_198 : Jvm.Cond.methodLink "OrreryTrainsLaw" (143 : Nat) ({ cls := "OrreryTrains", name := "odds", desc := "(IIII)J" } : Jvm.MethodName) ∈ oTB := oT3 198 rfl rfl
theorem wd_3_199 : Jvm.Cond.instanceMethod ({ cls := "OrreryTrains", name := "odds", desc := "(IIII)J" } : Jvm.MethodName) ∈ oTB := oT3 199 rfl rfl
theorem wd_3_200 : Jvm.Cond.selects "OrreryTrains" ({ cls := "OrreryTrains", name := "odds", desc := "(IIII)J" } : Jvm.MethodName) ({ cls := "OrreryTrains", name := "odds", desc := "(IIII)J" } : Jvm.MethodName) ∈ oTB := oT3 200 rfl rfl
theorem wd_3_201 : Jvm.Cond.code ({ cls := "OrreryTrains", name := "odds", desc := "(IIII)J" } : Jvm.MethodName) prog_1_method_32_code (7 : Nat) (Option.some Jvm.ClassFile.FieldType.long) ∈ oTB := oT3 201 rfl rfl
theorem wd_3_202 : Jvm.Cond.methodLink "OrreryTrains" (286 : Nat) ({ cls := "OrreryTrains$Orrery", name := "slips", desc := "(II)Z" } : Jvm.MethodName) ∈ oTB := oT3 202 rfl rfl
theorem wd_3_203 : Jvm.Cond.instanceMethod ({ cls := "OrreryTrains$Orrery", name := "slips", desc := "(II)Z" } : Jvm.MethodName) ∈ oTB := oT3 203 rfl rfl
theorem wd_3_204 : Jvm.Cond.selects "OrreryTrains$Orrery" ({ cls := "OrreryTrains$Orrery", name := "slips", desc := "(II)Z" } : Jvm.MethodName) ({ cls := "OrreryTrains$Orrery", name := "slips", desc := "(II)Z" } : Jvm.MethodName) ∈ oTB := oT3 204 rfl rfl
theorem wd_3_205 : Jvm.Cond.code ({ cls := "OrreryTrains$Orrery", name := "slips", desc := "(II)Z" } : Jvm.MethodName) prog_3_method_14_code (5 : Nat) (Option.some Jvm.ClassFile.FieldType.boolean) ∈ oTB := oT3 205 rfl rfl
theorem wd_3_206 : Jvm.Cond.constant "OrreryTrains$Orrery" (128 : Nat) (1103515245 : Int32) ∈ oTB := oT3 206 rfl rfl
theorem wd_3_207 : Jvm.Cond.methodLink "OrreryTrainsLaw" (148 : Nat) ({ cls := "OrreryTrains", name := "plan", desc := "(II)I" } : Jvm.MethodName) ∈ oTB := oT3 207 rfl rfl
theorem wd_3_208 : Jvm.Cond.instanceMethod ({ cls := "OrreryTrains", name := "plan", desc := "(II)I" } : Jvm.MethodName) ∈ oTB := oT3 208 rfl rfl
theorem wd_3_209 : Jvm.Cond.selects "OrreryTrains" ({ cls := "OrreryTrains", name := "plan", desc := "(II)I" } : Jvm.MethodName) ({ cls := "OrreryTrains", name := "plan", desc := "(II)I" } : Jvm.MethodName) ∈ oTB := oT3 209 rfl rfl
theorem wd_3_210 : Jvm.Cond.code ({ cls := "OrreryTrains", name := "plan", desc := "(II)I" } : Jvm.MethodName) prog_1_method_33_code (3 : Nat) (Option.some Jvm.ClassFile.FieldType.int) ∈ oTB := oT3 210 rfl rfl
theorem wd_3_211 : Jvm.Cond.methodLink "OrreryTrains" (296 : Nat) ({ cls := "OrreryTrains", name := "isPlanned", desc := "(II)Z" } : Jvm.MethodName) ∈ oTB := oT3 211 rfl rfl
theorem wd_3_212 : Jvm.Cond.static ({ cls := "OrreryTrains", name := "isPlanned", desc := "(II)Z" } : Jvm.MethodName) ∈ oTB := oT3 212 rfl rfl
theorem wd_3_213 : Jvm.Cond.code ({ cls := "OrreryTrains", name := "isPlanned", desc := "(II)Z" } : Jvm.MethodName) prog_1_method_55_code (2 : Nat) (Option.some Jvm.ClassFile.FieldType.boolean) ∈ oTB := oT3 213 rfl rfl
theorem wd_3_214 : Jvm.Cond.methodLink "OrreryTrains" (299 : Nat) ({ cls := "OrreryTrains$Plan", name := "add", desc := "(II)V" } : Jvm.MethodName) ∈ oTB := oT3 214 rfl rfl
theorem wd_3_215 : Jvm.Cond.instanceMethod ({ cls := "OrreryTrains$Plan", name := "add", desc := "(II)V" } : Jvm.MethodName) ∈ oTB := oT3 215 rfl rfl
theorem wd_3_216 : Jvm.Cond.selects "OrreryTrains$Plan" ({ cls := "OrreryTrains$Plan", name := "add", desc := "(II)V" } : Jvm.MethodName) ({ cls := "OrreryTrains$Plan", name := "add", desc := "(II)V" } : Jvm.MethodName) ∈ oTB := oT3 216 rfl rfl
theorem wd_3_217 : Jvm.Cond.code ({ cls := "OrreryTrains$Plan", name := "add", desc := "(II)V" } : Jvm.MethodName) prog_5_method_3_code (3 : Nat) (Option.none : Option Jvm.ClassFile.FieldType) ∈ oTB := oT3 217 rfl rfl
theorem wd_3_219 : Jvm.Cond.methodLink "OrreryTrainsLaw" (152 : Nat) ({ cls := "OrreryTrains", name := "ends", desc := "(I)J" } : Jvm.MethodName) ∈ oTB := oT3 219 rfl rfl
theorem wd_3_220 : Jvm.Cond.instanceMethod ({ cls := "OrreryTrains", name := "ends", desc := "(I)J" } : Jvm.MethodName) ∈ oTB := oT3 220 rfl rfl
theorem wd_3_221 : Jvm.Cond.selects "OrreryTrains" ({ cls := "OrreryTrains", name := "ends", desc := "(I)J" } : Jvm.MethodName) ({ cls := "OrreryTrains", name := "ends", desc := "(I)J" } : Jvm.MethodName) ∈ oTB := oT3 221 rfl rfl
theorem wd_3_222 : Jvm.Cond.code ({ cls := "OrreryTrains", name := "ends", desc := "(I)J" } : Jvm.MethodName) prog_1_method_34_code (3 : Nat) (Option.some Jvm.ClassFile.FieldType.long) ∈ oTB := oT3 222 rfl rfl
theorem wd_3_223 : Jvm.Cond.methodLink "OrreryTrains" (302 : Nat) ({ cls := "OrreryTrains$Orrery", name := "followPlan", desc := "()V" } : Jvm.MethodName) ∈ oTB := oT3 223 rfl rfl
theorem wd_3_224 : Jvm.Cond.instanceMethod ({ cls := "OrreryTrains$Orrery", name := "followPlan", desc := "()V" } : Jvm.MethodName) ∈ oTB := oT3 224 rfl rfl
theorem wd_3_225 : Jvm.Cond.selects "OrreryTrains$Orrery" ({ cls := "OrreryTrains$Orrery", name := "followPlan", desc := "()V" } : Jvm.MethodName) ({ cls := "OrreryTrains$Orrery", name := "followPlan", desc := "()V" } : Jvm.MethodName) ∈ oTB := oT3 225 rfl rfl
theorem wd_3_226 : Jvm.Cond.code ({ cls := "OrreryTrains$Orrery", name := "followPlan", desc := "()V" } : Jvm.MethodName) prog_3_method_16_code (4 : Nat) (Option.none : Option Jvm.ClassFile.FieldType) ∈ oTB := oT3 226 rfl rfl
theorem wd_3_227 : Jvm.Cond.methodLink "OrreryTrains$Orrery" (146 : Nat) ({ cls := "OrreryTrains$Orrery", name := "crankBy", desc := "(I)V" } : Jvm.MethodName) ∈ oTB := oT3 227 rfl rfl
theorem wd_3_228 : Jvm.Cond.methodLink "OrreryTrains$Orrery" (150 : Nat) ({ cls := "OrreryTrains$Orrery", name := "hasTrain", desc := "(I)Z" } : Jvm.MethodName) ∈ oTB := oT3 228 rfl rfl
theorem wd_3_229 : Jvm.Cond.methodLink "OrreryTrains$Orrery" (153 : Nat) ({ cls := "OrreryTrains$Trains", name := "turnAbout", desc := "(I)V" } : Jvm.MethodName) ∈ oTB := oT3 229 rfl rfl
theorem wd_3_230 : Jvm.Cond.instanceMethod ({ cls := "OrreryTrains$Trains", name := "turnAbout", desc := "(I)V" } : Jvm.MethodName) ∈ oTB := oT3 230 rfl rfl
theorem wd_3_231 : Jvm.Cond.selects "OrreryTrains$Trains" ({ cls := "OrreryTrains$Trains", name := "turnAbout", desc := "(I)V" } : Jvm.MethodName) ({ cls := "OrreryTrains$Trains", name := "turnAbout", desc := "(I)V" } : Jvm.MethodName) ∈ oTB := oT3 231 rfl rfl
theorem wd_3_232 : Jvm.Cond.code ({ cls := "OrreryTrains$Trains", name := "turnAbout", desc := "(I)V" } : Jvm.MethodName) prog_9_method_7_code (4 : Nat) (Option.none : Option Jvm.ClassFile.FieldType) ∈ oTB := oT3 232 rfl rfl
theorem wd_3_233 : Jvm.Cond.methodLink "OrreryTrains$Trains" (38 : Nat) ({ cls := "OrreryTrains$Trains", name := "become", desc := "(III)V" } : Jvm.MethodName) ∈ oTB := oT3 233 rfl rfl
theorem wd_3_234 : Jvm.Cond.methodLink "OrreryTrains$Orrery" (156 : Nat) ({ cls := "OrreryTrains$Pairs", name := "has", desc := "(I)Z" } : Jvm.MethodName) ∈ oTB := oT3 234 rfl rfl
theorem wd_3_235 : Jvm.Cond.methodLink "OrreryTrains$Orrery" (159 : Nat) ({ cls := "OrreryTrains$Pairs", name := "changeWheels", desc := "(I)V" } : Jvm.MethodName) ∈ oTB := oT3 235 rfl rfl
theorem wd_3_236 : Jvm.Cond.instanceMethod ({ cls := "OrreryTrains$Pairs", name := "changeWheels", desc := "(I)V" } : Jvm.MethodName) ∈ oTB := oT3 236 rfl rfl
theorem wd_3_237 : Jvm.Cond.selects "OrreryTrains$Pairs" ({ cls := "OrreryTrains$Pairs", name := "changeWheels", desc := "(I)V" } : Jvm.MethodName) ({ cls := "OrreryTrains$Pairs", name := "changeWheels", desc := "(I)V" } : Jvm.MethodName) ∈ oTB := oT3 237 rfl rfl
theorem wd_3_238 : Jvm.Cond.code ({ cls := "OrreryTrains$Pairs", name := "changeWheels", desc := "(I)V" } : Jvm.MethodName) prog_4_method_7_code (3 : Nat) (Option.none : Option Jvm.ClassFile.FieldType) ∈ oTB := oT3 238 rfl rfl
theorem wd_3_239 : Jvm.Cond.methodLink "OrreryTrainsLaw" (156 : Nat) ({ cls := "OrreryTrains", name := "writePair", desc := "(I)I" } : Jvm.MethodName) ∈ oTB := oT3 239 rfl rfl
theorem wd_4_0 : Jvm.Cond.instanceMethod ({ cls := "OrreryTrains", name := "writePair", desc := "(I)I" } : Jvm.MethodName) ∈ oTB := oT4 0 rfl rfl
theorem wd_4_1 : Jvm.Cond.selects "OrreryTrains" ({ cls := "OrreryTrains", name := "writePair", desc := "(I)I" } : Jvm.MethodName) ({ cls := "OrreryTrains", name := "writePair", desc := "(I)I" } : Jvm.MethodName) ∈ oTB := oT4 1 rfl rfl
theorem wd_4_2 : Jvm.Cond.code ({ cls := "OrreryTrains", name := "writePair", desc := "(I)I" } : Jvm.MethodName) prog_1_method_35_code (2 : Nat) (Option.some Jvm.ClassFile.FieldType.int) ∈ oTB := oT4 2 rfl rfl
theorem wd_4_3 : Jvm.Cond.methodLink "OrreryTrains" (306 : Nat) ({ cls := "OrreryTrains", name := "kindLetter", desc := "(I)I" } : Jvm.MethodName) ∈ oTB := oT4 3 rfl rfl
theorem wd_4_4 : Jvm.Cond.static ({ cls := "OrreryTrains", name := "kindLetter", desc := "(I)I" } : Jvm.MethodName) ∈ oTB := oT4 4 rfl rfl
theorem wd_4_5 : Jvm.Cond.code ({ cls := "OrreryTrains", name := "kindLetter", desc := "(I)I" } : Jvm.MethodName) prog_1_method_59_code (1 : Nat) (Option.some Jvm.ClassFile.FieldType.int) ∈ oTB := oT4 5 rfl rfl
theorem wd_4_6 : Jvm.Cond.methodLink "OrreryTrains" (309 : Nat) ({ cls := "OrreryTrains$Sheet", name := "add", desc := "(I)V" } : Jvm.MethodName) ∈ oTB := oT4 6 rfl rfl
theorem wd_4_7 : Jvm.Cond.instanceMethod ({ cls := "OrreryTrains$Sheet", name := "add", desc := "(I)V" } : Jvm.MethodName) ∈ oTB := oT4 7 rfl rfl
theorem wd_4_8 : Jvm.Cond.selects "OrreryTrains$Sheet" ({ cls := "OrreryTrains$Sheet", name := "add", desc := "(I)V" } : Jvm.MethodName) ({ cls := "OrreryTrains$Sheet", name := "add", desc := "(I)V" } : Jvm.MethodName) ∈ oTB := oT4 8 rfl rfl
theorem wd_4_9 : Jvm.Cond.code ({ cls := "OrreryTrains$Sheet", name := "add", desc := "(I)V" } : Jvm.MethodName) prog_7_method_2_code (2 : Nat) (Option.none : Option Jvm.ClassFile.FieldType) ∈ oTB := oT4 9 rfl rfl
theorem wd_4_11 : Jvm.Cond.methodLink "OrreryTrains" (311 : Nat) ({ cls := "OrreryTrains$Sheet", name := "addTwoFigures", desc := "(I)V" } : Jvm.MethodName) ∈ oTB := oT4 11 rfl rfl
theorem wd_4_12 : Jvm.Cond.instanceMethod ({ cls := "OrreryTrains$Sheet", name := "addTwoFigures", desc := "(I)V" } : Jvm.MethodName) ∈ oTB := oT4 12 rfl rfl
theorem wd_4_13 : Jvm.Cond.selects "OrreryTrains$Sheet" ({ cls := "OrreryTrains$Sheet", name := "addTwoFigures", desc := "(I)V" } : Jvm.MethodName) ({ cls := "OrreryTrains$Sheet", name := "addTwoFigures", desc := "(I)V" } : Jvm.MethodName) ∈ oTB := oT4 13 rfl rfl
theorem wd_4_14 : Jvm.Cond.code ({ cls := "OrreryTrains$Sheet", name := "addTwoFigures", desc := "(I)V" } : Jvm.MethodName) prog_7_method_3_code (2 : Nat) (Option.none : Option Jvm.ClassFile.FieldType) ∈ oTB := oT4 14 rfl rfl
theorem wd_4_15 : Jvm.Cond.methodLink "OrreryTrains$Sheet" (23 : Nat) ({ cls := "OrreryTrains$Sheet", name := "add", desc := "(I)V" } : Jvm.MethodName) ∈ oTB := oT4 15 rfl rfl
theorem wd_4_16 : Jvm.Cond.methodLink "OrreryTrainsLaw" (160 : Nat) ({ cls := "OrreryTrains", name := "writeTrain", desc := "(I)I" } : Jvm.MethodName) ∈ oTB := oT4 16 rfl rfl
theorem wd_4_17 : Jvm.Cond.instanceMethod ({ cls := "OrreryTrains", name := "writeTrain", desc := "(I)I" } : Jvm.MethodName) ∈ oTB := oT4 17 rfl rfl
theorem wd_4_18 : Jvm.Cond.selects "OrreryTrains" ({ cls := "OrreryTrains", name := "writeTrain", desc := "(I)I" } : Jvm.MethodName) ({ cls := "OrreryTrains", name := "writeTrain", desc := "(I)I" } : Jvm.MethodName) ∈ oTB := oT4 18 rfl rfl
theorem wd_4_19 : Jvm.Cond.code ({ cls := "OrreryTrains", name := "writeTrain", desc := "(I)I" } : Jvm.MethodName) prog_1_method_36_code (3 : Nat) (Option.some Jvm.ClassFile.FieldType.int) ∈ oTB := oT4 19 rfl rfl
theorem wd_4_20 : Jvm.Cond.methodLink "OrreryTrainsLaw" (164 : Nat) ({ cls := "OrreryTrains", name := "paper", desc := "(I)I" } : Jvm.MethodName) ∈ oTB := oT4 20 rfl rfl
theorem wd_4_21 : Jvm.Cond.instanceMethod ({ cls := "OrreryTrains", name := "paper", desc := "(I)I" } : Jvm.MethodName) ∈ oTB := oT4 21 rfl rfl
theorem wd_4_22 : Jvm.Cond.selects "OrreryTrains" ({ cls := "OrreryTrains", name := "paper", desc := "(I)I" } : Jvm.MethodName) ({ cls := "OrreryTrains", name := "paper", desc := "(I)I" } : Jvm.MethodName) ∈ oTB := oT4 22 rfl rfl
theorem wd_4_23 : Jvm.Cond.code ({ cls := "OrreryTrains", name := "paper", desc := "(I)I" } : Jvm.MethodName) prog_1_method_37_code (2 : Nat) (Option.some Jvm.ClassFile.FieldType.int) ∈ oTB := oT4 23 rfl rfl
theorem wd_4_24 : Jvm.Cond.methodLink "OrreryTrainsLaw" (168 : Nat) ({ cls := "OrreryTrains", name := "judge", desc := "(I)I" } : Jvm.MethodName) ∈ oTB := oT4 24 rfl rfl
theorem wd_4_25 : Jvm.Cond.instanceMethod ({ cls := "OrreryTrains", name := "judge", desc := "(I)I" } : Jvm.MethodName) ∈ oTB := oT4 25 rfl rfl
theorem wd_4_26 : Jvm.Cond.selects "OrreryTrains" ({ cls := "OrreryTrains", name := "judge", desc := "(I)I" } : Jvm.MethodName) ({ cls := "OrreryTrains", name := "judge", desc := "(I)I" } : Jvm.MethodName) ∈ oTB := oT4 26 rfl rfl
theorem wd_4_27 : Jvm.Cond.code ({ cls := "OrreryTrains", name := "judge", desc := "(I)I" } : Jvm.MethodName) prog_1_method_38_code (5 : Nat) (Option.some Jvm.ClassFile.FieldType.int) ∈ oTB := oT4 27 rfl rfl
theorem wd_4_28 : Jvm.Cond.methodLink "OrreryTrains" (315 : Nat) ({ cls := "OrreryTrains$Rows", name := "has", desc := "(I)Z" } : Jvm.MethodName) ∈ oTB := oT4 28 rfl rfl
theorem wd_4_29 : Jvm.Cond.instanceMethod ({ cls := "OrreryTrains$Rows", name := "has", desc := "(I)Z" } : Jvm.MethodName) ∈ oTB := oT4 29 rfl rfl
theorem wd_4_30 : Jvm.Cond.selects "OrreryTrains$Rows" ({ cls := "OrreryTrains$Rows", name := "has", desc := "(I)Z" } : Jvm.MethodName) ({ cls := "OrreryTrains$Rows", name := "has", desc := "(I)Z" } : Jvm.MethodName) ∈ oTB := oT4 30 rfl rfl
theorem wd_4_31 : Jvm.Cond.code ({ cls := "OrreryTrains$Rows", name := "has", desc := "(I)Z" } : Jvm.MethodName) prog_6_method_2_code (2 : Nat) (Option.some Jvm.ClassFile.FieldType.boolean) ∈ oTB := oT4 31 rfl rfl
theorem wd_4_32 : Jvm.Cond.methodLink "OrreryTrains" (316 : Nat) ({ cls := "OrreryTrains$Rows", name := "isHeld", desc := "(I)Z" } : Jvm.MethodName) ∈ oTB := oT4 32 rfl rfl
theorem wd_4_33 : Jvm.Cond.instanceMethod ({ cls := "OrreryTrains$Rows", name := "isHeld", desc := "(I)Z" } : Jvm.MethodName) ∈ oTB := oT4 33 rfl rfl
theorem wd_4_34 : Jvm.Cond.selects "OrreryTrains$Rows" ({ cls := "OrreryTrains$Rows", name := "isHeld", desc := "(I)Z" } : Jvm.MethodName) ({ cls := "OrreryTrains$Rows", name := "isHeld", desc := "(I)Z" } : Jvm.MethodName) ∈ oTB := oT4 34 rfl rfl
theorem wd_4_35 : Jvm.Cond.code ({ cls := "OrreryTrains$Rows", name := "isHeld", desc := "(I)Z" } : Jvm.MethodName) prog_6_method_3_code (2 : Nat) (Option.some Jvm.ClassFile.FieldType.boolean) ∈ oTB := oT4 35 rfl rfl
theorem wd_4_37 : Jvm.Cond.methodLink "OrreryTrains" (319 : Nat) ({ cls := "OrreryTrains$Rows", name := "size", desc := "(I)I" } : Jvm.MethodName) ∈ oTB := oT4 37 rfl rfl
theorem wd_4_38 : Jvm.Cond.instanceMethod ({ cls := "OrreryTrains$Rows", name := "size", desc := "(I)I" } : Jvm.MethodName) ∈ oTB := oT4 38 rfl rfl
theorem wd_4_39 : Jvm.Cond.selects "OrreryTrains$Rows" ({ cls := "OrreryTrains$Rows", name := "size", desc := "(I)I" } : Jvm.MethodName) ({ cls := "OrreryTrains$Rows", name := "size", desc := "(I)I" } : Jvm.MethodName) ∈ oTB := oT4 39 rfl rfl
theorem wd_4_40 : Jvm.Cond.code ({ cls := "OrreryTrains$Rows", name := "size", desc := "(I)I" } : Jvm.MethodName) prog_6_method_4_code (2 : Nat) (Option.some Jvm.ClassFile.FieldType.int) ∈ oTB := oT4 40 rfl rfl
theorem wd_4_41 : Jvm.Cond.methodLink "OrreryTrains$Rows" (23 : Nat) ({ cls := "OrreryTrains$Rows", name := "isHeld", desc := "(I)Z" } : Jvm.MethodName) ∈ oTB := oT4 41 rfl rfl
theorem wd_4_42 : Jvm.Cond.methodLink "OrreryTrains" (321 : Nat) ({ cls := "OrreryTrains$Rows", name := "cell", desc := "(II)J" } : Jvm.MethodName) ∈ oTB := oT4 42 rfl rfl
theorem wd_4_43 : Jvm.Cond.instanceMethod ({ cls := "OrreryTrains$Rows", name := "cell", desc := "(II)J" } : Jvm.MethodName) ∈ oTB := oT4 43 rfl rfl
theorem wd_4_44 : Jvm.Cond.selects "OrreryTrains$Rows" ({ cls := "OrreryTrains$Rows", name := "cell", desc := "(II)J" } : Jvm.MethodName) ({ cls := "OrreryTrains$Rows", name := "cell", desc := "(II)J" } : Jvm.MethodName) ∈ oTB := oT4 44 rfl rfl
theorem wd_4_45 : Jvm.Cond.code ({ cls := "OrreryTrains$Rows", name := "cell", desc := "(II)J" } : Jvm.MethodName) prog_6_method_6_code (4 : Nat) (Option.some Jvm.ClassFile.FieldType.long) ∈ oTB := oT4 45 rfl rfl
theorem wd_4_46 : Jvm.Cond.methodLink "OrreryTrainsLaw" (172 : Nat) ({ cls := "OrreryTrains", name := "list", desc := "(II)I" } : Jvm.MethodName) ∈ oTB := oT4 46 rfl rfl
theorem wd_4_47 : Jvm.Cond.instanceMethod ({ cls := "OrreryTrains", name := "list", desc := "(II)I" } : Jvm.MethodName) ∈ oTB := oT4 47 rfl rfl
theorem wd_4_48 : Jvm.Cond.selects "OrreryTrains" ({ cls := "OrreryTrains", name := "list", desc := "(II)I" } : Jvm.MethodName) ({ cls := "OrreryTrains", name := "list", desc := "(II)I" } : Jvm.MethodName) ∈ oTB := oT4 48 rfl rfl
theorem wd_4_49 : Jvm.Cond.code ({ cls := "OrreryTrains", name := "list", desc := "(II)I" } : Jvm.MethodName) prog_1_method_39_code (3 : Nat) (Option.some Jvm.ClassFile.FieldType.int) ∈ oTB := oT4 49 rfl rfl
theorem wd_4_50 : Jvm.Cond.methodLink "OrreryTrains" (325 : Nat) ({ cls := "OrreryTrains$Rows", name := "hold", desc := "(II)V" } : Jvm.MethodName) ∈ oTB := oT4 50 rfl rfl
theorem wd_4_51 : Jvm.Cond.instanceMethod ({ cls := "OrreryTrains$Rows", name := "hold", desc := "(II)V" } : Jvm.MethodName) ∈ oTB := oT4 51 rfl rfl
theorem wd_4_52 : Jvm.Cond.selects "OrreryTrains$Rows" ({ cls := "OrreryTrains$Rows", name := "hold", desc := "(II)V" } : Jvm.MethodName) ({ cls := "OrreryTrains$Rows", name := "hold", desc := "(II)V" } : Jvm.MethodName) ∈ oTB := oT4 52 rfl rfl
theorem wd_4_53 : Jvm.Cond.code ({ cls := "OrreryTrains$Rows", name := "hold", desc := "(II)V" } : Jvm.MethodName) prog_6_method_5_code (4 : Nat) (Option.none : Option Jvm.ClassFile.FieldType) ∈ oTB := oT4 53 rfl rfl
theorem wd_4_55 : Jvm.Cond.methodLink "OrreryTrains$Rows" (31 : Nat) ({ cls := "OrreryTrains$Rows", name := "fill", desc := "(IIJ)V" } : Jvm.MethodName) ∈ oTB := oT4 55 rfl rfl
theorem wd_4_56 : Jvm.Cond.instanceMethod ({ cls := "OrreryTrains$Rows", name := "fill", desc := "(IIJ)V" } : Jvm.MethodName) ∈ oTB := oT4 56 rfl rfl
theorem wd_4_57 : Jvm.Cond.selects "OrreryTrains$Rows" ({ cls := "OrreryTrains$Rows", name := "fill", desc := "(IIJ)V" } : Jvm.MethodName) ({ cls := "OrreryTrains$Rows", name := "fill", desc := "(IIJ)V" } : Jvm.MethodName) ∈ oTB := oT4 57 rfl rfl
theorem wd_4_58 : Jvm.Cond.code ({ cls := "OrreryTrains$Rows", name := "fill", desc := "(IIJ)V" } : Jvm.MethodName) prog_6_method_7_code (6 : Nat) (Option.none : Option Jvm.ClassFile.FieldType) ∈ oTB := oT4 58 rfl rfl
theorem wd_4_59 : Jvm.Cond.methodLink "OrreryTrainsLaw" (176 : Nat) ({ cls := "OrreryTrains", name := "put", desc := "(IIJ)I" } : Jvm.MethodName) ∈ oTB := oT4 59 rfl rfl
theorem wd_4_60 : Jvm.Cond.instanceMethod ({ cls := "OrreryTrains", name := "put", desc := "(IIJ)I" } : Jvm.MethodName) ∈ oTB := oT4 60 rfl rfl
theorem wd_4_61 : Jvm.Cond.selects "OrreryTrains" ({ cls := "OrreryTrains", name := "put", desc := "(IIJ)I" } : Jvm.MethodName) ({ cls := "OrreryTrains", name := "put", desc := "(IIJ)I" } : Jvm.MethodName) ∈ oTB := oT4 61 rfl rfl
theorem wd_4_62 : Jvm.Cond.code ({ cls := "OrreryTrains", name := "put", desc := "(IIJ)I" } : Jvm.MethodName) prog_1_method_40_code (5 : Nat) (Option.some Jvm.ClassFile.FieldType.int) ∈ oTB := oT4 62 rfl rfl
theorem wd_4_63 : Jvm.Cond.methodLink "OrreryTrains" (328 : Nat) ({ cls := "OrreryTrains$Rows", name := "fill", desc := "(IIJ)V" } : Jvm.MethodName) ∈ oTB := oT4 63 rfl rfl
theorem wd_4_64 : Jvm.Cond.methodLink "OrreryTrainsLaw" (181 : Nat) ({ cls := "OrreryTrains", name := "get", desc := "(II)J" } : Jvm.MethodName) ∈ oTB := oT4 64 rfl rfl
theorem wd_4_65 : Jvm.Cond.instanceMethod ({ cls := "OrreryTrains", name := "get", desc := "(II)J" } : Jvm.MethodName) ∈ oTB := oT4 65 rfl rfl
theorem wd_4_66 : Jvm.Cond.selects "OrreryTrains" ({ cls := "OrreryTrains", name := "get", desc := "(II)J" } : Jvm.MethodName) ({ cls := "OrreryTrains", name := "get", desc := "(II)J" } : Jvm.MethodName) ∈ oTB := oT4 66 rfl rfl
theorem wd_4_67 : Jvm.Cond.code ({ cls := "OrreryTrains", name := "get", desc := "(II)J" } : Jvm.MethodName) prog_1_method_41_code (3 : Nat) (Option.some Jvm.ClassFile.FieldType.long) ∈ oTB := oT4 67 rfl rfl
theorem wd_4_68 : Jvm.Cond.methodLink "OrreryTrainsLaw" (185 : Nat) ({ cls := "OrreryTrains", name := "image", desc := "()I" } : Jvm.MethodName) ∈ oTB := oT4 68 rfl rfl
theorem wd_4_69 : Jvm.Cond.instanceMethod ({ cls := "OrreryTrains", name := "image", desc := "()I" } : Jvm.MethodName) ∈ oTB := oT4 69 rfl rfl
theorem wd_4_70 : Jvm.Cond.selects "OrreryTrains" ({ cls := "OrreryTrains", name := "image", desc := "()I" } : Jvm.MethodName) ({ cls := "OrreryTrains", name := "image", desc := "()I" } : Jvm.MethodName) ∈ oTB := oT4 70 rfl rfl
theorem wd_4_71 : Jvm.Cond.code ({ cls := "OrreryTrains", name := "image", desc := "()I" } : Jvm.MethodName) prog_1_method_42_code (1 : Nat) (Option.some Jvm.ClassFile.FieldType.int) ∈ oTB := oT4 71 rfl rfl
theorem wd_4_72 : Jvm.Cond.methodLink "OrreryTrainsLaw" (189 : Nat) ({ cls := "OrreryTrains", name := "undo", desc := "()I" } : Jvm.MethodName) ∈ oTB := oT4 72 rfl rfl
theorem wd_4_73 : Jvm.Cond.instanceMethod ({ cls := "OrreryTrains", name := "undo", desc := "()I" } : Jvm.MethodName) ∈ oTB := oT4 73 rfl rfl
theorem wd_4_74 : Jvm.Cond.selects "OrreryTrains" ({ cls := "OrreryTrains", name := "undo", desc := "()I" } : Jvm.MethodName) ({ cls := "OrreryTrains", name := "undo", desc := "()I" } : Jvm.MethodName) ∈ oTB := oT4 74 rfl rfl
theorem wd_4_75 : Jvm.Cond.code ({ cls := "OrreryTrains", name := "undo", desc := "()I" } : Jvm.MethodName) prog_1_method_43_code (1 : Nat) (Option.some Jvm.ClassFile.FieldType.int) ∈ oTB := oT4 75 rfl rfl
theorem wd_4_76 : Jvm.Cond.methodLink "OrreryTrainsLaw" (193 : Nat) ({ cls := "OrreryTrains", name := "count", desc := "(I)I" } : Jvm.MethodName) ∈ oTB := oT4 76 rfl rfl
theorem wd_4_77 : Jvm.Cond.instanceMethod ({ cls := "OrreryTrains", name := "count", desc := "(I)I" } : Jvm.MethodName) ∈ oTB := oT4 77 rfl rfl
theorem wd_4_78 : Jvm.Cond.selects "OrreryTrains" ({ cls := "OrreryTrains", name := "count", desc := "(I)I" } : Jvm.MethodName) ({ cls := "OrreryTrains", name := "count", desc := "(I)I" } : Jvm.MethodName) ∈ oTB := oT4 78 rfl rfl
theorem wd_4_79 : Jvm.Cond.code ({ cls := "OrreryTrains", name := "count", desc := "(I)I" } : Jvm.MethodName) prog_1_method_44_code (2 : Nat) (Option.some Jvm.ClassFile.FieldType.int) ∈ oTB := oT4 79 rfl rfl
theorem wd_4_80 : Jvm.Cond.methodLink "OrreryTrains" (332 : Nat) ({ cls := "OrreryTrains$Trains", name := "number", desc := "()I" } : Jvm.MethodName) ∈ oTB := oT4 80 rfl rfl
theorem wd_4_81 : Jvm.Cond.instanceMethod ({ cls := "OrreryTrains$Trains", name := "number", desc := "()I" } : Jvm.MethodName) ∈ oTB := oT4 81 rfl rfl
theorem wd_4_82 : Jvm.Cond.selects "OrreryTrains$Trains" ({ cls := "OrreryTrains$Trains", name := "number", desc := "()I" } : Jvm.MethodName) ({ cls := "OrreryTrains$Trains", name := "number", desc := "()I" } : Jvm.MethodName) ∈ oTB := oT4 82 rfl rfl
theorem wd_4_83 : Jvm.Cond.code ({ cls := "OrreryTrains$Trains", name := "number", desc := "()I" } : Jvm.MethodName) prog_9_method_8_code (3 : Nat) (Option.some Jvm.ClassFile.FieldType.int) ∈ oTB := oT4 83 rfl rfl
theorem wd_4_84 : Jvm.Cond.classLink "OrreryTrainsLaw" (10 : Nat) "OrreryTrainsModel" ∈ oTB := oT4 84 rfl rfl
theorem wd_4_85 : Jvm.Cond.instantiable "OrreryTrainsModel" (22 : Nat) ∈ oTB := oT4 85 rfl rfl
theorem wd_4_86 : Jvm.Cond.methodLink "OrreryTrainsLaw" (12 : Nat) ({ cls := "OrreryTrainsModel", name := "<init>", desc := "()V" } : Jvm.MethodName) ∈ oTB := oT4 86 rfl rfl
theorem wd_4_87 : Jvm.Cond.instanceMethod ({ cls := "OrreryTrainsModel", name := "<init>", desc := "()V" } : Jvm.MethodName) ∈ oTB := oT4 87 rfl rfl
theorem wd_4_88 : Jvm.Cond.code ({ cls := "OrreryTrainsModel", name := "<init>", desc := "()V" } : Jvm.MethodName) prog_11_method_1_code (2 : Nat) (Option.none : Option Jvm.ClassFile.FieldType) ∈ oTB := oT4 88 rfl rfl
theorem wd_4_89 : Jvm.Cond.methodLink "OrreryTrainsModel" (3 : Nat) ({ cls := "java/lang/Object", name := "<init>", desc := "()V" } : Jvm.MethodName) ∈ oTB := oT4 89 rfl rfl
theorem wd_4_90 : Jvm.Cond.fieldLink "OrreryTrainsModel" (11 : Nat) "OrreryTrainsModel" "s" "[I" ∈ oTB := oT4 90 rfl rfl
theorem wd_4_91 : Jvm.Cond.fieldLink "OrreryTrainsModel" (15 : Nat) "OrreryTrainsModel" "kept" "[I" ∈ oTB := oT4 91 rfl rfl
theorem wd_4_92 : Jvm.Cond.fieldLink "OrreryTrainsModel" (18 : Nat) "OrreryTrainsModel" "aside" "[I" ∈ oTB := oT4 92 rfl rfl
theorem wd_4_93 : Jvm.Cond.fieldLink "OrreryTrainsModel" (270 : Nat) "OrreryTrainsModel" "isKept" "Z" ∈ oTB := oT4 93 rfl rfl
theorem wd_4_94 : Jvm.Cond.fieldLink "OrreryTrainsModel" (21 : Nat) "OrreryTrainsModel" "tape" "[I" ∈ oTB := oT4 94 rfl rfl
theorem wd_4_95 : Jvm.Cond.fieldLink "OrreryTrainsModel" (24 : Nat) "OrreryTrainsModel" "paper" "[I" ∈ oTB := oT4 95 rfl rfl
theorem wd_4_96 : Jvm.Cond.fieldLink "OrreryTrainsModel" (27 : Nat) "OrreryTrainsModel" "size" "[I" ∈ oTB := oT4 96 rfl rfl
theorem wd_4_97 : Jvm.Cond.fieldLink "OrreryTrainsModel" (30 : Nat) "OrreryTrainsModel" "items" "[J" ∈ oTB := oT4 97 rfl rfl
theorem wd_4_98 : Jvm.Cond.fieldLink "OrreryTrainsModel" (92 : Nat) "OrreryTrainsModel" "taped" "I" ∈ oTB := oT4 98 rfl rfl
theorem wd_4_99 : Jvm.Cond.fieldLink "OrreryTrainsModel" (262 : Nat) "OrreryTrainsModel" "written" "I" ∈ oTB := oT4 99 rfl rfl
theorem wd_4_100 : Jvm.Cond.fieldLink "OrreryTrainsModel" (34 : Nat) "OrreryTrainsModel" "term" "[I" ∈ oTB := oT4 100 rfl rfl
theorem wd_4_101 : Jvm.Cond.fieldLink "OrreryTrainsModel" (96 : Nat) "OrreryTrainsModel" "at" "I" ∈ oTB := oT4 101 rfl rfl
theorem wd_4_102 : Jvm.Cond.fieldLink "OrreryTrainsModel" (99 : Nat) "OrreryTrainsModel" "fault" "I" ∈ oTB := oT4 102 rfl rfl
theorem wd_4_103 : Jvm.Cond.fieldLink "OrreryTrainsModel" (37 : Nat) "OrreryTrainsModel" "read" "[I" ∈ oTB := oT4 103 rfl rfl
theorem wd_4_104 : Jvm.Cond.fieldLink "OrreryTrainsModel" (182 : Nat) "OrreryTrainsModel" "foundMany" "I" ∈ oTB := oT4 104 rfl rfl
theorem wd_4_105 : Jvm.Cond.fieldLink "OrreryTrainsModel" (192 : Nat) "OrreryTrainsModel" "foundTeeth" "I" ∈ oTB := oT4 105 rfl rfl
theorem wd_4_106 : Jvm.Cond.fieldLink "OrreryTrainsModel" (195 : Nat) "OrreryTrainsModel" "foundOne" "I" ∈ oTB := oT4 106 rfl rfl
theorem wd_4_107 : Jvm.Cond.fieldLink "OrreryTrainsModel" (198 : Nat) "OrreryTrainsModel" "foundTwo" "I" ∈ oTB := oT4 107 rfl rfl
theorem wd_4_108 : Jvm.Cond.fieldLink "OrreryTrainsModel" (201 : Nat) "OrreryTrainsModel" "foundThree" "I" ∈ oTB := oT4 108 rfl rfl
theorem wd_4_109 : Jvm.Cond.fieldLink "OrreryTrainsModel" (204 : Nat) "OrreryTrainsModel" "foundFour" "I" ∈ oTB := oT4 109 rfl rfl
theorem wd_4_110 : Jvm.Cond.fieldLink "OrreryTrainsModel" (189 : Nat) "OrreryTrainsModel" "foundOff" "J" ∈ oTB := oT4 110 rfl rfl
theorem wd_4_111 : Jvm.Cond.fieldLink "OrreryTrainsModel" (185 : Nat) "OrreryTrainsModel" "foundLine" "J" ∈ oTB := oT4 111 rfl rfl
theorem wd_4_157 : Jvm.Cond.methodLink "OrreryTrainsLaw" (17 : Nat) ({ cls := "OrreryTrainsModel", name := "body", desc := "(II)I" } : Jvm.MethodName) ∈ oTB := oT4 157 rfl rfl
theorem wd_4_158 : Jvm.Cond.instanceMethod ({ cls := "OrreryTrainsModel", name := "body", desc := "(II)I" } : Jvm.MethodName) ∈ oTB := oT4 158 rfl rfl
theorem wd_4_159 : Jvm.Cond.selects "OrreryTrainsModel" ({ cls := "OrreryTrainsModel", name := "body", desc := "(II)I" } : Jvm.MethodName) ({ cls := "OrreryTrainsModel", name := "body", desc := "(II)I" } : Jvm.MethodName) ∈ oTB := oT4 159 rfl rfl
theorem wd_4_160 : Jvm.Cond.code ({ cls := "OrreryTrainsModel", name := "body", desc := "(II)I" } : Jvm.MethodName) prog_11_method_9_code (3 : Nat) (Option.some Jvm.ClassFile.FieldType.int) ∈ oTB := oT4 160 rfl rfl
theorem wd_4_161 : Jvm.Cond.methodLink "OrreryTrainsModel" (54 : Nat) ({ cls := "OrreryTrainsModel", name := "isRatio", desc := "(II)Z" } : Jvm.MethodName) ∈ oTB := oT4 161 rfl rfl
theorem wd_4_162 : Jvm.Cond.static ({ cls := "OrreryTrainsModel", name := "isRatio", desc := "(II)Z" } : Jvm.MethodName) ∈ oTB := oT4 162 rfl rfl
theorem wd_4_163 : Jvm.Cond.code ({ cls := "OrreryTrainsModel", name := "isRatio", desc := "(II)Z" } : Jvm.MethodName) prog_11_method_7_code (2 : Nat) (Option.some Jvm.ClassFile.FieldType.boolean) ∈ oTB := oT4 163 rfl rfl
theorem wd_4_164 : Jvm.Cond.constantLong "OrreryTrainsModel" (48 : Nat) (9999 : Int64) ∈ oTB := oT4 164 rfl rfl
theorem wd_4_165 : Jvm.Cond.methodLink "OrreryTrainsModel" (44 : Nat) ({ cls := "OrreryTrainsModel", name := "isIn", desc := "(JJJ)Z" } : Jvm.MethodName) ∈ oTB := oT4 165 rfl rfl
theorem wd_4_166 : Jvm.Cond.static ({ cls := "OrreryTrainsModel", name := "isIn", desc := "(JJJ)Z" } : Jvm.MethodName) ∈ oTB := oT4 166 rfl rfl
theorem wd_4_167 : Jvm.Cond.code ({ cls := "OrreryTrainsModel", name := "isIn", desc := "(JJJ)Z" } : Jvm.MethodName) prog_11_method_2_code (6 : Nat) (Option.some Jvm.ClassFile.FieldType.boolean) ∈ oTB := oT4 167 rfl rfl
theorem wd_4_168 : Jvm.Cond.methodLink "OrreryTrainsModel" (58 : Nat) ({ cls := "OrreryTrainsModel", name := "becomesRatio", desc := "(III)V" } : Jvm.MethodName) ∈ oTB := oT4 168 rfl rfl
theorem wd_4_170 : Jvm.Cond.instanceMethod ({ cls := "OrreryTrainsModel", name := "becomesRatio", desc := "(III)V" } : Jvm.MethodName) ∈ oTB := oT4 170 rfl rfl
theorem wd_4_171 : Jvm.Cond.code ({ cls := "OrreryTrainsModel", name := "becomesRatio", desc := "(III)V" } : Jvm.MethodName) prog_11_method_8_code (4 : Nat) (Option.none : Option Jvm.ClassFile.FieldType) ∈ oTB := oT4 171 rfl rfl
theorem wd_4_172 : Jvm.Cond.methodLink "OrreryTrainsModel" (50 : Nat) ({ cls := "OrreryTrainsModel", name := "told", desc := "(JJI)J" } : Jvm.MethodName) ∈ oTB := oT4 172 rfl rfl
theorem wd_4_173 : Jvm.Cond.static ({ cls := "OrreryTrainsModel", name := "told", desc := "(JJI)J" } : Jvm.MethodName) ∈ oTB := oT4 173 rfl rfl
theorem wd_4_174 : Jvm.Cond.code ({ cls := "OrreryTrainsModel", name := "told", desc := "(JJI)J" } : Jvm.MethodName) prog_11_method_4_code (7 : Nat) (Option.some Jvm.ClassFile.FieldType.long) ∈ oTB := oT4 174 rfl rfl
theorem wd_4_175 : Jvm.Cond.methodLink "OrreryTrainsModel" (40 : Nat) ({ cls := "OrreryTrainsModel", name := "common", desc := "(JJ)J" } : Jvm.MethodName) ∈ oTB := oT4 175 rfl rfl
theorem wd_4_176 : Jvm.Cond.static ({ cls := "OrreryTrainsModel", name := "common", desc := "(JJ)J" } : Jvm.MethodName) ∈ oTB := oT4 176 rfl rfl
theorem wd_4_177 : Jvm.Cond.code ({ cls := "OrreryTrainsModel", name := "common", desc := "(JJ)J" } : Jvm.MethodName) prog_11_method_3_code (10 : Nat) (Option.some Jvm.ClassFile.FieldType.long) ∈ oTB := oT4 177 rfl rfl
theorem wd_4_178 : Jvm.Cond.methodLink "OrreryTrainsLaw" (22 : Nat) ({ cls := "OrreryTrainsModel", name := "ratio", desc := "(III)I" } : Jvm.MethodName) ∈ oTB := oT4 178 rfl rfl
theorem wd_4_179 : Jvm.Cond.instanceMethod ({ cls := "OrreryTrainsModel", name := "ratio", desc := "(III)I" } : Jvm.MethodName) ∈ oTB := oT4 179 rfl rfl
theorem wd_4_180 : Jvm.Cond.selects "OrreryTrainsModel" ({ cls := "OrreryTrainsModel", name := "ratio", desc := "(III)I" } : Jvm.MethodName) ({ cls := "OrreryTrainsModel", name := "ratio", desc := "(III)I" } : Jvm.MethodName) ∈ oTB := oT4 180 rfl rfl
theorem wd_4_181 : Jvm.Cond.code ({ cls := "OrreryTrainsModel", name := "ratio", desc := "(III)I" } : Jvm.MethodName) prog_11_method_10_code (5 : Nat) (Option.some Jvm.ClassFile.FieldType.int) ∈ oTB := oT4 181 rfl rfl
theorem wd_4_182 : Jvm.Cond.methodLink "OrreryTrainsModel" (62 : Nat) ({ cls := "OrreryTrainsModel", name := "isBody", desc := "(I)Z" } : Jvm.MethodName) ∈ oTB := oT4 182 rfl rfl
theorem wd_4_184 : Jvm.Cond.instanceMethod ({ cls := "OrreryTrainsModel", name := "isBody", desc := "(I)Z" } : Jvm.MethodName) ∈ oTB := oT4 184 rfl rfl
theorem wd_4_185 : Jvm.Cond.code ({ cls := "OrreryTrainsModel", name := "isBody", desc := "(I)Z" } : Jvm.MethodName) prog_11_method_6_code (2 : Nat) (Option.some Jvm.ClassFile.FieldType.boolean) ∈ oTB := oT4 185 rfl rfl
theorem wd_4_186 : Jvm.Cond.methodLink "OrreryTrainsLaw" (26 : Nat) ({ cls := "OrreryTrainsModel", name := "term", desc := "(II)I" } : Jvm.MethodName) ∈ oTB := oT4 186 rfl rfl
theorem wd_4_187 : Jvm.Cond.instanceMethod ({ cls := "OrreryTrainsModel", name := "term", desc := "(II)I" } : Jvm.MethodName) ∈ oTB := oT4 187 rfl rfl
theorem wd_4_188 : Jvm.Cond.selects "OrreryTrainsModel" ({ cls := "OrreryTrainsModel", name := "term", desc := "(II)I" } : Jvm.MethodName) ({ cls := "OrreryTrainsModel", name := "term", desc := "(II)I" } : Jvm.MethodName) ∈ oTB := oT4 188 rfl rfl
theorem wd_4_189 : Jvm.Cond.code ({ cls := "OrreryTrainsModel", name := "term", desc := "(II)I" } : Jvm.MethodName) prog_11_method_12_code (4 : Nat) (Option.some Jvm.ClassFile.FieldType.int) ∈ oTB := oT4 189 rfl rfl
theorem wd_4_190 : Jvm.Cond.methodLink "OrreryTrainsModel" (66 : Nat) ({ cls := "OrreryTrainsModel", name := "terms", desc := "(I)I" } : Jvm.MethodName) ∈ oTB := oT4 190 rfl rfl
theorem wd_4_192 : Jvm.Cond.instanceMethod ({ cls := "OrreryTrainsModel", name := "terms", desc := "(I)I" } : Jvm.MethodName) ∈ oTB := oT4 192 rfl rfl
theorem wd_4_193 : Jvm.Cond.code ({ cls := "OrreryTrainsModel", name := "terms", desc := "(I)I" } : Jvm.MethodName) prog_11_method_11_code (6 : Nat) (Option.some Jvm.ClassFile.FieldType.int) ∈ oTB := oT4 193 rfl rfl
theorem wd_4_194 : Jvm.Cond.methodLink "OrreryTrainsLaw" (31 : Nat) ({ cls := "OrreryTrainsModel", name := "convergent", desc := "(III)J" } : Jvm.MethodName) ∈ oTB := oT4 194 rfl rfl
theorem wd_4_195 : Jvm.Cond.instanceMethod ({ cls := "OrreryTrainsModel", name := "convergent", desc := "(III)J" } : Jvm.MethodName) ∈ oTB := oT4 195 rfl rfl
theorem wd_4_196 : Jvm.Cond.selects "OrreryTrainsModel" ({ cls := "OrreryTrainsModel", name := "convergent", desc := "(III)J" } : Jvm.MethodName) ({ cls := "OrreryTrainsModel", name := "convergent", desc := "(III)J" } : Jvm.MethodName) ∈ oTB := oT4 196 rfl rfl
theorem wd_4_197 : Jvm.Cond.code ({ cls := "OrreryTrainsModel", name := "convergent", desc := "(III)J" } : Jvm.MethodName) prog_11_method_13_code (11 : Nat) (Option.some Jvm.ClassFile.FieldType.long) ∈ oTB := oT4 197 rfl rfl
theorem wd_4_198 : Jvm.Cond.methodLink "OrreryTrainsModel" (70 : Nat) ({ cls := "OrreryTrainsModel", name := "isPart", desc := "(I)Z" } : Jvm.MethodName) ∈ oTB := oT4 198 rfl rfl
theorem wd_4_199 : Jvm.Cond.static ({ cls := "OrreryTrainsModel", name := "isPart", desc := "(I)Z" } : Jvm.MethodName) ∈ oTB := oT4 199 rfl rfl
theorem wd_4_200 : Jvm.Cond.code ({ cls := "OrreryTrainsModel", name := "isPart", desc := "(I)Z" } : Jvm.MethodName) prog_11_method_5_code (1 : Nat) (Option.some Jvm.ClassFile.FieldType.boolean) ∈ oTB := oT4 200 rfl rfl
theorem wd_4_201 : Jvm.Cond.constantLong "OrreryTrainsModel" (73 : Nat) (-9223372036854775808 : Int64) ∈ oTB := oT4 201 rfl rfl
theorem wd_4_202 : Jvm.Cond.methodLink "OrreryTrainsLaw" (35 : Nat) ({ cls := "OrreryTrainsModel", name := "near", desc := "(III)J" } : Jvm.MethodName) ∈ oTB := oT4 202 rfl rfl
theorem wd_4_203 : Jvm.Cond.instanceMethod ({ cls := "OrreryTrainsModel", name := "near", desc := "(III)J" } : Jvm.MethodName) ∈ oTB := oT4 203 rfl rfl
theorem wd_4_204 : Jvm.Cond.selects "OrreryTrainsModel" ({ cls := "OrreryTrainsModel", name := "near", desc := "(III)J" } : Jvm.MethodName) ({ cls := "OrreryTrainsModel", name := "near", desc := "(III)J" } : Jvm.MethodName) ∈ oTB := oT4 204 rfl rfl
theorem wd_4_205 : Jvm.Cond.code ({ cls := "OrreryTrainsModel", name := "near", desc := "(III)J" } : Jvm.MethodName) prog_11_method_14_code (19 : Nat) (Option.some Jvm.ClassFile.FieldType.long) ∈ oTB := oT4 205 rfl rfl
theorem wd_4_206 : Jvm.Cond.constantLong "OrreryTrainsModel" (75 : Nat) (99 : Int64) ∈ oTB := oT4 206 rfl rfl
theorem wd_4_207 : Jvm.Cond.methodLink "OrreryTrainsLaw" (39 : Nat) ({ cls := "OrreryTrainsModel", name := "bounds", desc := "(II)I" } : Jvm.MethodName) ∈ oTB := oT4 207 rfl rfl
theorem wd_4_208 : Jvm.Cond.instanceMethod ({ cls := "OrreryTrainsModel", name := "bounds", desc := "(II)I" } : Jvm.MethodName) ∈ oTB := oT4 208 rfl rfl
theorem wd_4_209 : Jvm.Cond.selects "OrreryTrainsModel" ({ cls := "OrreryTrainsModel", name := "bounds", desc := "(II)I" } : Jvm.MethodName) ({ cls := "OrreryTrainsModel", name := "bounds", desc := "(II)I" } : Jvm.MethodName) ∈ oTB := oT4 209 rfl rfl
theorem wd_4_210 : Jvm.Cond.code ({ cls := "OrreryTrainsModel", name := "bounds", desc := "(II)I" } : Jvm.MethodName) prog_11_method_15_code (4 : Nat) (Option.some Jvm.ClassFile.FieldType.int) ∈ oTB := oT4 210 rfl rfl
theorem wd_4_211 : Jvm.Cond.constantLong "OrreryTrainsModel" (77 : Nat) (10 : Int64) ∈ oTB := oT4 211 rfl rfl
theorem wd_4_212 : Jvm.Cond.methodLink "OrreryTrainsLaw" (43 : Nat) ({ cls := "OrreryTrainsModel", name := "split", desc := "(III)I" } : Jvm.MethodName) ∈ oTB := oT4 212 rfl rfl
theorem wd_4_213 : Jvm.Cond.instanceMethod ({ cls := "OrreryTrainsModel", name := "split", desc := "(III)I" } : Jvm.MethodName) ∈ oTB := oT4 213 rfl rfl
theorem wd_4_214 : Jvm.Cond.selects "OrreryTrainsModel" ({ cls := "OrreryTrainsModel", name := "split", desc := "(III)I" } : Jvm.MethodName) ({ cls := "OrreryTrainsModel", name := "split", desc := "(III)I" } : Jvm.MethodName) ∈ oTB := oT4 214 rfl rfl
theorem wd_4_215 : Jvm.Cond.code ({ cls := "OrreryTrainsModel", name := "split", desc := "(III)I" } : Jvm.MethodName) prog_11_method_17_code (8 : Nat) (Option.some Jvm.ClassFile.FieldType.int) ∈ oTB := oT4 215 rfl rfl
theorem wd_4_216 : Jvm.Cond.constantLong "OrreryTrainsModel" (79 : Nat) (2 : Int64) ∈ oTB := oT4 216 rfl rfl
theorem wd_4_217 : Jvm.Cond.methodLink "OrreryTrainsModel" (81 : Nat) ({ cls := "OrreryTrainsModel", name := "isWithin", desc := "(I)Z" } : Jvm.MethodName) ∈ oTB := oT4 217 rfl rfl
theorem wd_4_219 : Jvm.Cond.instanceMethod ({ cls := "OrreryTrainsModel", name := "isWithin", desc := "(I)Z" } : Jvm.MethodName) ∈ oTB := oT4 219 rfl rfl
theorem wd_4_220 : Jvm.Cond.code ({ cls := "OrreryTrainsModel", name := "isWithin", desc := "(I)Z" } : Jvm.MethodName) prog_11_method_16_code (2 : Nat) (Option.some Jvm.ClassFile.FieldType.boolean) ∈ oTB := oT4 220 rfl rfl
theorem wd_4_221 : Jvm.Cond.methodLink "OrreryTrainsLaw" (47 : Nat) ({ cls := "OrreryTrainsModel", name := "prime", desc := "(II)I" } : Jvm.MethodName) ∈ oTB := oT4 221 rfl rfl
theorem wd_4_222 : Jvm.Cond.instanceMethod ({ cls := "OrreryTrainsModel", name := "prime", desc := "(II)I" } : Jvm.MethodName) ∈ oTB := oT4 222 rfl rfl
theorem wd_4_223 : Jvm.Cond.selects "OrreryTrainsModel" ({ cls := "OrreryTrainsModel", name := "prime", desc := "(II)I" } : Jvm.MethodName) ({ cls := "OrreryTrainsModel", name := "prime", desc := "(II)I" } : Jvm.MethodName) ∈ oTB := oT4 223 rfl rfl
theorem wd_4_224 : Jvm.Cond.code ({ cls := "OrreryTrainsModel", name := "prime", desc := "(II)I" } : Jvm.MethodName) prog_11_method_18_code (6 : Nat) (Option.some Jvm.ClassFile.FieldType.int) ∈ oTB := oT4 224 rfl rfl
theorem wd_4_225 : Jvm.Cond.constantLong "OrreryTrainsModel" (84 : Nat) (2047 : Int64) ∈ oTB := oT4 225 rfl rfl
theorem wd_4_226 : Jvm.Cond.methodLink "OrreryTrainsLaw" (52 : Nat) ({ cls := "OrreryTrainsModel", name := "feed", desc := "(I)I" } : Jvm.MethodName) ∈ oTB := oT4 226 rfl rfl
theorem wd_4_227 : Jvm.Cond.instanceMethod ({ cls := "OrreryTrainsModel", name := "feed", desc := "(I)I" } : Jvm.MethodName) ∈ oTB := oT4 227 rfl rfl
theorem wd_4_228 : Jvm.Cond.selects "OrreryTrainsModel" ({ cls := "OrreryTrainsModel", name := "feed", desc := "(I)I" } : Jvm.MethodName) ({ cls := "OrreryTrainsModel", name := "feed", desc := "(I)I" } : Jvm.MethodName) ∈ oTB := oT4 228 rfl rfl
theorem wd_4_229 : Jvm.Cond.code ({ cls := "OrreryTrainsModel", name := "feed", desc := "(I)I" } : Jvm.MethodName) prog_11_method_22_code (2 : Nat) (Option.some Jvm.ClassFile.FieldType.int) ∈ oTB := oT4 229 rfl rfl
theorem wd_4_230 : Jvm.Cond.constantLong "OrreryTrainsModel" (90 : Nat) (127 : Int64) ∈ oTB := oT4 230 rfl rfl
theorem wd_4_231 : Jvm.Cond.methodLink "OrreryTrainsLaw" (57 : Nat) ({ cls := "OrreryTrainsModel", name := "pairs", desc := "()I" } : Jvm.MethodName) ∈ oTB := oT4 231 rfl rfl
theorem wd_4_232 : Jvm.Cond.instanceMethod ({ cls := "OrreryTrainsModel", name := "pairs", desc := "()I" } : Jvm.MethodName) ∈ oTB := oT4 232 rfl rfl
theorem wd_4_233 : Jvm.Cond.selects "OrreryTrainsModel" ({ cls := "OrreryTrainsModel", name := "pairs", desc := "()I" } : Jvm.MethodName) ({ cls := "OrreryTrainsModel", name := "pairs", desc := "()I" } : Jvm.MethodName) ∈ oTB := oT4 233 rfl rfl
theorem wd_4_234 : Jvm.Cond.code ({ cls := "OrreryTrainsModel", name := "pairs", desc := "()I" } : Jvm.MethodName) prog_11_method_29_code (4 : Nat) (Option.some Jvm.ClassFile.FieldType.int) ∈ oTB := oT4 234 rfl rfl
theorem wd_4_235 : Jvm.Cond.methodLink "OrreryTrainsModel" (129 : Nat) ({ cls := "OrreryTrainsModel", name := "clauses", desc := "()I" } : Jvm.MethodName) ∈ oTB := oT4 235 rfl rfl
theorem wd_4_237 : Jvm.Cond.instanceMethod ({ cls := "OrreryTrainsModel", name := "clauses", desc := "()I" } : Jvm.MethodName) ∈ oTB := oT4 237 rfl rfl
theorem wd_4_238 : Jvm.Cond.code ({ cls := "OrreryTrainsModel", name := "clauses", desc := "()I" } : Jvm.MethodName) prog_11_method_28_code (3 : Nat) (Option.some Jvm.ClassFile.FieldType.int) ∈ oTB := oT4 238 rfl rfl
theorem wd_4_239 : Jvm.Cond.methodLink "OrreryTrainsModel" (119 : Nat) ({ cls := "OrreryTrainsModel", name := "kindHere", desc := "()I" } : Jvm.MethodName) ∈ oTB := oT4 239 rfl rfl
theorem wd_5_1 : Jvm.Cond.instanceMethod ({ cls := "OrreryTrainsModel", name := "kindHere", desc := "()I" } : Jvm.MethodName) ∈ oTB := oT5 1 rfl rfl
theorem wd_5_2 : Jvm.Cond.code ({ cls := "OrreryTrainsModel", name := "kindHere", desc := "()I" } : Jvm.MethodName) prog_11_method_27_code (2 : Nat) (Option.some Jvm.ClassFile.FieldType.int) ∈ oTB := oT5 2 rfl rfl
theorem wd_5_3 : Jvm.Cond.methodLink "OrreryTrainsModel" (102 : Nat) ({ cls := "OrreryTrainsModel", name := "here", desc := "()I" } : Jvm.MethodName) ∈ oTB := oT5 3 rfl rfl
theorem wd_5_5 : Jvm.Cond.instanceMethod ({ cls := "OrreryTrainsModel", name := "here", desc := "()I" } : Jvm.MethodName) ∈ oTB := oT5 5 rfl rfl
theorem wd_5_6 : Jvm.Cond.code ({ cls := "OrreryTrainsModel", name := "here", desc := "()I" } : Jvm.MethodName) prog_11_method_23_code (1 : Nat) (Option.some Jvm.ClassFile.FieldType.int) ∈ oTB := oT5 6 rfl rfl
theorem wd_5_8 : Jvm.Cond.methodLink "OrreryTrainsModel" (113 : Nat) ({ cls := "java/lang/String", name := "charAt", desc := "(I)C" } : Jvm.MethodName) ∈ oTB := oT5 8 rfl rfl
theorem wd_5_9 : Jvm.Cond.instanceMethod ({ cls := "java/lang/String", name := "charAt", desc := "(I)C" } : Jvm.MethodName) ∈ oTB := oT5 9 rfl rfl
theorem wd_5_10 : Jvm.Cond.selects "java/lang/String" ({ cls := "java/lang/String", name := "charAt", desc := "(I)C" } : Jvm.MethodName) ({ cls := "java/lang/String", name := "charAt", desc := "(I)C" } : Jvm.MethodName) ∈ oTB := oT5 10 rfl rfl
theorem wd_5_11 : Jvm.Cond.code ({ cls := "java/lang/String", name := "charAt", desc := "(I)C" } : Jvm.MethodName) prog_13_method_56_code (2 : Nat) (Option.some Jvm.ClassFile.FieldType.char) ∈ oTB := oT5 11 rfl rfl
theorem wd_5_12 : Jvm.Cond.methodLink "java/lang/String" (492 : Nat) ({ cls := "java/lang/String", name := "isLatin1", desc := "()Z" } : Jvm.MethodName) ∈ oTB := oT5 12 rfl rfl
theorem wd_5_13 : Jvm.Cond.instanceMethod ({ cls := "java/lang/String", name := "isLatin1", desc := "()Z" } : Jvm.MethodName) ∈ oTB := oT5 13 rfl rfl
theorem wd_5_14 : Jvm.Cond.selects "java/lang/String" ({ cls := "java/lang/String", name := "isLatin1", desc := "()Z" } : Jvm.MethodName) ({ cls := "java/lang/String", name := "isLatin1", desc := "()Z" } : Jvm.MethodName) ∈ oTB := oT5 14 rfl rfl
theorem wd_5_15 : Jvm.Cond.code ({ cls := "java/lang/String", name := "isLatin1", desc := "()Z" } : Jvm.MethodName) prog_13_method_154_code (1 : Nat) (Option.some Jvm.ClassFile.FieldType.boolean) ∈ oTB := oT5 15 rfl rfl
theorem wd_5_16 : Jvm.Cond.fieldLink "java/lang/String" (38 : Nat) "java/lang/String" "COMPACT_STRINGS" "Z" ∈ oTB := oT5 16 rfl rfl
theorem wd_5_18 : Jvm.Cond.methodLink "java/lang/String" (495 : Nat) ({ cls := "java/lang/StringLatin1", name := "charAt", desc := "([BI)C" } : Jvm.MethodName) ∈ oTB := oT5 18 rfl rfl
theorem wd_5_19 : Jvm.Cond.static ({ cls := "java/lang/StringLatin1", name := "charAt", desc := "([BI)C" } : Jvm.MethodName) ∈ oTB := oT5 19 rfl rfl
theorem wd_5_20 : Jvm.Cond.code ({ cls := "java/lang/StringLatin1", name := "charAt", desc := "([BI)C" } : Jvm.MethodName) prog_14_method_2_code (2 : Nat) (Option.some Jvm.ClassFile.FieldType.char) ∈ oTB := oT5 20 rfl rfl
theorem wd_5_21 : Jvm.Cond.methodLink "java/lang/StringLatin1" (9 : Nat) ({ cls := "java/lang/String", name := "checkIndex", desc := "(II)V" } : Jvm.MethodName) ∈ oTB := oT5 21 rfl rfl
theorem wd_5_22 : Jvm.Cond.static ({ cls := "java/lang/String", name := "checkIndex", desc := "(II)V" } : Jvm.MethodName) ∈ oTB := oT5 22 rfl rfl
theorem wd_5_23 : Jvm.Cond.code ({ cls := "java/lang/String", name := "checkIndex", desc := "(II)V" } : Jvm.MethodName) prog_13_method_155_code (2 : Nat) (Option.none : Option Jvm.ClassFile.FieldType) ∈ oTB := oT5 23 rfl rfl
theorem wd_5_24 : Jvm.Cond.fieldLink "java/lang/String" (1053 : Nat) "jdk/internal/util/Preconditions" "SIOOBE_FORMATTER" "Ljava/util/function/BiFunction;" ∈ oTB := oT5 24 rfl rfl
theorem wd_5_26 : Jvm.Cond.methodLink "java/lang/String" (1059 : Nat) ({ cls := "jdk/internal/util/Preconditions", name := "checkIndex", desc := "(IILjava/util/function/BiFunction;)I" } : Jvm.MethodName) ∈ oTB := oT5 26 rfl rfl
theorem wd_5_27 : Jvm.Cond.static ({ cls := "jdk/internal/util/Preconditions", name := "checkIndex", desc := "(IILjava/util/function/BiFunction;)I" } : Jvm.MethodName) ∈ oTB := oT5 27 rfl rfl
theorem wd_5_28 : Jvm.Cond.code ({ cls := "jdk/internal/util/Preconditions", name := "checkIndex", desc := "(IILjava/util/function/BiFunction;)I" } : Jvm.MethodName) prog_16_method_11_code (3 : Nat) (Option.some Jvm.ClassFile.FieldType.int) ∈ oTB := oT5 28 rfl rfl
theorem wd_5_29 : Jvm.Cond.methodLink "java/lang/String" (498 : Nat) ({ cls := "java/lang/StringUTF16", name := "charAt", desc := "([BI)C" } : Jvm.MethodName) ∈ oTB := oT5 29 rfl rfl
theorem wd_5_30 : Jvm.Cond.static ({ cls := "java/lang/StringUTF16", name := "charAt", desc := "([BI)C" } : Jvm.MethodName) ∈ oTB := oT5 30 rfl rfl
theorem wd_5_31 : Jvm.Cond.code ({ cls := "java/lang/StringUTF16", name := "charAt", desc := "([BI)C" } : Jvm.MethodName) prog_15_method_83_code (2 : Nat) (Option.some Jvm.ClassFile.FieldType.char) ∈ oTB := oT5 31 rfl rfl
theorem wd_5_32 : Jvm.Cond.methodLink "java/lang/StringUTF16" (67 : Nat) ({ cls := "java/lang/StringUTF16", name := "checkIndex", desc := "(I[B)V" } : Jvm.MethodName) ∈ oTB := oT5 32 rfl rfl
theorem wd_5_33 : Jvm.Cond.static ({ cls := "java/lang/StringUTF16", name := "checkIndex", desc := "(I[B)V" } : Jvm.MethodName) ∈ oTB := oT5 33 rfl rfl
theorem wd_5_34 : Jvm.Cond.code ({ cls := "java/lang/StringUTF16", name := "checkIndex", desc := "(I[B)V" } : Jvm.MethodName) prog_15_method_91_code (2 : Nat) (Option.none : Option Jvm.ClassFile.FieldType) ∈ oTB := oT5 34 rfl rfl
theorem wd_5_35 : Jvm.Cond.methodLink "java/lang/StringUTF16" (48 : Nat) ({ cls := "java/lang/StringUTF16", name := "length", desc := "([B)I" } : Jvm.MethodName) ∈ oTB := oT5 35 rfl rfl
theorem wd_5_36 : Jvm.Cond.static ({ cls := "java/lang/StringUTF16", name := "length", desc := "([B)I" } : Jvm.MethodName) ∈ oTB := oT5 36 rfl rfl
theorem wd_5_37 : Jvm.Cond.code ({ cls := "java/lang/StringUTF16", name := "length", desc := "([B)I" } : Jvm.MethodName) prog_15_method_6_code (1 : Nat) (Option.some Jvm.ClassFile.FieldType.int) ∈ oTB := oT5 37 rfl rfl
theorem wd_5_38 : Jvm.Cond.methodLink "java/lang/StringUTF16" (414 : Nat) ({ cls := "java/lang/String", name := "checkIndex", desc := "(II)V" } : Jvm.MethodName) ∈ oTB := oT5 38 rfl rfl
theorem wd_5_39 : Jvm.Cond.methodLink "java/lang/StringUTF16" (71 : Nat) ({ cls := "java/lang/StringUTF16", name := "getChar", desc := "([BI)C" } : Jvm.MethodName) ∈ oTB := oT5 39 rfl rfl
theorem wd_5_40 : Jvm.Cond.static ({ cls := "java/lang/StringUTF16", name := "getChar", desc := "([BI)C" } : Jvm.MethodName) ∈ oTB := oT5 40 rfl rfl
theorem wd_5_41 : Jvm.Cond.code ({ cls := "java/lang/StringUTF16", name := "getChar", desc := "([BI)C" } : Jvm.MethodName) prog_15_method_5_code (2 : Nat) (Option.some Jvm.ClassFile.FieldType.char) ∈ oTB := oT5 41 rfl rfl
theorem wd_5_42 : Jvm.Cond.fieldLink "java/lang/StringUTF16" (44 : Nat) "java/lang/StringUTF16" "$assertionsDisabled" "Z" ∈ oTB := oT5 42 rfl rfl
theorem wd_5_44 : Jvm.Cond.fieldLink "java/lang/StringUTF16" (59 : Nat) "java/lang/StringUTF16" "HI_BYTE_SHIFT" "I" ∈ oTB := oT5 44 rfl rfl
theorem wd_5_46 : Jvm.Cond.fieldLink "java/lang/StringUTF16" (63 : Nat) "java/lang/StringUTF16" "LO_BYTE_SHIFT" "I" ∈ oTB := oT5 46 rfl rfl
theorem wd_5_48 : Jvm.Cond.methodLink "OrreryTrainsModel" (108 : Nat) ({ cls := "OrreryTrainsModel", name := "fails", desc := "()V" } : Jvm.MethodName) ∈ oTB := oT5 48 rfl rfl
theorem wd_5_50 : Jvm.Cond.instanceMethod ({ cls := "OrreryTrainsModel", name := "fails", desc := "()V" } : Jvm.MethodName) ∈ oTB := oT5 50 rfl rfl
theorem wd_5_51 : Jvm.Cond.code ({ cls := "OrreryTrainsModel", name := "fails", desc := "()V" } : Jvm.MethodName) prog_11_method_24_code (1 : Nat) (Option.none : Option Jvm.ClassFile.FieldType) ∈ oTB := oT5 51 rfl rfl
theorem wd_5_52 : Jvm.Cond.methodLink "OrreryTrainsModel" (122 : Nat) ({ cls := "OrreryTrainsModel", name := "figure", desc := "(I)I" } : Jvm.MethodName) ∈ oTB := oT5 52 rfl rfl
theorem wd_5_54 : Jvm.Cond.instanceMethod ({ cls := "OrreryTrainsModel", name := "figure", desc := "(I)I" } : Jvm.MethodName) ∈ oTB := oT5 54 rfl rfl
theorem wd_5_55 : Jvm.Cond.code ({ cls := "OrreryTrainsModel", name := "figure", desc := "(I)I" } : Jvm.MethodName) prog_11_method_25_code (3 : Nat) (Option.some Jvm.ClassFile.FieldType.int) ∈ oTB := oT5 55 rfl rfl
theorem wd_5_56 : Jvm.Cond.constantLong "OrreryTrainsModel" (106 : Nat) (57 : Int64) ∈ oTB := oT5 56 rfl rfl
theorem wd_5_57 : Jvm.Cond.methodLink "OrreryTrainsModel" (125 : Nat) ({ cls := "OrreryTrainsModel", name := "must", desc := "(I)V" } : Jvm.MethodName) ∈ oTB := oT5 57 rfl rfl
theorem wd_5_59 : Jvm.Cond.instanceMethod ({ cls := "OrreryTrainsModel", name := "must", desc := "(I)V" } : Jvm.MethodName) ∈ oTB := oT5 59 rfl rfl
theorem wd_5_60 : Jvm.Cond.code ({ cls := "OrreryTrainsModel", name := "must", desc := "(I)V" } : Jvm.MethodName) prog_11_method_26_code (2 : Nat) (Option.none : Option Jvm.ClassFile.FieldType) ∈ oTB := oT5 60 rfl rfl
theorem wd_5_62 : Jvm.Cond.methodLink "OrreryTrainsLaw" (61 : Nat) ({ cls := "OrreryTrainsModel", name := "becomes", desc := "(III)I" } : Jvm.MethodName) ∈ oTB := oT5 62 rfl rfl
theorem wd_5_63 : Jvm.Cond.instanceMethod ({ cls := "OrreryTrainsModel", name := "becomes", desc := "(III)I" } : Jvm.MethodName) ∈ oTB := oT5 63 rfl rfl
theorem wd_5_64 : Jvm.Cond.selects "OrreryTrainsModel" ({ cls := "OrreryTrainsModel", name := "becomes", desc := "(III)I" } : Jvm.MethodName) ({ cls := "OrreryTrainsModel", name := "becomes", desc := "(III)I" } : Jvm.MethodName) ∈ oTB := oT5 64 rfl rfl
theorem wd_5_65 : Jvm.Cond.code ({ cls := "OrreryTrainsModel", name := "becomes", desc := "(III)I" } : Jvm.MethodName) prog_11_method_30_code (5 : Nat) (Option.some Jvm.ClassFile.FieldType.int) ∈ oTB := oT5 65 rfl rfl
theorem wd_5_66 : Jvm.Cond.methodLink "OrreryTrainsModel" (132 : Nat) ({ cls := "OrreryTrainsModel", name := "isPair", desc := "(I)Z" } : Jvm.MethodName) ∈ oTB := oT5 66 rfl rfl
theorem wd_5_68 : Jvm.Cond.instanceMethod ({ cls := "OrreryTrainsModel", name := "isPair", desc := "(I)Z" } : Jvm.MethodName) ∈ oTB := oT5 68 rfl rfl
theorem wd_5_69 : Jvm.Cond.code ({ cls := "OrreryTrainsModel", name := "isPair", desc := "(I)Z" } : Jvm.MethodName) prog_11_method_19_code (2 : Nat) (Option.some Jvm.ClassFile.FieldType.boolean) ∈ oTB := oT5 69 rfl rfl
theorem wd_5_70 : Jvm.Cond.constantLong "OrreryTrainsModel" (135 : Nat) (5 : Int64) ∈ oTB := oT5 70 rfl rfl
theorem wd_5_71 : Jvm.Cond.constantLong "OrreryTrainsModel" (137 : Nat) (9 : Int64) ∈ oTB := oT5 71 rfl rfl
theorem wd_5_72 : Jvm.Cond.methodLink "OrreryTrainsLaw" (65 : Nat) ({ cls := "OrreryTrainsModel", name := "teeth", desc := "(III)I" } : Jvm.MethodName) ∈ oTB := oT5 72 rfl rfl
theorem wd_5_73 : Jvm.Cond.instanceMethod ({ cls := "OrreryTrainsModel", name := "teeth", desc := "(III)I" } : Jvm.MethodName) ∈ oTB := oT5 73 rfl rfl
theorem wd_5_74 : Jvm.Cond.selects "OrreryTrainsModel" ({ cls := "OrreryTrainsModel", name := "teeth", desc := "(III)I" } : Jvm.MethodName) ({ cls := "OrreryTrainsModel", name := "teeth", desc := "(III)I" } : Jvm.MethodName) ∈ oTB := oT5 74 rfl rfl
theorem wd_5_75 : Jvm.Cond.code ({ cls := "OrreryTrainsModel", name := "teeth", desc := "(III)I" } : Jvm.MethodName) prog_11_method_31_code (6 : Nat) (Option.some Jvm.ClassFile.FieldType.int) ∈ oTB := oT5 75 rfl rfl
theorem wd_5_76 : Jvm.Cond.methodLink "OrreryTrainsLaw" (69 : Nat) ({ cls := "OrreryTrainsModel", name := "pair", desc := "(II)I" } : Jvm.MethodName) ∈ oTB := oT5 76 rfl rfl
theorem wd_5_77 : Jvm.Cond.instanceMethod ({ cls := "OrreryTrainsModel", name := "pair", desc := "(II)I" } : Jvm.MethodName) ∈ oTB := oT5 77 rfl rfl
theorem wd_5_78 : Jvm.Cond.selects "OrreryTrainsModel" ({ cls := "OrreryTrainsModel", name := "pair", desc := "(II)I" } : Jvm.MethodName) ({ cls := "OrreryTrainsModel", name := "pair", desc := "(II)I" } : Jvm.MethodName) ∈ oTB := oT5 78 rfl rfl
theorem wd_5_79 : Jvm.Cond.code ({ cls := "OrreryTrainsModel", name := "pair", desc := "(II)I" } : Jvm.MethodName) prog_11_method_32_code (3 : Nat) (Option.some Jvm.ClassFile.FieldType.int) ∈ oTB := oT5 79 rfl rfl
theorem wd_5_80 : Jvm.Cond.methodLink "OrreryTrainsModel" (139 : Nat) ({ cls := "OrreryTrainsModel", name := "play", desc := "(I)I" } : Jvm.MethodName) ∈ oTB := oT5 80 rfl rfl
theorem wd_5_82 : Jvm.Cond.instanceMethod ({ cls := "OrreryTrainsModel", name := "play", desc := "(I)I" } : Jvm.MethodName) ∈ oTB := oT5 82 rfl rfl
theorem wd_5_83 : Jvm.Cond.code ({ cls := "OrreryTrainsModel", name := "play", desc := "(I)I" } : Jvm.MethodName) prog_11_method_20_code (3 : Nat) (Option.some Jvm.ClassFile.FieldType.int) ∈ oTB := oT5 83 rfl rfl
theorem wd_5_84 : Jvm.Cond.methodLink "OrreryTrainsModel" (142 : Nat) ({ cls := "OrreryTrainsModel", name := "trainsOf", desc := "(I)I" } : Jvm.MethodName) ∈ oTB := oT5 84 rfl rfl
theorem wd_5_86 : Jvm.Cond.instanceMethod ({ cls := "OrreryTrainsModel", name := "trainsOf", desc := "(I)I" } : Jvm.MethodName) ∈ oTB := oT5 86 rfl rfl
theorem wd_5_87 : Jvm.Cond.code ({ cls := "OrreryTrainsModel", name := "trainsOf", desc := "(I)I" } : Jvm.MethodName) prog_11_method_21_code (5 : Nat) (Option.some Jvm.ClassFile.FieldType.int) ∈ oTB := oT5 87 rfl rfl
theorem wd_5_88 : Jvm.Cond.methodLink "OrreryTrainsModel" (86 : Nat) ({ cls := "OrreryTrainsModel", name := "pairAt", desc := "(II)I" } : Jvm.MethodName) ∈ oTB := oT5 88 rfl rfl
theorem wd_5_90 : Jvm.Cond.instanceMethod ({ cls := "OrreryTrainsModel", name := "pairAt", desc := "(II)I" } : Jvm.MethodName) ∈ oTB := oT5 90 rfl rfl
theorem wd_5_91 : Jvm.Cond.code ({ cls := "OrreryTrainsModel", name := "pairAt", desc := "(II)I" } : Jvm.MethodName) prog_11_method_33_code (3 : Nat) (Option.some Jvm.ClassFile.FieldType.int) ∈ oTB := oT5 91 rfl rfl
theorem wd_5_92 : Jvm.Cond.methodLink "OrreryTrainsLaw" (73 : Nat) ({ cls := "OrreryTrainsModel", name := "train", desc := "(I)I" } : Jvm.MethodName) ∈ oTB := oT5 92 rfl rfl
theorem wd_5_93 : Jvm.Cond.instanceMethod ({ cls := "OrreryTrainsModel", name := "train", desc := "(I)I" } : Jvm.MethodName) ∈ oTB := oT5 93 rfl rfl
theorem wd_5_94 : Jvm.Cond.selects "OrreryTrainsModel" ({ cls := "OrreryTrainsModel", name := "train", desc := "(I)I" } : Jvm.MethodName) ({ cls := "OrreryTrainsModel", name := "train", desc := "(I)I" } : Jvm.MethodName) ∈ oTB := oT5 94 rfl rfl
theorem wd_5_95 : Jvm.Cond.code ({ cls := "OrreryTrainsModel", name := "train", desc := "(I)I" } : Jvm.MethodName) prog_11_method_35_code (6 : Nat) (Option.some Jvm.ClassFile.FieldType.int) ∈ oTB := oT5 95 rfl rfl
theorem wd_5_96 : Jvm.Cond.methodLink "OrreryTrainsLaw" (77 : Nat) ({ cls := "OrreryTrainsModel", name := "drop", desc := "(I)I" } : Jvm.MethodName) ∈ oTB := oT5 96 rfl rfl
theorem wd_5_97 : Jvm.Cond.instanceMethod ({ cls := "OrreryTrainsModel", name := "drop", desc := "(I)I" } : Jvm.MethodName) ∈ oTB := oT5 97 rfl rfl
theorem wd_5_98 : Jvm.Cond.selects "OrreryTrainsModel" ({ cls := "OrreryTrainsModel", name := "drop", desc := "(I)I" } : Jvm.MethodName) ({ cls := "OrreryTrainsModel", name := "drop", desc := "(I)I" } : Jvm.MethodName) ∈ oTB := oT5 98 rfl rfl
theorem wd_5_99 : Jvm.Cond.code ({ cls := "OrreryTrainsModel", name := "drop", desc := "(I)I" } : Jvm.MethodName) prog_11_method_36_code (3 : Nat) (Option.some Jvm.ClassFile.FieldType.int) ∈ oTB := oT5 99 rfl rfl
theorem wd_5_100 : Jvm.Cond.methodLink "OrreryTrainsLaw" (81 : Nat) ({ cls := "OrreryTrainsModel", name := "of", desc := "(II)I" } : Jvm.MethodName) ∈ oTB := oT5 100 rfl rfl
theorem wd_5_101 : Jvm.Cond.instanceMethod ({ cls := "OrreryTrainsModel", name := "of", desc := "(II)I" } : Jvm.MethodName) ∈ oTB := oT5 101 rfl rfl
theorem wd_5_102 : Jvm.Cond.selects "OrreryTrainsModel" ({ cls := "OrreryTrainsModel", name := "of", desc := "(II)I" } : Jvm.MethodName) ({ cls := "OrreryTrainsModel", name := "of", desc := "(II)I" } : Jvm.MethodName) ∈ oTB := oT5 102 rfl rfl
theorem wd_5_103 : Jvm.Cond.code ({ cls := "OrreryTrainsModel", name := "of", desc := "(II)I" } : Jvm.MethodName) prog_11_method_38_code (3 : Nat) (Option.some Jvm.ClassFile.FieldType.int) ∈ oTB := oT5 103 rfl rfl
theorem wd_5_104 : Jvm.Cond.constantLong "OrreryTrainsModel" (145 : Nat) (12 : Int64) ∈ oTB := oT5 104 rfl rfl
theorem wd_5_105 : Jvm.Cond.methodLink "OrreryTrainsModel" (147 : Nat) ({ cls := "OrreryTrainsModel", name := "isRound", desc := "(I)Z" } : Jvm.MethodName) ∈ oTB := oT5 105 rfl rfl
theorem wd_5_107 : Jvm.Cond.instanceMethod ({ cls := "OrreryTrainsModel", name := "isRound", desc := "(I)Z" } : Jvm.MethodName) ∈ oTB := oT5 107 rfl rfl
theorem wd_5_108 : Jvm.Cond.code ({ cls := "OrreryTrainsModel", name := "isRound", desc := "(I)Z" } : Jvm.MethodName) prog_11_method_37_code (4 : Nat) (Option.some Jvm.ClassFile.FieldType.boolean) ∈ oTB := oT5 108 rfl rfl
theorem wd_5_109 : Jvm.Cond.methodLink "OrreryTrainsLaw" (86 : Nat) ({ cls := "OrreryTrainsModel", name := "turns", desc := "(II)J" } : Jvm.MethodName) ∈ oTB := oT5 109 rfl rfl
theorem wd_5_110 : Jvm.Cond.instanceMethod ({ cls := "OrreryTrainsModel", name := "turns", desc := "(II)J" } : Jvm.MethodName) ∈ oTB := oT5 110 rfl rfl
theorem wd_5_111 : Jvm.Cond.selects "OrreryTrainsModel" ({ cls := "OrreryTrainsModel", name := "turns", desc := "(II)J" } : Jvm.MethodName) ({ cls := "OrreryTrainsModel", name := "turns", desc := "(II)J" } : Jvm.MethodName) ∈ oTB := oT5 111 rfl rfl
theorem wd_5_112 : Jvm.Cond.code ({ cls := "OrreryTrainsModel", name := "turns", desc := "(II)J" } : Jvm.MethodName) prog_11_method_42_code (3 : Nat) (Option.some Jvm.ClassFile.FieldType.long) ∈ oTB := oT5 112 rfl rfl
theorem wd_5_113 : Jvm.Cond.methodLink "OrreryTrainsModel" (154 : Nat) ({ cls := "OrreryTrainsModel", name := "hasTrain", desc := "(I)Z" } : Jvm.MethodName) ∈ oTB := oT5 113 rfl rfl
theorem wd_5_115 : Jvm.Cond.instanceMethod ({ cls := "OrreryTrainsModel", name := "hasTrain", desc := "(I)Z" } : Jvm.MethodName) ∈ oTB := oT5 115 rfl rfl
theorem wd_5_116 : Jvm.Cond.code ({ cls := "OrreryTrainsModel", name := "hasTrain", desc := "(I)Z" } : Jvm.MethodName) prog_11_method_34_code (2 : Nat) (Option.some Jvm.ClassFile.FieldType.boolean) ∈ oTB := oT5 116 rfl rfl
theorem wd_5_117 : Jvm.Cond.methodLink "OrreryTrainsModel" (157 : Nat) ({ cls := "OrreryTrainsModel", name := "drivers", desc := "(I)J" } : Jvm.MethodName) ∈ oTB := oT5 117 rfl rfl
theorem wd_5_119 : Jvm.Cond.instanceMethod ({ cls := "OrreryTrainsModel", name := "drivers", desc := "(I)J" } : Jvm.MethodName) ∈ oTB := oT5 119 rfl rfl
theorem wd_5_120 : Jvm.Cond.code ({ cls := "OrreryTrainsModel", name := "drivers", desc := "(I)J" } : Jvm.MethodName) prog_11_method_40_code (2 : Nat) (Option.some Jvm.ClassFile.FieldType.long) ∈ oTB := oT5 120 rfl rfl
theorem wd_5_121 : Jvm.Cond.methodLink "OrreryTrainsModel" (150 : Nat) ({ cls := "OrreryTrainsModel", name := "product", desc := "(IIII)J" } : Jvm.MethodName) ∈ oTB := oT5 121 rfl rfl
theorem wd_5_123 : Jvm.Cond.instanceMethod ({ cls := "OrreryTrainsModel", name := "product", desc := "(IIII)J" } : Jvm.MethodName) ∈ oTB := oT5 123 rfl rfl
theorem wd_5_124 : Jvm.Cond.code ({ cls := "OrreryTrainsModel", name := "product", desc := "(IIII)J" } : Jvm.MethodName) prog_11_method_39_code (8 : Nat) (Option.some Jvm.ClassFile.FieldType.long) ∈ oTB := oT5 124 rfl rfl
theorem wd_5_125 : Jvm.Cond.methodLink "OrreryTrainsModel" (161 : Nat) ({ cls := "OrreryTrainsModel", name := "drivens", desc := "(I)J" } : Jvm.MethodName) ∈ oTB := oT5 125 rfl rfl
theorem wd_5_127 : Jvm.Cond.instanceMethod ({ cls := "OrreryTrainsModel", name := "drivens", desc := "(I)J" } : Jvm.MethodName) ∈ oTB := oT5 127 rfl rfl
theorem wd_5_128 : Jvm.Cond.code ({ cls := "OrreryTrainsModel", name := "drivens", desc := "(I)J" } : Jvm.MethodName) prog_11_method_41_code (2 : Nat) (Option.some Jvm.ClassFile.FieldType.long) ∈ oTB := oT5 128 rfl rfl
theorem wd_5_129 : Jvm.Cond.methodLink "OrreryTrainsLaw" (90 : Nat) ({ cls := "OrreryTrainsModel", name := "wrong", desc := "(II)J" } : Jvm.MethodName) ∈ oTB := oT5 129 rfl rfl
theorem wd_5_130 : Jvm.Cond.instanceMethod ({ cls := "OrreryTrainsModel", name := "wrong", desc := "(II)J" } : Jvm.MethodName) ∈ oTB := oT5 130 rfl rfl
theorem wd_5_131 : Jvm.Cond.selects "OrreryTrainsModel" ({ cls := "OrreryTrainsModel", name := "wrong", desc := "(II)J" } : Jvm.MethodName) ({ cls := "OrreryTrainsModel", name := "wrong", desc := "(II)J" } : Jvm.MethodName) ∈ oTB := oT5 131 rfl rfl
theorem wd_5_132 : Jvm.Cond.code ({ cls := "OrreryTrainsModel", name := "wrong", desc := "(II)J" } : Jvm.MethodName) prog_11_method_44_code (5 : Nat) (Option.some Jvm.ClassFile.FieldType.long) ∈ oTB := oT5 132 rfl rfl
theorem wd_5_133 : Jvm.Cond.methodLink "OrreryTrainsModel" (164 : Nat) ({ cls := "OrreryTrainsModel", name := "off", desc := "(IJJ)J" } : Jvm.MethodName) ∈ oTB := oT5 133 rfl rfl
theorem wd_5_135 : Jvm.Cond.instanceMethod ({ cls := "OrreryTrainsModel", name := "off", desc := "(IJJ)J" } : Jvm.MethodName) ∈ oTB := oT5 135 rfl rfl
theorem wd_5_136 : Jvm.Cond.code ({ cls := "OrreryTrainsModel", name := "off", desc := "(IJJ)J" } : Jvm.MethodName) prog_11_method_43_code (6 : Nat) (Option.some Jvm.ClassFile.FieldType.long) ∈ oTB := oT5 136 rfl rfl
theorem wd_5_137 : Jvm.Cond.methodLink "OrreryTrainsLaw" (94 : Nat) ({ cls := "OrreryTrainsModel", name := "backlash", desc := "(II)J" } : Jvm.MethodName) ∈ oTB := oT5 137 rfl rfl
theorem wd_5_138 : Jvm.Cond.instanceMethod ({ cls := "OrreryTrainsModel", name := "backlash", desc := "(II)J" } : Jvm.MethodName) ∈ oTB := oT5 138 rfl rfl
theorem wd_5_139 : Jvm.Cond.selects "OrreryTrainsModel" ({ cls := "OrreryTrainsModel", name := "backlash", desc := "(II)J" } : Jvm.MethodName) ({ cls := "OrreryTrainsModel", name := "backlash", desc := "(II)J" } : Jvm.MethodName) ∈ oTB := oT5 139 rfl rfl
theorem wd_5_140 : Jvm.Cond.code ({ cls := "OrreryTrainsModel", name := "backlash", desc := "(II)J" } : Jvm.MethodName) prog_11_method_46_code (3 : Nat) (Option.some Jvm.ClassFile.FieldType.long) ∈ oTB := oT5 140 rfl rfl
theorem wd_5_141 : Jvm.Cond.methodLink "OrreryTrainsModel" (168 : Nat) ({ cls := "OrreryTrainsModel", name := "lag", desc := "(I)J" } : Jvm.MethodName) ∈ oTB := oT5 141 rfl rfl
theorem wd_5_143 : Jvm.Cond.instanceMethod ({ cls := "OrreryTrainsModel", name := "lag", desc := "(I)J" } : Jvm.MethodName) ∈ oTB := oT5 143 rfl rfl
theorem wd_5_144 : Jvm.Cond.code ({ cls := "OrreryTrainsModel", name := "lag", desc := "(I)J" } : Jvm.MethodName) prog_11_method_45_code (6 : Nat) (Option.some Jvm.ClassFile.FieldType.long) ∈ oTB := oT5 144 rfl rfl
theorem wd_5_145 : Jvm.Cond.constantLong "OrreryTrainsModel" (171 : Nat) (100 : Int64) ∈ oTB := oT5 145 rfl rfl
theorem wd_5_146 : Jvm.Cond.methodLink "OrreryTrainsLaw" (98 : Nat) ({ cls := "OrreryTrainsModel", name := "share", desc := "(II)I" } : Jvm.MethodName) ∈ oTB := oT5 146 rfl rfl
theorem wd_5_147 : Jvm.Cond.instanceMethod ({ cls := "OrreryTrainsModel", name := "share", desc := "(II)I" } : Jvm.MethodName) ∈ oTB := oT5 147 rfl rfl
theorem wd_5_148 : Jvm.Cond.selects "OrreryTrainsModel" ({ cls := "OrreryTrainsModel", name := "share", desc := "(II)I" } : Jvm.MethodName) ({ cls := "OrreryTrainsModel", name := "share", desc := "(II)I" } : Jvm.MethodName) ∈ oTB := oT5 148 rfl rfl
theorem wd_5_149 : Jvm.Cond.code ({ cls := "OrreryTrainsModel", name := "share", desc := "(II)I" } : Jvm.MethodName) prog_11_method_49_code (3 : Nat) (Option.some Jvm.ClassFile.FieldType.int) ∈ oTB := oT5 149 rfl rfl
theorem wd_5_150 : Jvm.Cond.methodLink "OrreryTrainsModel" (173 : Nat) ({ cls := "OrreryTrainsModel", name := "areTwo", desc := "(II)Z" } : Jvm.MethodName) ∈ oTB := oT5 150 rfl rfl
theorem wd_5_152 : Jvm.Cond.instanceMethod ({ cls := "OrreryTrainsModel", name := "areTwo", desc := "(II)Z" } : Jvm.MethodName) ∈ oTB := oT5 152 rfl rfl
theorem wd_5_153 : Jvm.Cond.code ({ cls := "OrreryTrainsModel", name := "areTwo", desc := "(II)Z" } : Jvm.MethodName) prog_11_method_48_code (3 : Nat) (Option.some Jvm.ClassFile.FieldType.boolean) ∈ oTB := oT5 153 rfl rfl
theorem wd_5_154 : Jvm.Cond.methodLink "OrreryTrainsModel" (176 : Nat) ({ cls := "OrreryTrainsModel", name := "shared", desc := "(II)I" } : Jvm.MethodName) ∈ oTB := oT5 154 rfl rfl
theorem wd_5_156 : Jvm.Cond.instanceMethod ({ cls := "OrreryTrainsModel", name := "shared", desc := "(II)I" } : Jvm.MethodName) ∈ oTB := oT5 156 rfl rfl
theorem wd_5_157 : Jvm.Cond.code ({ cls := "OrreryTrainsModel", name := "shared", desc := "(II)I" } : Jvm.MethodName) prog_11_method_47_code (4 : Nat) (Option.some Jvm.ClassFile.FieldType.int) ∈ oTB := oT5 157 rfl rfl
theorem wd_5_158 : Jvm.Cond.methodLink "OrreryTrainsLaw" (102 : Nat) ({ cls := "OrreryTrainsModel", name := "order", desc := "(II)I" } : Jvm.MethodName) ∈ oTB := oT5 158 rfl rfl
theorem wd_5_159 : Jvm.Cond.instanceMethod ({ cls := "OrreryTrainsModel", name := "order", desc := "(II)I" } : Jvm.MethodName) ∈ oTB := oT5 159 rfl rfl
theorem wd_5_160 : Jvm.Cond.selects "OrreryTrainsModel" ({ cls := "OrreryTrainsModel", name := "order", desc := "(II)I" } : Jvm.MethodName) ({ cls := "OrreryTrainsModel", name := "order", desc := "(II)I" } : Jvm.MethodName) ∈ oTB := oT5 160 rfl rfl
theorem wd_5_161 : Jvm.Cond.code ({ cls := "OrreryTrainsModel", name := "order", desc := "(II)I" } : Jvm.MethodName) prog_11_method_51_code (14 : Nat) (Option.some Jvm.ClassFile.FieldType.int) ∈ oTB := oT5 161 rfl rfl
theorem wd_5_162 : Jvm.Cond.methodLink "OrreryTrainsModel" (179 : Nat) ({ cls := "OrreryTrainsModel", name := "wheels", desc := "()I" } : Jvm.MethodName) ∈ oTB := oT5 162 rfl rfl
theorem wd_5_164 : Jvm.Cond.instanceMethod ({ cls := "OrreryTrainsModel", name := "wheels", desc := "()I" } : Jvm.MethodName) ∈ oTB := oT5 164 rfl rfl
theorem wd_5_165 : Jvm.Cond.code ({ cls := "OrreryTrainsModel", name := "wheels", desc := "()I" } : Jvm.MethodName) prog_11_method_50_code (5 : Nat) (Option.some Jvm.ClassFile.FieldType.int) ∈ oTB := oT5 165 rfl rfl
theorem wd_5_166 : Jvm.Cond.methodLink "OrreryTrainsLaw" (106 : Nat) ({ cls := "OrreryTrainsModel", name := "found", desc := "(II)I" } : Jvm.MethodName) ∈ oTB := oT5 166 rfl rfl
theorem wd_5_167 : Jvm.Cond.instanceMethod ({ cls := "OrreryTrainsModel", name := "found", desc := "(II)I" } : Jvm.MethodName) ∈ oTB := oT5 167 rfl rfl
theorem wd_5_168 : Jvm.Cond.selects "OrreryTrainsModel" ({ cls := "OrreryTrainsModel", name := "found", desc := "(II)I" } : Jvm.MethodName) ({ cls := "OrreryTrainsModel", name := "found", desc := "(II)I" } : Jvm.MethodName) ∈ oTB := oT5 168 rfl rfl
theorem wd_5_169 : Jvm.Cond.code ({ cls := "OrreryTrainsModel", name := "found", desc := "(II)I" } : Jvm.MethodName) prog_11_method_54_code (3 : Nat) (Option.some Jvm.ClassFile.FieldType.int) ∈ oTB := oT5 169 rfl rfl
theorem wd_5_170 : Jvm.Cond.constantLong "OrreryTrainsModel" (211 : Nat) (13 : Int64) ∈ oTB := oT5 170 rfl rfl
theorem wd_5_171 : Jvm.Cond.methodLink "OrreryTrainsModel" (213 : Nat) ({ cls := "OrreryTrainsModel", name := "finds", desc := "(I)V" } : Jvm.MethodName) ∈ oTB := oT5 171 rfl rfl
theorem wd_5_173 : Jvm.Cond.instanceMethod ({ cls := "OrreryTrainsModel", name := "finds", desc := "(I)V" } : Jvm.MethodName) ∈ oTB := oT5 173 rfl rfl
theorem wd_5_174 : Jvm.Cond.code ({ cls := "OrreryTrainsModel", name := "finds", desc := "(I)V" } : Jvm.MethodName) prog_11_method_53_code (6 : Nat) (Option.none : Option Jvm.ClassFile.FieldType) ∈ oTB := oT5 174 rfl rfl
theorem wd_5_175 : Jvm.Cond.methodLink "OrreryTrainsModel" (207 : Nat) ({ cls := "OrreryTrainsModel", name := "tries", desc := "(IIIIII)V" } : Jvm.MethodName) ∈ oTB := oT5 175 rfl rfl
theorem wd_5_177 : Jvm.Cond.instanceMethod ({ cls := "OrreryTrainsModel", name := "tries", desc := "(IIIIII)V" } : Jvm.MethodName) ∈ oTB := oT5 177 rfl rfl
theorem wd_5_178 : Jvm.Cond.code ({ cls := "OrreryTrainsModel", name := "tries", desc := "(IIIIII)V" } : Jvm.MethodName) prog_11_method_52_code (18 : Nat) (Option.none : Option Jvm.ClassFile.FieldType) ∈ oTB := oT5 178 rfl rfl
theorem wd_5_179 : Jvm.Cond.methodLink "OrreryTrainsLaw" (110 : Nat) ({ cls := "OrreryTrainsModel", name := "foundWrong", desc := "(II)J" } : Jvm.MethodName) ∈ oTB := oT5 179 rfl rfl
theorem wd_5_180 : Jvm.Cond.instanceMethod ({ cls := "OrreryTrainsModel", name := "foundWrong", desc := "(II)J" } : Jvm.MethodName) ∈ oTB := oT5 180 rfl rfl
theorem wd_5_181 : Jvm.Cond.selects "OrreryTrainsModel" ({ cls := "OrreryTrainsModel", name := "foundWrong", desc := "(II)J" } : Jvm.MethodName) ({ cls := "OrreryTrainsModel", name := "foundWrong", desc := "(II)J" } : Jvm.MethodName) ∈ oTB := oT5 181 rfl rfl
theorem wd_5_182 : Jvm.Cond.code ({ cls := "OrreryTrainsModel", name := "foundWrong", desc := "(II)J" } : Jvm.MethodName) prog_11_method_55_code (7 : Nat) (Option.some Jvm.ClassFile.FieldType.long) ∈ oTB := oT5 182 rfl rfl
theorem wd_5_183 : Jvm.Cond.methodLink "OrreryTrainsLaw" (114 : Nat) ({ cls := "OrreryTrainsModel", name := "turn", desc := "(I)I" } : Jvm.MethodName) ∈ oTB := oT5 183 rfl rfl
theorem wd_5_184 : Jvm.Cond.instanceMethod ({ cls := "OrreryTrainsModel", name := "turn", desc := "(I)I" } : Jvm.MethodName) ∈ oTB := oT5 184 rfl rfl
theorem wd_5_185 : Jvm.Cond.selects "OrreryTrainsModel" ({ cls := "OrreryTrainsModel", name := "turn", desc := "(I)I" } : Jvm.MethodName) ({ cls := "OrreryTrainsModel", name := "turn", desc := "(I)I" } : Jvm.MethodName) ∈ oTB := oT5 185 rfl rfl
theorem wd_5_186 : Jvm.Cond.code ({ cls := "OrreryTrainsModel", name := "turn", desc := "(I)I" } : Jvm.MethodName) prog_11_method_57_code (2 : Nat) (Option.some Jvm.ClassFile.FieldType.int) ∈ oTB := oT5 186 rfl rfl
theorem wd_5_187 : Jvm.Cond.constantLong "OrreryTrainsModel" (216 : Nat) (-99 : Int64) ∈ oTB := oT5 187 rfl rfl
theorem wd_5_188 : Jvm.Cond.constantLong "OrreryTrainsModel" (218 : Nat) (-9999 : Int64) ∈ oTB := oT5 188 rfl rfl
theorem wd_5_189 : Jvm.Cond.methodLink "OrreryTrainsModel" (220 : Nat) ({ cls := "OrreryTrainsModel", name := "goes", desc := "(I)V" } : Jvm.MethodName) ∈ oTB := oT5 189 rfl rfl
theorem wd_5_191 : Jvm.Cond.instanceMethod ({ cls := "OrreryTrainsModel", name := "goes", desc := "(I)V" } : Jvm.MethodName) ∈ oTB := oT5 191 rfl rfl
theorem wd_5_192 : Jvm.Cond.code ({ cls := "OrreryTrainsModel", name := "goes", desc := "(I)V" } : Jvm.MethodName) prog_11_method_56_code (3 : Nat) (Option.none : Option Jvm.ClassFile.FieldType) ∈ oTB := oT5 192 rfl rfl
theorem wd_5_193 : Jvm.Cond.methodLink "OrreryTrainsLaw" (118 : Nat) ({ cls := "OrreryTrainsModel", name := "crank", desc := "(I)I" } : Jvm.MethodName) ∈ oTB := oT5 193 rfl rfl
theorem wd_5_194 : Jvm.Cond.instanceMethod ({ cls := "OrreryTrainsModel", name := "crank", desc := "(I)I" } : Jvm.MethodName) ∈ oTB := oT5 194 rfl rfl
theorem wd_5_195 : Jvm.Cond.selects "OrreryTrainsModel" ({ cls := "OrreryTrainsModel", name := "crank", desc := "(I)I" } : Jvm.MethodName) ({ cls := "OrreryTrainsModel", name := "crank", desc := "(I)I" } : Jvm.MethodName) ∈ oTB := oT5 195 rfl rfl
theorem wd_5_196 : Jvm.Cond.code ({ cls := "OrreryTrainsModel", name := "crank", desc := "(I)I" } : Jvm.MethodName) prog_11_method_58_code (2 : Nat) (Option.some Jvm.ClassFile.FieldType.int) ∈ oTB := oT5 196 rfl rfl
theorem wd_5_197 : Jvm.Cond.methodLink "OrreryTrainsLaw" (123 : Nat) ({ cls := "OrreryTrainsModel", name := "stands", desc := "(I)J" } : Jvm.MethodName) ∈ oTB := oT5 197 rfl rfl
theorem wd_5_198 : Jvm.Cond.instanceMethod ({ cls := "OrreryTrainsModel", name := "stands", desc := "(I)J" } : Jvm.MethodName) ∈ oTB := oT5 198 rfl rfl
theorem wd_5_199 : Jvm.Cond.selects "OrreryTrainsModel" ({ cls := "OrreryTrainsModel", name := "stands", desc := "(I)J" } : Jvm.MethodName) ({ cls := "OrreryTrainsModel", name := "stands", desc := "(I)J" } : Jvm.MethodName) ∈ oTB := oT5 199 rfl rfl
theorem wd_5_200 : Jvm.Cond.code ({ cls := "OrreryTrainsModel", name := "stands", desc := "(I)J" } : Jvm.MethodName) prog_11_method_60_code (2 : Nat) (Option.some Jvm.ClassFile.FieldType.long) ∈ oTB := oT5 200 rfl rfl
theorem wd_5_201 : Jvm.Cond.methodLink "OrreryTrainsModel" (225 : Nat) ({ cls := "OrreryTrainsModel", name := "standsAt", desc := "(I)J" } : Jvm.MethodName) ∈ oTB := oT5 201 rfl rfl
theorem wd_5_203 : Jvm.Cond.instanceMethod ({ cls := "OrreryTrainsModel", name := "standsAt", desc := "(I)J" } : Jvm.MethodName) ∈ oTB := oT5 203 rfl rfl
theorem wd_5_204 : Jvm.Cond.code ({ cls := "OrreryTrainsModel", name := "standsAt", desc := "(I)J" } : Jvm.MethodName) prog_11_method_59_code (6 : Nat) (Option.some Jvm.ClassFile.FieldType.long) ∈ oTB := oT5 204 rfl rfl
theorem wd_5_205 : Jvm.Cond.constantLong "OrreryTrainsModel" (223 : Nat) (1000000 : Int64) ∈ oTB := oT5 205 rfl rfl
theorem wd_5_206 : Jvm.Cond.methodLink "OrreryTrainsLaw" (127 : Nat) ({ cls := "OrreryTrainsModel", name := "meet", desc := "(II)J" } : Jvm.MethodName) ∈ oTB := oT5 206 rfl rfl
theorem wd_5_207 : Jvm.Cond.instanceMethod ({ cls := "OrreryTrainsModel", name := "meet", desc := "(II)J" } : Jvm.MethodName) ∈ oTB := oT5 207 rfl rfl
theorem wd_5_208 : Jvm.Cond.selects "OrreryTrainsModel" ({ cls := "OrreryTrainsModel", name := "meet", desc := "(II)J" } : Jvm.MethodName) ({ cls := "OrreryTrainsModel", name := "meet", desc := "(II)J" } : Jvm.MethodName) ∈ oTB := oT5 208 rfl rfl
theorem wd_5_209 : Jvm.Cond.code ({ cls := "OrreryTrainsModel", name := "meet", desc := "(II)J" } : Jvm.MethodName) prog_11_method_61_code (7 : Nat) (Option.some Jvm.ClassFile.FieldType.long) ∈ oTB := oT5 209 rfl rfl
theorem wd_5_210 : Jvm.Cond.methodLink "OrreryTrainsModel" (228 : Nat) ({ cls := "OrreryTrainsModel", name := "turns", desc := "(II)J" } : Jvm.MethodName) ∈ oTB := oT5 210 rfl rfl
theorem wd_5_211 : Jvm.Cond.methodLink "OrreryTrainsLaw" (131 : Nat) ({ cls := "OrreryTrainsModel", name := "join", desc := "(III)I" } : Jvm.MethodName) ∈ oTB := oT5 211 rfl rfl
theorem wd_5_212 : Jvm.Cond.instanceMethod ({ cls := "OrreryTrainsModel", name := "join", desc := "(III)I" } : Jvm.MethodName) ∈ oTB := oT5 212 rfl rfl
theorem wd_5_213 : Jvm.Cond.selects "OrreryTrainsModel" ({ cls := "OrreryTrainsModel", name := "join", desc := "(III)I" } : Jvm.MethodName) ({ cls := "OrreryTrainsModel", name := "join", desc := "(III)I" } : Jvm.MethodName) ∈ oTB := oT5 213 rfl rfl
theorem wd_5_214 : Jvm.Cond.code ({ cls := "OrreryTrainsModel", name := "join", desc := "(III)I" } : Jvm.MethodName) prog_11_method_63_code (11 : Nat) (Option.some Jvm.ClassFile.FieldType.int) ∈ oTB := oT5 214 rfl rfl
theorem wd_5_215 : Jvm.Cond.constantLong "OrreryTrainsModel" (232 : Nat) (499 : Int64) ∈ oTB := oT5 215 rfl rfl
theorem wd_5_216 : Jvm.Cond.methodLink "OrreryTrainsModel" (234 : Nat) ({ cls := "OrreryTrainsModel", name := "partOf", desc := "(II)J" } : Jvm.MethodName) ∈ oTB := oT5 216 rfl rfl
theorem wd_5_218 : Jvm.Cond.instanceMethod ({ cls := "OrreryTrainsModel", name := "partOf", desc := "(II)J" } : Jvm.MethodName) ∈ oTB := oT5 218 rfl rfl
theorem wd_5_219 : Jvm.Cond.code ({ cls := "OrreryTrainsModel", name := "partOf", desc := "(II)J" } : Jvm.MethodName) prog_11_method_62_code (7 : Nat) (Option.some Jvm.ClassFile.FieldType.long) ∈ oTB := oT5 219 rfl rfl
theorem wd_5_220 : Jvm.Cond.constantLong "OrreryTrainsModel" (237 : Nat) (1000 : Int64) ∈ oTB := oT5 220 rfl rfl
theorem wd_5_221 : Jvm.Cond.methodLink "OrreryTrainsLaw" (135 : Nat) ({ cls := "OrreryTrainsModel", name := "drift", desc := "(II)J" } : Jvm.MethodName) ∈ oTB := oT5 221 rfl rfl
theorem wd_5_222 : Jvm.Cond.instanceMethod ({ cls := "OrreryTrainsModel", name := "drift", desc := "(II)J" } : Jvm.MethodName) ∈ oTB := oT5 222 rfl rfl
theorem wd_5_223 : Jvm.Cond.selects "OrreryTrainsModel" ({ cls := "OrreryTrainsModel", name := "drift", desc := "(II)J" } : Jvm.MethodName) ({ cls := "OrreryTrainsModel", name := "drift", desc := "(II)J" } : Jvm.MethodName) ∈ oTB := oT5 223 rfl rfl
theorem wd_5_224 : Jvm.Cond.code ({ cls := "OrreryTrainsModel", name := "drift", desc := "(II)J" } : Jvm.MethodName) prog_11_method_64_code (3 : Nat) (Option.some Jvm.ClassFile.FieldType.long) ∈ oTB := oT5 224 rfl rfl
theorem wd_5_225 : Jvm.Cond.methodLink "OrreryTrainsModel" (239 : Nat) ({ cls := "OrreryTrainsModel", name := "wrong", desc := "(II)J" } : Jvm.MethodName) ∈ oTB := oT5 225 rfl rfl
theorem wd_5_226 : Jvm.Cond.methodLink "OrreryTrainsLaw" (142 : Nat) ({ cls := "OrreryTrainsModel", name := "were", desc := "(IIJI)I" } : Jvm.MethodName) ∈ oTB := oT5 226 rfl rfl
theorem wd_5_227 : Jvm.Cond.instanceMethod ({ cls := "OrreryTrainsModel", name := "were", desc := "(IIJI)I" } : Jvm.MethodName) ∈ oTB := oT5 227 rfl rfl
theorem wd_5_228 : Jvm.Cond.selects "OrreryTrainsModel" ({ cls := "OrreryTrainsModel", name := "were", desc := "(IIJI)I" } : Jvm.MethodName) ({ cls := "OrreryTrainsModel", name := "were", desc := "(IIJI)I" } : Jvm.MethodName) ∈ oTB := oT5 228 rfl rfl
theorem wd_5_229 : Jvm.Cond.code ({ cls := "OrreryTrainsModel", name := "were", desc := "(IIJI)I" } : Jvm.MethodName) prog_11_method_65_code (11 : Nat) (Option.some Jvm.ClassFile.FieldType.int) ∈ oTB := oT5 229 rfl rfl
theorem wd_5_230 : Jvm.Cond.methodLink "OrreryTrainsLaw" (147 : Nat) ({ cls := "OrreryTrainsModel", name := "odds", desc := "(IIII)J" } : Jvm.MethodName) ∈ oTB := oT5 230 rfl rfl
theorem wd_5_231 : Jvm.Cond.instanceMethod ({ cls := "OrreryTrainsModel", name := "odds", desc := "(IIII)J" } : Jvm.MethodName) ∈ oTB := oT5 231 rfl rfl
theorem wd_5_232 : Jvm.Cond.selects "OrreryTrainsModel" ({ cls := "OrreryTrainsModel", name := "odds", desc := "(IIII)J" } : Jvm.MethodName) ({ cls := "OrreryTrainsModel", name := "odds", desc := "(IIII)J" } : Jvm.MethodName) ∈ oTB := oT5 232 rfl rfl
theorem wd_5_233 : Jvm.Cond.code ({ cls := "OrreryTrainsModel", name := "odds", desc := "(IIII)J" } : Jvm.MethodName) prog_11_method_67_code (7 : Nat) (Option.some Jvm.ClassFile.FieldType.long) ∈ oTB := oT5 233 rfl rfl
theorem wd_5_234 : Jvm.Cond.constantLong "OrreryTrainsModel" (243 : Nat) (30 : Int64) ∈ oTB := oT5 234 rfl rfl
theorem wd_5_235 : Jvm.Cond.methodLink "OrreryTrainsModel" (245 : Nat) ({ cls := "OrreryTrainsModel", name := "slips", desc := "(II)Z" } : Jvm.MethodName) ∈ oTB := oT5 235 rfl rfl
theorem wd_5_237 : Jvm.Cond.instanceMethod ({ cls := "OrreryTrainsModel", name := "slips", desc := "(II)Z" } : Jvm.MethodName) ∈ oTB := oT5 237 rfl rfl
theorem wd_5_238 : Jvm.Cond.code ({ cls := "OrreryTrainsModel", name := "slips", desc := "(II)Z" } : Jvm.MethodName) prog_11_method_66_code (6 : Nat) (Option.some Jvm.ClassFile.FieldType.boolean) ∈ oTB := oT5 238 rfl rfl
theorem wd_5_239 : Jvm.Cond.constant "OrreryTrainsModel" (242 : Nat) (1103515245 : Int32) ∈ oTB := oT5 239 rfl rfl
theorem wd_6_0 : Jvm.Cond.methodLink "OrreryTrainsLaw" (151 : Nat) ({ cls := "OrreryTrainsModel", name := "plan", desc := "(II)I" } : Jvm.MethodName) ∈ oTB := oT6 0 rfl rfl
theorem wd_6_1 : Jvm.Cond.instanceMethod ({ cls := "OrreryTrainsModel", name := "plan", desc := "(II)I" } : Jvm.MethodName) ∈ oTB := oT6 1 rfl rfl
theorem wd_6_2 : Jvm.Cond.selects "OrreryTrainsModel" ({ cls := "OrreryTrainsModel", name := "plan", desc := "(II)I" } : Jvm.MethodName) ({ cls := "OrreryTrainsModel", name := "plan", desc := "(II)I" } : Jvm.MethodName) ∈ oTB := oT6 2 rfl rfl
theorem wd_6_3 : Jvm.Cond.code ({ cls := "OrreryTrainsModel", name := "plan", desc := "(II)I" } : Jvm.MethodName) prog_11_method_68_code (3 : Nat) (Option.some Jvm.ClassFile.FieldType.int) ∈ oTB := oT6 3 rfl rfl
theorem wd_6_4 : Jvm.Cond.methodLink "OrreryTrainsLaw" (155 : Nat) ({ cls := "OrreryTrainsModel", name := "ends", desc := "(I)J" } : Jvm.MethodName) ∈ oTB := oT6 4 rfl rfl
theorem wd_6_5 : Jvm.Cond.instanceMethod ({ cls := "OrreryTrainsModel", name := "ends", desc := "(I)J" } : Jvm.MethodName) ∈ oTB := oT6 5 rfl rfl
theorem wd_6_6 : Jvm.Cond.selects "OrreryTrainsModel" ({ cls := "OrreryTrainsModel", name := "ends", desc := "(I)J" } : Jvm.MethodName) ({ cls := "OrreryTrainsModel", name := "ends", desc := "(I)J" } : Jvm.MethodName) ∈ oTB := oT6 6 rfl rfl
theorem wd_6_7 : Jvm.Cond.code ({ cls := "OrreryTrainsModel", name := "ends", desc := "(I)J" } : Jvm.MethodName) prog_11_method_71_code (4 : Nat) (Option.some Jvm.ClassFile.FieldType.long) ∈ oTB := oT6 7 rfl rfl
theorem wd_6_8 : Jvm.Cond.methodLink "OrreryTrainsModel" (252 : Nat) ({ cls := "OrreryTrainsModel", name := "copies", desc := "([I[I)V" } : Jvm.MethodName) ∈ oTB := oT6 8 rfl rfl
theorem wd_6_9 : Jvm.Cond.static ({ cls := "OrreryTrainsModel", name := "copies", desc := "([I[I)V" } : Jvm.MethodName) ∈ oTB := oT6 9 rfl rfl
theorem wd_6_10 : Jvm.Cond.code ({ cls := "OrreryTrainsModel", name := "copies", desc := "([I[I)V" } : Jvm.MethodName) prog_11_method_81_code (3 : Nat) (Option.none : Option Jvm.ClassFile.FieldType) ∈ oTB := oT6 10 rfl rfl
theorem wd_6_11 : Jvm.Cond.methodLink "OrreryTrainsModel" (256 : Nat) ({ cls := "OrreryTrainsModel", name := "done", desc := "(II)V" } : Jvm.MethodName) ∈ oTB := oT6 11 rfl rfl
theorem wd_6_13 : Jvm.Cond.instanceMethod ({ cls := "OrreryTrainsModel", name := "done", desc := "(II)V" } : Jvm.MethodName) ∈ oTB := oT6 13 rfl rfl
theorem wd_6_14 : Jvm.Cond.code ({ cls := "OrreryTrainsModel", name := "done", desc := "(II)V" } : Jvm.MethodName) prog_11_method_70_code (3 : Nat) (Option.none : Option Jvm.ClassFile.FieldType) ∈ oTB := oT6 14 rfl rfl
theorem wd_6_15 : Jvm.Cond.methodLink "OrreryTrainsModel" (248 : Nat) ({ cls := "OrreryTrainsModel", name := "changes", desc := "(II)V" } : Jvm.MethodName) ∈ oTB := oT6 15 rfl rfl
theorem wd_6_17 : Jvm.Cond.instanceMethod ({ cls := "OrreryTrainsModel", name := "changes", desc := "(II)V" } : Jvm.MethodName) ∈ oTB := oT6 17 rfl rfl
theorem wd_6_18 : Jvm.Cond.code ({ cls := "OrreryTrainsModel", name := "changes", desc := "(II)V" } : Jvm.MethodName) prog_11_method_69_code (4 : Nat) (Option.none : Option Jvm.ClassFile.FieldType) ∈ oTB := oT6 18 rfl rfl
theorem wd_6_19 : Jvm.Cond.methodLink "OrreryTrainsLaw" (159 : Nat) ({ cls := "OrreryTrainsModel", name := "writePair", desc := "(I)I" } : Jvm.MethodName) ∈ oTB := oT6 19 rfl rfl
theorem wd_6_20 : Jvm.Cond.instanceMethod ({ cls := "OrreryTrainsModel", name := "writePair", desc := "(I)I" } : Jvm.MethodName) ∈ oTB := oT6 20 rfl rfl
theorem wd_6_21 : Jvm.Cond.selects "OrreryTrainsModel" ({ cls := "OrreryTrainsModel", name := "writePair", desc := "(I)I" } : Jvm.MethodName) ({ cls := "OrreryTrainsModel", name := "writePair", desc := "(I)I" } : Jvm.MethodName) ∈ oTB := oT6 21 rfl rfl
theorem wd_6_22 : Jvm.Cond.code ({ cls := "OrreryTrainsModel", name := "writePair", desc := "(I)I" } : Jvm.MethodName) prog_11_method_73_code (2 : Nat) (Option.some Jvm.ClassFile.FieldType.int) ∈ oTB := oT6 22 rfl rfl
theorem wd_6_23 : Jvm.Cond.methodLink "OrreryTrainsModel" (259 : Nat) ({ cls := "OrreryTrainsModel", name := "two", desc := "(II)V" } : Jvm.MethodName) ∈ oTB := oT6 23 rfl rfl
theorem wd_6_25 : Jvm.Cond.instanceMethod ({ cls := "OrreryTrainsModel", name := "two", desc := "(II)V" } : Jvm.MethodName) ∈ oTB := oT6 25 rfl rfl
theorem wd_6_26 : Jvm.Cond.code ({ cls := "OrreryTrainsModel", name := "two", desc := "(II)V" } : Jvm.MethodName) prog_11_method_72_code (3 : Nat) (Option.none : Option Jvm.ClassFile.FieldType) ∈ oTB := oT6 26 rfl rfl
theorem wd_6_27 : Jvm.Cond.methodLink "OrreryTrainsLaw" (163 : Nat) ({ cls := "OrreryTrainsModel", name := "writeTrain", desc := "(I)I" } : Jvm.MethodName) ∈ oTB := oT6 27 rfl rfl
theorem wd_6_28 : Jvm.Cond.instanceMethod ({ cls := "OrreryTrainsModel", name := "writeTrain", desc := "(I)I" } : Jvm.MethodName) ∈ oTB := oT6 28 rfl rfl
theorem wd_6_29 : Jvm.Cond.selects "OrreryTrainsModel" ({ cls := "OrreryTrainsModel", name := "writeTrain", desc := "(I)I" } : Jvm.MethodName) ({ cls := "OrreryTrainsModel", name := "writeTrain", desc := "(I)I" } : Jvm.MethodName) ∈ oTB := oT6 29 rfl rfl
theorem wd_6_30 : Jvm.Cond.code ({ cls := "OrreryTrainsModel", name := "writeTrain", desc := "(I)I" } : Jvm.MethodName) prog_11_method_74_code (3 : Nat) (Option.some Jvm.ClassFile.FieldType.int) ∈ oTB := oT6 30 rfl rfl
theorem wd_6_31 : Jvm.Cond.methodLink "OrreryTrainsLaw" (167 : Nat) ({ cls := "OrreryTrainsModel", name := "paper", desc := "(I)I" } : Jvm.MethodName) ∈ oTB := oT6 31 rfl rfl
theorem wd_6_32 : Jvm.Cond.instanceMethod ({ cls := "OrreryTrainsModel", name := "paper", desc := "(I)I" } : Jvm.MethodName) ∈ oTB := oT6 32 rfl rfl
theorem wd_6_33 : Jvm.Cond.selects "OrreryTrainsModel" ({ cls := "OrreryTrainsModel", name := "paper", desc := "(I)I" } : Jvm.MethodName) ({ cls := "OrreryTrainsModel", name := "paper", desc := "(I)I" } : Jvm.MethodName) ∈ oTB := oT6 33 rfl rfl
theorem wd_6_34 : Jvm.Cond.code ({ cls := "OrreryTrainsModel", name := "paper", desc := "(I)I" } : Jvm.MethodName) prog_11_method_75_code (2 : Nat) (Option.some Jvm.ClassFile.FieldType.int) ∈ oTB := oT6 34 rfl rfl
theorem wd_6_35 : Jvm.Cond.methodLink "OrreryTrainsLaw" (171 : Nat) ({ cls := "OrreryTrainsModel", name := "judge", desc := "(I)I" } : Jvm.MethodName) ∈ oTB := oT6 35 rfl rfl
theorem wd_6_36 : Jvm.Cond.instanceMethod ({ cls := "OrreryTrainsModel", name := "judge", desc := "(I)I" } : Jvm.MethodName) ∈ oTB := oT6 36 rfl rfl
theorem wd_6_37 : Jvm.Cond.selects "OrreryTrainsModel" ({ cls := "OrreryTrainsModel", name := "judge", desc := "(I)I" } : Jvm.MethodName) ({ cls := "OrreryTrainsModel", name := "judge", desc := "(I)I" } : Jvm.MethodName) ∈ oTB := oT6 37 rfl rfl
theorem wd_6_38 : Jvm.Cond.code ({ cls := "OrreryTrainsModel", name := "judge", desc := "(I)I" } : Jvm.MethodName) prog_11_method_77_code (3 : Nat) (Option.some Jvm.ClassFile.FieldType.int) ∈ oTB := oT6 38 rfl rfl
theorem wd_6_39 : Jvm.Cond.methodLink "OrreryTrainsModel" (267 : Nat) ({ cls := "OrreryTrainsModel", name := "isList", desc := "(I)Z" } : Jvm.MethodName) ∈ oTB := oT6 39 rfl rfl
theorem wd_6_40 : Jvm.Cond.static ({ cls := "OrreryTrainsModel", name := "isList", desc := "(I)Z" } : Jvm.MethodName) ∈ oTB := oT6 40 rfl rfl
theorem wd_6_41 : Jvm.Cond.code ({ cls := "OrreryTrainsModel", name := "isList", desc := "(I)Z" } : Jvm.MethodName) prog_11_method_76_code (1 : Nat) (Option.some Jvm.ClassFile.FieldType.boolean) ∈ oTB := oT6 41 rfl rfl
theorem wd_6_42 : Jvm.Cond.constantLong "OrreryTrainsModel" (265 : Nat) (3 : Int64) ∈ oTB := oT6 42 rfl rfl
theorem wd_6_43 : Jvm.Cond.methodLink "OrreryTrainsLaw" (175 : Nat) ({ cls := "OrreryTrainsModel", name := "list", desc := "(II)I" } : Jvm.MethodName) ∈ oTB := oT6 43 rfl rfl
theorem wd_6_44 : Jvm.Cond.instanceMethod ({ cls := "OrreryTrainsModel", name := "list", desc := "(II)I" } : Jvm.MethodName) ∈ oTB := oT6 44 rfl rfl
theorem wd_6_45 : Jvm.Cond.selects "OrreryTrainsModel" ({ cls := "OrreryTrainsModel", name := "list", desc := "(II)I" } : Jvm.MethodName) ({ cls := "OrreryTrainsModel", name := "list", desc := "(II)I" } : Jvm.MethodName) ∈ oTB := oT6 45 rfl rfl
theorem wd_6_46 : Jvm.Cond.code ({ cls := "OrreryTrainsModel", name := "list", desc := "(II)I" } : Jvm.MethodName) prog_11_method_78_code (4 : Nat) (Option.some Jvm.ClassFile.FieldType.int) ∈ oTB := oT6 46 rfl rfl
theorem wd_6_47 : Jvm.Cond.methodLink "OrreryTrainsLaw" (180 : Nat) ({ cls := "OrreryTrainsModel", name := "put", desc := "(IIJ)I" } : Jvm.MethodName) ∈ oTB := oT6 47 rfl rfl
theorem wd_6_48 : Jvm.Cond.instanceMethod ({ cls := "OrreryTrainsModel", name := "put", desc := "(IIJ)I" } : Jvm.MethodName) ∈ oTB := oT6 48 rfl rfl
theorem wd_6_49 : Jvm.Cond.selects "OrreryTrainsModel" ({ cls := "OrreryTrainsModel", name := "put", desc := "(IIJ)I" } : Jvm.MethodName) ({ cls := "OrreryTrainsModel", name := "put", desc := "(IIJ)I" } : Jvm.MethodName) ∈ oTB := oT6 49 rfl rfl
theorem wd_6_50 : Jvm.Cond.code ({ cls := "OrreryTrainsModel", name := "put", desc := "(IIJ)I" } : Jvm.MethodName) prog_11_method_79_code (5 : Nat) (Option.some Jvm.ClassFile.FieldType.int) ∈ oTB := oT6 50 rfl rfl
theorem wd_6_51 : Jvm.Cond.methodLink "OrreryTrainsLaw" (184 : Nat) ({ cls := "OrreryTrainsModel", name := "get", desc := "(II)J" } : Jvm.MethodName) ∈ oTB := oT6 51 rfl rfl
theorem wd_6_52 : Jvm.Cond.instanceMethod ({ cls := "OrreryTrainsModel", name := "get", desc := "(II)J" } : Jvm.MethodName) ∈ oTB := oT6 52 rfl rfl
theorem wd_6_53 : Jvm.Cond.selects "OrreryTrainsModel" ({ cls := "OrreryTrainsModel", name := "get", desc := "(II)J" } : Jvm.MethodName) ({ cls := "OrreryTrainsModel", name := "get", desc := "(II)J" } : Jvm.MethodName) ∈ oTB := oT6 53 rfl rfl
theorem wd_6_54 : Jvm.Cond.code ({ cls := "OrreryTrainsModel", name := "get", desc := "(II)J" } : Jvm.MethodName) prog_11_method_80_code (3 : Nat) (Option.some Jvm.ClassFile.FieldType.long) ∈ oTB := oT6 54 rfl rfl
theorem wd_6_55 : Jvm.Cond.methodLink "OrreryTrainsLaw" (188 : Nat) ({ cls := "OrreryTrainsModel", name := "image", desc := "()I" } : Jvm.MethodName) ∈ oTB := oT6 55 rfl rfl
theorem wd_6_56 : Jvm.Cond.instanceMethod ({ cls := "OrreryTrainsModel", name := "image", desc := "()I" } : Jvm.MethodName) ∈ oTB := oT6 56 rfl rfl
theorem wd_6_57 : Jvm.Cond.selects "OrreryTrainsModel" ({ cls := "OrreryTrainsModel", name := "image", desc := "()I" } : Jvm.MethodName) ({ cls := "OrreryTrainsModel", name := "image", desc := "()I" } : Jvm.MethodName) ∈ oTB := oT6 57 rfl rfl
theorem wd_6_58 : Jvm.Cond.code ({ cls := "OrreryTrainsModel", name := "image", desc := "()I" } : Jvm.MethodName) prog_11_method_82_code (1 : Nat) (Option.some Jvm.ClassFile.FieldType.int) ∈ oTB := oT6 58 rfl rfl
theorem wd_6_59 : Jvm.Cond.methodLink "OrreryTrainsLaw" (192 : Nat) ({ cls := "OrreryTrainsModel", name := "undo", desc := "()I" } : Jvm.MethodName) ∈ oTB := oT6 59 rfl rfl
theorem wd_6_60 : Jvm.Cond.instanceMethod ({ cls := "OrreryTrainsModel", name := "undo", desc := "()I" } : Jvm.MethodName) ∈ oTB := oT6 60 rfl rfl
theorem wd_6_61 : Jvm.Cond.selects "OrreryTrainsModel" ({ cls := "OrreryTrainsModel", name := "undo", desc := "()I" } : Jvm.MethodName) ({ cls := "OrreryTrainsModel", name := "undo", desc := "()I" } : Jvm.MethodName) ∈ oTB := oT6 61 rfl rfl
theorem wd_6_62 : Jvm.Cond.code ({ cls := "OrreryTrainsModel", name := "undo", desc := "()I" } : Jvm.MethodName) prog_11_method_83_code (1 : Nat) (Option.some Jvm.ClassFile.FieldType.int) ∈ oTB := oT6 62 rfl rfl
theorem wd_6_63 : Jvm.Cond.methodLink "OrreryTrainsLaw" (196 : Nat) ({ cls := "OrreryTrainsModel", name := "count", desc := "(I)I" } : Jvm.MethodName) ∈ oTB := oT6 63 rfl rfl
theorem wd_6_64 : Jvm.Cond.instanceMethod ({ cls := "OrreryTrainsModel", name := "count", desc := "(I)I" } : Jvm.MethodName) ∈ oTB := oT6 64 rfl rfl
theorem wd_6_65 : Jvm.Cond.selects "OrreryTrainsModel" ({ cls := "OrreryTrainsModel", name := "count", desc := "(I)I" } : Jvm.MethodName) ({ cls := "OrreryTrainsModel", name := "count", desc := "(I)I" } : Jvm.MethodName) ∈ oTB := oT6 65 rfl rfl
theorem wd_6_66 : Jvm.Cond.code ({ cls := "OrreryTrainsModel", name := "count", desc := "(I)I" } : Jvm.MethodName) prog_11_method_84_code (4 : Nat) (Option.some Jvm.ClassFile.FieldType.int) ∈ oTB := oT6 66 rfl rfl
theorem wd_6_67 : Jvm.Cond.constantLong "OrreryTrainsLaw" (136 : Nat) (4294967295 : Int64) ∈ oTB := oT6 67 rfl rfl
theorem wd_6_68 : Jvm.Cond.fieldLink "java/lang/String" (15 : Nat) "java/lang/String" "coder" "B" ∈ oTB := oT6 68 rfl rfl
theorem wd_6_69 : Jvm.Cond.fieldLink "java/lang/String" (9 : Nat) "java/lang/String" "value" "[B" ∈ oTB := oT6 69 rfl rfl
set_option maxRecDepth 20000 in
theorem inX0 : ∀ w ∈ wsX00, w ∈ oTB := fun w h => let k : w ∈ tables_1 ∧ goodWord w = true := (show ∀ w ∈ wsX00, w ∈ tables_1 ∧ goodWord w = true by decide +kernel) w h; oTB_t k.1 k.2
set_option maxRecDepth 20000 in
theorem inX1 : ∀ w ∈ wsX10, w ∈ oTB := fun w h => let k : w ∈ tables_1 ∧ goodWord w = true := (show ∀ w ∈ wsX10, w ∈ tables_1 ∧ goodWord w = true by decide +kernel) w h; oTB_t k.1 k.2
set_option maxRecDepth 20000 in
theorem inX2 : ∀ w ∈ wsX20, w ∈ oTB := fun w h => let k : w ∈ tables_1 ∧ goodWord w = true := (show ∀ w ∈ wsX20, w ∈ tables_1 ∧ goodWord w = true by decide +kernel) w h; oTB_t k.1 k.2
set_option maxRecDepth 20000 in
theorem inX3 : ∀ w ∈ wsX30, w ∈ oTB := fun w h => let k : w ∈ tables_1 ∧ goodWord w = true := (show ∀ w ∈ wsX30, w ∈ tables_1 ∧ goodWord w = true by decide +kernel) w h; oTB_t k.1 k.2
set_option maxRecDepth 20000 in
theorem inX4 : ∀ w ∈ wsX40, w ∈ oTB := fun w h => let k : w ∈ tables_1 ∧ goodWord w = true := (show ∀ w ∈ wsX40, w ∈ tables_1 ∧ goodWord w = true by decide +kernel) w h; oTB_t k.1 k.2
set_option maxRecDepth 20000 in
theorem inX5 : ∀ w ∈ wsX50, w ∈ oTB := fun w h => let k : w ∈ tables_1 ∧ goodWord w = true := (show ∀ w ∈ wsX50, w ∈ tables_1 ∧ goodWord w = true by decide +kernel) w h; oTB_t k.1 k.2
set_option maxRecDepth 20000 in
theorem inX6 : ∀ w ∈ wsX60, w ∈ oTB := fun w h => let k : w ∈ tables_1 ∧ goodWord w = true := (show ∀ w ∈ wsX60, w ∈ tables_1 ∧ goodWord w = true by decide +kernel) w h; oTB_t k.1 k.2
set_option maxRecDepth 20000 in
theorem inX7 : ∀ w ∈ wsX70, w ∈ oTB := fun w h => let k : w ∈ tables_1 ∧ goodWord w = true := (show ∀ w ∈ wsX70, w ∈ tables_1 ∧ goodWord w = true by decide +kernel) w h; oTB_t k.1 k.2
set_option maxRecDepth 20000 in
theorem inX8 : ∀ w ∈ wsX80, w ∈ oTB := fun w h => let k : w ∈ tables_1 ∧ goodWord w = true := (show ∀ w ∈ wsX80, w ∈ tables_1 ∧ goodWord w = true by decide +kernel) w h; oTB_t k.1 k.2
set_option maxRecDepth 20000 in
theorem inX9 : ∀ w ∈ wsX90, w ∈ oTB := fun w h => let k : w ∈ tables_1 ∧ goodWord w = true := (show ∀ w ∈ wsX90, w ∈ tables_1 ∧ goodWord w = true by decide +kernel) w h; oTB_t k.1 k.2
def oNW : List (String × Nat × MethodName) := [("OrreryTrains", 11, ⟨"OrreryTrains$Orrery", "<init>", "()V"⟩), ("OrreryTrains$Orrery", 30, ⟨"OrreryTrains$Pairs", "<init>", "()V"⟩), ("OrreryTrains$Orrery", 37, ⟨"OrreryTrains$Trains", "<init>", "()V"⟩), ("OrreryTrains$Orrery", 51, ⟨"OrreryTrains$Plan", "<init>", "()V"⟩), ("OrreryTrains", 30, ⟨"OrreryTrains$Tape", "<init>", "()V"⟩), ("OrreryTrains", 37, ⟨"OrreryTrains$Sheet", "<init>", "()V"⟩), ("OrreryTrains", 44, ⟨"OrreryTrains$Rows", "<init>", "()V"⟩), ("OrreryTrains", 51, ⟨"OrreryTrains$Finder", "<init>", "()V"⟩), ("OrreryTrains$Orrery", 78, ⟨"OrreryTrains", "lowest", "(JJI)J"⟩), ("OrreryTrains$Orrery", 82, ⟨"OrreryTrains", "set", "([III)V"⟩), ("OrreryTrains$Tape", 19, ⟨"OrreryTrains", "at", "([II)I"⟩), ("OrreryTrains$Tape", 27, ⟨"OrreryTrains", "kindOf", "(I)I"⟩), ("OrreryTrains$Pairs", 32, ⟨"OrreryTrains", "set", "([III)V"⟩), ("OrreryTrains$Pairs", 36, ⟨"OrreryTrains", "at", "([II)I"⟩), ("OrreryTrains$Trains", 22, ⟨"OrreryTrains", "at", "([II)I"⟩), ("OrreryTrains$Trains", 26, ⟨"OrreryTrains", "set", "([III)V"⟩), ("OrreryTrains$Orrery", 93, ⟨"OrreryTrains", "at", "([II)I"⟩), ("OrreryTrains$Orrery", 56, ⟨"OrreryTrains", "copy", "([I[I)V"⟩), ("OrreryTrains$Pairs", 28, ⟨"OrreryTrains", "copy", "([I[I)V"⟩), ("OrreryTrains$Trains", 18, ⟨"OrreryTrains", "copy", "([I[I)V"⟩), ("OrreryTrains$Plan", 22, ⟨"OrreryTrains", "copy", "([I[I)V"⟩), ("OrreryTrains$Finder", 55, ⟨"OrreryTrains", "quotient", "(JJ)J"⟩), ("OrreryTrains$Orrery", 115, ⟨"OrreryTrains", "quotient", "(JJ)J"⟩), ("OrreryTrains$Plan", 26, ⟨"OrreryTrains", "set", "([III)V"⟩), ("OrreryTrains$Sheet", 19, ⟨"OrreryTrains", "set", "([III)V"⟩), ("OrreryTrains$Rows", 19, ⟨"OrreryTrains", "at", "([II)I"⟩), ("OrreryTrains$Rows", 27, ⟨"OrreryTrains", "set", "([III)V"⟩)]
end
section
/-! THE BRIDGE. The world of the two objects is 61 cells, made one behind the other from the address oB G on; a PLACE p < 61 is the cell oB G + p. Memory is two functions (ints, longs) by place and slot. oRun G M pc lv st m r m': method M at pc, with locals lv and stack st over the memory m, returns r over the memory m'. -/
abbrev oM : Type := (Nat → Nat → Int32) × (Nat → Nat → Int64)
abbrev oSh : Type := (Nat × List (Nat × Nat)) ⊕ (Nat × Nat)
def oShL : List oSh := [
  .inl (8, [(2, 1), (2, 15), (2, 29), (0, 0), (2, 43), (2, 45), (2, 47), (2, 50)]),
  .inl (1, [(0, 0), (2, 2), (2, 3), (0, 0), (0, 0), (2, 4), (2, 9), (0, 0), (0, 0), (2, 12)]),
  .inr (0, 6),
  .inr (0, 6),
  .inl (2, [(0, 0), (2, 5), (2, 6), (2, 7), (2, 8)]),
  .inr (0, 10),
  .inr (0, 10),
  .inr (0, 10),
  .inr (0, 10),
  .inl (7, [(2, 10), (2, 11)]),
  .inr (0, 6),
  .inr (0, 18),
  .inl (3, [(0, 0), (2, 13), (2, 14)]),
  .inr (0, 8),
  .inr (0, 8),
  .inl (1, [(0, 0), (2, 16), (2, 17), (0, 0), (0, 0), (2, 18), (2, 23), (0, 0), (0, 0), (2, 26)]),
  .inr (0, 6),
  .inr (0, 6),
  .inl (2, [(0, 0), (2, 19), (2, 20), (2, 21), (2, 22)]),
  .inr (0, 10),
  .inr (0, 10),
  .inr (0, 10),
  .inr (0, 10),
  .inl (7, [(2, 24), (2, 25)]),
  .inr (0, 6),
  .inr (0, 18),
  .inl (3, [(0, 0), (2, 27), (2, 28)]),
  .inr (0, 8),
  .inr (0, 8),
  .inl (1, [(0, 0), (2, 30), (2, 31), (0, 0), (0, 0), (2, 32), (2, 37), (0, 0), (0, 0), (2, 40)]),
  .inr (0, 6),
  .inr (0, 6),
  .inl (2, [(0, 0), (2, 33), (2, 34), (2, 35), (2, 36)]),
  .inr (0, 10),
  .inr (0, 10),
  .inr (0, 10),
  .inr (0, 10),
  .inl (7, [(2, 38), (2, 39)]),
  .inr (0, 6),
  .inr (0, 18),
  .inl (3, [(0, 0), (2, 41), (2, 42)]),
  .inr (0, 8),
  .inr (0, 8),
  .inl (6, [(0, 0), (2, 44)]),
  .inr (0, 60),
  .inl (5, [(0, 0), (2, 46)]),
  .inr (0, 9),
  .inl (4, [(2, 48), (2, 49)]),
  .inr (0, 4),
  .inr (1, 48),
  .inl (0, [(1, 0), (1, 0), (0, 0), (0, 0), (0, 0), (0, 0), (0, 0), (0, 0), (1, 0), (1, 0)]),
  .inl (9, [(2, 52), (2, 53), (2, 54), (0, 0), (2, 55), (2, 56), (2, 57), (2, 58), (0, 0), (0, 0), (2, 59), (0, 0), (0, 0), (2, 60), (0, 0), (0, 0), (0, 0), (0, 0), (0, 0), (0, 0), (1, 0), (1, 0)]),
  .inr (0, 99),
  .inr (0, 99),
  .inr (0, 99),
  .inr (0, 60),
  .inr (0, 8),
  .inr (0, 4),
  .inr (1, 48),
  .inr (0, 60),
  .inr (0, 240)]
def oShp (p : Nat) : oSh := oShL.getD p (.inr (2, 0))
abbrev oG : Type := Launch × va_G × Nat × ClassId × ClassId × (Nat → Value) × Nat × (Nat → Int32)
abbrev oL (G : oG) : Launch := G.1
abbrev oDD (G : oG) : va_G := G.2.1
abbrev oB (G : oG) : Nat := G.2.2.1
abbrev oCI (G : oG) : ClassId := G.2.2.2.1
abbrev oCL (G : oG) : ClassId := G.2.2.2.2.1
abbrev oSp (G : oG) : Nat → Value := G.2.2.2.2.2.1
abbrev oXL (G : oG) : Nat := G.2.2.2.2.2.2.1
abbrev oXs (G : oG) : Nat → Int32 := G.2.2.2.2.2.2.2
def oA (G : oG) : Nat → Prop := fun q => oB G ≤ q
/-- a method: name, bytes, locals, what it returns, its room -/
abbrev oD : Type := MethodName × ByteArray × Nat × Option FieldType × Room
def oFs (b : Nat) (f : Nat → Int32) (g : Nat → Int64) : Nat → List (Nat × Nat) → List Value
  | _, [] => []
  | k, q :: r => (if q.1 = 0 then Value.int (f k) else if q.1 = 1 then Value.long (g k) else Value.ref (b + q.2)) :: oFs b f g (k + 1) r
def oMk (G : oG) (f : Nat → Int32) (g : Nat → Int64) : oSh → va_E
  | .inl o => .inr (o.1, oFs (oB G) f g 0 o.2)
  | .inr o => if o.1 = 0 then .inl (oCI G, o.2, .inl f) else .inl (oCL G, o.2, .inr (.inl g))
def oE (G : oG) (m : oM) (p : Nat) : va_E := oMk G (m.1 p) (m.2 p) (oShp p)
def oWl (G : oG) (m : oM) : va_W := (List.range 61).map (fun p => (oB G + p, oE G m p))
def oCv (G : oG) : Value → Value
  | .ref p => if p < 61 then .ref (oB G + p) else oSp G p
  | v => v
def oLv (G : oG) (l : List (Nat × Value)) : List (Nat × Value) := l.map (fun q => (q.1, oCv G q.2))
def oTy (G : oG) : List (ClassId × FieldType) := [(oCI G, .int), (oCL G, .long)]
def oKL (k : Nat) : Int32 := [99, 102, 112, 119, 115, 107].getD k 0
def oOR (k : Nat) : Int32 := [0, 1, 2, 0, 2, 1, 1, 0, 2, 1, 2, 0, 2, 0, 1, 2, 1, 0].getD k 0
/-- what stands outside the world, and stays: constants' arrays, the text, the script -/
def oSt (G : oG) (U : State) : Prop :=
  (∃ t, oSp G 61 = .ref t ∧ va_Z RX8 "KIND_LETTERS" "[C" (.ref t) (oA G) U U.heap ∧ va_T .char t 6 (fun k => .int (oKL k)) (oA G) U U.heap) ∧
  (∃ t, oSp G 62 = .ref t ∧ va_Z RX8 "ORDERS" "[I" (.ref t) (oA G) U U.heap ∧ va_T .int t 18 (fun k => .int (oOR k)) (oA G) U U.heap) ∧
  (∃ t, oSp G 64 = .ref t ∧ va_T .int t (oXL G) (fun k => .int (oXs G k)) (oA G) U U.heap) ∧
  (∃ a v, oSp G 63 = .ref a ∧ oSp G 65 = .ref v ∧ vk_R RX9 111 "cfpwsk" a U ∧ va_O "java/lang/String" a (oA G) U U.heap ∧ va_OF "java/lang/String" "coder" "B" (.int 0) a (oA G) U U.heap ∧ va_OF "java/lang/String" "value" "[B" (.ref v) a (oA G) U U.heap ∧ va_T .byte v 6 (fun k => .int (oKL k)) (oA G) U U.heap) ∧
  va_Z "java/lang/String" "COMPACT_STRINGS" "Z" (.int 1) (oA G) U U.heap ∧
  (va_Z "jdk/internal/util/Preconditions" "SIOOBE_FORMATTER" "Ljava/util/function/BiFunction;" (oSp G 66) (oA G) U U.heap) ∧
  (∀ p, (oSp G p).category = 1) ∧ ∀ q ∈ oNW, va_Nw (.methodLinkNest q.1 q.2.1 q.2.2 "OrreryTrains") U
def oW (G : oG) (U : State) : Prop := va_K (oDD G) vwCl (oTy G) U ∧ oSt G U
def oC (G : oG) (M : oD) (p : Program) (R : Room) (s : State) (mi : MethodId) (args : Array Value) (c : Code) : Prop :=
  p.tables.exec = Jvm.exec ∧ c.code = M.2.1 ∧ c.maxLocals = M.2.2.1 ∧ s.vm.findClass M.1.cls = some mi.cls ∧ (∀ w ∈ oTB, w.before args s = true) ∧ oW G s ∧ M.2.2.2.2.frames ≤ R.frames ∧ M.2.2.2.2.locals ≤ R.locals
def oRet : Option Value → Instr
  | none => .return_
  | some (.long _) => .lreturn
  | some _ => .ireturn
def oRun (G : oG) (M : oD) (pc : Nat) (lv : List (Nat × Value)) (st : List Value) (m : oM) (r : Option Value) (m' : oM) : Prop :=
  ∀ (p : Program) (e : Env) (R : Room) (s : State) (mi : MethodId) (args : Array Value) (below : List Frame) (meth : Method) (c : Code) (H : Heap) (locs : List Loc) (ls : Array Slot) (cells slots : Nat) (Q : State → Prop),
    oC G M p R s mi args c → cells ≤ R.cells → slots ≤ R.slots → va_P (oDD G) vwCl (oWl G m) H → va_S (oA G) s.heap H locs → lv_has ls M.2.2.1 (oLv G lv) →
    (∀ (H' : Heap) (locs' : List Loc) (ls' : Array Slot) (pc' : Nat), va_P (oDD G) vwCl (oWl G m') H' → va_S (oA G) s.heap H' locs' → decode M.2.1 pc' = .ok (oRet r, 1) →
      W p (oL G) e R s mi args below meth c H' locs' cells slots Q (F0 mi pc' ls' (r.toList.map (oCv G)))) →
    W p (oL G) e R s mi args below meth c H locs cells slots Q (F0 mi pc ls (st.map (oCv G)))
def oROK : Option FieldType → Option Value → Prop
  | none, none => True
  | some .int, some (.int _) => True
  | some .long, some (.long _) => True
  | some .boolean, some (.int v) => v = 0 ∨ v = 1
  | some .char, some (.int v) => narrow .char (.int v) = .int v
  | _, _ => False
/-- a method from its entry -/
def oEv (G : oG) (M : oD) (as : List Value) (m : oM) (r : Option Value) (m' : oM) : Prop := oRun G M 0 (lv_args 0 as) [] m r m' ∧ oROK M.2.2.2.1 r
-- memory
def oLn (p : Nat) : Nat := if p = 62 then 18 else match oShp p with
  | .inr o => o.2
  | _ => 0
def oRd (m : oM) (p k : Nat) : Int32 := if p = 62 then oOR k else m.1 p k
def oSI (m : oM) (p k : Nat) (x : Int32) : oM := (fun q j => if q = p ∧ j = k then x else m.1 q j, m.2)
def oSL (m : oM) (p k : Nat) (x : Int64) : oM := (m.1, fun q j => if q = p ∧ j = k then x else m.2 q j)
/-- reads and writes of arrays, as far as the index is in -/
def oAL (m : oM) (p : Nat) (i : Int32) : Option Int32 := if i < 0 ∨ oLn p ≤ i.toNatClampNeg then none else some (oRd m p i.toNatClampNeg)
def oAS (m : oM) (p : Nat) (i x : Int32) : Option oM := if i < 0 ∨ oLn p ≤ i.toNatClampNeg then none else some (oSI m p i.toNatClampNeg x)
def oALL (m : oM) (p : Nat) (i : Int32) : Option Int64 := if i < 0 ∨ oLn p ≤ i.toNatClampNeg then none else some (m.2 p i.toNatClampNeg)
def oASL (m : oM) (p : Nat) (i : Int32) (x : Int64) : Option oM := if i < 0 ∨ oLn p ≤ i.toNatClampNeg then none else some (oSL m p i.toNatClampNeg x)
-- lemmas on the world
theorem oCv_cat (G : oG) (hs : ∀ p, (oSp G p).category = 1) (v : Value) : (oCv G v).category = v.category := by
  cases v <;> try rfl
  rename_i p
  show (if p < 61 then Value.ref (oB G + p) else oSp G p).category = 1
  split
  · rfl
  · exact hs p
theorem oWl_at (G : oG) (m : oM) {p : Nat} (h : p < 61) : (oWl G m)[p]? = some (oB G + p, oE G m p) := by
  unfold oWl
  rw [List.getElem?_map, List.getElem?_range h]
  rfl
theorem oWl_len (G : oG) (m : oM) : (oWl G m).length = 61 := by simp [oWl]
theorem oWl_D (G : oG) (m : oM) : va_D (oA G) (oWl G m) := by
  have key : ∀ (k : Nat) (q : Nat × va_E), (oWl G m)[k]? = some q → q.1 = oB G + k := by
    intro k q h
    have hk : k < 61 := by
      have := (List.getElem?_eq_some_iff.mp h).1
      rwa [oWl_len] at this
    rw [oWl_at G m hk] at h
    cases h
    rfl
  refine ⟨fun i j x y hi hj hxy => ?_, fun k q hk => ?_⟩
  · rw [key i x hi, key j y hj] at hxy
    omega
  · show oB G ≤ q.1
    rw [key k q hk]
    omega
theorem oFs_at (b : Nat) (f : Nat → Int32) (g : Nat → Int64) : ∀ (l : List (Nat × Nat)) (k j : Nat) (q : Nat × Nat), l[j]? = some q →
    (oFs b f g k l)[j]? = some (if q.1 = 0 then Value.int (f (k + j)) else if q.1 = 1 then Value.long (g (k + j)) else Value.ref (b + q.2))
  | [], k, j, q, h => by simp at h
  | a :: l, k, 0, q, h => by
    simp at h
    subst h
    simp [oFs]
  | a :: l, k, j + 1, q, h => by
    simp at h
    have := oFs_at b f g l (k + 1) j q h
    simp only [oFs, List.getElem?_cons_succ]
    rw [this, show k + 1 + j = k + (j + 1) by omega]
theorem oFs_len (b : Nat) (f : Nat → Int32) (g : Nat → Int64) : ∀ (l : List (Nat × Nat)) (k : Nat), (oFs b f g k l).length = l.length
  | [], _ => rfl
  | a :: l, k => by simp [oFs, oFs_len b f g l (k + 1)]
theorem oFs_setI (b : Nat) (f : Nat → Int32) (g : Nat → Int64) (x : Int32) : ∀ (l : List (Nat × Nat)) (k j d : Nat), l[j]? = some (0, d) →
    oFs b (fun i => if i = k + j then x else f i) g k l = (oFs b f g k l).set j (.int x)
  | [], k, j, d, h => by simp at h
  | a :: l, k, 0, d, h => by
    simp at h
    subst h
    have hx : ∀ (l : List (Nat × Nat)) (n : Nat), k < n → oFs b (fun i => if i = k then x else f i) g n l = oFs b f g n l := by
      intro l
      induction l with
      | nil => intro n _; rfl
      | cons c l ih => intro n hn; simp [oFs, ih (n + 1) (by omega), show n ≠ k by omega]
    simp [oFs, hx l (k + 1) (by omega)]
  | a :: l, k, j + 1, d, h => by
    simp at h
    have := oFs_setI b f g x l (k + 1) j d h
    simp only [oFs, List.set_cons_succ]
    rw [show k + 1 + j = k + (j + 1) by omega] at this
    rw [this]
    simp [show k ≠ k + (j + 1) by omega]
theorem oFs_setL (b : Nat) (f : Nat → Int32) (g : Nat → Int64) (x : Int64) : ∀ (l : List (Nat × Nat)) (k j d : Nat), l[j]? = some (1, d) →
    oFs b f (fun i => if i = k + j then x else g i) k l = (oFs b f g k l).set j (.long x)
  | [], k, j, d, h => by simp at h
  | a :: l, k, 0, d, h => by
    simp at h
    subst h
    have hx : ∀ (l : List (Nat × Nat)) (n : Nat), k < n → oFs b f (fun i => if i = k then x else g i) n l = oFs b f g n l := by
      intro l
      induction l with
      | nil => intro n _; rfl
      | cons c l ih => intro n hn; simp [oFs, ih (n + 1) (by omega), show n ≠ k by omega]
    simp [oFs, hx l (k + 1) (by omega)]
  | a :: l, k, j + 1, d, h => by
    simp at h
    have := oFs_setL b f g x l (k + 1) j d h
    simp only [oFs, List.set_cons_succ]
    rw [show k + 1 + j = k + (j + 1) by omega] at this
    rw [this]
    simp [show k ≠ k + (j + 1) by omega]
theorem oWl_set (G : oG) (m m' : oM) (p : Nat) (h : p < 61) (hn : ∀ q, q ≠ p → oE G m' q = oE G m q) : (oWl G m).set p (oB G + p, oE G m' p) = oWl G m' := by
  apply List.ext_getElem?
  intro k
  by_cases hk : k = p
  · subst hk
    rw [List.getElem?_set_self (by rw [oWl_len]; exact h), oWl_at G m' h]
  · rw [List.getElem?_set_ne (Ne.symm hk)]
    by_cases h2 : k < 61
    · rw [oWl_at G m h2, oWl_at G m' h2, hn k hk]
    · rw [List.getElem?_eq_none (by rw [oWl_len]; omega), List.getElem?_eq_none (by rw [oWl_len]; omega)]
theorem oE_SI_ne (G : oG) (m : oM) (p k : Nat) (x : Int32) (q : Nat) (h : q ≠ p) : oE G (oSI m p k x) q = oE G m q := by
  unfold oE
  have : (oSI m p k x).1 q = m.1 q := by
    funext j
    simp [oSI, h]
  rw [this]
  rfl
theorem oE_SL_ne (G : oG) (m : oM) (p k : Nat) (x : Int64) (q : Nat) (h : q ≠ p) : oE G (oSL m p k x) q = oE G m q := by
  unfold oE
  have : (oSL m p k x).2 q = m.2 q := by
    funext j
    simp [oSL, h]
  rw [this]
  rfl
theorem oE_SI_f (G : oG) (m : oM) {p k ci d : Nat} {fs : List (Nat × Nat)} (x : Int32) (hs : oShp p = .inl (ci, fs)) (hk : fs[k]? = some (0, d)) : oE G (oSI m p k x) p = .inr (ci, (oFs (oB G) (m.1 p) (m.2 p) 0 fs).set k (.int x)) := by
  unfold oE
  rw [hs]
  have : (oSI m p k x).1 p = fun i => if i = 0 + k then x else m.1 p i := by
    funext j
    simp [oSI]
  rw [this, ← oFs_setI (oB G) (m.1 p) (m.2 p) x fs 0 k d hk]
  rfl
theorem oE_SL_f (G : oG) (m : oM) {p k ci d : Nat} {fs : List (Nat × Nat)} (x : Int64) (hs : oShp p = .inl (ci, fs)) (hk : fs[k]? = some (1, d)) : oE G (oSL m p k x) p = .inr (ci, (oFs (oB G) (m.1 p) (m.2 p) 0 fs).set k (.long x)) := by
  unfold oE
  rw [hs]
  have : (oSL m p k x).2 p = fun i => if i = 0 + k then x else m.2 p i := by
    funext j
    simp [oSL]
  rw [this, ← oFs_setL (oB G) (m.1 p) (m.2 p) x fs 0 k d hk]
  rfl
theorem oE_SI_a (G : oG) (m : oM) {p k n : Nat} (x : Int32) (hs : oShp p = .inr (0, n)) : oE G (oSI m p k x) p = .inl (oCI G, n, .inl (upd (m.1 p) k x)) := by
  unfold oE
  rw [hs]
  have : (oSI m p k x).1 p = upd (m.1 p) k x := by
    funext j
    simp [oSI, upd]
  rw [this]
  rfl
theorem oE_SL_a (G : oG) (m : oM) {p k n : Nat} (x : Int64) (hs : oShp p = .inr (1, n)) : oE G (oSL m p k x) p = .inl (oCL G, n, .inr (.inl (vp_updL (m.2 p) k x))) := by
  unfold oE
  rw [hs]
  have : (oSL m p k x).2 p = vp_updL (m.2 p) k x := by
    funext j
    simp [oSL, vp_updL]
  rw [this]
  rfl
theorem oShp_lt {p : Nat} {x : oSh} (h : oShp p = x) (hx : x ≠ .inr (2, 0)) : p < 61 := by
  rcases Nat.lt_or_ge p 61 with q | q
  · exact q
  · exfalso
    apply hx
    rw [← h]
    unfold oShp
    rw [List.getD_eq_getElem?_getD, List.getElem?_eq_none (by exact q)]
    rfl
theorem oSt_moved {G : oG} {u U : State} (hW : u.WarmedH U.vm) (hh : ∀ a : Nat, a < u.heap.size → ¬ oA G a → U.heap[a]? = u.heap[a]?) (h : oSt G u) : oSt G U := by
  have hv := hW.alike
  obtain ⟨⟨t1, a1, b1, c1⟩, ⟨t2, a2, b2, c2⟩, ⟨t3, a3, b3⟩, ⟨t4, v4, a4, b4, c4, d4, e4, f4, g4⟩, h5, h6, h7, h8⟩ := h
  exact ⟨⟨t1, a1, (b1.kept hh).moved hv, (c1.kept hh).moved hv⟩, ⟨t2, a2, (b2.kept hh).moved hv, (c2.kept hh).moved hv⟩, ⟨t3, a3, (b3.kept hh).moved hv⟩,
    ⟨t4, v4, a4, b4, vk_R.warm hW c4, va_O.moved hv (d4.kept hh), va_OF.moved hv (e4.kept hh), va_OF.moved hv (f4.kept hh), (g4.kept hh).moved hv⟩, (h5.kept hh).moved hv, (h6.kept hh).moved hv, h7, fun q hq => (h8 q hq).warmM hW⟩
theorem oW_moved {G : oG} {u U : State} (hW : u.WarmedH U.vm) (hh : ∀ a : Nat, a < u.heap.size → ¬ oA G a → U.heap[a]? = u.heap[a]?) (h : oW G u) : oW G U := ⟨va_K.moved hW.alike h.1, oSt_moved hW hh h.2⟩
theorem oW_calling {G : oG} {U : State} (g : JFrame) (mk : MethodId) (a : Array Value) (h : oW G U) : oW G (U.calling g mk a) := by
  refine oW_moved (u := U) ?_ (fun _ _ _ => rfl) h
  exact State.WarmedH.refl U
end
section
section ORUN
variable {G : oG} {M : oD} {pc : Nat} {lv : List (Nat × Value)} {st : List Value} {m m' : oM} {r : Option Value}
/-- what holds of the world, put together -/
theorem oWl_ob {p ci : Nat} {fs : List (Nat × Nat)} (h : oShp p = .inl (ci, fs)) : p < 61 ∧ (oWl G m)[p]? = some (oB G + p, .inr (ci, oFs (oB G) (m.1 p) (m.2 p) 0 fs)) := by
  have hp := oShp_lt h (by intro q; cases q)
  refine ⟨hp, ?_⟩
  rw [oWl_at G m hp]
  unfold oE
  rw [h]
  rfl
theorem oWl_ai {p n : Nat} (h : oShp p = .inr (0, n)) : p < 61 ∧ (oWl G m)[p]? = some (oB G + p, .inl (oCI G, n, .inl (m.1 p))) := by
  have hp := oShp_lt h (by intro q; cases q)
  refine ⟨hp, ?_⟩
  rw [oWl_at G m hp]
  unfold oE
  rw [h]
  rfl
theorem oWl_al {p n : Nat} (h : oShp p = .inr (1, n)) : p < 61 ∧ (oWl G m)[p]? = some (oB G + p, .inl (oCL G, n, .inr (.inl (m.2 p)))) := by
  have hp := oShp_lt h (by intro q; cases q)
  refine ⟨hp, ?_⟩
  rw [oWl_at G m hp]
  unfold oE
  rw [h]
  rfl
theorem oCv_lt {p : Nat} (h : p < 61) : oCv G (.ref p) = .ref (oB G + p) := by simp [oCv, h]
theorem oLv_at {j i : Nat} {v : Value} (h : lv[j]? = some (i, v)) : (oLv G lv)[j]? = some (i, oCv G v) := by
  unfold oLv
  rw [List.getElem?_map, h]
  rfl
theorem oLv_pick (ks : List Nat) : oLv G (lv_pick lv ks) = lv_pick (oLv G lv) ks := by
  induction ks with
  | nil => rfl
  | cons k ks ih =>
    unfold lv_pick oLv at ih ⊢
    rw [List.filterMap_cons, List.filterMap_cons, List.getElem?_map]
    cases h : lv[k]? with
    | none => exact ih
    | some q =>
      show _ :: _ = _ :: _
      rw [ih]
theorem oLv_filter (hs : ∀ p, (oSp G p).category = 1) (f : Nat → Nat → Bool) : oLv G (lv.filter (fun q => f q.1 q.2.category)) = (oLv G lv).filter (fun q => f q.1 q.2.category) := by
  unfold oLv
  rw [List.filter_map]
  congr 2
  funext q
  show _ = f q.1 (oCv G q.2).category
  rw [oCv_cat G hs]
theorem oRun.ret (hd : decode M.2.1 pc = .ok (oRet r, 1)) : oRun G M pc lv r.toList m r m := by
  intro p e R s mi args below meth c H locs ls cells slots Q C h1 h2 hP hS hl hr
  have e : r.toList.map (oCv G) = (r.map (oCv G)).toList := by cases r <;> rfl
  have h := hr H locs ls pc hP hS hd
  exact h
theorem oRun.sub {lv' : List (Nat × Value)} (ks : List Nat) (h : lv_pick lv ks = lv') (k : oRun G M pc lv' st m r m') : oRun G M pc lv st m r m' := by
  intro p e R s mi args below meth c H locs ls cells slots Q C h1 h2 hP hS hl hr
  exact k p e R s mi args below meth c H locs ls cells slots Q C h1 h2 hP hS (lv_sub hl ks (by rw [← h, oLv_pick])) hr

theorem oRun.iadd {x y : Int32} (n : Nat) (hd : decode M.2.1 pc = .ok (.iadd, 1)) (hn : pc + 1 = n) (k : oRun G M n lv (.int (x + y) :: st) m r m') : oRun G M pc lv (.int y :: .int x :: st) m r m' := by
  subst hn
  intro p e R s mi args below meth c H locs ls cells slots Q C h1 h2 hP hS hl hr
  exact lv_iadd C.1 C.2.1 hd (k p e R s mi args below meth c H locs ls cells slots Q C h1 h2 hP hS hl hr)
theorem oRun.isub {x y : Int32} (n : Nat) (hd : decode M.2.1 pc = .ok (.isub, 1)) (hn : pc + 1 = n) (k : oRun G M n lv (.int (x - y) :: st) m r m') : oRun G M pc lv (.int y :: .int x :: st) m r m' := by
  subst hn
  intro p e R s mi args below meth c H locs ls cells slots Q C h1 h2 hP hS hl hr
  exact lv_isub C.1 C.2.1 hd (k p e R s mi args below meth c H locs ls cells slots Q C h1 h2 hP hS hl hr)
theorem oRun.imul {x y : Int32} (n : Nat) (hd : decode M.2.1 pc = .ok (.imul, 1)) (hn : pc + 1 = n) (k : oRun G M n lv (.int (x * y) :: st) m r m') : oRun G M pc lv (.int y :: .int x :: st) m r m' := by
  subst hn
  intro p e R s mi args below meth c H locs ls cells slots Q C h1 h2 hP hS hl hr
  exact lv_imul C.1 C.2.1 hd (k p e R s mi args below meth c H locs ls cells slots Q C h1 h2 hP hS hl hr)
theorem oRun.iand {x y : Int32} (n : Nat) (hd : decode M.2.1 pc = .ok (.iand, 1)) (hn : pc + 1 = n) (k : oRun G M n lv (.int (x &&& y) :: st) m r m') : oRun G M pc lv (.int y :: .int x :: st) m r m' := by
  subst hn
  intro p e R s mi args below meth c H locs ls cells slots Q C h1 h2 hP hS hl hr
  exact lv_iand C.1 C.2.1 hd (k p e R s mi args below meth c H locs ls cells slots Q C h1 h2 hP hS hl hr)
theorem oRun.ior {x y : Int32} (n : Nat) (hd : decode M.2.1 pc = .ok (.ior, 1)) (hn : pc + 1 = n) (k : oRun G M n lv (.int (x ||| y) :: st) m r m') : oRun G M pc lv (.int y :: .int x :: st) m r m' := by
  subst hn
  intro p e R s mi args below meth c H locs ls cells slots Q C h1 h2 hP hS hl hr
  exact lv_ior C.1 C.2.1 hd (k p e R s mi args below meth c H locs ls cells slots Q C h1 h2 hP hS hl hr)
theorem oRun.ishl {x y : Int32} (n : Nat) (hd : decode M.2.1 pc = .ok (.ishl, 1)) (hn : pc + 1 = n) (k : oRun G M n lv (.int (x <<< (y &&& 31)) :: st) m r m') : oRun G M pc lv (.int y :: .int x :: st) m r m' := by
  subst hn
  intro p e R s mi args below meth c H locs ls cells slots Q C h1 h2 hP hS hl hr
  exact lv_ishl C.1 C.2.1 hd (k p e R s mi args below meth c H locs ls cells slots Q C h1 h2 hP hS hl hr)
theorem oRun.ishr {x y : Int32} (n : Nat) (hd : decode M.2.1 pc = .ok (.ishr, 1)) (hn : pc + 1 = n) (k : oRun G M n lv (.int (x >>> (y &&& 31)) :: st) m r m') : oRun G M pc lv (.int y :: .int x :: st) m r m' := by
  subst hn
  intro p e R s mi args below meth c H locs ls cells slots Q C h1 h2 hP hS hl hr
  exact lv_ishr C.1 C.2.1 hd (k p e R s mi args below meth c H locs ls cells slots Q C h1 h2 hP hS hl hr)
theorem oRun.ladd {x y : Int64} (n : Nat) (hd : decode M.2.1 pc = .ok (.ladd, 1)) (hn : pc + 1 = n) (k : oRun G M n lv (.long (x + y) :: st) m r m') : oRun G M pc lv (.long y :: .long x :: st) m r m' := by
  subst hn
  intro p e R s mi args below meth c H locs ls cells slots Q C h1 h2 hP hS hl hr
  exact lv_ladd C.1 C.2.1 hd (k p e R s mi args below meth c H locs ls cells slots Q C h1 h2 hP hS hl hr)
theorem oRun.lsub {x y : Int64} (n : Nat) (hd : decode M.2.1 pc = .ok (.lsub, 1)) (hn : pc + 1 = n) (k : oRun G M n lv (.long (x - y) :: st) m r m') : oRun G M pc lv (.long y :: .long x :: st) m r m' := by
  subst hn
  intro p e R s mi args below meth c H locs ls cells slots Q C h1 h2 hP hS hl hr
  exact lv_lsub C.1 C.2.1 hd (k p e R s mi args below meth c H locs ls cells slots Q C h1 h2 hP hS hl hr)
theorem oRun.lmul {x y : Int64} (n : Nat) (hd : decode M.2.1 pc = .ok (.lmul, 1)) (hn : pc + 1 = n) (k : oRun G M n lv (.long (x * y) :: st) m r m') : oRun G M pc lv (.long y :: .long x :: st) m r m' := by
  subst hn
  intro p e R s mi args below meth c H locs ls cells slots Q C h1 h2 hP hS hl hr
  exact lv_lmul C.1 C.2.1 hd (k p e R s mi args below meth c H locs ls cells slots Q C h1 h2 hP hS hl hr)
theorem oRun.land {x y : Int64} (n : Nat) (hd : decode M.2.1 pc = .ok (.land, 1)) (hn : pc + 1 = n) (k : oRun G M n lv (.long (x &&& y) :: st) m r m') : oRun G M pc lv (.long y :: .long x :: st) m r m' := by
  subst hn
  intro p e R s mi args below meth c H locs ls cells slots Q C h1 h2 hP hS hl hr
  exact lv_land C.1 C.2.1 hd (k p e R s mi args below meth c H locs ls cells slots Q C h1 h2 hP hS hl hr)
theorem oRun.lor {x y : Int64} (n : Nat) (hd : decode M.2.1 pc = .ok (.lor, 1)) (hn : pc + 1 = n) (k : oRun G M n lv (.long (x ||| y) :: st) m r m') : oRun G M pc lv (.long y :: .long x :: st) m r m' := by
  subst hn
  intro p e R s mi args below meth c H locs ls cells slots Q C h1 h2 hP hS hl hr
  exact lv_lor C.1 C.2.1 hd (k p e R s mi args below meth c H locs ls cells slots Q C h1 h2 hP hS hl hr)
theorem oRun.lxor {x y : Int64} (n : Nat) (hd : decode M.2.1 pc = .ok (.lxor, 1)) (hn : pc + 1 = n) (k : oRun G M n lv (.long (x ^^^ y) :: st) m r m') : oRun G M pc lv (.long y :: .long x :: st) m r m' := by
  subst hn
  intro p e R s mi args below meth c H locs ls cells slots Q C h1 h2 hP hS hl hr
  exact lv_lxor C.1 C.2.1 hd (k p e R s mi args below meth c H locs ls cells slots Q C h1 h2 hP hS hl hr)
def oRI (x y : Int32) : Int32 := x - x / y * y
def oRG (x y : Int64) : Int64 := x - x / y * y
def oUS (x y : Int32) : Int32 := (x.toUInt32 >>> (y.toUInt32 &&& Int32.toUInt32 31)).toInt32
def oLS (x : Int64) (y : Int32) : Int64 := x <<< (y.toInt64 &&& 63)
theorem oRun.idiv {x y : Int32} (n : Nat) (hd : decode M.2.1 pc = .ok (.idiv, 1)) (hz : ¬ y = 0) (hn : pc + 1 = n) (k : oRun G M n lv (.int (x / y) :: st) m r m') : oRun G M pc lv (.int y :: .int x :: st) m r m' := by
  subst hn
  intro p e R s mi args below meth c H locs ls cells slots Q C h1 h2 hP hS hl hr
  exact lv_idiv C.1 C.2.1 hd hz (k p e R s mi args below meth c H locs ls cells slots Q C h1 h2 hP hS hl hr)
theorem oRun.irem {x y : Int32} (n : Nat) (hd : decode M.2.1 pc = .ok (.irem, 1)) (hz : ¬ y = 0) (hn : pc + 1 = n) (k : oRun G M n lv (.int (oRI x y) :: st) m r m') : oRun G M pc lv (.int y :: .int x :: st) m r m' := by
  subst hn
  intro p e R s mi args below meth c H locs ls cells slots Q C h1 h2 hP hS hl hr
  exact lv_irem C.1 C.2.1 hd hz (k p e R s mi args below meth c H locs ls cells slots Q C h1 h2 hP hS hl hr)
theorem oRun.ldiv {x y : Int64} (n : Nat) (hd : decode M.2.1 pc = .ok (.ldiv, 1)) (hz : ¬ y = 0) (hn : pc + 1 = n) (k : oRun G M n lv (.long (x / y) :: st) m r m') : oRun G M pc lv (.long y :: .long x :: st) m r m' := by
  subst hn
  intro p e R s mi args below meth c H locs ls cells slots Q C h1 h2 hP hS hl hr
  exact lv_ldiv C.1 C.2.1 hd hz (k p e R s mi args below meth c H locs ls cells slots Q C h1 h2 hP hS hl hr)
theorem oRun.lrem {x y : Int64} (n : Nat) (hd : decode M.2.1 pc = .ok (.lrem, 1)) (hz : ¬ y = 0) (hn : pc + 1 = n) (k : oRun G M n lv (.long (oRG x y) :: st) m r m') : oRun G M pc lv (.long y :: .long x :: st) m r m' := by
  subst hn
  intro p e R s mi args below meth c H locs ls cells slots Q C h1 h2 hP hS hl hr
  exact lv_lrem C.1 C.2.1 hd hz (k p e R s mi args below meth c H locs ls cells slots Q C h1 h2 hP hS hl hr)
theorem oRun.ineg {x : Int32} (n : Nat) (hd : decode M.2.1 pc = .ok (.ineg, 1)) (hn : pc + 1 = n) (k : oRun G M n lv (.int (-x) :: st) m r m') : oRun G M pc lv (.int x :: st) m r m' := by
  subst hn
  intro p e R s mi args below meth c H locs ls cells slots Q C h1 h2 hP hS hl hr
  exact lv_ineg C.1 C.2.1 hd (k p e R s mi args below meth c H locs ls cells slots Q C h1 h2 hP hS hl hr)
theorem oRun.lneg {x : Int64} (n : Nat) (hd : decode M.2.1 pc = .ok (.lneg, 1)) (hn : pc + 1 = n) (k : oRun G M n lv (.long (-x) :: st) m r m') : oRun G M pc lv (.long x :: st) m r m' := by
  subst hn
  intro p e R s mi args below meth c H locs ls cells slots Q C h1 h2 hP hS hl hr
  exact lv_lneg C.1 C.2.1 hd (k p e R s mi args below meth c H locs ls cells slots Q C h1 h2 hP hS hl hr)
theorem oRun.iushr {x y : Int32} (n : Nat) (hd : decode M.2.1 pc = .ok (.iushr, 1)) (hn : pc + 1 = n) (k : oRun G M n lv (.int (oUS x y) :: st) m r m') : oRun G M pc lv (.int y :: .int x :: st) m r m' := by
  subst hn
  intro p e R s mi args below meth c H locs ls cells slots Q C h1 h2 hP hS hl hr
  exact lv_iushr C.1 C.2.1 hd rfl (k p e R s mi args below meth c H locs ls cells slots Q C h1 h2 hP hS hl hr)
theorem oRun.lshl {x : Int64} {y : Int32} (n : Nat) (hd : decode M.2.1 pc = .ok (.lshl, 1)) (hn : pc + 1 = n) (k : oRun G M n lv (.long (oLS x y) :: st) m r m') : oRun G M pc lv (.int y :: .long x :: st) m r m' := by
  subst hn
  intro p e R s mi args below meth c H locs ls cells slots Q C h1 h2 hP hS hl hr
  exact lv_lshl C.1 C.2.1 hd rfl (k p e R s mi args below meth c H locs ls cells slots Q C h1 h2 hP hS hl hr)
theorem oRun.i2l {x : Int32} (n : Nat) (hd : decode M.2.1 pc = .ok (.i2l, 1)) (hn : pc + 1 = n) (k : oRun G M n lv (.long x.toInt64 :: st) m r m') : oRun G M pc lv (.int x :: st) m r m' := by
  subst hn
  intro p e R s mi args below meth c H locs ls cells slots Q C h1 h2 hP hS hl hr
  exact lv_i2l C.1 C.2.1 hd rfl (k p e R s mi args below meth c H locs ls cells slots Q C h1 h2 hP hS hl hr)
theorem oRun.l2i {x : Int64} (n : Nat) (hd : decode M.2.1 pc = .ok (.l2i, 1)) (hn : pc + 1 = n) (k : oRun G M n lv (.int x.toInt32 :: st) m r m') : oRun G M pc lv (.long x :: st) m r m' := by
  subst hn
  intro p e R s mi args below meth c H locs ls cells slots Q C h1 h2 hP hS hl hr
  exact lv_l2i C.1 C.2.1 hd rfl (k p e R s mi args below meth c H locs ls cells slots Q C h1 h2 hP hS hl hr)
theorem oRun.i2c {x : Int32} (n : Nat) (hd : decode M.2.1 pc = .ok (.i2c, 1)) (hn : pc + 1 = n) (k : oRun G M n lv (.int (x.toUInt32 % 65536).toInt32 :: st) m r m') : oRun G M pc lv (.int x :: st) m r m' := by
  subst hn
  intro p e R s mi args below meth c H locs ls cells slots Q C h1 h2 hP hS hl hr
  exact lv_i2c C.1 C.2.1 hd rfl (k p e R s mi args below meth c H locs ls cells slots Q C h1 h2 hP hS hl hr)
theorem oRun.iconst {i : Int} {v : Int32} (n : Nat) (hd : decode M.2.1 pc = .ok (.iconst i, 1)) (hv : Int32.ofInt i = v) (hn : pc + 1 = n) (k : oRun G M n lv (.int v :: st) m r m') : oRun G M pc lv st m r m' := by
  subst hn
  intro p e R s mi args below meth c H locs ls cells slots Q C h1 h2 hP hS hl hr
  exact lv_iconst C.1 C.2.1 hd hv (k p e R s mi args below meth c H locs ls cells slots Q C h1 h2 hP hS hl hr)
theorem oRun.bipush {i : Int} {v : Int32} (n : Nat) (hd : decode M.2.1 pc = .ok (.bipush i, 2)) (hv : (Int8.ofInt i).toInt32 = v) (hn : pc + 2 = n) (k : oRun G M n lv (.int v :: st) m r m') : oRun G M pc lv st m r m' := by
  subst hn
  intro p e R s mi args below meth c H locs ls cells slots Q C h1 h2 hP hS hl hr
  exact lv_bipush C.1 C.2.1 hd hv (k p e R s mi args below meth c H locs ls cells slots Q C h1 h2 hP hS hl hr)
theorem oRun.sipush {i : Int} {v : Int32} (n : Nat) (hd : decode M.2.1 pc = .ok (.sipush i, 3)) (hv : (Int16.ofInt i).toInt32 = v) (hn : pc + 3 = n) (k : oRun G M n lv (.int v :: st) m r m') : oRun G M pc lv st m r m' := by
  subst hn
  intro p e R s mi args below meth c H locs ls cells slots Q C h1 h2 hP hS hl hr
  exact lv_sipush C.1 C.2.1 hd hv (k p e R s mi args below meth c H locs ls cells slots Q C h1 h2 hP hS hl hr)
theorem oRun.lconst {i : Fin 2} {v : Int64} (n : Nat) (hd : decode M.2.1 pc = .ok (.lconst i, 1)) (hv : Int64.ofNat (i : Nat) = v) (hn : pc + 1 = n) (k : oRun G M n lv (.long v :: st) m r m') : oRun G M pc lv st m r m' := by
  subst hn
  intro p e R s mi args below meth c H locs ls cells slots Q C h1 h2 hP hS hl hr
  exact lv_lconst C.1 C.2.1 hd hv (k p e R s mi args below meth c H locs ls cells slots Q C h1 h2 hP hS hl hr)
theorem oRun.ldc {i : Nat} {v : Int32} (n : Nat) (hd : decode M.2.1 pc = .ok (.ldc i, 2)) (hc : Cond.constant M.1.cls i v ∈ oTB) (hn : pc + 2 = n) (k : oRun G M n lv (.int v :: st) m r m') : oRun G M pc lv st m r m' := by
  subst hn
  intro p e R s mi args below meth c H locs ls cells slots Q C h1 h2 hP hS hl hr
  exact lv_ldc C.1 C.2.1 C.2.2.2.1 (C.2.2.2.2.1 _ hc) hd (k p e R s mi args below meth c H locs ls cells slots Q C h1 h2 hP hS hl hr)
theorem oRun.ldc2 {i : Nat} {v : Int64} (n : Nat) (hd : decode M.2.1 pc = .ok (.ldc2_w i, 3)) (hc : Cond.constantLong M.1.cls i v ∈ oTB) (hn : pc + 3 = n) (k : oRun G M n lv (.long v :: st) m r m') : oRun G M pc lv st m r m' := by
  subst hn
  intro p e R s mi args below meth c H locs ls cells slots Q C h1 h2 hP hS hl hr
  exact lv_ldc2 C.1 C.2.1 C.2.2.2.1 (C.2.2.2.2.1 _ hc) hd (k p e R s mi args below meth c H locs ls cells slots Q C h1 h2 hP hS hl hr)
theorem oRun.dup {v : Value} (n : Nat) (hd : decode M.2.1 pc = .ok (.dup, 1)) (hv : v.category = 1) (hn : pc + 1 = n) (k : oRun G M n lv (v :: v :: st) m r m') : oRun G M pc lv (v :: st) m r m' := by
  subst hn
  intro p e R s mi args below meth c H locs ls cells slots Q C h1 h2 hP hS hl hr
  exact lv_dup C.1 C.2.1 hd (by rw [oCv_cat G C.2.2.2.2.2.1.2.2.2.2.2.2.2.1]; exact hv) (k p e R s mi args below meth c H locs ls cells slots Q C h1 h2 hP hS hl hr)
theorem oRun.pop {v : Value} (n : Nat) (hd : decode M.2.1 pc = .ok (.pop, 1)) (hv : v.category = 1) (hn : pc + 1 = n) (k : oRun G M n lv st m r m') : oRun G M pc lv (v :: st) m r m' := by
  subst hn
  intro p e R s mi args below meth c H locs ls cells slots Q C h1 h2 hP hS hl hr
  exact lv_pop C.1 C.2.1 hd (by rw [oCv_cat G C.2.2.2.2.2.1.2.2.2.2.2.2.2.1]; exact hv) (k p e R s mi args below meth c H locs ls cells slots Q C h1 h2 hP hS hl hr)
theorem oRun.dup2 {v u : Value} (n : Nat) (hd : decode M.2.1 pc = .ok (.dup2, 1)) (hv : v.category = 1) (hu : u.category = 1) (hn : pc + 1 = n) (k : oRun G M n lv (v :: u :: v :: u :: st) m r m') : oRun G M pc lv (v :: u :: st) m r m' := by
  subst hn
  intro p e R s mi args below meth c H locs ls cells slots Q C h1 h2 hP hS hl hr
  exact lv_dup2_11 C.1 C.2.1 hd (by rw [oCv_cat G C.2.2.2.2.2.1.2.2.2.2.2.2.2.1]; exact hv) (by rw [oCv_cat G C.2.2.2.2.2.1.2.2.2.2.2.2.2.1]; exact hu) (k p e R s mi args below meth c H locs ls cells slots Q C h1 h2 hP hS hl hr)
theorem oRun.iload_n {x : Int32} {a : Fin 4} {i : Nat} (n : Nat) (hd : decode M.2.1 pc = .ok (.iload_n a, 1)) (j : Nat) (hi : (a : Nat) = i) (hj : lv[j]? = some (i, .int x)) (hn : pc + 1 = n) (k : oRun G M n lv (.int x :: st) m r m') : oRun G M pc lv st m r m' := by
  subst hn
  intro p e R s mi args below meth c H locs ls cells slots Q C h1 h2 hP hS hl hr
  exact lv_iload_n C.1 C.2.1 hd hi (lv_at hl j (oLv_at hj)) (k p e R s mi args below meth c H locs ls cells slots Q C h1 h2 hP hS hl hr)
theorem oRun.iload {x : Int32} {i : Nat} (n : Nat) (hd : decode M.2.1 pc = .ok (.iload i, 2)) (j : Nat) (hj : lv[j]? = some (i, .int x)) (hn : pc + 2 = n) (k : oRun G M n lv (.int x :: st) m r m') : oRun G M pc lv st m r m' := by
  subst hn
  intro p e R s mi args below meth c H locs ls cells slots Q C h1 h2 hP hS hl hr
  exact lv_iload C.1 C.2.1 hd (lv_at hl j (oLv_at hj)) (k p e R s mi args below meth c H locs ls cells slots Q C h1 h2 hP hS hl hr)
theorem oRun.lload_n {x : Int64} {a : Fin 4} {i : Nat} (n : Nat) (hd : decode M.2.1 pc = .ok (.lload_n a, 1)) (j : Nat) (hi : (a : Nat) = i) (hj : lv[j]? = some (i, .long x)) (hn : pc + 1 = n) (k : oRun G M n lv (.long x :: st) m r m') : oRun G M pc lv st m r m' := by
  subst hn
  intro p e R s mi args below meth c H locs ls cells slots Q C h1 h2 hP hS hl hr
  exact lv_lload_n C.1 C.2.1 hd hi (lv_at hl j (oLv_at hj)) (k p e R s mi args below meth c H locs ls cells slots Q C h1 h2 hP hS hl hr)
theorem oRun.lload {x : Int64} {i : Nat} (n : Nat) (hd : decode M.2.1 pc = .ok (.lload i, 2)) (j : Nat) (hj : lv[j]? = some (i, .long x)) (hn : pc + 2 = n) (k : oRun G M n lv (.long x :: st) m r m') : oRun G M pc lv st m r m' := by
  subst hn
  intro p e R s mi args below meth c H locs ls cells slots Q C h1 h2 hP hS hl hr
  exact lv_lload C.1 C.2.1 hd (lv_at hl j (oLv_at hj)) (k p e R s mi args below meth c H locs ls cells slots Q C h1 h2 hP hS hl hr)
/-- a reference, at its address -/
theorem oCv_ref (hs : ∀ p, (oSp G p).category = 1) (q : Nat) (hq : q < 66) {s : State} (h : oSt G s) : ∃ a, oCv G (.ref q) = .ref a := by
  obtain ⟨⟨t1, a1, -⟩, ⟨t2, a2, -⟩, ⟨t3, a3, -⟩, ⟨t4, v4, a4, b4, -⟩, -⟩ := h
  by_cases h : q < 61
  · exact ⟨_, oCv_lt h⟩
  · have h2 : q = 61 ∨ q = 62 ∨ q = 63 ∨ q = 64 ∨ q = 65 := by omega
    rcases h2 with rfl | rfl | rfl | rfl | rfl
    · exact ⟨t1, a1⟩
    · exact ⟨t2, a2⟩
    · exact ⟨t4, a4⟩
    · exact ⟨t3, a3⟩
    · exact ⟨v4, b4⟩

theorem oRun.aload_n {x : Nat} {a : Fin 4} {i : Nat} (n : Nat) (hd : decode M.2.1 pc = .ok (.aload_n a, 1)) (j : Nat) (hi : (a : Nat) = i) (hj : lv[j]? = some (i, .ref x)) (hx : x < 66) (hn : pc + 1 = n) (k : oRun G M n lv (.ref x :: st) m r m') : oRun G M pc lv st m r m' := by
  subst hn
  intro p e R s mi args below meth c H locs ls cells slots Q C h1 h2 hP hS hl hr
  obtain ⟨b, hb⟩ := oCv_ref C.2.2.2.2.2.1.2.2.2.2.2.2.2.1 x hx C.2.2.2.2.2.1.2
  have k1 := (k p e R s mi args below meth c H locs ls cells slots Q C h1 h2 hP hS hl hr)
  rw [List.map_cons, hb] at k1
  exact lv_aload_n C.1 C.2.1 hd hi (lv_at hl j (by rw [oLv_at hj, hb])) k1
theorem oRun.aload {x i : Nat} (n : Nat) (hd : decode M.2.1 pc = .ok (.aload i, 2)) (j : Nat) (hj : lv[j]? = some (i, .ref x)) (hx : x < 66) (hn : pc + 2 = n) (k : oRun G M n lv (.ref x :: st) m r m') : oRun G M pc lv st m r m' := by
  subst hn
  intro p e R s mi args below meth c H locs ls cells slots Q C h1 h2 hP hS hl hr
  obtain ⟨b, hb⟩ := oCv_ref C.2.2.2.2.2.1.2.2.2.2.2.2.2.1 x hx C.2.2.2.2.2.1.2
  have k1 := (k p e R s mi args below meth c H locs ls cells slots Q C h1 h2 hP hS hl hr)
  rw [List.map_cons, hb] at k1
  exact lv_aload C.1 C.2.1 hd (lv_at hl j (by rw [oLv_at hj, hb])) k1
theorem oRun.istore_n {x : Int32} {a : Fin 4} {i : Nat} {lv' : List (Nat × Value)} (n : Nat) (hd : decode M.2.1 pc = .ok (.istore_n a, 1)) (hi : (a : Nat) = i) (hb : i < M.2.2.1) (hl' : (i, .int x) :: lv.filter (fun q => !(q.1 == i) && !(q.1 + 1 == i && q.2.category == 2)) = lv') (hn : pc + 1 = n) (k : oRun G M n lv' st m r m') : oRun G M pc lv (.int x :: st) m r m' := by
  subst hn
  intro p e R s mi args below meth c H locs ls cells slots Q C h1 h2 hP hS hl hr
  refine lv_istore_n (lv' := oLv G lv') C.1 C.2.1 hd hi hl hb ?_ (fun ls' hl2 => k p e R s mi args below meth c H locs ls' cells slots Q C h1 h2 hP hS hl2 hr)
  rw [← hl']
  show _ = (i, oCv G (.int x)) :: oLv G (lv.filter _)
  rw [oLv_filter C.2.2.2.2.2.1.2.2.2.2.2.2.2.1 (fun a b => !(a == i) && !(a + 1 == i && b == 2))]
  rfl
theorem oRun.lstore_n {x : Int64} {a : Fin 4} {i : Nat} {lv' : List (Nat × Value)} (n : Nat) (hd : decode M.2.1 pc = .ok (.lstore_n a, 1)) (hi : (a : Nat) = i) (hb : i + 1 < M.2.2.1) (hl' : (i, .long x) :: lv.filter (fun q => !(q.1 == i) && (!(q.1 == i + 1) && !(q.1 + 1 == i && q.2.category == 2))) = lv') (hn : pc + 1 = n) (k : oRun G M n lv' st m r m') : oRun G M pc lv (.long x :: st) m r m' := by
  subst hn
  intro p e R s mi args below meth c H locs ls cells slots Q C h1 h2 hP hS hl hr
  refine lv_lstore_n (lv' := oLv G lv') C.1 C.2.1 hd hi hl hb ?_ (fun ls' hl2 => k p e R s mi args below meth c H locs ls' cells slots Q C h1 h2 hP hS hl2 hr)
  rw [← hl']
  show _ = (i, oCv G (.long x)) :: oLv G (lv.filter _)
  rw [oLv_filter C.2.2.2.2.2.1.2.2.2.2.2.2.2.1 (fun a b => !(a == i) && (!(a == i + 1) && !(a + 1 == i && b == 2)))]
  rfl
theorem oRun.istore {x : Int32} {i : Nat} {lv' : List (Nat × Value)} (n : Nat) (hd : decode M.2.1 pc = .ok (.istore i, 2)) (hb : i < M.2.2.1) (hl' : (i, .int x) :: lv.filter (fun q => !(q.1 == i) && !(q.1 + 1 == i && q.2.category == 2)) = lv') (hn : pc + 2 = n) (k : oRun G M n lv' st m r m') : oRun G M pc lv (.int x :: st) m r m' := by
  subst hn
  intro p e R s mi args below meth c H locs ls cells slots Q C h1 h2 hP hS hl hr
  refine lv_istore (lv' := oLv G lv') C.1 C.2.1 hd hl hb ?_ (fun ls' hl2 => k p e R s mi args below meth c H locs ls' cells slots Q C h1 h2 hP hS hl2 hr)
  rw [← hl']
  show _ = (i, oCv G (.int x)) :: oLv G (lv.filter _)
  rw [oLv_filter C.2.2.2.2.2.1.2.2.2.2.2.2.2.1 (fun a b => !(a == i) && !(a + 1 == i && b == 2))]
  rfl
theorem oRun.lstore {x : Int64} {i : Nat} {lv' : List (Nat × Value)} (n : Nat) (hd : decode M.2.1 pc = .ok (.lstore i, 2)) (hb : i + 1 < M.2.2.1) (hl' : (i, .long x) :: lv.filter (fun q => !(q.1 == i) && (!(q.1 == i + 1) && !(q.1 + 1 == i && q.2.category == 2))) = lv') (hn : pc + 2 = n) (k : oRun G M n lv' st m r m') : oRun G M pc lv (.long x :: st) m r m' := by
  subst hn
  intro p e R s mi args below meth c H locs ls cells slots Q C h1 h2 hP hS hl hr
  refine lv_lstore (lv' := oLv G lv') C.1 C.2.1 hd hl hb ?_ (fun ls' hl2 => k p e R s mi args below meth c H locs ls' cells slots Q C h1 h2 hP hS hl2 hr)
  rw [← hl']
  show _ = (i, oCv G (.long x)) :: oLv G (lv.filter _)
  rw [oLv_filter C.2.2.2.2.2.1.2.2.2.2.2.2.2.1 (fun a b => !(a == i) && (!(a == i + 1) && !(a + 1 == i && b == 2)))]
  rfl
theorem oRun.astore_n {x : Nat} {a : Fin 4} {i : Nat} {lv' : List (Nat × Value)} (n : Nat) (hd : decode M.2.1 pc = .ok (.astore_n a, 1)) (hi : (a : Nat) = i) (hx : x < 66) (hb : i < M.2.2.1) (hl' : (i, .ref x) :: lv.filter (fun q => !(q.1 == i) && !(q.1 + 1 == i && q.2.category == 2)) = lv') (hn : pc + 1 = n) (k : oRun G M n lv' st m r m') : oRun G M pc lv (.ref x :: st) m r m' := by
  subst hn
  intro p e R s mi args below meth c H locs ls cells slots Q C h1 h2 hP hS hl hr
  obtain ⟨b, hb2⟩ := oCv_ref C.2.2.2.2.2.1.2.2.2.2.2.2.2.1 x hx C.2.2.2.2.2.1.2
  rw [List.map_cons, hb2]
  refine lv_astore_n (lv' := oLv G lv') C.1 C.2.1 hd hi hl hb ?_ (fun ls' hl2 => k p e R s mi args below meth c H locs ls' cells slots Q C h1 h2 hP hS hl2 hr)
  rw [← hl']
  show _ = (i, oCv G (.ref x)) :: oLv G (lv.filter _)
  rw [oLv_filter C.2.2.2.2.2.1.2.2.2.2.2.2.2.1 (fun a b => !(a == i) && !(a + 1 == i && b == 2)), hb2]
theorem oRun.astore {x : Nat} {i : Nat} {lv' : List (Nat × Value)} (n : Nat) (hd : decode M.2.1 pc = .ok (.astore i, 2)) (hx : x < 66) (hb : i < M.2.2.1) (hl' : (i, .ref x) :: lv.filter (fun q => !(q.1 == i) && !(q.1 + 1 == i && q.2.category == 2)) = lv') (hn : pc + 2 = n) (k : oRun G M n lv' st m r m') : oRun G M pc lv (.ref x :: st) m r m' := by
  subst hn
  intro p e R s mi args below meth c H locs ls cells slots Q C h1 h2 hP hS hl hr
  obtain ⟨b, hb2⟩ := oCv_ref C.2.2.2.2.2.1.2.2.2.2.2.2.2.1 x hx C.2.2.2.2.2.1.2
  rw [List.map_cons, hb2]
  refine lv_astore (lv' := oLv G lv') C.1 C.2.1 hd hl hb ?_ (fun ls' hl2 => k p e R s mi args below meth c H locs ls' cells slots Q C h1 h2 hP hS hl2 hr)
  rw [← hl']
  show _ = (i, oCv G (.ref x)) :: oLv G (lv.filter _)
  rw [oLv_filter C.2.2.2.2.2.1.2.2.2.2.2.2.2.1 (fun a b => !(a == i) && !(a + 1 == i && b == 2)), hb2]
theorem oRun.iinc {x v : Int32} {i : Nat} {d : Int} {lv' : List (Nat × Value)} (n : Nat) (hd : decode M.2.1 pc = .ok (.iinc i d, 3)) (j : Nat) (hj : lv[j]? = some (i, .int x)) (hv : x + Int32.ofInt d = v) (hb : i < M.2.2.1) (hl' : (i, .int v) :: lv.filter (fun q => !(q.1 == i) && !(q.1 + 1 == i && q.2.category == 2)) = lv') (hn : pc + 3 = n) (k : oRun G M n lv' st m r m') : oRun G M pc lv st m r m' := by
  subst hn
  intro p e R s mi args below meth c H locs ls cells slots Q C h1 h2 hP hS hl hr
  refine lv_iinc (v := v) (lv' := oLv G lv') C.1 C.2.1 hd hl (oLv_at hj) hv hb ?_ (fun ls' hl2 => k p e R s mi args below meth c H locs ls' cells slots Q C h1 h2 hP hS hl2 hr)
  rw [← hl']
  show _ = (i, oCv G (.int v)) :: oLv G (lv.filter _)
  rw [oLv_filter C.2.2.2.2.2.1.2.2.2.2.2.2.2.1 (fun a b => !(a == i) && !(a + 1 == i && b == 2))]
  rfl
theorem oRun.goto {off : Int} (n : Nat) (hd : decode M.2.1 pc = .ok (.goto off, 3)) (hn : (pc : Int) + off = (n : Int)) (k : oRun G M n lv st m r m') : oRun G M pc lv st m r m' := by
  intro p e R s mi args below meth c H locs ls cells slots Q C h1 h2 hP hS hl hr
  exact lv_goto C.1 C.2.1 hd hn (k p e R s mi args below meth c H locs ls cells slots Q C h1 h2 hP hS hl hr)
theorem oRun.if_eq_t {x : Int32} {off : Int} (n : Nat) (hd : decode M.2.1 pc = .ok (.ifCond .eq off, 3)) (h : x = 0) (hn : (pc : Int) + off = (n : Int)) (k : oRun G M n lv st m r m') : oRun G M pc lv (.int x :: st) m r m' := by
  intro p e R s mi args below meth c H locs ls cells slots Q C h1 h2 hP hS hl hr
  exact lv_if_eq C.1 C.2.1 hd hn (fun _ => (k p e R s mi args below meth c H locs ls cells slots Q C h1 h2 hP hS hl hr)) (fun hq => by first | exact absurd h hq | exact absurd hq h)
theorem oRun.if_eq_f {x : Int32} {off : Int} {tgt : Nat} (n : Nat) (hd : decode M.2.1 pc = .ok (.ifCond .eq off, 3)) (ht : (pc : Int) + off = (tgt : Int)) (h : ¬ x = 0) (hn : pc + 3 = n) (k : oRun G M n lv st m r m') : oRun G M pc lv (.int x :: st) m r m' := by
  subst hn
  intro p e R s mi args below meth c H locs ls cells slots Q C h1 h2 hP hS hl hr
  exact lv_if_eq C.1 C.2.1 hd ht (fun hq => by first | exact absurd hq h | exact absurd h hq) (fun _ => (k p e R s mi args below meth c H locs ls cells slots Q C h1 h2 hP hS hl hr))
theorem oRun.icmp_eq_t {x y : Int32} {off : Int} (n : Nat) (hd : decode M.2.1 pc = .ok (.if_icmp .eq off, 3)) (h : x = y) (hn : (pc : Int) + off = (n : Int)) (k : oRun G M n lv st m r m') : oRun G M pc lv (.int y :: .int x :: st) m r m' := by
  intro p e R s mi args below meth c H locs ls cells slots Q C h1 h2 hP hS hl hr
  exact lv_icmp_eq C.1 C.2.1 hd hn (fun _ => (k p e R s mi args below meth c H locs ls cells slots Q C h1 h2 hP hS hl hr)) (fun hq => by first | exact absurd h hq | exact absurd hq h)
theorem oRun.icmp_eq_f {x y : Int32} {off : Int} {tgt : Nat} (n : Nat) (hd : decode M.2.1 pc = .ok (.if_icmp .eq off, 3)) (ht : (pc : Int) + off = (tgt : Int)) (h : ¬ x = y) (hn : pc + 3 = n) (k : oRun G M n lv st m r m') : oRun G M pc lv (.int y :: .int x :: st) m r m' := by
  subst hn
  intro p e R s mi args below meth c H locs ls cells slots Q C h1 h2 hP hS hl hr
  exact lv_icmp_eq C.1 C.2.1 hd ht (fun hq => by first | exact absurd hq h | exact absurd h hq) (fun _ => (k p e R s mi args below meth c H locs ls cells slots Q C h1 h2 hP hS hl hr))
theorem oRun.if_ne_t {x : Int32} {off : Int} (n : Nat) (hd : decode M.2.1 pc = .ok (.ifCond .ne off, 3)) (h : ¬ x = 0) (hn : (pc : Int) + off = (n : Int)) (k : oRun G M n lv st m r m') : oRun G M pc lv (.int x :: st) m r m' := by
  intro p e R s mi args below meth c H locs ls cells slots Q C h1 h2 hP hS hl hr
  exact lv_if_ne C.1 C.2.1 hd hn (fun _ => (k p e R s mi args below meth c H locs ls cells slots Q C h1 h2 hP hS hl hr)) (fun hq => by first | exact absurd h hq | exact absurd hq h)
theorem oRun.if_ne_f {x : Int32} {off : Int} {tgt : Nat} (n : Nat) (hd : decode M.2.1 pc = .ok (.ifCond .ne off, 3)) (ht : (pc : Int) + off = (tgt : Int)) (h : x = 0) (hn : pc + 3 = n) (k : oRun G M n lv st m r m') : oRun G M pc lv (.int x :: st) m r m' := by
  subst hn
  intro p e R s mi args below meth c H locs ls cells slots Q C h1 h2 hP hS hl hr
  exact lv_if_ne C.1 C.2.1 hd ht (fun hq => by first | exact absurd hq h | exact absurd h hq) (fun _ => (k p e R s mi args below meth c H locs ls cells slots Q C h1 h2 hP hS hl hr))
theorem oRun.icmp_ne_t {x y : Int32} {off : Int} (n : Nat) (hd : decode M.2.1 pc = .ok (.if_icmp .ne off, 3)) (h : ¬ x = y) (hn : (pc : Int) + off = (n : Int)) (k : oRun G M n lv st m r m') : oRun G M pc lv (.int y :: .int x :: st) m r m' := by
  intro p e R s mi args below meth c H locs ls cells slots Q C h1 h2 hP hS hl hr
  exact lv_icmp_ne C.1 C.2.1 hd hn (fun _ => (k p e R s mi args below meth c H locs ls cells slots Q C h1 h2 hP hS hl hr)) (fun hq => by first | exact absurd h hq | exact absurd hq h)
theorem oRun.icmp_ne_f {x y : Int32} {off : Int} {tgt : Nat} (n : Nat) (hd : decode M.2.1 pc = .ok (.if_icmp .ne off, 3)) (ht : (pc : Int) + off = (tgt : Int)) (h : x = y) (hn : pc + 3 = n) (k : oRun G M n lv st m r m') : oRun G M pc lv (.int y :: .int x :: st) m r m' := by
  subst hn
  intro p e R s mi args below meth c H locs ls cells slots Q C h1 h2 hP hS hl hr
  exact lv_icmp_ne C.1 C.2.1 hd ht (fun hq => by first | exact absurd hq h | exact absurd h hq) (fun _ => (k p e R s mi args below meth c H locs ls cells slots Q C h1 h2 hP hS hl hr))
theorem oRun.if_lt_t {x : Int32} {off : Int} (n : Nat) (hd : decode M.2.1 pc = .ok (.ifCond .lt off, 3)) (h : x < 0) (hn : (pc : Int) + off = (n : Int)) (k : oRun G M n lv st m r m') : oRun G M pc lv (.int x :: st) m r m' := by
  intro p e R s mi args below meth c H locs ls cells slots Q C h1 h2 hP hS hl hr
  exact lv_if_lt C.1 C.2.1 hd hn (fun _ => (k p e R s mi args below meth c H locs ls cells slots Q C h1 h2 hP hS hl hr)) (fun hq => by first | exact absurd h hq | exact absurd hq h)
theorem oRun.if_lt_f {x : Int32} {off : Int} {tgt : Nat} (n : Nat) (hd : decode M.2.1 pc = .ok (.ifCond .lt off, 3)) (ht : (pc : Int) + off = (tgt : Int)) (h : ¬ x < 0) (hn : pc + 3 = n) (k : oRun G M n lv st m r m') : oRun G M pc lv (.int x :: st) m r m' := by
  subst hn
  intro p e R s mi args below meth c H locs ls cells slots Q C h1 h2 hP hS hl hr
  exact lv_if_lt C.1 C.2.1 hd ht (fun hq => by first | exact absurd hq h | exact absurd h hq) (fun _ => (k p e R s mi args below meth c H locs ls cells slots Q C h1 h2 hP hS hl hr))
theorem oRun.icmp_lt_t {x y : Int32} {off : Int} (n : Nat) (hd : decode M.2.1 pc = .ok (.if_icmp .lt off, 3)) (h : x < y) (hn : (pc : Int) + off = (n : Int)) (k : oRun G M n lv st m r m') : oRun G M pc lv (.int y :: .int x :: st) m r m' := by
  intro p e R s mi args below meth c H locs ls cells slots Q C h1 h2 hP hS hl hr
  exact lv_icmp_lt C.1 C.2.1 hd hn (fun _ => (k p e R s mi args below meth c H locs ls cells slots Q C h1 h2 hP hS hl hr)) (fun hq => by first | exact absurd h hq | exact absurd hq h)
theorem oRun.icmp_lt_f {x y : Int32} {off : Int} {tgt : Nat} (n : Nat) (hd : decode M.2.1 pc = .ok (.if_icmp .lt off, 3)) (ht : (pc : Int) + off = (tgt : Int)) (h : ¬ x < y) (hn : pc + 3 = n) (k : oRun G M n lv st m r m') : oRun G M pc lv (.int y :: .int x :: st) m r m' := by
  subst hn
  intro p e R s mi args below meth c H locs ls cells slots Q C h1 h2 hP hS hl hr
  exact lv_icmp_lt C.1 C.2.1 hd ht (fun hq => by first | exact absurd hq h | exact absurd h hq) (fun _ => (k p e R s mi args below meth c H locs ls cells slots Q C h1 h2 hP hS hl hr))
theorem oRun.if_ge_t {x : Int32} {off : Int} (n : Nat) (hd : decode M.2.1 pc = .ok (.ifCond .ge off, 3)) (h : 0 ≤ x) (hn : (pc : Int) + off = (n : Int)) (k : oRun G M n lv st m r m') : oRun G M pc lv (.int x :: st) m r m' := by
  intro p e R s mi args below meth c H locs ls cells slots Q C h1 h2 hP hS hl hr
  exact lv_if_ge C.1 C.2.1 hd hn (fun _ => (k p e R s mi args below meth c H locs ls cells slots Q C h1 h2 hP hS hl hr)) (fun hq => by first | exact absurd h hq | exact absurd hq h)
theorem oRun.if_ge_f {x : Int32} {off : Int} {tgt : Nat} (n : Nat) (hd : decode M.2.1 pc = .ok (.ifCond .ge off, 3)) (ht : (pc : Int) + off = (tgt : Int)) (h : ¬ 0 ≤ x) (hn : pc + 3 = n) (k : oRun G M n lv st m r m') : oRun G M pc lv (.int x :: st) m r m' := by
  subst hn
  intro p e R s mi args below meth c H locs ls cells slots Q C h1 h2 hP hS hl hr
  exact lv_if_ge C.1 C.2.1 hd ht (fun hq => by first | exact absurd hq h | exact absurd h hq) (fun _ => (k p e R s mi args below meth c H locs ls cells slots Q C h1 h2 hP hS hl hr))
theorem oRun.icmp_ge_t {x y : Int32} {off : Int} (n : Nat) (hd : decode M.2.1 pc = .ok (.if_icmp .ge off, 3)) (h : y ≤ x) (hn : (pc : Int) + off = (n : Int)) (k : oRun G M n lv st m r m') : oRun G M pc lv (.int y :: .int x :: st) m r m' := by
  intro p e R s mi args below meth c H locs ls cells slots Q C h1 h2 hP hS hl hr
  exact lv_icmp_ge C.1 C.2.1 hd hn (fun _ => (k p e R s mi args below meth c H locs ls cells slots Q C h1 h2 hP hS hl hr)) (fun hq => by first | exact absurd h hq | exact absurd hq h)
theorem oRun.icmp_ge_f {x y : Int32} {off : Int} {tgt : Nat} (n : Nat) (hd : decode M.2.1 pc = .ok (.if_icmp .ge off, 3)) (ht : (pc : Int) + off = (tgt : Int)) (h : ¬ y ≤ x) (hn : pc + 3 = n) (k : oRun G M n lv st m r m') : oRun G M pc lv (.int y :: .int x :: st) m r m' := by
  subst hn
  intro p e R s mi args below meth c H locs ls cells slots Q C h1 h2 hP hS hl hr
  exact lv_icmp_ge C.1 C.2.1 hd ht (fun hq => by first | exact absurd hq h | exact absurd h hq) (fun _ => (k p e R s mi args below meth c H locs ls cells slots Q C h1 h2 hP hS hl hr))
theorem oRun.if_gt_t {x : Int32} {off : Int} (n : Nat) (hd : decode M.2.1 pc = .ok (.ifCond .gt off, 3)) (h : 0 < x) (hn : (pc : Int) + off = (n : Int)) (k : oRun G M n lv st m r m') : oRun G M pc lv (.int x :: st) m r m' := by
  intro p e R s mi args below meth c H locs ls cells slots Q C h1 h2 hP hS hl hr
  exact lv_if_gt C.1 C.2.1 hd hn (fun _ => (k p e R s mi args below meth c H locs ls cells slots Q C h1 h2 hP hS hl hr)) (fun hq => by first | exact absurd h hq | exact absurd hq h)
theorem oRun.if_gt_f {x : Int32} {off : Int} {tgt : Nat} (n : Nat) (hd : decode M.2.1 pc = .ok (.ifCond .gt off, 3)) (ht : (pc : Int) + off = (tgt : Int)) (h : ¬ 0 < x) (hn : pc + 3 = n) (k : oRun G M n lv st m r m') : oRun G M pc lv (.int x :: st) m r m' := by
  subst hn
  intro p e R s mi args below meth c H locs ls cells slots Q C h1 h2 hP hS hl hr
  exact lv_if_gt C.1 C.2.1 hd ht (fun hq => by first | exact absurd hq h | exact absurd h hq) (fun _ => (k p e R s mi args below meth c H locs ls cells slots Q C h1 h2 hP hS hl hr))
theorem oRun.icmp_gt_t {x y : Int32} {off : Int} (n : Nat) (hd : decode M.2.1 pc = .ok (.if_icmp .gt off, 3)) (h : y < x) (hn : (pc : Int) + off = (n : Int)) (k : oRun G M n lv st m r m') : oRun G M pc lv (.int y :: .int x :: st) m r m' := by
  intro p e R s mi args below meth c H locs ls cells slots Q C h1 h2 hP hS hl hr
  exact lv_icmp_gt C.1 C.2.1 hd hn (fun _ => (k p e R s mi args below meth c H locs ls cells slots Q C h1 h2 hP hS hl hr)) (fun hq => by first | exact absurd h hq | exact absurd hq h)
theorem oRun.icmp_gt_f {x y : Int32} {off : Int} {tgt : Nat} (n : Nat) (hd : decode M.2.1 pc = .ok (.if_icmp .gt off, 3)) (ht : (pc : Int) + off = (tgt : Int)) (h : ¬ y < x) (hn : pc + 3 = n) (k : oRun G M n lv st m r m') : oRun G M pc lv (.int y :: .int x :: st) m r m' := by
  subst hn
  intro p e R s mi args below meth c H locs ls cells slots Q C h1 h2 hP hS hl hr
  exact lv_icmp_gt C.1 C.2.1 hd ht (fun hq => by first | exact absurd hq h | exact absurd h hq) (fun _ => (k p e R s mi args below meth c H locs ls cells slots Q C h1 h2 hP hS hl hr))
theorem oRun.if_le_t {x : Int32} {off : Int} (n : Nat) (hd : decode M.2.1 pc = .ok (.ifCond .le off, 3)) (h : x ≤ 0) (hn : (pc : Int) + off = (n : Int)) (k : oRun G M n lv st m r m') : oRun G M pc lv (.int x :: st) m r m' := by
  intro p e R s mi args below meth c H locs ls cells slots Q C h1 h2 hP hS hl hr
  exact lv_if_le C.1 C.2.1 hd hn (fun _ => (k p e R s mi args below meth c H locs ls cells slots Q C h1 h2 hP hS hl hr)) (fun hq => by first | exact absurd h hq | exact absurd hq h)
theorem oRun.if_le_f {x : Int32} {off : Int} {tgt : Nat} (n : Nat) (hd : decode M.2.1 pc = .ok (.ifCond .le off, 3)) (ht : (pc : Int) + off = (tgt : Int)) (h : ¬ x ≤ 0) (hn : pc + 3 = n) (k : oRun G M n lv st m r m') : oRun G M pc lv (.int x :: st) m r m' := by
  subst hn
  intro p e R s mi args below meth c H locs ls cells slots Q C h1 h2 hP hS hl hr
  exact lv_if_le C.1 C.2.1 hd ht (fun hq => by first | exact absurd hq h | exact absurd h hq) (fun _ => (k p e R s mi args below meth c H locs ls cells slots Q C h1 h2 hP hS hl hr))
theorem oRun.icmp_le_t {x y : Int32} {off : Int} (n : Nat) (hd : decode M.2.1 pc = .ok (.if_icmp .le off, 3)) (h : x ≤ y) (hn : (pc : Int) + off = (n : Int)) (k : oRun G M n lv st m r m') : oRun G M pc lv (.int y :: .int x :: st) m r m' := by
  intro p e R s mi args below meth c H locs ls cells slots Q C h1 h2 hP hS hl hr
  exact lv_icmp_le C.1 C.2.1 hd hn (fun _ => (k p e R s mi args below meth c H locs ls cells slots Q C h1 h2 hP hS hl hr)) (fun hq => by first | exact absurd h hq | exact absurd hq h)
theorem oRun.icmp_le_f {x y : Int32} {off : Int} {tgt : Nat} (n : Nat) (hd : decode M.2.1 pc = .ok (.if_icmp .le off, 3)) (ht : (pc : Int) + off = (tgt : Int)) (h : ¬ x ≤ y) (hn : pc + 3 = n) (k : oRun G M n lv st m r m') : oRun G M pc lv (.int y :: .int x :: st) m r m' := by
  subst hn
  intro p e R s mi args below meth c H locs ls cells slots Q C h1 h2 hP hS hl hr
  exact lv_icmp_le C.1 C.2.1 hd ht (fun hq => by first | exact absurd hq h | exact absurd h hq) (fun _ => (k p e R s mi args below meth c H locs ls cells slots Q C h1 h2 hP hS hl hr))
theorem oRun.lcmp {x y : Int64} (n : Nat) (hd : decode M.2.1 pc = .ok (.lcmp, 1)) (hn : pc + 1 = n) (k : oRun G M n lv (.int (lg_cmp x y) :: st) m r m') : oRun G M pc lv (.long y :: .long x :: st) m r m' := by
  subst hn
  intro p e R s mi args below meth c H locs ls cells slots Q C h1 h2 hP hS hl hr
  exact W.lcmp C.1 C.2.1 hd (k p e R s mi args below meth c H locs ls cells slots Q C h1 h2 hP hS hl hr)
theorem oRun.tsin {x : Int32} {dflt lo hi off : Int} {offs : Array Int} {len : Nat} (n : Nat) (hd : decode M.2.1 pc = .ok (.tableswitch dflt lo hi offs, len)) {q : Int} (hx : x.toInt = q) (h1' : ¬ q < lo) (h2' : ¬ hi < q) (ho : offs[(q - lo).toNat]? = some off) (hn : (pc : Int) + off = (n : Int)) (k : oRun G M n lv st m r m') : oRun G M pc lv (.int x :: st) m r m' := by
  subst hx
  intro p e R s mi args below meth c H locs ls cells slots Q C h1 h2 hP hS hl hr
  exact lv_tableIn C.1 C.2.1 hd h1' h2' ho hn (k p e R s mi args below meth c H locs ls cells slots Q C h1 h2 hP hS hl hr)
theorem oRun.tsout {x : Int32} {dflt lo hi : Int} {offs : Array Int} {len : Nat} (n : Nat) (hd : decode M.2.1 pc = .ok (.tableswitch dflt lo hi offs, len)) (h : x.toInt < lo ∨ hi < x.toInt) (hn : (pc : Int) + dflt = (n : Int)) (k : oRun G M n lv st m r m') : oRun G M pc lv (.int x :: st) m r m' := by
  intro p e R s mi args below meth c H locs ls cells slots Q C h1 h2 hP hS hl hr
  exact lv_tableOut C.1 C.2.1 hd h hn (k p e R s mi args below meth c H locs ls cells slots Q C h1 h2 hP hS hl hr)
theorem oRun.ldcS (n : Nat) {own : String} (ho : M.1.cls = RX9) (hd : decode M.2.1 pc = .ok (.ldc 111, 2)) (hn : pc + 2 = n) (k : oRun G M n lv (.ref 63 :: st) m r m') : oRun G M pc lv st m r m' := by
  subst hn
  intro p e R s mi args below meth c H locs ls cells slots Q C h1 h2 hP hS hl hr
  obtain ⟨-, -, -, ⟨a, v, e1, e2, hR, -⟩, -⟩ := C.2.2.2.2.2.1.2
  have k1 := (k p e R s mi args below meth c H locs ls cells slots Q C h1 h2 hP hS hl hr)
  have e3 : oCv G (.ref 63) = .ref a := e1
  rw [List.map_cons, e3] at k1
  exact va_ldcS C.1 C.2.1 (by rw [← ho]; exact C.2.2.2.1) hR hd k1
end ORUN
end
section
/-- a field's link, and what the tables say of it -/
def oFd (own : String) (idx ci k : Nat) : Prop := ∃ (C : String) (T : u_T) (N : Nat), vwCl[ci]? = some (C, T, N) ∧ k < N ∧ (∀ w ∈ u_ws C T N, w ∈ oTB) ∧ Cond.fieldLink own idx (T k).1 (T k).2.1 (T k).2.2.1 ∈ oTB
def oFp (own : String) (idx ci k : Nat) (ty : FieldType) : Prop := ∃ (C : String) (T : u_T) (N : Nat) (t0 : Nat → FieldType), vwCl[ci]? = some (C, T, N) ∧ k < N ∧ (∀ w ∈ u_ws C T N, w ∈ oTB) ∧ Cond.fieldLink own idx (T k).1 (T k).2.1 (T k).2.2.1 ∈ oTB ∧
  (∀ k, k < N → parseFieldDescriptor (T k).2.2.1 = some (t0 k)) ∧ (∀ a, a < N → ∀ b, b < N → a ≠ b → (T a).2.1 ≠ (T b).2.1) ∧ (T k).2.2.2 = false ∧ parseFieldDescriptor (T k).2.2.1 = some ty
/-- a method that can be called: n arguments beside the receiver -/
def oMd (N : oD) (n : Nat) : Prop := Cond.initialized N.1.cls ∈ oTB ∧ Cond.code N.1 N.2.1 N.2.2.1 N.2.2.2.1 ∈ oTB ∧ (N.1.cls ≠ "java/lang/invoke/MethodHandle" ∧ N.1.cls ≠ "java/lang/invoke/VarHandle") ∧ (parseMethodDescriptor N.1.desc).map (fun d => d.parameters.length) = some n ∧ plainName N.1.cls = true ∧ N.2.2.2.2.cells = 0 ∧ N.2.2.2.2.slots = 0
def oLkV (own : String) (idx : Nat) (N : oD) (n : Nat) : Prop := Cond.methodLink own idx N.1 ∈ oTB ∧ Cond.instanceMethod N.1 ∈ oTB ∧ Cond.selects N.1.cls N.1 N.1 ∈ oTB ∧ oMd N n
def oLkS (own : String) (idx : Nat) (N : oD) (n : Nat) : Prop := Cond.methodLink own idx N.1 ∈ oTB ∧ Cond.static N.1 ∈ oTB ∧ oMd N n
def oLkN (own : String) (idx : Nat) (N : oD) (n : Nat) : Prop := (own, idx, N.1) ∈ oNW ∧ Cond.static N.1 ∈ oTB ∧ oMd N n
/-- a callee's room in its caller's -/
def oFit (N M : oD) : Prop := N.2.2.2.2.frames + 1 ≤ M.2.2.2.2.frames ∧ 8 + (N.2.2.1 + 11) + N.2.2.2.2.locals ≤ M.2.2.2.2.locals
abbrev oWs (N : oD) : List Cond := Cond.code N.1 N.2.1 N.2.2.1 N.2.2.2.1 :: oTB
theorem oSl_len : ∀ vs : List Value, (lg_sl vs).length = (vs.map fun v => v.category).sum
  | [] => rfl
  | v :: vs => by
    have ih := oSl_len vs
    unfold lg_sl at ih ⊢
    rw [List.flatMap_cons, List.length_append, ih, List.map_cons, List.sum_cons]
    rcases lv_cat v with h | h <;> simp [h]
section OMEM
variable {G : oG} {M : oD} {pc : Nat} {lv : List (Nat × Value)} {st : List Value} {m m' : oM} {r : Option Value}
theorem oCat_map (hs : ∀ p, (oSp G p).category = 1) (vs : List Value) : ((vs.map (oCv G)).map fun v => v.category) = vs.map fun v => v.category := by
  rw [List.map_map]
  apply List.map_congr_left
  intro v _
  exact oCv_cat G hs v
theorem oLv_args (hs : ∀ p, (oSp G p).category = 1) : ∀ (vs : List Value) (i : Nat), oLv G (lv_args i vs) = lv_args i (vs.map (oCv G))
  | [], i => rfl
  | v :: vs, i => by
    show (i, oCv G v) :: oLv G (lv_args _ vs) = (i, oCv G v) :: lv_args _ (vs.map (oCv G))
    rw [oLv_args hs vs, oCv_cat G hs v]

theorem oRun.getI {p0 idx ci k0 d : Nat} {fs : List (Nat × Nat)} (n : Nat) (hd : decode M.2.1 pc = .ok (.getfield idx, 3)) (hf : oFd M.1.cls idx ci k0) (hsh : oShp p0 = .inl (ci, fs)) (hk : fs[k0]? = some (0, d)) (hn : pc + 3 = n) (k : oRun G M n lv (Value.int (m.1 p0 k0) :: st) m r m') : oRun G M pc lv (.ref p0 :: st) m r m' := by
  subst hn
  intro p e R s mi args below meth c H locs ls cells slots Q C h1 h2 hP hS hl hr
  obtain ⟨cC, cT, cN, e1, e2, e3, e4⟩ := hf
  obtain ⟨e5, e6⟩ := oWl_ob (G := G) (m := m) hsh
  have k1 := (k p e R s mi args below meth c H locs ls cells slots Q C h1 h2 hP hS hl hr)
  rw [List.map_cons] at k1
  rw [List.map_cons, oCv_lt e5]
  refine va_get C.1 C.2.1 C.2.2.2.2.1 e3 C.2.2.2.1 C.2.2.2.2.2.1.1 hP p0 e6 e1 k0 e2 (C.2.2.2.2.1 _ e4) (fun x h => h) ?_ hd k1
  rw [oFs_at _ _ _ _ _ _ _ hk]
  simp [oCv]
theorem oRun.getL {p0 idx ci k0 d : Nat} {fs : List (Nat × Nat)} (n : Nat) (hd : decode M.2.1 pc = .ok (.getfield idx, 3)) (hf : oFd M.1.cls idx ci k0) (hsh : oShp p0 = .inl (ci, fs)) (hk : fs[k0]? = some (1, d)) (hn : pc + 3 = n) (k : oRun G M n lv (Value.long (m.2 p0 k0) :: st) m r m') : oRun G M pc lv (.ref p0 :: st) m r m' := by
  subst hn
  intro p e R s mi args below meth c H locs ls cells slots Q C h1 h2 hP hS hl hr
  obtain ⟨cC, cT, cN, e1, e2, e3, e4⟩ := hf
  obtain ⟨e5, e6⟩ := oWl_ob (G := G) (m := m) hsh
  have k1 := (k p e R s mi args below meth c H locs ls cells slots Q C h1 h2 hP hS hl hr)
  rw [List.map_cons] at k1
  rw [List.map_cons, oCv_lt e5]
  refine va_get C.1 C.2.1 C.2.2.2.2.1 e3 C.2.2.2.1 C.2.2.2.2.2.1.1 hP p0 e6 e1 k0 e2 (C.2.2.2.2.1 _ e4) (fun x h => h) ?_ hd k1
  rw [oFs_at _ _ _ _ _ _ _ hk]
  simp [oCv]
theorem oRun.getR {p0 idx ci k0 d : Nat} {fs : List (Nat × Nat)} (n : Nat) (hd : decode M.2.1 pc = .ok (.getfield idx, 3)) (hf : oFd M.1.cls idx ci k0) (hsh : oShp p0 = .inl (ci, fs)) (hk : fs[k0]? = some (2, d)) (hq : d < 61) (hn : pc + 3 = n) (k : oRun G M n lv (Value.ref d :: st) m r m') : oRun G M pc lv (.ref p0 :: st) m r m' := by
  subst hn
  intro p e R s mi args below meth c H locs ls cells slots Q C h1 h2 hP hS hl hr
  obtain ⟨cC, cT, cN, e1, e2, e3, e4⟩ := hf
  obtain ⟨e5, e6⟩ := oWl_ob (G := G) (m := m) hsh
  have k1 := (k p e R s mi args below meth c H locs ls cells slots Q C h1 h2 hP hS hl hr)
  rw [List.map_cons] at k1
  rw [List.map_cons, oCv_lt e5]
  refine va_get C.1 C.2.1 C.2.2.2.2.1 e3 C.2.2.2.1 C.2.2.2.2.2.1.1 hP p0 e6 e1 k0 e2 (C.2.2.2.2.1 _ e4) (fun x h => h) ?_ hd k1
  rw [oFs_at _ _ _ _ _ _ _ hk]
  simp [oCv, hq]
theorem oRun.putI {p0 idx ci k0 d : Nat} {fs : List (Nat × Nat)} {x : Int32} (n : Nat) (hd : decode M.2.1 pc = .ok (.putfield idx, 3)) (hf : oFp M.1.cls idx ci k0 .int) (hsh : oShp p0 = .inl (ci, fs)) (hk : fs[k0]? = some (0, d)) (hn : pc + 3 = n) (k : oRun G M n lv st (oSI m p0 k0 x) r m') : oRun G M pc lv (.int x :: .ref p0 :: st) m r m' := by
  subst hn
  intro p e R s mi args below meth c H locs ls cells slots Q C h1 h2 hP hS hl hr
  obtain ⟨cC, cT, cN, t0, e1, e2, e3, e4, f1, f2, f3, f4⟩ := hf
  obtain ⟨e5, e6⟩ := oWl_ob (G := G) (m := m) hsh
  rw [List.map_cons, List.map_cons, oCv_lt e5]
  refine va_put C.1 C.2.1 C.2.2.2.2.1 e3 t0 f1 f2 C.2.2.2.1 C.2.2.2.2.2.1.1 hP (oWl_D G m) hS p0 e6 e1 k0 e2 (C.2.2.2.2.1 _ e4) (fun x h => h) f3 f4 (v := .int x) rfl rfl (by rw [oFs_len]; exact (List.getElem?_eq_some_iff.mp hk).1) hd (fun H1 locs1 hP1 hD1 hS1 => ?_)
  refine k p e R s mi args below meth c H1 locs1 ls cells slots Q C h1 h2 ?_ hS1 hl hr
  rw [← oWl_set G m (oSI m p0 k0 x) p0 e5 (fun q hq => oE_SI_ne G m p0 k0 x q hq), oE_SI_f G m x hsh hk]
  exact hP1
theorem oRun.putZ {p0 idx ci k0 d : Nat} {fs : List (Nat × Nat)} {x : Int32} (n : Nat) (hd : decode M.2.1 pc = .ok (.putfield idx, 3)) (hf : oFp M.1.cls idx ci k0 .boolean) (hsh : oShp p0 = .inl (ci, fs)) (hk : fs[k0]? = some (0, d)) (hz : x = 0 ∨ x = 1) (hn : pc + 3 = n) (k : oRun G M n lv st (oSI m p0 k0 x) r m') : oRun G M pc lv (.int x :: .ref p0 :: st) m r m' := by
  subst hn
  intro p e R s mi args below meth c H locs ls cells slots Q C h1 h2 hP hS hl hr
  obtain ⟨cC, cT, cN, t0, e1, e2, e3, e4, f1, f2, f3, f4⟩ := hf
  obtain ⟨e5, e6⟩ := oWl_ob (G := G) (m := m) hsh
  rw [List.map_cons, List.map_cons, oCv_lt e5]
  refine va_put C.1 C.2.1 C.2.2.2.2.1 e3 t0 f1 f2 C.2.2.2.1 C.2.2.2.2.2.1.1 hP (oWl_D G m) hS p0 e6 e1 k0 e2 (C.2.2.2.2.1 _ e4) (fun x h => h) f3 f4 (v := .int x) (by rcases hz with rfl | rfl <;> rfl) (by rcases hz with rfl | rfl <;> rfl) (by rw [oFs_len]; exact (List.getElem?_eq_some_iff.mp hk).1) hd (fun H1 locs1 hP1 hD1 hS1 => ?_)
  refine k p e R s mi args below meth c H1 locs1 ls cells slots Q C h1 h2 ?_ hS1 hl hr
  rw [← oWl_set G m (oSI m p0 k0 x) p0 e5 (fun q hq => oE_SI_ne G m p0 k0 x q hq), oE_SI_f G m x hsh hk]
  exact hP1
theorem oRun.putL {p0 idx ci k0 d : Nat} {fs : List (Nat × Nat)} {x : Int64} (n : Nat) (hd : decode M.2.1 pc = .ok (.putfield idx, 3)) (hf : oFp M.1.cls idx ci k0 .long) (hsh : oShp p0 = .inl (ci, fs)) (hk : fs[k0]? = some (1, d)) (hn : pc + 3 = n) (k : oRun G M n lv st (oSL m p0 k0 x) r m') : oRun G M pc lv (.long x :: .ref p0 :: st) m r m' := by
  subst hn
  intro p e R s mi args below meth c H locs ls cells slots Q C h1 h2 hP hS hl hr
  obtain ⟨cC, cT, cN, t0, e1, e2, e3, e4, f1, f2, f3, f4⟩ := hf
  obtain ⟨e5, e6⟩ := oWl_ob (G := G) (m := m) hsh
  rw [List.map_cons, List.map_cons, oCv_lt e5]
  refine va_put C.1 C.2.1 C.2.2.2.2.1 e3 t0 f1 f2 C.2.2.2.1 C.2.2.2.2.2.1.1 hP (oWl_D G m) hS p0 e6 e1 k0 e2 (C.2.2.2.2.1 _ e4) (fun x h => h) f3 f4 (v := .long x) rfl rfl (by rw [oFs_len]; exact (List.getElem?_eq_some_iff.mp hk).1) hd (fun H1 locs1 hP1 hD1 hS1 => ?_)
  refine k p e R s mi args below meth c H1 locs1 ls cells slots Q C h1 h2 ?_ hS1 hl hr
  rw [← oWl_set G m (oSL m p0 k0 x) p0 e5 (fun q hq => oE_SL_ne G m p0 k0 x q hq), oE_SL_f G m x hsh hk]
  exact hP1
theorem oIn_of {p n : Nat} {i : Int32} {α : Type} {a b : α} (hp : p ≠ 62) (hs : ∃ kd, oShp p = .inr (kd, n)) (h : (if i < 0 ∨ oLn p ≤ i.toNatClampNeg then none else some a) = some b) : vp_in i n ∧ b = a := by
  obtain ⟨kd, hs⟩ := hs
  have hl : oLn p = n := by
    unfold oLn
    rw [if_neg hp, hs]
  rw [hl] at h
  by_cases hc : i < 0 ∨ n ≤ i.toNatClampNeg
  · rw [if_pos hc] at h; cases h
  · rw [if_neg hc] at h
    exact ⟨hc, (Option.some.inj h).symm⟩
theorem oShp62 : oShp 62 = .inr (2, 0) := rfl
/-- an array of ints: of the world, or ORDERS -/
def oIA (p : Nat) : Prop := p = 62 ∨ ∃ n, oShp p = .inr (0, n)
theorem oRun.iaload {p0 : Nat} {i x : Int32} (n : Nat) (hd : decode M.2.1 pc = .ok (.iaload, 1)) (hp : oIA p0) (hx : oAL m p0 i = some x) (hn : pc + 1 = n) (k : oRun G M n lv (.int x :: st) m r m') : oRun G M pc lv (.int i :: .ref p0 :: st) m r m' := by
  subst hn
  intro p e R s mi args below meth c H locs ls cells slots Q C h1 h2 hP hS hl hr
  have k1 := (k p e R s mi args below meth c H locs ls cells slots Q C h1 h2 hP hS hl hr)
  by_cases h62 : p0 = 62
  · subst h62
    obtain ⟨-, ⟨t, e1, e2, e3⟩, -⟩ := C.2.2.2.2.2.1.2
    have e4 : oCv G (.ref 62) = .ref t := e1
    rw [List.map_cons, List.map_cons, e4]
    have hx' : (if i < 0 ∨ 18 ≤ i.toNatClampNeg then none else some (oOR i.toNatClampNeg)) = some x := hx
    by_cases hc : i < 0 ∨ 18 ≤ i.toNatClampNeg
    · rw [if_pos hc] at hx'; cases hx'
    · rw [if_neg hc] at hx'
      cases hx'
      exact va_ti C.1 C.2.1 e3 hS hc rfl hd k1
  · rcases hp with hp | ⟨n, hp⟩
    · exact absurd hp h62
    · obtain ⟨hin, rfl⟩ := oIn_of h62 ⟨_, hp⟩ hx
      obtain ⟨e5, e6⟩ := oWl_ai (G := G) (m := m) hp
      rw [List.map_cons, List.map_cons, oCv_lt e5]
      have e7 : oRd m p0 i.toNatClampNeg = m.1 p0 i.toNatClampNeg := if_neg h62
      rw [e7] at k1
      exact va_iald C.1 C.2.1 C.2.2.2.2.2.1.1 hP p0 0 e6 rfl hin hd k1
theorem oRun.sload {i : Int32} (n : Nat) (hd : decode M.2.1 pc = .ok (.iaload, 1)) (hi : vp_in i (oXL G)) (hn : pc + 1 = n) (k : oRun G M n lv (.int (oXs G i.toNatClampNeg) :: st) m r m') : oRun G M pc lv (.int i :: .ref 64 :: st) m r m' := by
  subst hn
  intro p e R s mi args below meth c H locs ls cells slots Q C h1 h2 hP hS hl hr
  have k1 := (k p e R s mi args below meth c H locs ls cells slots Q C h1 h2 hP hS hl hr)
  obtain ⟨-, -, ⟨t, e1, e3⟩, -⟩ := C.2.2.2.2.2.1.2
  have e4 : oCv G (.ref 64) = .ref t := e1
  rw [List.map_cons, List.map_cons, e4]
  exact va_ti C.1 C.2.1 e3 hS hi rfl hd k1
theorem oRun.slen (n : Nat) (hd : decode M.2.1 pc = .ok (.arraylength, 1)) (hn : pc + 1 = n) (k : oRun G M n lv (.int (Int32.ofNat (oXL G)) :: st) m r m') : oRun G M pc lv (.ref 64 :: st) m r m' := by
  subst hn
  intro p e R s mi args below meth c H locs ls cells slots Q C h1 h2 hP hS hl hr
  have k1 := (k p e R s mi args below meth c H locs ls cells slots Q C h1 h2 hP hS hl hr)
  obtain ⟨-, -, ⟨t, e1, e3⟩, -⟩ := C.2.2.2.2.2.1.2
  have e4 : oCv G (.ref 64) = .ref t := e1
  rw [List.map_cons, e4]
  exact va_tlen C.1 C.2.1 e3 hS rfl hd k1
theorem oRun.iastore {p0 nn : Nat} {i x : Int32} {m1 : oM} (n : Nat) (hd : decode M.2.1 pc = .ok (.iastore, 1)) (hp : oShp p0 = .inr (0, nn)) (hx : oAS m p0 i x = some m1) (hn : pc + 1 = n) (k : oRun G M n lv st m1 r m') : oRun G M pc lv (.int x :: .int i :: .ref p0 :: st) m r m' := by
  subst hn
  intro p e R s mi args below meth c H locs ls cells slots Q C h1 h2 hP hS hl hr
  have h62 : p0 ≠ 62 := by intro h; subst h; rw [oShp62] at hp; cases hp
  obtain ⟨hin, rfl⟩ := oIn_of h62 ⟨_, hp⟩ hx
  obtain ⟨e5, e6⟩ := oWl_ai (G := G) (m := m) hp
  rw [List.map_cons, List.map_cons, List.map_cons, oCv_lt e5]
  refine va_iast C.1 C.2.1 C.2.2.2.2.2.1.1 hP (oWl_D G m) hS p0 0 e6 rfl hin hd (fun H1 locs1 hP1 hD1 hS1 => ?_)
  refine k p e R s mi args below meth c H1 locs1 ls cells slots Q C h1 h2 ?_ hS1 hl hr
  rw [← oWl_set G m (oSI m p0 i.toNatClampNeg x) p0 e5 (fun q hq => oE_SI_ne G m p0 _ x q hq), oE_SI_a G m x hp]
  exact hP1
theorem oRun.laload {p0 nn : Nat} {i : Int32} {x : Int64} (n : Nat) (hd : decode M.2.1 pc = .ok (.laload, 1)) (hp : oShp p0 = .inr (1, nn)) (hx : oALL m p0 i = some x) (hn : pc + 1 = n) (k : oRun G M n lv (.long x :: st) m r m') : oRun G M pc lv (.int i :: .ref p0 :: st) m r m' := by
  subst hn
  intro p e R s mi args below meth c H locs ls cells slots Q C h1 h2 hP hS hl hr
  have k1 := (k p e R s mi args below meth c H locs ls cells slots Q C h1 h2 hP hS hl hr)
  have h62 : p0 ≠ 62 := by intro h; subst h; rw [oShp62] at hp; cases hp
  obtain ⟨hin, rfl⟩ := oIn_of h62 ⟨_, hp⟩ hx
  obtain ⟨e5, e6⟩ := oWl_al (G := G) (m := m) hp
  rw [List.map_cons, List.map_cons, oCv_lt e5]
  exact va_lald C.1 C.2.1 C.2.2.2.2.2.1.1 hP p0 1 e6 rfl hin hd k1
theorem oRun.lastore {p0 nn : Nat} {i : Int32} {x : Int64} {m1 : oM} (n : Nat) (hd : decode M.2.1 pc = .ok (.lastore, 1)) (hp : oShp p0 = .inr (1, nn)) (hx : oASL m p0 i x = some m1) (hn : pc + 1 = n) (k : oRun G M n lv st m1 r m') : oRun G M pc lv (.long x :: .int i :: .ref p0 :: st) m r m' := by
  subst hn
  intro p e R s mi args below meth c H locs ls cells slots Q C h1 h2 hP hS hl hr
  have h62 : p0 ≠ 62 := by intro h; subst h; rw [oShp62] at hp; cases hp
  obtain ⟨hin, rfl⟩ := oIn_of h62 ⟨_, hp⟩ hx
  obtain ⟨e5, e6⟩ := oWl_al (G := G) (m := m) hp
  rw [List.map_cons, List.map_cons, List.map_cons, oCv_lt e5]
  refine va_last C.1 C.2.1 C.2.2.2.2.2.1.1 hP (oWl_D G m) hS p0 1 e6 rfl hin hd (fun H1 locs1 hP1 hD1 hS1 => ?_)
  refine k p e R s mi args below meth c H1 locs1 ls cells slots Q C h1 h2 ?_ hS1 hl hr
  rw [← oWl_set G m (oSL m p0 i.toNatClampNeg x) p0 e5 (fun q hq => oE_SL_ne G m p0 _ x q hq), oE_SL_a G m x hp]
  exact hP1
theorem oRun.alen {p0 kd nn : Nat} {v : Int32} (n : Nat) (hd : decode M.2.1 pc = .ok (.arraylength, 1)) (hp : oShp p0 = .inr (kd, nn)) (h61 : p0 < 61) (hkd : kd = 0 ∨ kd = 1) (hv : Int32.ofNat nn = v) (hn : pc + 1 = n) (k : oRun G M n lv (.int v :: st) m r m') : oRun G M pc lv (.ref p0 :: st) m r m' := by
  subst hn
  intro p e R s mi args below meth c H locs ls cells slots Q C h1 h2 hP hS hl hr
  have k1 := (k p e R s mi args below meth c H locs ls cells slots Q C h1 h2 hP hS hl hr)
  rw [List.map_cons, oCv_lt h61]
  rcases hkd with rfl | rfl
  · obtain ⟨-, e6⟩ := oWl_ai (G := G) (m := m) hp
    exact va_alen C.1 C.2.1 C.2.2.2.2.2.1.1 hP p0 0 e6 rfl hv hd k1
  · obtain ⟨-, e6⟩ := oWl_al (G := G) (m := m) hp
    exact va_alen C.1 C.2.1 C.2.2.2.2.2.1.1 hP p0 1 e6 rfl hv hd k1
/-- the length of an array of ints, ORDERS too -/
theorem oRun.aleni {p0 : Nat} (n : Nat) (hd : decode M.2.1 pc = .ok (.arraylength, 1)) (hp : oIA p0) (hn : pc + 1 = n) (k : oRun G M n lv (.int (Int32.ofNat (oLn p0)) :: st) m r m') : oRun G M pc lv (.ref p0 :: st) m r m' := by
  by_cases h62 : p0 = 62
  · subst h62
    subst hn
    intro p e R s mi args below meth c H locs ls cells slots Q C h1 h2 hP hS hl hr
    have k1 := (k p e R s mi args below meth c H locs ls cells slots Q C h1 h2 hP hS hl hr)
    obtain ⟨-, ⟨t, e1, e2, e3⟩, -⟩ := C.2.2.2.2.2.1.2
    have e4 : oCv G (.ref 62) = .ref t := e1
    rw [List.map_cons, e4]
    exact va_tlen C.1 C.2.1 e3 hS rfl hd k1
  · rcases hp with hp | ⟨nn, hp⟩
    · exact absurd hp h62
    · have hl : oLn p0 = nn := by
        unfold oLn
        rw [if_neg h62, hp]
      rw [hl] at k
      exact oRun.alen n hd hp (oShp_lt hp (by intro q; cases q)) (Or.inl rfl) rfl hn k
/-- the letters of KIND_LETTERS -/
theorem oRun.caload {i : Int32} (n : Nat) (hd : decode M.2.1 pc = .ok (.caload, 1)) (hi : vp_in i 6) (hn : pc + 1 = n) (k : oRun G M n lv (.int (oKL i.toNatClampNeg) :: st) m r m') : oRun G M pc lv (.int i :: .ref 61 :: st) m r m' := by
  subst hn
  intro p e R s mi args below meth c H locs ls cells slots Q C h1 h2 hP hS hl hr
  have k1 := (k p e R s mi args below meth c H locs ls cells slots Q C h1 h2 hP hS hl hr)
  obtain ⟨⟨t, e1, -, e3⟩, -⟩ := C.2.2.2.2.2.1.2
  have e4 : oCv G (.ref 61) = .ref t := e1
  rw [List.map_cons, List.map_cons, e4]
  exact va_tc C.1 C.2.1 e3 hS hi rfl hd k1
theorem oRun.clen (n : Nat) (hd : decode M.2.1 pc = .ok (.arraylength, 1)) (hn : pc + 1 = n) (k : oRun G M n lv (.int 6 :: st) m r m') : oRun G M pc lv (.ref 61 :: st) m r m' := by
  subst hn
  intro p e R s mi args below meth c H locs ls cells slots Q C h1 h2 hP hS hl hr
  have k1 := (k p e R s mi args below meth c H locs ls cells slots Q C h1 h2 hP hS hl hr)
  obtain ⟨⟨t, e1, -, e3⟩, -⟩ := C.2.2.2.2.2.1.2
  have e4 : oCv G (.ref 61) = .ref t := e1
  rw [List.map_cons, e4]
  exact va_tlen C.1 C.2.1 e3 hS rfl hd k1
theorem oRun.gets61 {idx : Nat} (n : Nat) (hd : decode M.2.1 pc = .ok (.getstatic idx, 3)) (hk : Cond.fieldLink M.1.cls idx RX8 "KIND_LETTERS" "[C" ∈ oTB) (hn : pc + 3 = n) (k : oRun G M n lv (.ref 61 :: st) m r m') : oRun G M pc lv st m r m' := by
  subst hn
  intro p e R s mi args below meth c H locs ls cells slots Q C h1 h2 hP hS hl hr
  have k1 := (k p e R s mi args below meth c H locs ls cells slots Q C h1 h2 hP hS hl hr)
  obtain ⟨⟨t, e1, e2, -⟩, -⟩ := C.2.2.2.2.2.1.2
  have e4 : oCv G (.ref 61) = .ref t := e1
  rw [List.map_cons, e4] at k1
  exact va_gets C.1 C.2.1 e2 hS C.2.2.2.1 (C.2.2.2.2.1 _ hk) (fun x h => h) hd k1
theorem oRun.gets62 {idx : Nat} (n : Nat) (hd : decode M.2.1 pc = .ok (.getstatic idx, 3)) (hk : Cond.fieldLink M.1.cls idx RX8 "ORDERS" "[I" ∈ oTB) (hn : pc + 3 = n) (k : oRun G M n lv (.ref 62 :: st) m r m') : oRun G M pc lv st m r m' := by
  subst hn
  intro p e R s mi args below meth c H locs ls cells slots Q C h1 h2 hP hS hl hr
  have k1 := (k p e R s mi args below meth c H locs ls cells slots Q C h1 h2 hP hS hl hr)
  obtain ⟨-, ⟨t, e1, e2, -⟩, -⟩ := C.2.2.2.2.2.1.2
  have e4 : oCv G (.ref 62) = .ref t := e1
  rw [List.map_cons, e4] at k1
  exact va_gets C.1 C.2.1 e2 hS C.2.2.2.1 (C.2.2.2.2.1 _ hk) (fun x h => h) hd k1
theorem oRun.gets66 {idx : Nat} (n : Nat) (hd : decode M.2.1 pc = .ok (.getstatic idx, 3)) (hk : Cond.fieldLink M.1.cls idx "jdk/internal/util/Preconditions" "SIOOBE_FORMATTER" "Ljava/util/function/BiFunction;" ∈ oTB) (hn : pc + 3 = n) (k : oRun G M n lv (.ref 66 :: st) m r m') : oRun G M pc lv st m r m' := by
  subst hn
  intro p e R s mi args below meth c H locs ls cells slots Q C h1 h2 hP hS hl hr
  have k1 := (k p e R s mi args below meth c H locs ls cells slots Q C h1 h2 hP hS hl hr)
  obtain ⟨-, -, -, -, -, e2, -⟩ := C.2.2.2.2.2.1.2
  exact va_gets C.1 C.2.1 e2 hS C.2.2.2.1 (C.2.2.2.2.1 _ hk) (fun x h => h) hd k1
theorem oRun.getsCS {idx : Nat} (n : Nat) (hd : decode M.2.1 pc = .ok (.getstatic idx, 3)) (hk : Cond.fieldLink M.1.cls idx "java/lang/String" "COMPACT_STRINGS" "Z" ∈ oTB) (hn : pc + 3 = n) (k : oRun G M n lv (.int 1 :: st) m r m') : oRun G M pc lv st m r m' := by
  subst hn
  intro p e R s mi args below meth c H locs ls cells slots Q C h1 h2 hP hS hl hr
  have k1 := (k p e R s mi args below meth c H locs ls cells slots Q C h1 h2 hP hS hl hr)
  obtain ⟨-, -, -, -, e2, -⟩ := C.2.2.2.2.2.1.2
  exact va_gets C.1 C.2.1 e2 hS C.2.2.2.1 (C.2.2.2.2.1 _ hk) (fun x h => h) hd k1
theorem oRun.getCoder {idx : Nat} (n : Nat) (hd : decode M.2.1 pc = .ok (.getfield idx, 3)) (hk : Cond.fieldLink M.1.cls idx "java/lang/String" "coder" "B" ∈ oTB) (hn : pc + 3 = n) (k : oRun G M n lv (.int 0 :: st) m r m') : oRun G M pc lv (.ref 63 :: st) m r m' := by
  subst hn
  intro p e R s mi args below meth c H locs ls cells slots Q C h1 h2 hP hS hl hr
  have k1 := (k p e R s mi args below meth c H locs ls cells slots Q C h1 h2 hP hS hl hr)
  obtain ⟨-, -, -, ⟨a, v, e1, e2, -, -, e5, -⟩, -⟩ := C.2.2.2.2.2.1.2
  have e4 : oCv G (.ref 63) = .ref a := e1
  rw [List.map_cons, e4]
  exact vk_getf C.1 C.2.1 e5 hS C.2.2.2.1 (C.2.2.2.2.1 _ hk) (fun x h => h) hd k1
theorem oRun.getValue {idx : Nat} (n : Nat) (hd : decode M.2.1 pc = .ok (.getfield idx, 3)) (hk : Cond.fieldLink M.1.cls idx "java/lang/String" "value" "[B" ∈ oTB) (hn : pc + 3 = n) (k : oRun G M n lv (.ref 65 :: st) m r m') : oRun G M pc lv (.ref 63 :: st) m r m' := by
  subst hn
  intro p e R s mi args below meth c H locs ls cells slots Q C h1 h2 hP hS hl hr
  have k1 := (k p e R s mi args below meth c H locs ls cells slots Q C h1 h2 hP hS hl hr)
  obtain ⟨-, -, -, ⟨a, v, e1, e2, -, -, -, e6, -⟩, -⟩ := C.2.2.2.2.2.1.2
  have e4 : oCv G (.ref 63) = .ref a := e1
  have e5 : oCv G (.ref 65) = .ref v := e2
  rw [List.map_cons, e5] at k1
  rw [List.map_cons, e4]
  exact vk_getf C.1 C.2.1 e6 hS C.2.2.2.1 (C.2.2.2.2.1 _ hk) (fun x h => h) hd k1
theorem oRun.baload {i : Int32} (n : Nat) (hd : decode M.2.1 pc = .ok (.baload, 1)) (hi : vp_in i 6) (hn : pc + 1 = n) (k : oRun G M n lv (.int (oKL i.toNatClampNeg) :: st) m r m') : oRun G M pc lv (.int i :: .ref 65 :: st) m r m' := by
  subst hn
  intro p e R s mi args below meth c H locs ls cells slots Q C h1 h2 hP hS hl hr
  have k1 := (k p e R s mi args below meth c H locs ls cells slots Q C h1 h2 hP hS hl hr)
  obtain ⟨-, -, -, ⟨a, v, e1, e2, -, -, -, -, e7⟩, -⟩ := C.2.2.2.2.2.1.2
  have e5 : oCv G (.ref 65) = .ref v := e2
  rw [List.map_cons, List.map_cons, e5]
  exact va_tb C.1 C.2.1 e7 hS hi rfl hd k1
theorem oRun.blen (n : Nat) (hd : decode M.2.1 pc = .ok (.arraylength, 1)) (hn : pc + 1 = n) (k : oRun G M n lv (.int 6 :: st) m r m') : oRun G M pc lv (.ref 65 :: st) m r m' := by
  subst hn
  intro p e R s mi args below meth c H locs ls cells slots Q C h1 h2 hP hS hl hr
  have k1 := (k p e R s mi args below meth c H locs ls cells slots Q C h1 h2 hP hS hl hr)
  obtain ⟨-, -, -, ⟨a, v, e1, e2, -, -, -, -, e7⟩, -⟩ := C.2.2.2.2.2.1.2
  have e5 : oCv G (.ref 65) = .ref v := e2
  rw [List.map_cons, e5]
  exact va_tlen C.1 C.2.1 e7 hS rfl hd k1
-- calls
theorem oEv.met {N : oD} {n : Nat} {as : List Value} {r1 : Option Value} {m1 : oM} (hm : oMd N n) (hw : (as.map fun v => v.category).sum ≤ N.2.2.1) (hs : ∀ p, (oSp G p).category = 1) (h : oEv G N as m r1 m1) :
    Met (oL G) N.1 (oWs N) N.2.2.2.2 (va_Pc (as.map (oCv G)) (fun U => va_P (oDD G) vwCl (oWl G m) U.heap ∧ oW G U)) (fun _ st oc t => oc = .returned (r1.map (oCv G)) ∧ va_P (oDD G) vwCl (oWl G m1) t.heap ∧ va_F (oA G) st t) 0 0 (oA G) := by
  refine Met.ofW (cc := N.2.1) (maxL := N.2.2.1) (ret := N.2.2.2.1) hm.2.2.2.2.1 rfl ?_
  intro p e s mi args below meth c s₁ B hml hv
  obtain ⟨rfl, hP, hW⟩ := hv
  have hts := atoms_spec (ws := oWs N) B.pre
  have hown : s.vm.findClass N.1.cls = some mi.cls := findClass_of_methodNamed B.named
  have hlocks := B.notSynchronized
  have hr := B.returns
  have hl := lv_entry (as.map (oCv G)) (n := N.2.2.1) (by rw [oSl_len, oCat_map hs]; exact hw)
  rw [lg_entry_eq]
  rw [← oLv_args hs] at hl
  refine h.1 p e _ s mi (as.map (oCv G)).toArray below meth c s.heap [] _ 0 0 _ ⟨B.exec, B.bytes, hml, hown, fun w hw => hts w (List.mem_cons_of_mem _ hw), hW, Nat.le_refl _, Nat.le_refl _⟩ (Nat.zero_le _) (Nat.zero_le _) hP va_S.rf hl ?_
  intro H' locs' ls' pc' hP' hS' hd
  have hok := h.2
  have post : ∀ t : State, t.heap = H' → s.WarmedH t.vm → (Outcome.returned (r1.map (oCv G)) = .returned (r1.map (oCv G)) ∧ va_P (oDD G) vwCl (oWl G m1) t.heap ∧ va_F (oA G) s t) := fun t ht _ => ⟨rfl, by rw [ht]; exact hP', hS'.F ht⟩
  cases r1 with
  | none =>
    cases hq : N.2.2.2.1 with
    | none =>
      rw [hq] at hr
      exact W.vret B.exec B.bytes hr post hS'.2.2 hd
    | some ty => rw [hq] at hok; cases ty <;> exact hok.elim
  | some v =>
    cases hq : N.2.2.2.1 with
    | none => rw [hq] at hok; cases v <;> exact hok.elim
    | some ty =>
      rw [hq] at hok hr
      cases v with
      | int x =>
        have post' : ∀ t : State, t.heap = H' → s.WarmedH t.vm → (Outcome.returned (some (.int x)) = .returned ((some (Value.int x)).map (oCv G)) ∧ va_P (oDD G) vwCl (oWl G m1) t.heap ∧ va_F (oA G) s t) := post
        cases ty with
        | int => exact W.iret B.exec B.bytes hr post' hS'.2.2 hd
        | boolean => exact W.zret B.exec B.bytes hr (by rcases hok with rfl | rfl <;> rfl) post' hS'.2.2 hd
        | char => exact W.zret B.exec B.bytes hr hok post' hS'.2.2 hd
        | _ => exact hok.elim
      | long x =>
        have post' : ∀ t : State, t.heap = H' → s.WarmedH t.vm → (Outcome.returned (some (.long x)) = .returned ((some (Value.long x)).map (oCv G)) ∧ va_P (oDD G) vwCl (oWl G m1) t.heap ∧ va_F (oA G) s t) := post
        cases ty with
        | long => exact W.lret B.exec B.bytes hr post' hS'.2.2 hd
        | _ => exact hok.elim
      | _ => cases ty <;> exact hok.elim
theorem oBlind {B : State → Prop} {av : List Value} (h : ∀ (U : State) (g : JFrame) (mk : MethodId) (a : Array Value), B U → B (U.calling g mk a)) : FrameBlind (va_Pc av B) := fun a U g mk q => ⟨q.1, h U g mk a q.2⟩
theorem oBlindW (m : oM) (U : State) (g : JFrame) (mk : MethodId) (a : Array Value) (h : va_P (oDD G) vwCl (oWl G m) U.heap ∧ oW G U) : va_P (oDD G) vwCl (oWl G m) (U.calling g mk a).heap ∧ oW G (U.calling g mk a) := ⟨h.1, oW_calling g mk a h.2⟩
end OMEM
section OCALL
variable {p : Program} {e : Env} {R : Room} {s : State} {mi : MethodId} {args : Array Value} {below : List Frame} {meth : Method} {c : Code} {H : Heap} {locs : List Loc} {cells slots : Nat} {Q : State → Prop} {G : oG}
theorem oCall_go {pc : Nat} {ls : Array Slot} {st0 rest : List Value} {r1 : Option Value} {m1 : oM}
    (hr : va_Run p (oL G) e R s mi args below meth c H locs cells slots 0 0 (F0 mi pc ls st0) rest (fun st oc t => oc = .returned (r1.map (oCv G)) ∧ va_P (oDD G) vwCl (oWl G m1) t.heap ∧ va_F (oA G) st t) (oA G)) (hS : va_S (oA G) s.heap H locs)
    (kk : ∀ (H1 : Heap) (locs1 : List Loc), va_P (oDD G) vwCl (oWl G m1) H1 → va_S (oA G) s.heap H1 locs1 → W p (oL G) e R s mi args below meth c H1 locs1 cells slots Q (F0 mi (pc + 3) ls ((r1.map (oCv G)).toList ++ rest))) :
    W p (oL G) e R s mi args below meth c H locs cells slots Q (F0 mi pc ls st0) := by
  intro T hT X
  obtain ⟨v, st₀, t, T', L, h0, X', hL, e1, e2, ⟨hv, hp, hz, hk⟩, st⟩ := hr T hT X
  cases hv
  rw [h0] at hz hk
  obtain ⟨t2, a1, b1⟩ := kk T'.heap (locs ++ L) (by rw [e1]; exact hp) ⟨Nat.le_trans hS.1 (by rw [e1]; exact hz), fun q h1 h2 => by rw [e1, hk q (Nat.lt_of_lt_of_le h1 hS.1) h2]; exact hS.2.1 q h1 h2, fun q hq => by
      rcases List.mem_append.mp hq with h | h
      · exact hS.2.2 q h
      · exact hL q h⟩ T' rfl X'
  exact ⟨t2, st t2 a1, b1⟩
end OCALL
section ORUNC
variable {G : oG} {M : oD} {pc : Nat} {lv : List (Nat × Value)} {st : List Value} {m m' : oM} {r : Option Value}
theorem oRun.callV {N : oD} {o1 n1 idx ci : Nat} {as stk : List Value} {r1 : Option Value} {m1 : oM} {fs : List (Nat × Nat)} {q : vw_C} (n : Nat) (hd : decode M.2.1 pc = .ok (.invokevirtual idx, 3)) (hk : oLkV M.1.cls idx N n1) (hf : oFit N M) (hsh : oShp o1 = .inl (ci, fs)) (hc : vwCl[ci]? = some q) (hcq : q.1 = N.1.cls) (hn1 : as.length = n1)
    (hw : (st.map fun v => v.category).sum ≤ 8) (hwa : ((Value.ref o1 :: as).map fun v => v.category).sum ≤ N.2.2.1) (hst : stk = as.reverse ++ .ref o1 :: st) (hv : oEv G N (.ref o1 :: as) m r1 m1) (hn : pc + 3 = n) (k : oRun G M n lv (r1.toList ++ st) m1 r m') : oRun G M pc lv stk m r m' := by
  subst hn; subst hst
  intro p e R s mi args below meth c H locs ls cells slots Q C h1 h2 hP hS hl hr
  obtain ⟨k1, k2, k3, hm⟩ := hk
  have hs := C.2.2.2.2.2.1.2.2.2.2.2.2.2.1
  obtain ⟨e5, e6⟩ := oWl_ob (G := G) (m := m) hsh
  have hgood : ∀ w ∈ oWs N, ∀ (a' : Array Value) (U : State), s.WarmedH U.vm → w.before a' U = true := fun w hw' a' U hU => by
    have hw2 : w ∈ oTB := (List.mem_cons.mp hw').elim (fun h => h ▸ hm.2.1) id
    exact word_at hU (oTB_good w hw2) (C.2.2.2.2.1 _ hw2)
  have hrun := va_runV (l := oL G) (e := e) (below := below) (meth := meth) (H := H) (locs := locs) (cells := cells) (slots := slots) (As := as.map (oCv G)) (rest := st.map (oCv G)) (b := oB G + o1) (C := N.1.cls) (g := F0 mi pc ls ((as.map (oCv G)).reverse ++ .ref (oB G + o1) :: st.map (oCv G))) (R := R) ⟨C.1, C.2.1, C.2.2.1, C.2.2.2.1, C.2.2.2.2.1⟩ (hv.met hm hwa hs)
    (⟨⟨hm.2.2.2.2.2.1, hm.2.2.2.2.2.2, Nat.le_trans hf.1 C.2.2.2.2.2.2.1, Nat.le_trans hf.2 C.2.2.2.2.2.2.2, hgood, List.mem_cons_self, C.2.2.2.2.1 _ hm.2.1, C.2.2.2.2.1 _ hm.1, hm.2.2.1, fun sig h => by have h2 := hm.2.2.2.1; rw [h] at h2; exact (Option.some.inj h2).symm, C.2.2.2.2.1 _ k1⟩, C.2.2.2.2.1 _ k2, C.2.2.2.2.1 _ k3⟩ : CallW R s args M.1.cls N.1.cls idx N.1 N.2.1 N.2.2.1 N.2.2.2.1 (oWs N) N.2.2.2.2 0 0 n1)
    ⟨oBlind (oBlindW m), by have h := va_recv C.2.2.2.2.2.1.1 hP hc e6; rwa [hcq] at h, fun U hU hW => ⟨by rw [List.map_cons, oCv_lt e5], by rw [hU]; exact hP, oW_moved hW (fun a h1 h2 => by rw [hU]; exact hS.2.1 a h1 h2) C.2.2.2.2.2.1⟩⟩
    rfl (by rw [List.length_map]; exact hn1) hl.1 rfl (lv_room (by rw [oCat_map hs]; exact hw)) hd ⟨h1, h2⟩
  have e7 : (as.reverse ++ Value.ref o1 :: st).map (oCv G) = (as.map (oCv G)).reverse ++ .ref (oB G + o1) :: st.map (oCv G) := by
    rw [List.map_append, List.map_reverse, List.map_cons, oCv_lt e5]
  rw [e7]
  refine oCall_go hrun hS (fun H1 locs1 hP1 hS1 => ?_)
  have k4 := k p e R s mi args below meth c H1 locs1 ls cells slots Q C h1 h2 hP1 hS1 hl hr
  have e8 : (r1.toList ++ st).map (oCv G) = (r1.map (oCv G)).toList ++ st.map (oCv G) := by cases r1 <;> simp
  rwa [e8] at k4
theorem oRun.callStr {N : oD} {n1 idx : Nat} {as stk : List Value} {r1 : Option Value} {m1 : oM} (n : Nat) (hd : decode M.2.1 pc = .ok (.invokevirtual idx, 3)) (hk : oLkV M.1.cls idx N n1) (hf : oFit N M) (hcq : N.1.cls = "java/lang/String") (hn1 : as.length = n1)
    (hw : (st.map fun v => v.category).sum ≤ 8) (hwa : ((Value.ref 63 :: as).map fun v => v.category).sum ≤ N.2.2.1) (hst : stk = as.reverse ++ .ref 63 :: st) (hv : oEv G N (.ref 63 :: as) m r1 m1) (hn : pc + 3 = n) (k : oRun G M n lv (r1.toList ++ st) m1 r m') : oRun G M pc lv stk m r m' := by
  subst hn; subst hst
  intro p e R s mi args below meth c H locs ls cells slots Q C h1 h2 hP hS hl hr
  obtain ⟨k1, k2, k3, hm⟩ := hk
  have hs := C.2.2.2.2.2.1.2.2.2.2.2.2.2.1
  obtain ⟨-, -, -, ⟨a, v, e1, e2, -, e4, -⟩, -⟩ := C.2.2.2.2.2.1.2
  have e5 : oCv G (.ref 63) = .ref a := e1
  have hgood : ∀ w ∈ oWs N, ∀ (a' : Array Value) (U : State), s.WarmedH U.vm → w.before a' U = true := fun w hw' a' U hU => by
    have hw2 : w ∈ oTB := (List.mem_cons.mp hw').elim (fun h => h ▸ hm.2.1) id
    exact word_at hU (oTB_good w hw2) (C.2.2.2.2.1 _ hw2)
  have hrun := va_runV (l := oL G) (e := e) (below := below) (meth := meth) (H := H) (locs := locs) (cells := cells) (slots := slots) (As := as.map (oCv G)) (rest := st.map (oCv G)) (b := a) (C := N.1.cls) (g := F0 mi pc ls ((as.map (oCv G)).reverse ++ .ref a :: st.map (oCv G))) (R := R) ⟨C.1, C.2.1, C.2.2.1, C.2.2.2.1, C.2.2.2.2.1⟩ (hv.met hm hwa hs)
    (⟨⟨hm.2.2.2.2.2.1, hm.2.2.2.2.2.2, Nat.le_trans hf.1 C.2.2.2.2.2.2.1, Nat.le_trans hf.2 C.2.2.2.2.2.2.2, hgood, List.mem_cons_self, C.2.2.2.2.1 _ hm.2.1, C.2.2.2.2.1 _ hm.1, hm.2.2.1, fun sig h => by have h2 := hm.2.2.2.1; rw [h] at h2; exact (Option.some.inj h2).symm, C.2.2.2.2.1 _ k1⟩, C.2.2.2.2.1 _ k2, C.2.2.2.2.1 _ k3⟩ : CallW R s args M.1.cls N.1.cls idx N.1 N.2.1 N.2.2.1 N.2.2.2.1 (oWs N) N.2.2.2.2 0 0 n1)
    ⟨oBlind (oBlindW m), by
      obtain ⟨cell, f1, f2, f3, -⟩ := e4.kept hS.2.1
      exact ⟨cell, f1, f2, by rw [hcq]; exact f3⟩, fun U hU hW => ⟨by rw [List.map_cons, e5], by rw [hU]; exact hP, oW_moved hW (fun a h1 h2 => by rw [hU]; exact hS.2.1 a h1 h2) C.2.2.2.2.2.1⟩⟩
    rfl (by rw [List.length_map]; exact hn1) hl.1 rfl (lv_room (by rw [oCat_map hs]; exact hw)) hd ⟨h1, h2⟩
  have e7 : (as.reverse ++ Value.ref 63 :: st).map (oCv G) = (as.map (oCv G)).reverse ++ .ref a :: st.map (oCv G) := by
    rw [List.map_append, List.map_reverse, List.map_cons, e5]
  rw [e7]
  refine oCall_go hrun hS (fun H1 locs1 hP1 hS1 => ?_)
  have k4 := k p e R s mi args below meth c H1 locs1 ls cells slots Q C h1 h2 hP1 hS1 hl hr
  have e8 : (r1.toList ++ st).map (oCv G) = (r1.map (oCv G)).toList ++ st.map (oCv G) := by cases r1 <;> simp
  rwa [e8] at k4
theorem oRun.callS {N : oD} {n1 idx : Nat} {as stk : List Value} {r1 : Option Value} {m1 : oM} (n : Nat) (hd : decode M.2.1 pc = .ok (.invokestatic idx, 3)) (hk : oLkS M.1.cls idx N n1) (hf : oFit N M) (hn1 : as.length = n1)
    (hw : (st.map fun v => v.category).sum ≤ 8) (hwa : (as.map fun v => v.category).sum ≤ N.2.2.1) (hst : stk = as.reverse ++ st) (hv : oEv G N as m r1 m1) (hn : pc + 3 = n) (k : oRun G M n lv (r1.toList ++ st) m1 r m') : oRun G M pc lv stk m r m' := by
  subst hn; subst hst
  intro p e R s mi args below meth c H locs ls cells slots Q C h1 h2 hP hS hl hr
  obtain ⟨k1, k2, hm⟩ := hk
  have hs := C.2.2.2.2.2.1.2.2.2.2.2.2.2.1
  have hgood : ∀ w ∈ oWs N, ∀ (a' : Array Value) (U : State), s.WarmedH U.vm → w.before a' U = true := fun w hw' a' U hU => by
    have hw2 : w ∈ oTB := (List.mem_cons.mp hw').elim (fun h => h ▸ hm.2.1) id
    exact word_at hU (oTB_good w hw2) (C.2.2.2.2.1 _ hw2)
  have hrun := va_runS (l := oL G) (e := e) (below := below) (meth := meth) (H := H) (locs := locs) (cells := cells) (slots := slots) (As := as.map (oCv G)) (rest := st.map (oCv G)) (g := F0 mi pc ls ((as.map (oCv G)).reverse ++ st.map (oCv G))) (R := R) ⟨C.1, C.2.1, C.2.2.1, C.2.2.2.1, C.2.2.2.2.1⟩ (hv.met hm hwa hs)
    (⟨⟨hm.2.2.2.2.2.1, hm.2.2.2.2.2.2, Nat.le_trans hf.1 C.2.2.2.2.2.2.1, Nat.le_trans hf.2 C.2.2.2.2.2.2.2, hgood, List.mem_cons_self, C.2.2.2.2.1 _ hm.2.1, C.2.2.2.2.1 _ hm.1, hm.2.2.1, fun sig h => by have h2 := hm.2.2.2.1; rw [h] at h2; exact (Option.some.inj h2).symm, C.2.2.2.2.1 _ k1⟩, C.2.2.2.2.1 _ k2⟩ : CallB R s args M.1.cls idx N.1 N.2.1 N.2.2.1 N.2.2.2.1 (oWs N) N.2.2.2.2 0 0 n1 ∧ (Cond.static N.1).before args s = true)
    ⟨oBlind (oBlindW m), fun U hU hW => ⟨rfl, by rw [hU]; exact hP, oW_moved hW (fun a h1 h2 => by rw [hU]; exact hS.2.1 a h1 h2) C.2.2.2.2.2.1⟩⟩
    rfl (by rw [List.length_map]; exact hn1) hl.1 rfl (lv_room (by rw [oCat_map hs]; exact hw)) hd ⟨h1, h2⟩
  have e7 : (as.reverse ++ st).map (oCv G) = (as.map (oCv G)).reverse ++ st.map (oCv G) := by
    rw [List.map_append, List.map_reverse]
  rw [e7]
  refine oCall_go hrun hS (fun H1 locs1 hP1 hS1 => ?_)
  have k4 := k p e R s mi args below meth c H1 locs1 ls cells slots Q C h1 h2 hP1 hS1 hl hr
  have e8 : (r1.toList ++ st).map (oCv G) = (r1.map (oCv G)).toList ++ st.map (oCv G) := by cases r1 <;> simp
  rwa [e8] at k4
theorem oRun.callN {N : oD} {n1 idx : Nat} {as stk : List Value} {r1 : Option Value} {m1 : oM} (n : Nat) (hd : decode M.2.1 pc = .ok (.invokestatic idx, 3)) (hk : oLkN M.1.cls idx N n1) (hf : oFit N M) (hn1 : as.length = n1)
    (hw : (st.map fun v => v.category).sum ≤ 8) (hwa : (as.map fun v => v.category).sum ≤ N.2.2.1) (hst : stk = as.reverse ++ st) (hv : oEv G N as m r1 m1) (hn : pc + 3 = n) (k : oRun G M n lv (r1.toList ++ st) m1 r m') : oRun G M pc lv stk m r m' := by
  subst hn; subst hst
  intro p e R s mi args below meth c H locs ls cells slots Q C h1 h2 hP hS hl hr
  obtain ⟨k1, k2, hm⟩ := hk
  have hs := C.2.2.2.2.2.1.2.2.2.2.2.2.2.1
  have hnw : va_Nw (.methodLinkNest M.1.cls idx N.1 "OrreryTrains") s := C.2.2.2.2.2.1.2.2.2.2.2.2.2.2 _ k1
  have hgood : ∀ w ∈ oWs N, ∀ (a' : Array Value) (U : State), s.WarmedH U.vm → w.before a' U = true := fun w hw' a' U hU => by
    have hw2 : w ∈ oTB := (List.mem_cons.mp hw').elim (fun h => h ▸ hm.2.1) id
    exact word_at hU (oTB_good w hw2) (C.2.2.2.2.1 _ hw2)
  have hrun := va_runSN (l := oL G) (e := e) (below := below) (meth := meth) (H := H) (locs := locs) (cells := cells) (slots := slots) (As := as.map (oCv G)) (rest := st.map (oCv G)) (g := F0 mi pc ls ((as.map (oCv G)).reverse ++ st.map (oCv G))) (R := R) (host := "OrreryTrains") ⟨C.1, C.2.1, C.2.2.1, C.2.2.2.1, C.2.2.2.2.1⟩ (hv.met hm hwa hs)
    (⟨⟨⟨hm.2.2.2.2.2.1, hm.2.2.2.2.2.2, Nat.le_trans hf.1 C.2.2.2.2.2.2.1, Nat.le_trans hf.2 C.2.2.2.2.2.2.2, hgood, List.mem_cons_self⟩, C.2.2.2.2.1 _ hm.2.1, C.2.2.2.2.1 _ hm.1, hm.2.2.1, fun sig h => by have h2 := hm.2.2.2.1; rw [h] at h2; exact (Option.some.inj h2).symm, va_Nw.use rfl hnw⟩, C.2.2.2.2.1 _ k2, trivial⟩ : va_CN R s args M.1.cls idx N.1 "OrreryTrains" N.2.1 N.2.2.1 N.2.2.2.1 (oWs N) N.2.2.2.2 0 0 n1 ∧ (Cond.static N.1).before args s = true ∧ True)
    ⟨oBlind (oBlindW m), fun U hU hW => ⟨rfl, by rw [hU]; exact hP, oW_moved hW (fun a h1 h2 => by rw [hU]; exact hS.2.1 a h1 h2) C.2.2.2.2.2.1⟩⟩
    rfl (by rw [List.length_map]; exact hn1) hl.1 rfl (lv_room (by rw [oCat_map hs]; exact hw)) hd ⟨h1, h2⟩
  have e7 : (as.reverse ++ st).map (oCv G) = (as.map (oCv G)).reverse ++ st.map (oCv G) := by
    rw [List.map_append, List.map_reverse]
  rw [e7]
  refine oCall_go hrun hS (fun H1 locs1 hP1 hS1 => ?_)
  have k4 := k p e R s mi args below meth c H1 locs1 ls cells slots Q C h1 h2 hP1 hS1 hl hr
  have e8 : (r1.toList ++ st).map (oCv G) = (r1.map (oCv G)).toList ++ st.map (oCv G) := by cases r1 <;> simp
  rwa [e8] at k4
end ORUNC
theorem oLc_lt (x y : Int64) : lg_cmp x y < 0 ↔ x < y := by
  unfold lg_cmp
  by_cases h1 : y < x
  · simp [h1]; exact Int64.not_lt.mp (Int64.lt_asymm h1)
  · by_cases h2 : x = y
    · subst h2; simp [Int64.lt_irrefl]
    · simp [h1, h2]; exact Int64.lt_of_le_of_ne (Int64.not_lt.mp h1) h2
theorem oLc_gt (x y : Int64) : 0 < lg_cmp x y ↔ y < x := by
  unfold lg_cmp
  by_cases h1 : y < x
  · simp [h1]
  · by_cases h2 : x = y
    · subst h2; simp [Int64.lt_irrefl]
    · simp [h1, h2]
theorem oLc_eq (x y : Int64) : lg_cmp x y = 0 ↔ x = y := by
  unfold lg_cmp
  by_cases h1 : y < x
  · simp [h1]; intro h; subst h; exact absurd h1 (Int64.lt_irrefl)
  · by_cases h2 : x = y
    · simp [h2]
    · simp [h1, h2]
theorem oLc_ge (x y : Int64) : 0 ≤ lg_cmp x y ↔ y ≤ x := by
  rw [← Int64.not_lt, ← oLc_lt, Int32.not_lt]
theorem oLc_le (x y : Int64) : lg_cmp x y ≤ 0 ↔ x ≤ y := by
  rw [← Int64.not_lt, ← oLc_gt, Int32.not_lt]
end
