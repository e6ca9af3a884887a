section
-- ===== PART A: goes FIRST, ahead of the names: the tables' words, and 'selects' of the private methods out of them =====
/-- a private method of a class that the tables say can be made, by its rows of tables_1 -/
def lw_okq (q : MethodName × Nat) : Prop := (q.1.cls ≠ "java/lang/invoke/MethodHandle" ∧ q.1.cls ≠ "java/lang/invoke/VarHandle") ∧ Cond.instantiable q.1.cls q.2 ∈ tables_1 ∧ Cond.privateMethod q.1 ∈ tables_1 ∧ Cond.instanceMethod q.1 ∈ tables_1
theorem lw_p0 : lw_okq (⟨"SentRound", "noHouse", "(I)Z"⟩, 9) := ⟨⟨by decide +kernel, by decide +kernel⟩, List.mem_of_getElem? (i := 18) (by decide +kernel), List.mem_of_getElem? (i := 383) (by decide +kernel), List.mem_of_getElem? (i := 384) (by decide +kernel)⟩
theorem lw_p1 : lw_okq (⟨"SentRound", "tell", "(IIII)I"⟩, 9) := ⟨⟨by decide +kernel, by decide +kernel⟩, List.mem_of_getElem? (i := 18) (by decide +kernel), List.mem_of_getElem? (i := 395) (by decide +kernel), List.mem_of_getElem? (i := 396) (by decide +kernel)⟩
theorem lw_p2 : lw_okq (⟨"SentRound$Reduction", "findPoints", "(I)V"⟩, 9) := ⟨⟨by decide +kernel, by decide +kernel⟩, List.mem_of_getElem? (i := 96) (by decide +kernel), List.mem_of_getElem? (i := 414) (by decide +kernel), List.mem_of_getElem? (i := 415) (by decide +kernel)⟩
theorem lw_p3 : lw_okq (⟨"SentRound$Reduction", "addToPoint", "(III)V"⟩, 9) := ⟨⟨by decide +kernel, by decide +kernel⟩, List.mem_of_getElem? (i := 96) (by decide +kernel), List.mem_of_getElem? (i := 426) (by decide +kernel), List.mem_of_getElem? (i := 427) (by decide +kernel)⟩
theorem lw_p4 : lw_okq (⟨"SentRound$Reduction", "openPoint", "(III)V"⟩, 9) := ⟨⟨by decide +kernel, by decide +kernel⟩, List.mem_of_getElem? (i := 96) (by decide +kernel), List.mem_of_getElem? (i := 430) (by decide +kernel), List.mem_of_getElem? (i := 431) (by decide +kernel)⟩
theorem lw_p5 : lw_okq (⟨"SentRound$Reduction", "driftBetween", "(IIIJJ)I"⟩, 9) := ⟨⟨by decide +kernel, by decide +kernel⟩, List.mem_of_getElem? (i := 96) (by decide +kernel), List.mem_of_getElem? (i := 442) (by decide +kernel), List.mem_of_getElem? (i := 443) (by decide +kernel)⟩
theorem lw_p6 : lw_okq (⟨"SentRound", "noReading", "(I)Z"⟩, 9) := ⟨⟨by decide +kernel, by decide +kernel⟩, List.mem_of_getElem? (i := 18) (by decide +kernel), List.mem_of_getElem? (i := 473) (by decide +kernel), List.mem_of_getElem? (i := 474) (by decide +kernel)⟩
theorem lw_p7 : lw_okq (⟨"SentRound$Agreement", "agreeingWith", "(III)I"⟩, 6) := ⟨⟨by decide +kernel, by decide +kernel⟩, List.mem_of_getElem? (i := 140) (by decide +kernel), List.mem_of_getElem? (i := 539) (by decide +kernel), List.mem_of_getElem? (i := 540) (by decide +kernel)⟩
theorem lw_p8 : lw_okq (⟨"SentRound$Agreement", "reachOf", "(I)I"⟩, 6) := ⟨⟨by decide +kernel, by decide +kernel⟩, List.mem_of_getElem? (i := 140) (by decide +kernel), List.mem_of_getElem? (i := 562) (by decide +kernel), List.mem_of_getElem? (i := 563) (by decide +kernel)⟩
theorem lw_p9 : lw_okq (⟨"SentRound$Agreement", "spansAt", "(II)I"⟩, 6) := ⟨⟨by decide +kernel, by decide +kernel⟩, List.mem_of_getElem? (i := 140) (by decide +kernel), List.mem_of_getElem? (i := 566) (by decide +kernel), List.mem_of_getElem? (i := 567) (by decide +kernel)⟩
theorem lw_p10 : lw_okq (⟨"SentRound$Chains", "findNeighbours", "()V"⟩, 4) := ⟨⟨by decide +kernel, by decide +kernel⟩, List.mem_of_getElem? (i := 168) (by decide +kernel), List.mem_of_getElem? (i := 581) (by decide +kernel), List.mem_of_getElem? (i := 582) (by decide +kernel)⟩
theorem lw_p11 : lw_okq (⟨"SentRound$Chains", "cheapestBeside", "(I)I"⟩, 4) := ⟨⟨by decide +kernel, by decide +kernel⟩, List.mem_of_getElem? (i := 168) (by decide +kernel), List.mem_of_getElem? (i := 588) (by decide +kernel), List.mem_of_getElem? (i := 589) (by decide +kernel)⟩
theorem lw_p12 : lw_okq (⟨"SentRound$Chains", "costBy", "(I)V"⟩, 4) := ⟨⟨by decide +kernel, by decide +kernel⟩, List.mem_of_getElem? (i := 168) (by decide +kernel), List.mem_of_getElem? (i := 592) (by decide +kernel), List.mem_of_getElem? (i := 593) (by decide +kernel)⟩
theorem lw_p13 : lw_okq (⟨"SentRound$OneNumber", "gather", "(I)V"⟩, 7) := ⟨⟨by decide +kernel, by decide +kernel⟩, List.mem_of_getElem? (i := 188) (by decide +kernel), List.mem_of_getElem? (i := 616) (by decide +kernel), List.mem_of_getElem? (i := 617) (by decide +kernel)⟩
theorem lw_p14 : lw_okq (⟨"SentRound$OneNumber", "byPairs", "()V"⟩, 7) := ⟨⟨by decide +kernel, by decide +kernel⟩, List.mem_of_getElem? (i := 188) (by decide +kernel), List.mem_of_getElem? (i := 638) (by decide +kernel), List.mem_of_getElem? (i := 639) (by decide +kernel)⟩
theorem lw_p15 : lw_okq (⟨"SentRound$OneNumber", "byWeights", "(I)V"⟩, 7) := ⟨⟨by decide +kernel, by decide +kernel⟩, List.mem_of_getElem? (i := 188) (by decide +kernel), List.mem_of_getElem? (i := 643) (by decide +kernel), List.mem_of_getElem? (i := 644) (by decide +kernel)⟩
def lw_privs_1 : List (MethodName × Nat) := [(⟨"SentRound", "noHouse", "(I)Z"⟩, 9), (⟨"SentRound", "tell", "(IIII)I"⟩, 9), (⟨"SentRound$Reduction", "findPoints", "(I)V"⟩, 9), (⟨"SentRound$Reduction", "addToPoint", "(III)V"⟩, 9), (⟨"SentRound$Reduction", "openPoint", "(III)V"⟩, 9), (⟨"SentRound$Reduction", "driftBetween", "(IIIJJ)I"⟩, 9), (⟨"SentRound", "noReading", "(I)Z"⟩, 9), (⟨"SentRound$Agreement", "agreeingWith", "(III)I"⟩, 6), (⟨"SentRound$Agreement", "reachOf", "(I)I"⟩, 6), (⟨"SentRound$Agreement", "spansAt", "(II)I"⟩, 6), (⟨"SentRound$Chains", "findNeighbours", "()V"⟩, 4), (⟨"SentRound$Chains", "cheapestBeside", "(I)I"⟩, 4), (⟨"SentRound$Chains", "costBy", "(I)V"⟩, 4), (⟨"SentRound$OneNumber", "gather", "(I)V"⟩, 7), (⟨"SentRound$OneNumber", "byPairs", "()V"⟩, 7), (⟨"SentRound$OneNumber", "byWeights", "(I)V"⟩, 7)]
theorem lw_r1 : ∀ q ∈ lw_privs_1, lw_okq q := List.forall_mem_cons.mpr ⟨lw_p0, List.forall_mem_cons.mpr ⟨lw_p1, List.forall_mem_cons.mpr ⟨lw_p2, List.forall_mem_cons.mpr ⟨lw_p3, List.forall_mem_cons.mpr ⟨lw_p4, List.forall_mem_cons.mpr ⟨lw_p5, List.forall_mem_cons.mpr ⟨lw_p6, List.forall_mem_cons.mpr ⟨lw_p7, List.forall_mem_cons.mpr ⟨lw_p8, List.forall_mem_cons.mpr ⟨lw_p9, List.forall_mem_cons.mpr ⟨lw_p10, List.forall_mem_cons.mpr ⟨lw_p11, List.forall_mem_cons.mpr ⟨lw_p12, List.forall_mem_cons.mpr ⟨lw_p13, List.forall_mem_cons.mpr ⟨lw_p14, List.forall_mem_cons.mpr ⟨lw_p15, fun _ h => absurd h List.not_mem_nil⟩⟩⟩⟩⟩⟩⟩⟩⟩⟩⟩⟩⟩⟩⟩⟩
theorem lw_p16 : lw_okq (⟨"SentRound$OneNumber", "bySteps", "()J"⟩, 7) := ⟨⟨by decide +kernel, by decide +kernel⟩, List.mem_of_getElem? (i := 188) (by decide +kernel), List.mem_of_getElem? (i := 649) (by decide +kernel), List.mem_of_getElem? (i := 650) (by decide +kernel)⟩
theorem lw_p17 : lw_okq (⟨"SentRound$OneNumber", "clippedMean", "(JJ)J"⟩, 7) := ⟨⟨by decide +kernel, by decide +kernel⟩, List.mem_of_getElem? (i := 188) (by decide +kernel), List.mem_of_getElem? (i := 658) (by decide +kernel), List.mem_of_getElem? (i := 659) (by decide +kernel)⟩
theorem lw_p18 : lw_okq (⟨"SentRound$OneNumber", "clippedSpread", "(J)J"⟩, 7) := ⟨⟨by decide +kernel, by decide +kernel⟩, List.mem_of_getElem? (i := 188) (by decide +kernel), List.mem_of_getElem? (i := 668) (by decide +kernel), List.mem_of_getElem? (i := 669) (by decide +kernel)⟩
theorem lw_p19 : lw_okq (⟨"SentRound$Repeats", "spread", "(IJ)J"⟩, 5) := ⟨⟨by decide +kernel, by decide +kernel⟩, List.mem_of_getElem? (i := 234) (by decide +kernel), List.mem_of_getElem? (i := 727) (by decide +kernel), List.mem_of_getElem? (i := 728) (by decide +kernel)⟩
theorem lw_p20 : lw_okq (⟨"SentRound$Repeats", "scaledWithin", "(II)J"⟩, 5) := ⟨⟨by decide +kernel, by decide +kernel⟩, List.mem_of_getElem? (i := 234) (by decide +kernel), List.mem_of_getElem? (i := 742) (by decide +kernel), List.mem_of_getElem? (i := 743) (by decide +kernel)⟩
theorem lw_p21 : lw_okq (⟨"SentRound$Repeats", "likeMany", "(I)I"⟩, 5) := ⟨⟨by decide +kernel, by decide +kernel⟩, List.mem_of_getElem? (i := 234) (by decide +kernel), List.mem_of_getElem? (i := 764) (by decide +kernel), List.mem_of_getElem? (i := 765) (by decide +kernel)⟩
theorem lw_p22 : lw_okq (⟨"SentRound$DoubtText", "faultOfPart", "()I"⟩, 5) := ⟨⟨by decide +kernel, by decide +kernel⟩, List.mem_of_getElem? (i := 287) (by decide +kernel), List.mem_of_getElem? (i := 816) (by decide +kernel), List.mem_of_getElem? (i := 817) (by decide +kernel)⟩
theorem lw_p23 : lw_okq (⟨"SentRound$DoubtText", "nextNumber", "()I"⟩, 5) := ⟨⟨by decide +kernel, by decide +kernel⟩, List.mem_of_getElem? (i := 287) (by decide +kernel), List.mem_of_getElem? (i := 821) (by decide +kernel), List.mem_of_getElem? (i := 822) (by decide +kernel)⟩
theorem lw_p24 : lw_okq (⟨"SentRound$DoubtText", "squareOfPart", "()J"⟩, 5) := ⟨⟨by decide +kernel, by decide +kernel⟩, List.mem_of_getElem? (i := 287) (by decide +kernel), List.mem_of_getElem? (i := 827) (by decide +kernel), List.mem_of_getElem? (i := 828) (by decide +kernel)⟩
theorem lw_p25 : lw_okq (⟨"SentRound", "digestPiece", "(JI)J"⟩, 9) := ⟨⟨by decide +kernel, by decide +kernel⟩, List.mem_of_getElem? (i := 18) (by decide +kernel), List.mem_of_getElem? (i := 912) (by decide +kernel), List.mem_of_getElem? (i := 913) (by decide +kernel)⟩
theorem lw_p26 : lw_okq (⟨"SentRoundModel", "isHouse", "(I)Z"⟩, 42) := ⟨⟨by decide +kernel, by decide +kernel⟩, List.mem_of_getElem? (i := 921) (by decide +kernel), List.mem_of_getElem? (i := 1070) (by decide +kernel), List.mem_of_getElem? (i := 1071) (by decide +kernel)⟩
theorem lw_p27 : lw_okq (⟨"SentRoundModel", "readingMore", "(IIII)I"⟩, 42) := ⟨⟨by decide +kernel, by decide +kernel⟩, List.mem_of_getElem? (i := 921) (by decide +kernel), List.mem_of_getElem? (i := 1078) (by decide +kernel), List.mem_of_getElem? (i := 1079) (by decide +kernel)⟩
theorem lw_p28 : lw_okq (⟨"SentRoundModel", "meets", "(I)I"⟩, 42) := ⟨⟨by decide +kernel, by decide +kernel⟩, List.mem_of_getElem? (i := 921) (by decide +kernel), List.mem_of_getElem? (i := 1092) (by decide +kernel), List.mem_of_getElem? (i := 1093) (by decide +kernel)⟩
theorem lw_p29 : lw_okq (⟨"SentRoundModel", "isKnown", "(I)Z"⟩, 42) := ⟨⟨by decide +kernel, by decide +kernel⟩, List.mem_of_getElem? (i := 921) (by decide +kernel), List.mem_of_getElem? (i := 1104) (by decide +kernel), List.mem_of_getElem? (i := 1105) (by decide +kernel)⟩
theorem lw_p30 : lw_okq (⟨"SentRoundModel", "works", "()V"⟩, 42) := ⟨⟨by decide +kernel, by decide +kernel⟩, List.mem_of_getElem? (i := 921) (by decide +kernel), List.mem_of_getElem? (i := 1121) (by decide +kernel), List.mem_of_getElem? (i := 1122) (by decide +kernel)⟩
theorem lw_p31 : lw_okq (⟨"SentRoundModel", "points", "(I)V"⟩, 42) := ⟨⟨by decide +kernel, by decide +kernel⟩, List.mem_of_getElem? (i := 921) (by decide +kernel), List.mem_of_getElem? (i := 1125) (by decide +kernel), List.mem_of_getElem? (i := 1126) (by decide +kernel)⟩
def lw_privs_2 : List (MethodName × Nat) := [(⟨"SentRound$OneNumber", "bySteps", "()J"⟩, 7), (⟨"SentRound$OneNumber", "clippedMean", "(JJ)J"⟩, 7), (⟨"SentRound$OneNumber", "clippedSpread", "(J)J"⟩, 7), (⟨"SentRound$Repeats", "spread", "(IJ)J"⟩, 5), (⟨"SentRound$Repeats", "scaledWithin", "(II)J"⟩, 5), (⟨"SentRound$Repeats", "likeMany", "(I)I"⟩, 5), (⟨"SentRound$DoubtText", "faultOfPart", "()I"⟩, 5), (⟨"SentRound$DoubtText", "nextNumber", "()I"⟩, 5), (⟨"SentRound$DoubtText", "squareOfPart", "()J"⟩, 5), (⟨"SentRound", "digestPiece", "(JI)J"⟩, 9), (⟨"SentRoundModel", "isHouse", "(I)Z"⟩, 42), (⟨"SentRoundModel", "readingMore", "(IIII)I"⟩, 42), (⟨"SentRoundModel", "meets", "(I)I"⟩, 42), (⟨"SentRoundModel", "isKnown", "(I)Z"⟩, 42), (⟨"SentRoundModel", "works", "()V"⟩, 42), (⟨"SentRoundModel", "points", "(I)V"⟩, 42)]
theorem lw_r2 : ∀ q ∈ lw_privs_2, lw_okq q := List.forall_mem_cons.mpr ⟨lw_p16, List.forall_mem_cons.mpr ⟨lw_p17, List.forall_mem_cons.mpr ⟨lw_p18, List.forall_mem_cons.mpr ⟨lw_p19, List.forall_mem_cons.mpr ⟨lw_p20, List.forall_mem_cons.mpr ⟨lw_p21, List.forall_mem_cons.mpr ⟨lw_p22, List.forall_mem_cons.mpr ⟨lw_p23, List.forall_mem_cons.mpr ⟨lw_p24, List.forall_mem_cons.mpr ⟨lw_p25, List.forall_mem_cons.mpr ⟨lw_p26, List.forall_mem_cons.mpr ⟨lw_p27, List.forall_mem_cons.mpr ⟨lw_p28, List.forall_mem_cons.mpr ⟨lw_p29, List.forall_mem_cons.mpr ⟨lw_p30, List.forall_mem_cons.mpr ⟨lw_p31, fun _ h => absurd h List.not_mem_nil⟩⟩⟩⟩⟩⟩⟩⟩⟩⟩⟩⟩⟩⟩⟩⟩
theorem lw_p32 : lw_okq (⟨"SentRoundModel", "reducedOf", "(I)J"⟩, 42) := ⟨⟨by decide +kernel, by decide +kernel⟩, List.mem_of_getElem? (i := 921) (by decide +kernel), List.mem_of_getElem? (i := 1129) (by decide +kernel), List.mem_of_getElem? (i := 1130) (by decide +kernel)⟩
theorem lw_p33 : lw_okq (⟨"SentRoundModel", "driftOf", "(II)I"⟩, 42) := ⟨⟨by decide +kernel, by decide +kernel⟩, List.mem_of_getElem? (i := 921) (by decide +kernel), List.mem_of_getElem? (i := 1134) (by decide +kernel), List.mem_of_getElem? (i := 1135) (by decide +kernel)⟩
theorem lw_p34 : lw_okq (⟨"SentRoundModel", "toldOrNot", "(II)I"⟩, 42) := ⟨⟨by decide +kernel, by decide +kernel⟩, List.mem_of_getElem? (i := 921) (by decide +kernel), List.mem_of_getElem? (i := 1153) (by decide +kernel), List.mem_of_getElem? (i := 1154) (by decide +kernel)⟩
theorem lw_p35 : lw_okq (⟨"SentRoundModel", "takes", "(II)Z"⟩, 42) := ⟨⟨by decide +kernel, by decide +kernel⟩, List.mem_of_getElem? (i := 921) (by decide +kernel), List.mem_of_getElem? (i := 1157) (by decide +kernel), List.mem_of_getElem? (i := 1158) (by decide +kernel)⟩
theorem lw_p36 : lw_okq (⟨"SentRoundModel", "toldOf", "(II)J"⟩, 42) := ⟨⟨by decide +kernel, by decide +kernel⟩, List.mem_of_getElem? (i := 921) (by decide +kernel), List.mem_of_getElem? (i := 1161) (by decide +kernel), List.mem_of_getElem? (i := 1162) (by decide +kernel)⟩
theorem lw_p37 : lw_okq (⟨"SentRoundModel", "doAgree", "(III)Z"⟩, 42) := ⟨⟨by decide +kernel, by decide +kernel⟩, List.mem_of_getElem? (i := 921) (by decide +kernel), List.mem_of_getElem? (i := 1170) (by decide +kernel), List.mem_of_getElem? (i := 1171) (by decide +kernel)⟩
theorem lw_p38 : lw_okq (⟨"SentRoundModel", "agreeingOf", "(I)I"⟩, 42) := ⟨⟨by decide +kernel, by decide +kernel⟩, List.mem_of_getElem? (i := 921) (by decide +kernel), List.mem_of_getElem? (i := 1182) (by decide +kernel), List.mem_of_getElem? (i := 1183) (by decide +kernel)⟩
theorem lw_p39 : lw_okq (⟨"SentRoundModel", "commonOf", "(I)I"⟩, 42) := ⟨⟨by decide +kernel, by decide +kernel⟩, List.mem_of_getElem? (i := 921) (by decide +kernel), List.mem_of_getElem? (i := 1193) (by decide +kernel), List.mem_of_getElem? (i := 1194) (by decide +kernel)⟩
theorem lw_p40 : lw_okq (⟨"SentRoundModel", "areTwo", "(II)Z"⟩, 42) := ⟨⟨by decide +kernel, by decide +kernel⟩, List.mem_of_getElem? (i := 921) (by decide +kernel), List.mem_of_getElem? (i := 1204) (by decide +kernel), List.mem_of_getElem? (i := 1205) (by decide +kernel)⟩
theorem lw_p41 : lw_okq (⟨"SentRoundModel", "costs", "(I)V"⟩, 42) := ⟨⟨by decide +kernel, by decide +kernel⟩, List.mem_of_getElem? (i := 921) (by decide +kernel), List.mem_of_getElem? (i := 1208) (by decide +kernel), List.mem_of_getElem? (i := 1209) (by decide +kernel)⟩
theorem lw_p42 : lw_okq (⟨"SentRoundModel", "together", "(II)Z"⟩, 42) := ⟨⟨by decide +kernel, by decide +kernel⟩, List.mem_of_getElem? (i := 921) (by decide +kernel), List.mem_of_getElem? (i := 1213) (by decide +kernel), List.mem_of_getElem? (i := 1214) (by decide +kernel)⟩
theorem lw_p43 : lw_okq (⟨"SentRoundModel", "finds", "(II)Z"⟩, 42) := ⟨⟨by decide +kernel, by decide +kernel⟩, List.mem_of_getElem? (i := 921) (by decide +kernel), List.mem_of_getElem? (i := 1226) (by decide +kernel), List.mem_of_getElem? (i := 1227) (by decide +kernel)⟩
theorem lw_p44 : lw_okq (⟨"SentRoundModel", "rowOf", "(I)V"⟩, 42) := ⟨⟨by decide +kernel, by decide +kernel⟩, List.mem_of_getElem? (i := 921) (by decide +kernel), List.mem_of_getElem? (i := 1230) (by decide +kernel), List.mem_of_getElem? (i := 1231) (by decide +kernel)⟩
theorem lw_p45 : lw_okq (⟨"SentRoundModel", "add", "(J)V"⟩, 42) := ⟨⟨by decide +kernel, by decide +kernel⟩, List.mem_of_getElem? (i := 921) (by decide +kernel), List.mem_of_getElem? (i := 1234) (by decide +kernel), List.mem_of_getElem? (i := 1235) (by decide +kernel)⟩
theorem lw_p46 : lw_okq (⟨"SentRoundModel", "middle", "()V"⟩, 42) := ⟨⟨by decide +kernel, by decide +kernel⟩, List.mem_of_getElem? (i := 921) (by decide +kernel), List.mem_of_getElem? (i := 1238) (by decide +kernel), List.mem_of_getElem? (i := 1239) (by decide +kernel)⟩
theorem lw_p47 : lw_okq (⟨"SentRoundModel", "pairsOf", "(I)V"⟩, 42) := ⟨⟨by decide +kernel, by decide +kernel⟩, List.mem_of_getElem? (i := 921) (by decide +kernel), List.mem_of_getElem? (i := 1242) (by decide +kernel), List.mem_of_getElem? (i := 1243) (by decide +kernel)⟩
def lw_privs_3 : List (MethodName × Nat) := [(⟨"SentRoundModel", "reducedOf", "(I)J"⟩, 42), (⟨"SentRoundModel", "driftOf", "(II)I"⟩, 42), (⟨"SentRoundModel", "toldOrNot", "(II)I"⟩, 42), (⟨"SentRoundModel", "takes", "(II)Z"⟩, 42), (⟨"SentRoundModel", "toldOf", "(II)J"⟩, 42), (⟨"SentRoundModel", "doAgree", "(III)Z"⟩, 42), (⟨"SentRoundModel", "agreeingOf", "(I)I"⟩, 42), (⟨"SentRoundModel", "commonOf", "(I)I"⟩, 42), (⟨"SentRoundModel", "areTwo", "(II)Z"⟩, 42), (⟨"SentRoundModel", "costs", "(I)V"⟩, 42), (⟨"SentRoundModel", "together", "(II)Z"⟩, 42), (⟨"SentRoundModel", "finds", "(II)Z"⟩, 42), (⟨"SentRoundModel", "rowOf", "(I)V"⟩, 42), (⟨"SentRoundModel", "add", "(J)V"⟩, 42), (⟨"SentRoundModel", "middle", "()V"⟩, 42), (⟨"SentRoundModel", "pairsOf", "(I)V"⟩, 42)]
theorem lw_r3 : ∀ q ∈ lw_privs_3, lw_okq q := List.forall_mem_cons.mpr ⟨lw_p32, List.forall_mem_cons.mpr ⟨lw_p33, List.forall_mem_cons.mpr ⟨lw_p34, List.forall_mem_cons.mpr ⟨lw_p35, List.forall_mem_cons.mpr ⟨lw_p36, List.forall_mem_cons.mpr ⟨lw_p37, List.forall_mem_cons.mpr ⟨lw_p38, List.forall_mem_cons.mpr ⟨lw_p39, List.forall_mem_cons.mpr ⟨lw_p40, List.forall_mem_cons.mpr ⟨lw_p41, List.forall_mem_cons.mpr ⟨lw_p42, List.forall_mem_cons.mpr ⟨lw_p43, List.forall_mem_cons.mpr ⟨lw_p44, List.forall_mem_cons.mpr ⟨lw_p45, List.forall_mem_cons.mpr ⟨lw_p46, List.forall_mem_cons.mpr ⟨lw_p47, fun _ h => absurd h List.not_mem_nil⟩⟩⟩⟩⟩⟩⟩⟩⟩⟩⟩⟩⟩⟩⟩⟩
theorem lw_p48 : lw_okq (⟨"SentRoundModel", "weighted", "(I)V"⟩, 42) := ⟨⟨by decide +kernel, by decide +kernel⟩, List.mem_of_getElem? (i := 921) (by decide +kernel), List.mem_of_getElem? (i := 1246) (by decide +kernel), List.mem_of_getElem? (i := 1247) (by decide +kernel)⟩
theorem lw_p49 : lw_okq (⟨"SentRoundModel", "steps", "(I)V"⟩, 42) := ⟨⟨by decide +kernel, by decide +kernel⟩, List.mem_of_getElem? (i := 921) (by decide +kernel), List.mem_of_getElem? (i := 1251) (by decide +kernel), List.mem_of_getElem? (i := 1252) (by decide +kernel)⟩
theorem lw_p50 : lw_okq (⟨"SentRoundModel", "markOf", "(II)I"⟩, 42) := ⟨⟨by decide +kernel, by decide +kernel⟩, List.mem_of_getElem? (i := 921) (by decide +kernel), List.mem_of_getElem? (i := 1276) (by decide +kernel), List.mem_of_getElem? (i := 1277) (by decide +kernel)⟩
theorem lw_p51 : lw_okq (⟨"SentRoundModel", "isRepeat", "(II)Z"⟩, 42) := ⟨⟨by decide +kernel, by decide +kernel⟩, List.mem_of_getElem? (i := 921) (by decide +kernel), List.mem_of_getElem? (i := 1295) (by decide +kernel), List.mem_of_getElem? (i := 1296) (by decide +kernel)⟩
theorem lw_p52 : lw_okq (⟨"SentRoundModel", "withinTop", "(II)J"⟩, 42) := ⟨⟨by decide +kernel, by decide +kernel⟩, List.mem_of_getElem? (i := 921) (by decide +kernel), List.mem_of_getElem? (i := 1299) (by decide +kernel), List.mem_of_getElem? (i := 1300) (by decide +kernel)⟩
theorem lw_p53 : lw_okq (⟨"SentRoundModel", "repeats", "(II)V"⟩, 42) := ⟨⟨by decide +kernel, by decide +kernel⟩, List.mem_of_getElem? (i := 921) (by decide +kernel), List.mem_of_getElem? (i := 1303) (by decide +kernel), List.mem_of_getElem? (i := 1304) (by decide +kernel)⟩
theorem lw_p54 : lw_okq (⟨"SentRoundModel", "withinBottom", "(II)J"⟩, 42) := ⟨⟨by decide +kernel, by decide +kernel⟩, List.mem_of_getElem? (i := 921) (by decide +kernel), List.mem_of_getElem? (i := 1307) (by decide +kernel), List.mem_of_getElem? (i := 1308) (by decide +kernel)⟩
theorem lw_p55 : lw_okq (⟨"SentRoundModel", "widestOf", "(I)I"⟩, 42) := ⟨⟨by decide +kernel, by decide +kernel⟩, List.mem_of_getElem? (i := 921) (by decide +kernel), List.mem_of_getElem? (i := 1315) (by decide +kernel), List.mem_of_getElem? (i := 1316) (by decide +kernel)⟩
theorem lw_p56 : lw_okq (⟨"SentRoundModel", "scoreOf", "(I)J"⟩, 42) := ⟨⟨by decide +kernel, by decide +kernel⟩, List.mem_of_getElem? (i := 921) (by decide +kernel), List.mem_of_getElem? (i := 1332) (by decide +kernel), List.mem_of_getElem? (i := 1333) (by decide +kernel)⟩
theorem lw_p57 : lw_okq (⟨"SentRoundModel", "wayMany", "(II)I"⟩, 42) := ⟨⟨by decide +kernel, by decide +kernel⟩, List.mem_of_getElem? (i := 921) (by decide +kernel), List.mem_of_getElem? (i := 1341) (by decide +kernel), List.mem_of_getElem? (i := 1342) (by decide +kernel)⟩
theorem lw_p58 : lw_okq (⟨"SentRoundModel", "chanceOf", "(II)I"⟩, 42) := ⟨⟨by decide +kernel, by decide +kernel⟩, List.mem_of_getElem? (i := 921) (by decide +kernel), List.mem_of_getElem? (i := 1345) (by decide +kernel), List.mem_of_getElem? (i := 1346) (by decide +kernel)⟩
theorem lw_p59 : lw_okq (⟨"SentRoundModel", "faultNow", "()I"⟩, 42) := ⟨⟨by decide +kernel, by decide +kernel⟩, List.mem_of_getElem? (i := 921) (by decide +kernel), List.mem_of_getElem? (i := 1361) (by decide +kernel), List.mem_of_getElem? (i := 1362) (by decide +kernel)⟩
theorem lw_p60 : lw_okq (⟨"SentRoundModel", "part", "()V"⟩, 42) := ⟨⟨by decide +kernel, by decide +kernel⟩, List.mem_of_getElem? (i := 921) (by decide +kernel), List.mem_of_getElem? (i := 1365) (by decide +kernel), List.mem_of_getElem? (i := 1366) (by decide +kernel)⟩
theorem lw_p61 : lw_okq (⟨"SentRoundModel", "figures", "()I"⟩, 42) := ⟨⟨by decide +kernel, by decide +kernel⟩, List.mem_of_getElem? (i := 921) (by decide +kernel), List.mem_of_getElem? (i := 1369) (by decide +kernel), List.mem_of_getElem? (i := 1370) (by decide +kernel)⟩
theorem lw_p62 : lw_okq (⟨"SentRoundModel", "byteAt", "(I)I"⟩, 42) := ⟨⟨by decide +kernel, by decide +kernel⟩, List.mem_of_getElem? (i := 921) (by decide +kernel), List.mem_of_getElem? (i := 1373) (by decide +kernel), List.mem_of_getElem? (i := 1374) (by decide +kernel)⟩
theorem lw_p63 : lw_okq (⟨"SentRoundModel", "reckons", "()I"⟩, 42) := ⟨⟨by decide +kernel, by decide +kernel⟩, List.mem_of_getElem? (i := 921) (by decide +kernel), List.mem_of_getElem? (i := 1383) (by decide +kernel), List.mem_of_getElem? (i := 1384) (by decide +kernel)⟩
def lw_privs_4 : List (MethodName × Nat) := [(⟨"SentRoundModel", "weighted", "(I)V"⟩, 42), (⟨"SentRoundModel", "steps", "(I)V"⟩, 42), (⟨"SentRoundModel", "markOf", "(II)I"⟩, 42), (⟨"SentRoundModel", "isRepeat", "(II)Z"⟩, 42), (⟨"SentRoundModel", "withinTop", "(II)J"⟩, 42), (⟨"SentRoundModel", "repeats", "(II)V"⟩, 42), (⟨"SentRoundModel", "withinBottom", "(II)J"⟩, 42), (⟨"SentRoundModel", "widestOf", "(I)I"⟩, 42), (⟨"SentRoundModel", "scoreOf", "(I)J"⟩, 42), (⟨"SentRoundModel", "wayMany", "(II)I"⟩, 42), (⟨"SentRoundModel", "chanceOf", "(II)I"⟩, 42), (⟨"SentRoundModel", "faultNow", "()I"⟩, 42), (⟨"SentRoundModel", "part", "()V"⟩, 42), (⟨"SentRoundModel", "figures", "()I"⟩, 42), (⟨"SentRoundModel", "byteAt", "(I)I"⟩, 42), (⟨"SentRoundModel", "reckons", "()I"⟩, 42)]
theorem lw_r4 : ∀ q ∈ lw_privs_4, lw_okq q := List.forall_mem_cons.mpr ⟨lw_p48, List.forall_mem_cons.mpr ⟨lw_p49, List.forall_mem_cons.mpr ⟨lw_p50, List.forall_mem_cons.mpr ⟨lw_p51, List.forall_mem_cons.mpr ⟨lw_p52, List.forall_mem_cons.mpr ⟨lw_p53, List.forall_mem_cons.mpr ⟨lw_p54, List.forall_mem_cons.mpr ⟨lw_p55, List.forall_mem_cons.mpr ⟨lw_p56, List.forall_mem_cons.mpr ⟨lw_p57, List.forall_mem_cons.mpr ⟨lw_p58, List.forall_mem_cons.mpr ⟨lw_p59, List.forall_mem_cons.mpr ⟨lw_p60, List.forall_mem_cons.mpr ⟨lw_p61, List.forall_mem_cons.mpr ⟨lw_p62, List.forall_mem_cons.mpr ⟨lw_p63, fun _ h => absurd h List.not_mem_nil⟩⟩⟩⟩⟩⟩⟩⟩⟩⟩⟩⟩⟩⟩⟩⟩
theorem lw_p64 : lw_okq (⟨"SentRoundModel", "lacks", "(III)I"⟩, 42) := ⟨⟨by decide +kernel, by decide +kernel⟩, List.mem_of_getElem? (i := 921) (by decide +kernel), List.mem_of_getElem? (i := 1403) (by decide +kernel), List.mem_of_getElem? (i := 1404) (by decide +kernel)⟩
theorem lw_p65 : lw_okq (⟨"SentRoundModel", "lay", "(III)V"⟩, 42) := ⟨⟨by decide +kernel, by decide +kernel⟩, List.mem_of_getElem? (i := 921) (by decide +kernel), List.mem_of_getElem? (i := 1407) (by decide +kernel), List.mem_of_getElem? (i := 1408) (by decide +kernel)⟩
theorem lw_p66 : lw_okq (⟨"SentRoundModel", "knownMany", "()I"⟩, 42) := ⟨⟨by decide +kernel, by decide +kernel⟩, List.mem_of_getElem? (i := 921) (by decide +kernel), List.mem_of_getElem? (i := 1427) (by decide +kernel), List.mem_of_getElem? (i := 1428) (by decide +kernel)⟩
def lw_privs_5 : List (MethodName × Nat) := [(⟨"SentRoundModel", "lacks", "(III)I"⟩, 42), (⟨"SentRoundModel", "lay", "(III)V"⟩, 42), (⟨"SentRoundModel", "knownMany", "()I"⟩, 42)]
theorem lw_r5 : ∀ q ∈ lw_privs_5, lw_okq q := List.forall_mem_cons.mpr ⟨lw_p64, List.forall_mem_cons.mpr ⟨lw_p65, List.forall_mem_cons.mpr ⟨lw_p66, fun _ h => absurd h List.not_mem_nil⟩⟩⟩
def lw_privs : List (MethodName × Nat) := lw_privs_1 ++ (lw_privs_2 ++ (lw_privs_3 ++ (lw_privs_4 ++ (lw_privs_5))))
def lw_tbl : List Cond := k2_sels lw_privs ++ tables_1
theorem lw_privs_ok : ∀ q ∈ lw_privs, lw_okq q := by
  show ∀ q ∈ lw_privs_1 ++ (lw_privs_2 ++ (lw_privs_3 ++ (lw_privs_4 ++ (lw_privs_5)))), lw_okq q
  exact List.forall_mem_append.mpr ⟨lw_r1, List.forall_mem_append.mpr ⟨lw_r2, List.forall_mem_append.mpr ⟨lw_r3, List.forall_mem_append.mpr ⟨lw_r4, lw_r5⟩⟩⟩⟩
end
section
def RX0 : String := "SentRound$Agreement"
def TX0 : u_T := fun k => match k with
  | 0 => ("SentRound$Agreement", "book", "LSentRound$Book;", true)
  | 1 => ("SentRound$Agreement", "reduction", "LSentRound$Reduction;", true)
  | 2 => ("SentRound$Agreement", "withHouse", "[I", true)
  | 3 => ("SentRound$Agreement", "factor", "I", false)
  | 4 => ("SentRound$Agreement", "meeting", "I", false)
  | _ => ("SentRound$Agreement", "meetingPoint", "I", false)
def tyX0 : Nat → FieldType := fun k => match k with
  | 0 => .object "SentRound$Book"
  | 1 => .object "SentRound$Reduction"
  | 2 => .array .int
  | 3 => .int
  | 4 => .int
  | _ => .int
abbrev wsX00 : List Cond := u_ws RX0 TX0 6
theorem nmX0 : ∀ a, a < 6 → ∀ b, b < 6 → a ≠ b → (TX0 a).2.1 ≠ (TX0 b).2.1 := by decide +kernel
theorem tyX0_ok : ∀ k, k < 6 → parseFieldDescriptor (TX0 k).2.2.1 = some (tyX0 k) := by decide +kernel
abbrev cX0_init : ByteArray := prog_2_method_1_code
def yX0_init : MethodName := ⟨RX0, "<init>", "(LSentRound$Book;LSentRound$Reduction;)V"⟩
abbrev cX0_changeFactor : ByteArray := prog_2_method_2_code
def yX0_changeFactor : MethodName := ⟨RX0, "changeFactor", "(I)I"⟩
abbrev cX0_holds : ByteArray := prog_2_method_3_code
def yX0_holds : MethodName := ⟨RX0, "holds", "(III)Z"⟩
abbrev cX0_mostOf : ByteArray := prog_2_method_4_code
def yX0_mostOf : MethodName := ⟨RX0, "mostOf", "(I)I"⟩
abbrev cX0_agreeingWith : ByteArray := prog_2_method_5_code
def yX0_agreeingWith : MethodName := ⟨RX0, "agreeingWith", "(III)I"⟩
abbrev cX0_widestCircle : ByteArray := prog_2_method_6_code
def yX0_widestCircle : MethodName := ⟨RX0, "widestCircle", "([IIIII)I"⟩
abbrev cX0_meet : ByteArray := prog_2_method_7_code
def yX0_meet : MethodName := ⟨RX0, "meet", "(I)V"⟩
abbrev cX0_spansAt : ByteArray := prog_2_method_8_code
def yX0_spansAt : MethodName := ⟨RX0, "spansAt", "(II)I"⟩
abbrev cX0_reachOf : ByteArray := prog_2_method_9_code
def yX0_reachOf : MethodName := ⟨RX0, "reachOf", "(I)I"⟩
def RX1 : String := "SentRound$Book"
def TX1 : u_T := fun k => match k with
  | 0 => ("SentRound$Book", "day", "I", false)
  | 1 => ("SentRound$Book", "lookedAt", "I", false)
  | 2 => ("SentRound$Book", "houses", "I", false)
  | 3 => ("SentRound$Book", "way", "[I", true)
  | 4 => ("SentRound$Book", "doubt", "[I", true)
  | 5 => ("SentRound$Book", "readings", "I", false)
  | 6 => ("SentRound$Book", "ofHouse", "[I", true)
  | 7 => ("SentRound$Book", "ofPiece", "[I", true)
  | 8 => ("SentRound$Book", "on", "[I", true)
  | 9 => ("SentRound$Book", "value", "[I", true)
  | 10 => ("SentRound$Book", "toldOn", "[I", true)
  | _ => ("SentRound$Book", "backOn", "[I", true)
def tyX1 : Nat → FieldType := fun k => match k with
  | 0 => .int
  | 1 => .int
  | 2 => .int
  | 3 => .array .int
  | 4 => .array .int
  | 5 => .int
  | 6 => .array .int
  | 7 => .array .int
  | 8 => .array .int
  | 9 => .array .int
  | 10 => .array .int
  | _ => .array .int
abbrev wsX10 : List Cond := u_ws RX1 TX1 12
theorem nmX1 : ∀ a, a < 12 → ∀ b, b < 12 → a ≠ b → (TX1 a).2.1 ≠ (TX1 b).2.1 := by decide +kernel
theorem tyX1_ok : ∀ k, k < 12 → parseFieldDescriptor (TX1 k).2.2.1 = some (tyX1 k) := by decide +kernel
abbrev cX1_init : ByteArray := prog_3_method_1_code
def yX1_init : MethodName := ⟨RX1, "<init>", "()V"⟩
abbrev cX1_addHouse : ByteArray := prog_3_method_2_code
def yX1_addHouse : MethodName := ⟨RX1, "addHouse", "(I)I"⟩
abbrev cX1_changeDoubt : ByteArray := prog_3_method_3_code
def yX1_changeDoubt : MethodName := ⟨RX1, "changeDoubt", "(II)I"⟩
abbrev cX1_addReading : ByteArray := prog_3_method_4_code
def yX1_addReading : MethodName := ⟨RX1, "addReading", "(IIII)I"⟩
abbrev cX1_readingsOf : ByteArray := prog_3_method_5_code
def yX1_readingsOf : MethodName := ⟨RX1, "readingsOf", "(II)I"⟩
abbrev cX1_isKnown : ByteArray := prog_3_method_6_code
def yX1_isKnown : MethodName := ⟨RX1, "isKnown", "(I)Z"⟩
abbrev cX1_isKnownOf : ByteArray := prog_3_method_7_code
def yX1_isKnownOf : MethodName := ⟨RX1, "isKnownOf", "(II)Z"⟩
abbrev cX1_knownReadings : ByteArray := prog_3_method_8_code
def yX1_knownReadings : MethodName := ⟨RX1, "knownReadings", "()I"⟩
abbrev cX1_squaredDoubt : ByteArray := prog_3_method_9_code
def yX1_squaredDoubt : MethodName := ⟨RX1, "squaredDoubt", "(I)I"⟩
def RX2 : String := "SentRound$Chains"
def TX2 : u_T := fun k => match k with
  | 0 => ("SentRound$Chains", "book", "LSentRound$Book;", true)
  | 1 => ("SentRound$Chains", "reduction", "LSentRound$Reduction;", true)
  | 2 => ("SentRound$Chains", "neighbours", "[I", true)
  | _ => ("SentRound$Chains", "cost", "[I", true)
def tyX2 : Nat → FieldType := fun k => match k with
  | 0 => .object "SentRound$Book"
  | 1 => .object "SentRound$Reduction"
  | 2 => .array .int
  | _ => .array .int
abbrev wsX20 : List Cond := u_ws RX2 TX2 4
theorem nmX2 : ∀ a, a < 4 → ∀ b, b < 4 → a ≠ b → (TX2 a).2.1 ≠ (TX2 b).2.1 := by decide +kernel
theorem tyX2_ok : ∀ k, k < 4 → parseFieldDescriptor (TX2 k).2.2.1 = some (tyX2 k) := by decide +kernel
abbrev cX2_init : ByteArray := prog_4_method_1_code
def yX2_init : MethodName := ⟨RX2, "<init>", "(LSentRound$Book;LSentRound$Reduction;)V"⟩
abbrev cX2_reckonTo : ByteArray := prog_4_method_2_code
def yX2_reckonTo : MethodName := ⟨RX2, "reckonTo", "(I)V"⟩
abbrev cX2_findNeighbours : ByteArray := prog_4_method_3_code
def yX2_findNeighbours : MethodName := ⟨RX2, "findNeighbours", "()V"⟩
abbrev cX2_cheapestBeside : ByteArray := prog_4_method_4_code
def yX2_cheapestBeside : MethodName := ⟨RX2, "cheapestBeside", "(I)I"⟩
abbrev cX2_costBy : ByteArray := prog_4_method_5_code
def yX2_costBy : MethodName := ⟨RX2, "costBy", "(I)V"⟩
abbrev cX2_nextFrom : ByteArray := prog_4_method_6_code
def yX2_nextFrom : MethodName := ⟨RX2, "nextFrom", "(I)I"⟩
def RX3 : String := "SentRound$Dealings"
def TX3 : u_T := fun k => match k with
  | 0 => ("SentRound$Dealings", "book", "LSentRound$Book;", true)
  | 1 => ("SentRound$Dealings", "reduction", "LSentRound$Reduction;", true)
  | 2 => ("SentRound$Dealings", "row", "[I", true)
  | 3 => ("SentRound$Dealings", "ofWay", "[I", true)
  | 4 => ("SentRound$Dealings", "houses", "I", false)
  | _ => ("SentRound$Dealings", "total", "J", false)
def tyX3 : Nat → FieldType := fun k => match k with
  | 0 => .object "SentRound$Book"
  | 1 => .object "SentRound$Reduction"
  | 2 => .array .int
  | 3 => .array .int
  | 4 => .int
  | _ => .long
abbrev wsX30 : List Cond := u_ws RX3 TX3 6
theorem nmX3 : ∀ a, a < 6 → ∀ b, b < 6 → a ≠ b → (TX3 a).2.1 ≠ (TX3 b).2.1 := by decide +kernel
theorem tyX3_ok : ∀ k, k < 6 → parseFieldDescriptor (TX3 k).2.2.1 = some (tyX3 k) := by decide +kernel
abbrev cX3_init : ByteArray := prog_5_method_1_code
def yX3_init : MethodName := ⟨RX3, "<init>", "(LSentRound$Book;LSentRound$Reduction;)V"⟩
abbrev cX3_gather : ByteArray := prog_5_method_2_code
def yX3_gather : MethodName := ⟨RX3, "gather", "(I)V"⟩
abbrev cX3_chance : ByteArray := prog_5_method_3_code
def yX3_chance : MethodName := ⟨RX3, "chance", "()I"⟩
abbrev cX3_choices : ByteArray := prog_5_method_4_code
def yX3_choices : MethodName := ⟨RX3, "choices", "(II)J"⟩
abbrev cX3_dealt : ByteArray := prog_5_method_5_code
def yX3_dealt : MethodName := ⟨RX3, "dealt", "([IIIJ)I"⟩
def RX4 : String := "SentRound$DoubtText"
def TX4 : u_T := fun k => match k with
  | 0 => ("SentRound$DoubtText", "bytes", "[I", true)
  | 1 => ("SentRound$DoubtText", "part", "LSentRound$Fraction;", true)
  | 2 => ("SentRound$DoubtText", "at", "I", false)
  | 3 => ("SentRound$DoubtText", "square", "J", false)
  | _ => ("SentRound$DoubtText", "length", "I", false)
def tyX4 : Nat → FieldType := fun k => match k with
  | 0 => .array .int
  | 1 => .object "SentRound$Fraction"
  | 2 => .int
  | 3 => .long
  | _ => .int
abbrev wsX40 : List Cond := u_ws RX4 TX4 5
theorem nmX4 : ∀ a, a < 5 → ∀ b, b < 5 → a ≠ b → (TX4 a).2.1 ≠ (TX4 b).2.1 := by decide +kernel
theorem tyX4_ok : ∀ k, k < 5 → parseFieldDescriptor (TX4 k).2.2.1 = some (tyX4 k) := by decide +kernel
abbrev cX4_init : ByteArray := prog_6_method_1_code
def yX4_init : MethodName := ⟨RX4, "<init>", "()V"⟩
abbrev cX4_append : ByteArray := prog_6_method_2_code
def yX4_append : MethodName := ⟨RX4, "append", "(I)I"⟩
abbrev cX4_firstFault : ByteArray := prog_6_method_3_code
def yX4_firstFault : MethodName := ⟨RX4, "firstFault", "()I"⟩
abbrev cX4_faultOfPart : ByteArray := prog_6_method_4_code
def yX4_faultOfPart : MethodName := ⟨RX4, "faultOfPart", "()I"⟩
abbrev cX4_nextNumber : ByteArray := prog_6_method_5_code
def yX4_nextNumber : MethodName := ⟨RX4, "nextNumber", "()I"⟩
abbrev cX4_squareOfPart : ByteArray := prog_6_method_6_code
def yX4_squareOfPart : MethodName := ⟨RX4, "squareOfPart", "()J"⟩
abbrev cX4_doubtOfSquare : ByteArray := prog_6_method_7_code
def yX4_doubtOfSquare : MethodName := ⟨RX4, "doubtOfSquare", "()I"⟩
def RX5 : String := "SentRound$Fraction"
def TX5 : u_T := fun k => match k with
  | 0 => ("SentRound$Fraction", "above", "J", false)
  | _ => ("SentRound$Fraction", "below", "J", false)
def tyX5 : Nat → FieldType := fun k => match k with
  | 0 => .long
  | _ => .long
abbrev wsX50 : List Cond := u_ws RX5 TX5 2
theorem nmX5 : ∀ a, a < 2 → ∀ b, b < 2 → a ≠ b → (TX5 a).2.1 ≠ (TX5 b).2.1 := by decide +kernel
theorem tyX5_ok : ∀ k, k < 2 → parseFieldDescriptor (TX5 k).2.2.1 = some (tyX5 k) := by decide +kernel
abbrev cX5_init : ByteArray := prog_7_method_1_code
def yX5_init : MethodName := ⟨RX5, "<init>", "()V"⟩
abbrev cX5_become : ByteArray := prog_7_method_2_code
def yX5_become : MethodName := ⟨RX5, "become", "(JJ)V"⟩
abbrev cX5_side : ByteArray := prog_7_method_3_code
def yX5_side : MethodName := ⟨RX5, "side", "(I)J"⟩
abbrev cX5_greatestShared : ByteArray := prog_7_method_4_code
def yX5_greatestShared : MethodName := ⟨RX5, "greatestShared", "(JJ)J"⟩
def RX6 : String := "SentRound$OneNumber"
def TX6 : u_T := fun k => match k with
  | 0 => ("SentRound$OneNumber", "book", "LSentRound$Book;", true)
  | 1 => ("SentRound$OneNumber", "reduction", "LSentRound$Reduction;", true)
  | 2 => ("SentRound$OneNumber", "row", "[J", true)
  | 3 => ("SentRound$OneNumber", "other", "[J", true)
  | 4 => ("SentRound$OneNumber", "pairs", "[J", true)
  | 5 => ("SentRound$OneNumber", "many", "I", false)
  | _ => ("SentRound$OneNumber", "answer", "LSentRound$Fraction;", true)
def tyX6 : Nat → FieldType := fun k => match k with
  | 0 => .object "SentRound$Book"
  | 1 => .object "SentRound$Reduction"
  | 2 => .array .long
  | 3 => .array .long
  | 4 => .array .long
  | 5 => .int
  | _ => .object "SentRound$Fraction"
abbrev wsX60 : List Cond := u_ws RX6 TX6 7
theorem nmX6 : ∀ a, a < 7 → ∀ b, b < 7 → a ≠ b → (TX6 a).2.1 ≠ (TX6 b).2.1 := by decide +kernel
theorem tyX6_ok : ∀ k, k < 7 → parseFieldDescriptor (TX6 k).2.2.1 = some (tyX6 k) := by decide +kernel
abbrev cX6_init : ByteArray := prog_8_method_1_code
def yX6_init : MethodName := ⟨RX6, "<init>", "(LSentRound$Book;LSentRound$Reduction;)V"⟩
abbrev cX6_reckonBy : ByteArray := prog_8_method_2_code
def yX6_reckonBy : MethodName := ⟨RX6, "reckonBy", "(II)Z"⟩
abbrev cX6_gather : ByteArray := prog_8_method_3_code
def yX6_gather : MethodName := ⟨RX6, "gather", "(I)V"⟩
abbrev cX6_twiceMiddle : ByteArray := prog_8_method_4_code
def yX6_twiceMiddle : MethodName := ⟨RX6, "twiceMiddle", "([JI)J"⟩
abbrev cX6_byPairs : ByteArray := prog_8_method_5_code
def yX6_byPairs : MethodName := ⟨RX6, "byPairs", "()V"⟩
abbrev cX6_byWeights : ByteArray := prog_8_method_6_code
def yX6_byWeights : MethodName := ⟨RX6, "byWeights", "(I)V"⟩
abbrev cX6_bySteps : ByteArray := prog_8_method_7_code
def yX6_bySteps : MethodName := ⟨RX6, "bySteps", "()J"⟩
abbrev cX6_clippedMean : ByteArray := prog_8_method_8_code
def yX6_clippedMean : MethodName := ⟨RX6, "clippedMean", "(JJ)J"⟩
abbrev cX6_clippedSpread : ByteArray := prog_8_method_9_code
def yX6_clippedSpread : MethodName := ⟨RX6, "clippedSpread", "(J)J"⟩
abbrev cX6_root : ByteArray := prog_8_method_10_code
def yX6_root : MethodName := ⟨RX6, "root", "(J)J"⟩
abbrev cX6_markOf : ByteArray := prog_8_method_11_code
def yX6_markOf : MethodName := ⟨RX6, "markOf", "(II)I"⟩
abbrev cX6_longestRun : ByteArray := prog_8_method_12_code
def yX6_longestRun : MethodName := ⟨RX6, "longestRun", "(I)I"⟩
def RX7 : String := "SentRound$Reduction"
def TX7 : u_T := fun k => match k with
  | 0 => ("SentRound$Reduction", "book", "LSentRound$Book;", true)
  | 1 => ("SentRound$Reduction", "points", "[I", true)
  | 2 => ("SentRound$Reduction", "pointDay", "[[I", true)
  | 3 => ("SentRound$Reduction", "pointSum", "[[I", true)
  | 4 => ("SentRound$Reduction", "pointMany", "[[I", true)
  | 5 => ("SentRound$Reduction", "sum", "[J", true)
  | 6 => ("SentRound$Reduction", "reduced", "[I", true)
  | 7 => ("SentRound$Reduction", "known", "[[I", true)
  | _ => ("SentRound$Reduction", "mean", "[[I", true)
def tyX7 : Nat → FieldType := fun k => match k with
  | 0 => .object "SentRound$Book"
  | 1 => .array .int
  | 2 => .array (.array .int)
  | 3 => .array (.array .int)
  | 4 => .array (.array .int)
  | 5 => .array .long
  | 6 => .array .int
  | 7 => .array (.array .int)
  | _ => .array (.array .int)
abbrev wsX70 : List Cond := u_ws RX7 TX7 9
theorem nmX7 : ∀ a, a < 9 → ∀ b, b < 9 → a ≠ b → (TX7 a).2.1 ≠ (TX7 b).2.1 := by decide +kernel
theorem tyX7_ok : ∀ k, k < 9 → parseFieldDescriptor (TX7 k).2.2.1 = some (tyX7 k) := by decide +kernel
abbrev cX7_init : ByteArray := prog_9_method_1_code
def yX7_init : MethodName := ⟨RX7, "<init>", "(LSentRound$Book;)V"⟩
abbrev cX7_takesPart : ByteArray := prog_9_method_2_code
def yX7_takesPart : MethodName := ⟨RX7, "takesPart", "(II)Z"⟩
abbrev cX7_takingPart : ByteArray := prog_9_method_3_code
def yX7_takingPart : MethodName := ⟨RX7, "takingPart", "(I)I"⟩
abbrev cX7_renew : ByteArray := prog_9_method_4_code
def yX7_renew : MethodName := ⟨RX7, "renew", "(I)V"⟩
abbrev cX7_findPoints : ByteArray := prog_9_method_5_code
def yX7_findPoints : MethodName := ⟨RX7, "findPoints", "(I)V"⟩
abbrev cX7_addToPoint : ByteArray := prog_9_method_6_code
def yX7_addToPoint : MethodName := ⟨RX7, "addToPoint", "(III)V"⟩
abbrev cX7_openPoint : ByteArray := prog_9_method_7_code
def yX7_openPoint : MethodName := ⟨RX7, "openPoint", "(III)V"⟩
abbrev cX7_driftOn : ByteArray := prog_9_method_8_code
def yX7_driftOn : MethodName := ⟨RX7, "driftOn", "(II)I"⟩
abbrev cX7_driftBetween : ByteArray := prog_9_method_9_code
def yX7_driftBetween : MethodName := ⟨RX7, "driftBetween", "(IIIJJ)I"⟩
def RX8 : String := "SentRound$Repeats"
def TX8 : u_T := fun k => match k with
  | 0 => ("SentRound$Repeats", "book", "LSentRound$Book;", true)
  | 1 => ("SentRound$Repeats", "reduction", "LSentRound$Reduction;", true)
  | 2 => ("SentRound$Repeats", "sum", "[J", true)
  | 3 => ("SentRound$Repeats", "squares", "[J", true)
  | _ => ("SentRound$Repeats", "answer", "LSentRound$Fraction;", true)
def tyX8 : Nat → FieldType := fun k => match k with
  | 0 => .object "SentRound$Book"
  | 1 => .object "SentRound$Reduction"
  | 2 => .array .long
  | 3 => .array .long
  | _ => .object "SentRound$Fraction"
abbrev wsX80 : List Cond := u_ws RX8 TX8 5
theorem nmX8 : ∀ a, a < 5 → ∀ b, b < 5 → a ≠ b → (TX8 a).2.1 ≠ (TX8 b).2.1 := by decide +kernel
theorem tyX8_ok : ∀ k, k < 5 → parseFieldDescriptor (TX8 k).2.2.1 = some (tyX8 k) := by decide +kernel
abbrev cX8_init : ByteArray := prog_10_method_1_code
def yX8_init : MethodName := ⟨RX8, "<init>", "(LSentRound$Book;LSentRound$Reduction;)V"⟩
abbrev cX8_gather : ByteArray := prog_10_method_2_code
def yX8_gather : MethodName := ⟨RX8, "gather", "(I)V"⟩
abbrev cX8_reckonWithin : ByteArray := prog_10_method_3_code
def yX8_reckonWithin : MethodName := ⟨RX8, "reckonWithin", "(II)Z"⟩
abbrev cX8_spread : ByteArray := prog_10_method_4_code
def yX8_spread : MethodName := ⟨RX8, "spread", "(IJ)J"⟩
abbrev cX8_scaledWithin : ByteArray := prog_10_method_5_code
def yX8_scaledWithin : MethodName := ⟨RX8, "scaledWithin", "(II)J"⟩
abbrev cX8_widestOf : ByteArray := prog_10_method_6_code
def yX8_widestOf : MethodName := ⟨RX8, "widestOf", "(I)I"⟩
abbrev cX8_reckonShare : ByteArray := prog_10_method_7_code
def yX8_reckonShare : MethodName := ⟨RX8, "reckonShare", "(I)Z"⟩
abbrev cX8_likeMany : ByteArray := prog_10_method_8_code
def yX8_likeMany : MethodName := ⟨RX8, "likeMany", "(I)I"⟩
abbrev cX8_reckonPart : ByteArray := prog_10_method_9_code
def yX8_reckonPart : MethodName := ⟨RX8, "reckonPart", "(II)Z"⟩
def RX9 : String := "SentRound$Sheets"
def TX9 : u_T := fun k => match k with
  | 0 => ("SentRound$Sheets", "rows", "[[I", true)
  | 1 => ("SentRound$Sheets", "types", "[I", true)
  | 2 => ("SentRound$Sheets", "sizes", "[I", true)
  | _ => ("SentRound$Sheets", "latest", "I", false)
def tyX9 : Nat → FieldType := fun k => match k with
  | 0 => .array (.array .int)
  | 1 => .array .int
  | 2 => .array .int
  | _ => .int
abbrev wsX90 : List Cond := u_ws RX9 TX9 4
theorem nmX9 : ∀ a, a < 4 → ∀ b, b < 4 → a ≠ b → (TX9 a).2.1 ≠ (TX9 b).2.1 := by decide +kernel
theorem tyX9_ok : ∀ k, k < 4 → parseFieldDescriptor (TX9 k).2.2.1 = some (tyX9 k) := by decide +kernel
abbrev cX9_init : ByteArray := prog_11_method_1_code
def yX9_init : MethodName := ⟨RX9, "<init>", "()V"⟩
abbrev cX9_find : ByteArray := prog_11_method_2_code
def yX9_find : MethodName := ⟨RX9, "find", "(I)I"⟩
abbrev cX9_isLost : ByteArray := prog_11_method_3_code
def yX9_isLost : MethodName := ⟨RX9, "isLost", "(I)Z"⟩
abbrev cX9_make : ByteArray := prog_11_method_4_code
def yX9_make : MethodName := ⟨RX9, "make", "(III)I"⟩
abbrev cX9_against : ByteArray := prog_11_method_5_code
def yX9_against : MethodName := ⟨RX9, "against", "(III)I"⟩
abbrev cX9_holds : ByteArray := prog_11_method_6_code
def yX9_holds : MethodName := ⟨RX9, "holds", "(III)Z"⟩
abbrev cX9_store : ByteArray := prog_11_method_7_code
def yX9_store : MethodName := ⟨RX9, "store", "(III)V"⟩
def RX10 : String := "SentRound"
def TX10 : u_T := fun k => match k with
  | 0 => ("SentRound", "book", "LSentRound$Book;", true)
  | 1 => ("SentRound", "reduction", "LSentRound$Reduction;", true)
  | 2 => ("SentRound", "agreement", "LSentRound$Agreement;", true)
  | 3 => ("SentRound", "chains", "LSentRound$Chains;", true)
  | 4 => ("SentRound", "oneNumber", "LSentRound$OneNumber;", true)
  | 5 => ("SentRound", "repeats", "LSentRound$Repeats;", true)
  | 6 => ("SentRound", "dealings", "LSentRound$Dealings;", true)
  | 7 => ("SentRound", "text", "LSentRound$DoubtText;", true)
  | _ => ("SentRound", "sheets", "LSentRound$Sheets;", true)
def tyX10 : Nat → FieldType := fun k => match k with
  | 0 => .object "SentRound$Book"
  | 1 => .object "SentRound$Reduction"
  | 2 => .object "SentRound$Agreement"
  | 3 => .object "SentRound$Chains"
  | 4 => .object "SentRound$OneNumber"
  | 5 => .object "SentRound$Repeats"
  | 6 => .object "SentRound$Dealings"
  | 7 => .object "SentRound$DoubtText"
  | _ => .object "SentRound$Sheets"
abbrev wsX100 : List Cond := u_ws RX10 TX10 9
theorem nmX10 : ∀ a, a < 9 → ∀ b, b < 9 → a ≠ b → (TX10 a).2.1 ≠ (TX10 b).2.1 := by decide +kernel
theorem tyX10_ok : ∀ k, k < 9 → parseFieldDescriptor (TX10 k).2.2.1 = some (tyX10 k) := by decide +kernel
abbrev cX10_init : ByteArray := prog_1_method_1_code
def yX10_init : MethodName := ⟨RX10, "<init>", "()V"⟩
abbrev cX10_pass : ByteArray := prog_1_method_2_code
def yX10_pass : MethodName := ⟨RX10, "pass", "(I)I"⟩
abbrev cX10_house : ByteArray := prog_1_method_3_code
def yX10_house : MethodName := ⟨RX10, "house", "(I)I"⟩
abbrev cX10_doubt : ByteArray := prog_1_method_4_code
def yX10_doubt : MethodName := ⟨RX10, "doubt", "(II)I"⟩
abbrev cX10_reading : ByteArray := prog_1_method_5_code
def yX10_reading : MethodName := ⟨RX10, "reading", "(IIII)I"⟩
abbrev cX10_read : ByteArray := prog_1_method_6_code
def yX10_read : MethodName := ⟨RX10, "read", "(I)I"⟩
abbrev cX10_takeBack : ByteArray := prog_1_method_7_code
def yX10_takeBack : MethodName := ⟨RX10, "takeBack", "(I)I"⟩
abbrev cX10_about : ByteArray := prog_1_method_8_code
def yX10_about : MethodName := ⟨RX10, "about", "(II)I"⟩
abbrev cX10_asOf : ByteArray := prog_1_method_9_code
def yX10_asOf : MethodName := ⟨RX10, "asOf", "(I)I"⟩
abbrev cX10_factor : ByteArray := prog_1_method_10_code
def yX10_factor : MethodName := ⟨RX10, "factor", "(I)I"⟩
abbrev cX10_drift : ByteArray := prog_1_method_11_code
def yX10_drift : MethodName := ⟨RX10, "drift", "(II)I"⟩
abbrev cX10_many : ByteArray := prog_1_method_12_code
def yX10_many : MethodName := ⟨RX10, "many", "(II)I"⟩
abbrev cX10_told : ByteArray := prog_1_method_13_code
def yX10_told : MethodName := ⟨RX10, "told", "(II)I"⟩
abbrev cX10_agree : ByteArray := prog_1_method_14_code
def yX10_agree : MethodName := ⟨RX10, "agree", "(III)I"⟩
abbrev cX10_agreeing : ByteArray := prog_1_method_15_code
def yX10_agreeing : MethodName := ⟨RX10, "agreeing", "(I)I"⟩
abbrev cX10_common : ByteArray := prog_1_method_16_code
def yX10_common : MethodName := ⟨RX10, "common", "(II)I"⟩
abbrev cX10_chain : ByteArray := prog_1_method_17_code
def yX10_chain : MethodName := ⟨RX10, "chain", "(II)I"⟩
abbrev cX10_via : ByteArray := prog_1_method_18_code
def yX10_via : MethodName := ⟨RX10, "via", "(II)I"⟩
abbrev cX10_number : ByteArray := prog_1_method_19_code
def yX10_number : MethodName := ⟨RX10, "number", "(III)J"⟩
abbrev cX10_mark : ByteArray := prog_1_method_20_code
def yX10_mark : MethodName := ⟨RX10, "mark", "(II)I"⟩
abbrev cX10_judged : ByteArray := prog_1_method_21_code
def yX10_judged : MethodName := ⟨RX10, "judged", "(II)I"⟩
abbrev cX10_run : ByteArray := prog_1_method_22_code
def yX10_run : MethodName := ⟨RX10, "run", "(I)I"⟩
abbrev cX10_within : ByteArray := prog_1_method_23_code
def yX10_within : MethodName := ⟨RX10, "within", "(III)J"⟩
abbrev cX10_widest : ByteArray := prog_1_method_24_code
def yX10_widest : MethodName := ⟨RX10, "widest", "(I)I"⟩
abbrev cX10_share : ByteArray := prog_1_method_25_code
def yX10_share : MethodName := ⟨RX10, "share", "(II)J"⟩
abbrev cX10_parts : ByteArray := prog_1_method_26_code
def yX10_parts : MethodName := ⟨RX10, "parts", "(III)J"⟩
abbrev cX10_ways : ByteArray := prog_1_method_27_code
def yX10_ways : MethodName := ⟨RX10, "ways", "(II)I"⟩
abbrev cX10_score : ByteArray := prog_1_method_28_code
def yX10_score : MethodName := ⟨RX10, "score", "(I)J"⟩
abbrev cX10_type : ByteArray := prog_1_method_29_code
def yX10_type : MethodName := ⟨RX10, "type", "(I)I"⟩
abbrev cX10_wipe : ByteArray := prog_1_method_30_code
def yX10_wipe : MethodName := ⟨RX10, "wipe", "()I"⟩
abbrev cX10_fault : ByteArray := prog_1_method_31_code
def yX10_fault : MethodName := ⟨RX10, "fault", "()I"⟩
abbrev cX10_reckon : ByteArray := prog_1_method_32_code
def yX10_reckon : MethodName := ⟨RX10, "reckon", "()I"⟩
abbrev cX10_claim : ByteArray := prog_1_method_33_code
def yX10_claim : MethodName := ⟨RX10, "claim", "(I)I"⟩
abbrev cX10_sheet : ByteArray := prog_1_method_34_code
def yX10_sheet : MethodName := ⟨RX10, "sheet", "(III)I"⟩
abbrev cX10_lose : ByteArray := prog_1_method_35_code
def yX10_lose : MethodName := ⟨RX10, "lose", "(I)I"⟩
abbrev cX10_put : ByteArray := prog_1_method_36_code
def yX10_put : MethodName := ⟨RX10, "put", "(IIII)I"⟩
abbrev cX10_get : ByteArray := prog_1_method_37_code
def yX10_get : MethodName := ⟨RX10, "get", "(III)I"⟩
abbrev cX10_copy : ByteArray := prog_1_method_38_code
def yX10_copy : MethodName := ⟨RX10, "copy", "(IIIII)I"⟩
abbrev cX10_write : ByteArray := prog_1_method_39_code
def yX10_write : MethodName := ⟨RX10, "write", "(II)I"⟩
abbrev cX10_count : ByteArray := prog_1_method_40_code
def yX10_count : MethodName := ⟨RX10, "count", "(I)I"⟩
abbrev cX10_digest : ByteArray := prog_1_method_41_code
def yX10_digest : MethodName := ⟨RX10, "digest", "()J"⟩
abbrev cX10_digestPiece : ByteArray := prog_1_method_42_code
def yX10_digestPiece : MethodName := ⟨RX10, "digestPiece", "(JI)J"⟩
abbrev cX10_tell : ByteArray := prog_1_method_43_code
def yX10_tell : MethodName := ⟨RX10, "tell", "(IIII)I"⟩
abbrev cX10_noHouse : ByteArray := prog_1_method_44_code
def yX10_noHouse : MethodName := ⟨RX10, "noHouse", "(I)Z"⟩
abbrev cX10_noReading : ByteArray := prog_1_method_45_code
def yX10_noReading : MethodName := ⟨RX10, "noReading", "(I)Z"⟩
abbrev cX10_noPiece : ByteArray := prog_1_method_46_code
def yX10_noPiece : MethodName := ⟨RX10, "noPiece", "(I)Z"⟩
abbrev cX10_noSheet : ByteArray := prog_1_method_47_code
def yX10_noSheet : MethodName := ⟨RX10, "noSheet", "(I)Z"⟩
abbrev cX10_noType : ByteArray := prog_1_method_48_code
def yX10_noType : MethodName := ⟨RX10, "noType", "(I)Z"⟩
abbrev cX10_refusal : ByteArray := prog_1_method_49_code
def yX10_refusal : MethodName := ⟨RX10, "refusal", "(I)J"⟩
abbrev cX10_nearest : ByteArray := prog_1_method_50_code
def yX10_nearest : MethodName := ⟨RX10, "nearest", "(JJ)J"⟩
abbrev cX10_putInOrder : ByteArray := prog_1_method_51_code
def yX10_putInOrder : MethodName := ⟨RX10, "putInOrder", "([JIJ)V"⟩
def RX11 : String := "SentRoundModel"
def TX11 : u_T := fun k => match k with
  | 0 => ("SentRoundModel", "day", "I", false)
  | 1 => ("SentRoundModel", "houses", "I", false)
  | 2 => ("SentRoundModel", "wayOf", "[I", true)
  | 3 => ("SentRoundModel", "doubtOf", "[I", true)
  | 4 => ("SentRoundModel", "readings", "I", false)
  | 5 => ("SentRoundModel", "readHouse", "[I", true)
  | 6 => ("SentRoundModel", "readPiece", "[I", true)
  | 7 => ("SentRoundModel", "readOn", "[I", true)
  | 8 => ("SentRoundModel", "readValue", "[I", true)
  | 9 => ("SentRoundModel", "readTold", "[I", true)
  | 10 => ("SentRoundModel", "readBack", "[I", true)
  | 11 => ("SentRoundModel", "knownTo", "I", false)
  | 12 => ("SentRoundModel", "factorNow", "I", false)
  | 13 => ("SentRoundModel", "isWorked", "Z", false)
  | 14 => ("SentRoundModel", "pointMany", "[I", true)
  | 15 => ("SentRoundModel", "pointDay", "[I", true)
  | 16 => ("SentRoundModel", "pointSum", "[J", true)
  | 17 => ("SentRoundModel", "pointOf", "[I", true)
  | 18 => ("SentRoundModel", "tookPart", "[I", true)
  | 19 => ("SentRoundModel", "toldSum", "[J", true)
  | 20 => ("SentRoundModel", "agreeBits", "[I", true)
  | 21 => ("SentRoundModel", "commonAt", "J", false)
  | 22 => ("SentRoundModel", "costTo", "[J", true)
  | 23 => ("SentRoundModel", "rowMany", "I", false)
  | 24 => ("SentRoundModel", "row", "[J", true)
  | 25 => ("SentRoundModel", "numberTop", "J", false)
  | 26 => ("SentRoundModel", "numberBottom", "J", false)
  | 27 => ("SentRoundModel", "repeatSum", "J", false)
  | 28 => ("SentRoundModel", "repeatSquares", "J", false)
  | 29 => ("SentRoundModel", "typed", "I", false)
  | 30 => ("SentRoundModel", "text", "[I", true)
  | 31 => ("SentRoundModel", "at", "I", false)
  | 32 => ("SentRoundModel", "fault", "I", false)
  | 33 => ("SentRoundModel", "partTop", "J", false)
  | 34 => ("SentRoundModel", "partBottom", "J", false)
  | 35 => ("SentRoundModel", "squareSum", "J", false)
  | 36 => ("SentRoundModel", "isThere", "[Z", true)
  | 37 => ("SentRoundModel", "types", "[I", true)
  | 38 => ("SentRoundModel", "sizes", "[I", true)
  | 39 => ("SentRoundModel", "items", "[I", true)
  | 40 => ("SentRoundModel", "moved", "[I", true)
  | _ => ("SentRoundModel", "finding", "I", false)
def tyX11 : Nat → FieldType := fun k => match k with
  | 0 => .int
  | 1 => .int
  | 2 => .array .int
  | 3 => .array .int
  | 4 => .int
  | 5 => .array .int
  | 6 => .array .int
  | 7 => .array .int
  | 8 => .array .int
  | 9 => .array .int
  | 10 => .array .int
  | 11 => .int
  | 12 => .int
  | 13 => .boolean
  | 14 => .array .int
  | 15 => .array .int
  | 16 => .array .long
  | 17 => .array .int
  | 18 => .array .int
  | 19 => .array .long
  | 20 => .array .int
  | 21 => .long
  | 22 => .array .long
  | 23 => .int
  | 24 => .array .long
  | 25 => .long
  | 26 => .long
  | 27 => .long
  | 28 => .long
  | 29 => .int
  | 30 => .array .int
  | 31 => .int
  | 32 => .int
  | 33 => .long
  | 34 => .long
  | 35 => .long
  | 36 => .array .boolean
  | 37 => .array .int
  | 38 => .array .int
  | 39 => .array .int
  | 40 => .array .int
  | _ => .int
abbrev wsX110 : List Cond := u_ws RX11 TX11 42
theorem nmX11 : ∀ a, a < 42 → ∀ b, b < 42 → a ≠ b → (TX11 a).2.1 ≠ (TX11 b).2.1 := by decide +kernel
theorem tyX11_ok : ∀ k, k < 42 → parseFieldDescriptor (TX11 k).2.2.1 = some (tyX11 k) := by decide +kernel
abbrev cX11_init : ByteArray := prog_13_method_1_code
def yX11_init : MethodName := ⟨RX11, "<init>", "()V"⟩
abbrev cX11_in : ByteArray := prog_13_method_3_code
def yX11_in : MethodName := ⟨RX11, "in", "(III)Z"⟩
abbrev cX11_amount : ByteArray := prog_13_method_4_code
def yX11_amount : MethodName := ⟨RX11, "amount", "(J)J"⟩
abbrev cX11_down : ByteArray := prog_13_method_5_code
def yX11_down : MethodName := ⟨RX11, "down", "(JJ)J"⟩
abbrev cX11_near : ByteArray := prog_13_method_6_code
def yX11_near : MethodName := ⟨RX11, "near", "(JJ)J"⟩
abbrev cX11_divisor : ByteArray := prog_13_method_7_code
def yX11_divisor : MethodName := ⟨RX11, "divisor", "(JJ)J"⟩
abbrev cX11_lowest : ByteArray := prog_13_method_8_code
def yX11_lowest : MethodName := ⟨RX11, "lowest", "(JJI)J"⟩
abbrev cX11_isHouse : ByteArray := prog_13_method_9_code
def yX11_isHouse : MethodName := ⟨RX11, "isHouse", "(I)Z"⟩
abbrev cX11_isPiece : ByteArray := prog_13_method_10_code
def yX11_isPiece : MethodName := ⟨RX11, "isPiece", "(I)Z"⟩
abbrev cX11_isKnown : ByteArray := prog_13_method_11_code
def yX11_isKnown : MethodName := ⟨RX11, "isKnown", "(I)Z"⟩
abbrev cX11_pass : ByteArray := prog_13_method_12_code
def yX11_pass : MethodName := ⟨RX11, "pass", "(I)I"⟩
abbrev cX11_house : ByteArray := prog_13_method_13_code
def yX11_house : MethodName := ⟨RX11, "house", "(I)I"⟩
abbrev cX11_doubt : ByteArray := prog_13_method_14_code
def yX11_doubt : MethodName := ⟨RX11, "doubt", "(II)I"⟩
abbrev cX11_readingMore : ByteArray := prog_13_method_15_code
def yX11_readingMore : MethodName := ⟨RX11, "readingMore", "(IIII)I"⟩
abbrev cX11_reading : ByteArray := prog_13_method_16_code
def yX11_reading : MethodName := ⟨RX11, "reading", "(IIII)I"⟩
abbrev cX11_read : ByteArray := prog_13_method_17_code
def yX11_read : MethodName := ⟨RX11, "read", "(I)I"⟩
abbrev cX11_takeBack : ByteArray := prog_13_method_18_code
def yX11_takeBack : MethodName := ⟨RX11, "takeBack", "(I)I"⟩
abbrev cX11_about : ByteArray := prog_13_method_19_code
def yX11_about : MethodName := ⟨RX11, "about", "(II)I"⟩
abbrev cX11_asOf : ByteArray := prog_13_method_20_code
def yX11_asOf : MethodName := ⟨RX11, "asOf", "(I)I"⟩
abbrev cX11_factor : ByteArray := prog_13_method_21_code
def yX11_factor : MethodName := ⟨RX11, "factor", "(I)I"⟩
abbrev cX11_points : ByteArray := prog_13_method_22_code
def yX11_points : MethodName := ⟨RX11, "points", "(I)V"⟩
abbrev cX11_driftOf : ByteArray := prog_13_method_23_code
def yX11_driftOf : MethodName := ⟨RX11, "driftOf", "(II)I"⟩
abbrev cX11_works : ByteArray := prog_13_method_24_code
def yX11_works : MethodName := ⟨RX11, "works", "()V"⟩
abbrev cX11_reducedOf : ByteArray := prog_13_method_25_code
def yX11_reducedOf : MethodName := ⟨RX11, "reducedOf", "(I)J"⟩
abbrev cX11_drift : ByteArray := prog_13_method_26_code
def yX11_drift : MethodName := ⟨RX11, "drift", "(II)I"⟩
abbrev cX11_takes : ByteArray := prog_13_method_27_code
def yX11_takes : MethodName := ⟨RX11, "takes", "(II)Z"⟩
abbrev cX11_many : ByteArray := prog_13_method_28_code
def yX11_many : MethodName := ⟨RX11, "many", "(II)I"⟩
abbrev cX11_toldOf : ByteArray := prog_13_method_29_code
def yX11_toldOf : MethodName := ⟨RX11, "toldOf", "(II)J"⟩
abbrev cX11_toldOrNot : ByteArray := prog_13_method_30_code
def yX11_toldOrNot : MethodName := ⟨RX11, "toldOrNot", "(II)I"⟩
abbrev cX11_told : ByteArray := prog_13_method_31_code
def yX11_told : MethodName := ⟨RX11, "told", "(II)I"⟩
abbrev cX11_square : ByteArray := prog_13_method_32_code
def yX11_square : MethodName := ⟨RX11, "square", "(J)J"⟩
abbrev cX11_doAgree : ByteArray := prog_13_method_33_code
def yX11_doAgree : MethodName := ⟨RX11, "doAgree", "(III)Z"⟩
abbrev cX11_agree : ByteArray := prog_13_method_34_code
def yX11_agree : MethodName := ⟨RX11, "agree", "(III)I"⟩
abbrev cX11_ones : ByteArray := prog_13_method_35_code
def yX11_ones : MethodName := ⟨RX11, "ones", "(I)I"⟩
abbrev cX11_agreeingOf : ByteArray := prog_13_method_36_code
def yX11_agreeingOf : MethodName := ⟨RX11, "agreeingOf", "(I)I"⟩
abbrev cX11_agreeing : ByteArray := prog_13_method_37_code
def yX11_agreeing : MethodName := ⟨RX11, "agreeing", "(I)I"⟩
abbrev cX11_commonOf : ByteArray := prog_13_method_38_code
def yX11_commonOf : MethodName := ⟨RX11, "commonOf", "(I)I"⟩
abbrev cX11_common : ByteArray := prog_13_method_39_code
def yX11_common : MethodName := ⟨RX11, "common", "(II)I"⟩
abbrev cX11_together : ByteArray := prog_13_method_40_code
def yX11_together : MethodName := ⟨RX11, "together", "(II)Z"⟩
abbrev cX11_costs : ByteArray := prog_13_method_41_code
def yX11_costs : MethodName := ⟨RX11, "costs", "(I)V"⟩
abbrev cX11_areTwo : ByteArray := prog_13_method_42_code
def yX11_areTwo : MethodName := ⟨RX11, "areTwo", "(II)Z"⟩
abbrev cX11_chain : ByteArray := prog_13_method_43_code
def yX11_chain : MethodName := ⟨RX11, "chain", "(II)I"⟩
abbrev cX11_via : ByteArray := prog_13_method_44_code
def yX11_via : MethodName := ⟨RX11, "via", "(II)I"⟩
abbrev cX11_add : ByteArray := prog_13_method_45_code
def yX11_add : MethodName := ⟨RX11, "add", "(J)V"⟩
abbrev cX11_middle : ByteArray := prog_13_method_46_code
def yX11_middle : MethodName := ⟨RX11, "middle", "()V"⟩
abbrev cX11_rowOf : ByteArray := prog_13_method_47_code
def yX11_rowOf : MethodName := ⟨RX11, "rowOf", "(I)V"⟩
abbrev cX11_pairsOf : ByteArray := prog_13_method_48_code
def yX11_pairsOf : MethodName := ⟨RX11, "pairsOf", "(I)V"⟩
abbrev cX11_weighted : ByteArray := prog_13_method_49_code
def yX11_weighted : MethodName := ⟨RX11, "weighted", "(I)V"⟩
abbrev cX11_root : ByteArray := prog_13_method_50_code
def yX11_root : MethodName := ⟨RX11, "root", "(J)J"⟩
abbrev cX11_steps : ByteArray := prog_13_method_51_code
def yX11_steps : MethodName := ⟨RX11, "steps", "(I)V"⟩
abbrev cX11_clipped : ByteArray := prog_13_method_52_code
def yX11_clipped : MethodName := ⟨RX11, "clipped", "(JJJ)J"⟩
abbrev cX11_finds : ByteArray := prog_13_method_53_code
def yX11_finds : MethodName := ⟨RX11, "finds", "(II)Z"⟩
abbrev cX11_number : ByteArray := prog_13_method_54_code
def yX11_number : MethodName := ⟨RX11, "number", "(III)J"⟩
abbrev cX11_markOf : ByteArray := prog_13_method_55_code
def yX11_markOf : MethodName := ⟨RX11, "markOf", "(II)I"⟩
abbrev cX11_mark : ByteArray := prog_13_method_56_code
def yX11_mark : MethodName := ⟨RX11, "mark", "(II)I"⟩
abbrev cX11_judged : ByteArray := prog_13_method_57_code
def yX11_judged : MethodName := ⟨RX11, "judged", "(II)I"⟩
abbrev cX11_run : ByteArray := prog_13_method_58_code
def yX11_run : MethodName := ⟨RX11, "run", "(I)I"⟩
abbrev cX11_repeats : ByteArray := prog_13_method_59_code
def yX11_repeats : MethodName := ⟨RX11, "repeats", "(II)V"⟩
abbrev cX11_withinTop : ByteArray := prog_13_method_60_code
def yX11_withinTop : MethodName := ⟨RX11, "withinTop", "(II)J"⟩
abbrev cX11_withinBottom : ByteArray := prog_13_method_61_code
def yX11_withinBottom : MethodName := ⟨RX11, "withinBottom", "(II)J"⟩
abbrev cX11_isRepeat : ByteArray := prog_13_method_62_code
def yX11_isRepeat : MethodName := ⟨RX11, "isRepeat", "(II)Z"⟩
abbrev cX11_within : ByteArray := prog_13_method_63_code
def yX11_within : MethodName := ⟨RX11, "within", "(III)J"⟩
abbrev cX11_widestOf : ByteArray := prog_13_method_64_code
def yX11_widestOf : MethodName := ⟨RX11, "widestOf", "(I)I"⟩
abbrev cX11_widest : ByteArray := prog_13_method_65_code
def yX11_widest : MethodName := ⟨RX11, "widest", "(I)I"⟩
abbrev cX11_share : ByteArray := prog_13_method_66_code
def yX11_share : MethodName := ⟨RX11, "share", "(II)J"⟩
abbrev cX11_parts : ByteArray := prog_13_method_67_code
def yX11_parts : MethodName := ⟨RX11, "parts", "(III)J"⟩
abbrev cX11_wayMany : ByteArray := prog_13_method_68_code
def yX11_wayMany : MethodName := ⟨RX11, "wayMany", "(II)I"⟩
abbrev cX11_scoreOf : ByteArray := prog_13_method_69_code
def yX11_scoreOf : MethodName := ⟨RX11, "scoreOf", "(I)J"⟩
abbrev cX11_score : ByteArray := prog_13_method_70_code
def yX11_score : MethodName := ⟨RX11, "score", "(I)J"⟩
abbrev cX11_chanceOf : ByteArray := prog_13_method_71_code
def yX11_chanceOf : MethodName := ⟨RX11, "chanceOf", "(II)I"⟩
abbrev cX11_ways : ByteArray := prog_13_method_72_code
def yX11_ways : MethodName := ⟨RX11, "ways", "(II)I"⟩
abbrev cX11_type : ByteArray := prog_13_method_73_code
def yX11_type : MethodName := ⟨RX11, "type", "(I)I"⟩
abbrev cX11_wipe : ByteArray := prog_13_method_74_code
def yX11_wipe : MethodName := ⟨RX11, "wipe", "()I"⟩
abbrev cX11_byteAt : ByteArray := prog_13_method_75_code
def yX11_byteAt : MethodName := ⟨RX11, "byteAt", "(I)I"⟩
abbrev cX11_figures : ByteArray := prog_13_method_76_code
def yX11_figures : MethodName := ⟨RX11, "figures", "()I"⟩
abbrev cX11_part : ByteArray := prog_13_method_77_code
def yX11_part : MethodName := ⟨RX11, "part", "()V"⟩
abbrev cX11_faultNow : ByteArray := prog_13_method_78_code
def yX11_faultNow : MethodName := ⟨RX11, "faultNow", "()I"⟩
abbrev cX11_fault : ByteArray := prog_13_method_79_code
def yX11_fault : MethodName := ⟨RX11, "fault", "()I"⟩
abbrev cX11_reckons : ByteArray := prog_13_method_80_code
def yX11_reckons : MethodName := ⟨RX11, "reckons", "()I"⟩
abbrev cX11_reckon : ByteArray := prog_13_method_81_code
def yX11_reckon : MethodName := ⟨RX11, "reckon", "()I"⟩
abbrev cX11_claim : ByteArray := prog_13_method_82_code
def yX11_claim : MethodName := ⟨RX11, "claim", "(I)I"⟩
abbrev cX11_meets : ByteArray := prog_13_method_83_code
def yX11_meets : MethodName := ⟨RX11, "meets", "(I)I"⟩
abbrev cX11_isSheet : ByteArray := prog_13_method_84_code
def yX11_isSheet : MethodName := ⟨RX11, "isSheet", "(I)Z"⟩
abbrev cX11_sheet : ByteArray := prog_13_method_85_code
def yX11_sheet : MethodName := ⟨RX11, "sheet", "(III)I"⟩
abbrev cX11_lose : ByteArray := prog_13_method_86_code
def yX11_lose : MethodName := ⟨RX11, "lose", "(I)I"⟩
abbrev cX11_lacks : ByteArray := prog_13_method_87_code
def yX11_lacks : MethodName := ⟨RX11, "lacks", "(III)I"⟩
abbrev cX11_lay : ByteArray := prog_13_method_88_code
def yX11_lay : MethodName := ⟨RX11, "lay", "(III)V"⟩
abbrev cX11_put : ByteArray := prog_13_method_89_code
def yX11_put : MethodName := ⟨RX11, "put", "(IIII)I"⟩
abbrev cX11_get : ByteArray := prog_13_method_90_code
def yX11_get : MethodName := ⟨RX11, "get", "(III)I"⟩
abbrev cX11_copy : ByteArray := prog_13_method_91_code
def yX11_copy : MethodName := ⟨RX11, "copy", "(IIIII)I"⟩
abbrev cX11_write : ByteArray := prog_13_method_92_code
def yX11_write : MethodName := ⟨RX11, "write", "(II)I"⟩
abbrev cX11_knownMany : ByteArray := prog_13_method_93_code
def yX11_knownMany : MethodName := ⟨RX11, "knownMany", "()I"⟩
abbrev cX11_count : ByteArray := prog_13_method_94_code
def yX11_count : MethodName := ⟨RX11, "count", "(I)I"⟩
abbrev cX11_digest : ByteArray := prog_13_method_95_code
def yX11_digest : MethodName := ⟨RX11, "digest", "()J"⟩
def RJ6 : String := "java/lang/Integer"
def TJ6 : u_T := fun k => match k with
  | _ => ("", "", "", false)
def tyJ6 : Nat → FieldType := fun k => match k with
  | _ => .int
abbrev wsJ60 : List Cond := u_ws RJ6 TJ6 0
theorem nmJ6 : ∀ a, a < 0 → ∀ b, b < 0 → a ≠ b → (TJ6 a).2.1 ≠ (TJ6 b).2.1 := by decide +kernel
theorem tyJ6_ok : ∀ k, k < 0 → parseFieldDescriptor (TJ6 k).2.2.1 = some (tyJ6 k) := by decide +kernel
abbrev cJ6_bitCount_0f7a4 : ByteArray := prog_14_method_49_code
def yJ6_bitCount_0f7a4 : MethodName := ⟨RJ6, "bitCount", "(I)I"⟩
abbrev cJ6_signum_0f7a4 : ByteArray := prog_14_method_56_code
def yJ6_signum_0f7a4 : MethodName := ⟨RJ6, "signum", "(I)I"⟩
def RJ9 : String := "java/lang/Math"
def TJ9 : u_T := fun k => match k with
  | _ => ("", "", "", false)
def tyJ9 : Nat → FieldType := fun k => match k with
  | _ => .int
abbrev wsJ90 : List Cond := u_ws RJ9 TJ9 0
theorem nmJ9 : ∀ a, a < 0 → ∀ b, b < 0 → a ≠ b → (TJ9 a).2.1 ≠ (TJ9 b).2.1 := by decide +kernel
theorem tyJ9_ok : ∀ k, k < 0 → parseFieldDescriptor (TJ9 k).2.2.1 = some (tyJ9 k) := by decide +kernel
abbrev cJ9_floorDiv_f86c9 : ByteArray := prog_15_method_49_code
def yJ9_floorDiv_f86c9 : MethodName := ⟨RJ9, "floorDiv", "(JJ)J"⟩
abbrev cJ9_abs_0f7a4 : ByteArray := prog_15_method_59_code
def yJ9_abs_0f7a4 : MethodName := ⟨RJ9, "abs", "(I)I"⟩
abbrev cJ9_abs_067f4 : ByteArray := prog_15_method_61_code
def yJ9_abs_067f4 : MethodName := ⟨RJ9, "abs", "(J)J"⟩
abbrev cJ9_max_7cf53 : ByteArray := prog_15_method_65_code
def yJ9_max_7cf53 : MethodName := ⟨RJ9, "max", "(II)I"⟩
abbrev cJ9_max_f86c9 : ByteArray := prog_15_method_66_code
def yJ9_max_f86c9 : MethodName := ⟨RJ9, "max", "(JJ)J"⟩
abbrev cJ9_min_7cf53 : ByteArray := prog_15_method_69_code
def yJ9_min_7cf53 : MethodName := ⟨RJ9, "min", "(II)I"⟩
abbrev cJ9_min_f86c9 : ByteArray := prog_15_method_70_code
def yJ9_min_f86c9 : MethodName := ⟨RJ9, "min", "(JJ)J"⟩
def RJ10 : String := "java/lang/System"
def TJ10 : u_T := fun k => match k with
  | _ => ("", "", "", false)
def tyJ10 : Nat → FieldType := fun k => match k with
  | _ => .int
abbrev wsJ100 : List Cond := u_ws RJ10 TJ10 0
theorem nmJ10 : ∀ a, a < 0 → ∀ b, b < 0 → a ≠ b → (TJ10 a).2.1 ≠ (TJ10 b).2.1 := by decide +kernel
theorem tyJ10_ok : ∀ k, k < 0 → parseFieldDescriptor (TJ10 k).2.2.1 = some (tyJ10 k) := by decide +kernel
def RJ7 : String := "java/util/Arrays"
def TJ7 : u_T := fun k => match k with
  | _ => ("", "", "", false)
def tyJ7 : Nat → FieldType := fun k => match k with
  | _ => .int
abbrev wsJ70 : List Cond := u_ws RJ7 TJ7 0
theorem nmJ7 : ∀ a, a < 0 → ∀ b, b < 0 → a ≠ b → (TJ7 a).2.1 ≠ (TJ7 b).2.1 := by decide +kernel
theorem tyJ7_ok : ∀ k, k < 0 → parseFieldDescriptor (TJ7 k).2.2.1 = some (tyJ7 k) := by decide +kernel
abbrev cJ7_fill_d0a16 : ByteArray := prog_17_method_101_code
def yJ7_fill_d0a16 : MethodName := ⟨RJ7, "fill", "([JJ)V"⟩
abbrev cJ7_fill_53178 : ByteArray := prog_17_method_103_code
def yJ7_fill_53178 : MethodName := ⟨RJ7, "fill", "([II)V"⟩
def RL : String := "SentRoundLaw"
abbrev cL_law : ByteArray := code
def yL_law : MethodName := ⟨RL, "law", "([I)Z"⟩
abbrev vwCl : List vw_C := [(RX0, TX0, 6), (RX1, TX1, 12), (RX2, TX2, 4), (RX3, TX3, 6), (RX4, TX4, 5), (RX5, TX5, 2), (RX6, TX6, 7), (RX7, TX7, 9), (RX8, TX8, 5), (RX9, TX9, 4), (RX10, TX10, 9), (RX11, TX11, 42)]
end
section
/-! the cells of the world after both constructors: arrays (kind, length, first row) or objects (class, field codes: 0 an int, 1 a long, r + 2 the cell r) -/
abbrev Shp : Type := (Nat × Nat × Nat) ⊕ (Nat × List Nat)
def gsL : List Shp := [.inr (10, [3, 4, 5, 6, 7, 8, 9, 10, 11]), .inr (1, [0, 0, 0, 15, 16, 0, 17, 18, 19, 20, 21, 22]), .inr (7, [3, 23, 24, 29, 34, 39, 40, 41, 46]), .inr (0, [3, 4, 51, 0, 0, 0]), .inr (2, [3, 4, 52, 53]), .inr (6, [3, 4, 54, 55, 56, 0, 12]), .inr (8, [3, 4, 57, 58, 13]), .inr (3, [3, 4, 59, 60, 0, 1]), .inr (4, [61, 14, 0, 1, 0]), .inr (9, [62, 67, 68, 0]), .inr (5, [1, 1]), .inr (5, [1, 1]), .inr (5, [1, 1]), .inl (0, 14, 0), .inl (0, 14, 0), .inl (0, 150, 0), .inl (0, 150, 0), .inl (0, 150, 0), .inl (0, 150, 0), .inl (0, 150, 0), .inl (0, 150, 0), .inl (0, 4, 0), .inl (3, 4, 23), .inl (0, 8, 0), .inl (0, 8, 0), .inl (0, 8, 0), .inl (0, 8, 0), .inl (3, 4, 28), .inl (0, 8, 0), .inl (0, 8, 0), .inl (0, 8, 0), .inl (0, 8, 0), .inl (3, 4, 33), .inl (0, 8, 0), .inl (0, 8, 0), .inl (0, 8, 0), .inl (0, 8, 0), .inl (1, 14, 0), .inl (0, 150, 0), .inl (3, 4, 40), .inl (0, 14, 0), .inl (0, 14, 0), .inl (0, 14, 0), .inl (0, 14, 0), .inl (3, 4, 45), .inl (0, 14, 0), .inl (0, 14, 0), .inl (0, 14, 0), .inl (0, 14, 0), .inl (0, 14, 0), .inl (0, 14, 0), .inl (0, 14, 0), .inl (1, 14, 0), .inl (1, 14, 0), .inl (1, 105, 0), .inl (1, 14, 0), .inl (1, 14, 0), .inl (0, 14, 0), .inl (0, 2, 0), .inl (0, 60, 0), .inl (3, 4, 61), .inl (0, 60, 0), .inl (0, 60, 0), .inl (0, 60, 0), .inl (0, 60, 0), .inl (0, 4, 0), .inl (0, 4, 0), .inr (11, [0, 0, 70, 71, 0, 72, 73, 74, 75, 76, 77, 0, 0, 0, 78, 79, 80, 81, 82, 83, 84, 1, 85, 0, 86, 1, 1, 1, 1, 0, 87, 0, 0, 1, 1, 1, 88, 89, 90, 91, 92, 0]), .inl (0, 14, 0), .inl (0, 14, 0), .inl (0, 150, 0), .inl (0, 150, 0), .inl (0, 150, 0), .inl (0, 150, 0), .inl (0, 150, 0), .inl (0, 150, 0), .inl (0, 4, 0), .inl (0, 600, 0), .inl (1, 600, 0), .inl (0, 600, 0), .inl (0, 56, 0), .inl (1, 56, 0), .inl (0, 14, 0), .inl (1, 14, 0), .inl (1, 105, 0), .inl (0, 60, 0), .inl (2, 4, 0), .inl (0, 4, 0), .inl (0, 4, 0), .inl (0, 240, 0), .inl (0, 60, 0)]
def gN : Nat := 91
def gs (c : Nat) : Shp := gsL.getD c (.inr (0, []))
theorem sh_0 : gs 0 = .inr (10, [3, 4, 5, 6, 7, 8, 9, 10, 11]) := rfl
theorem sh_1 : gs 1 = .inr (1, [0, 0, 0, 15, 16, 0, 17, 18, 19, 20, 21, 22]) := rfl
theorem sh_2 : gs 2 = .inr (7, [3, 23, 24, 29, 34, 39, 40, 41, 46]) := rfl
theorem sh_3 : gs 3 = .inr (0, [3, 4, 51, 0, 0, 0]) := rfl
theorem sh_4 : gs 4 = .inr (2, [3, 4, 52, 53]) := rfl
theorem sh_5 : gs 5 = .inr (6, [3, 4, 54, 55, 56, 0, 12]) := rfl
theorem sh_6 : gs 6 = .inr (8, [3, 4, 57, 58, 13]) := rfl
theorem sh_7 : gs 7 = .inr (3, [3, 4, 59, 60, 0, 1]) := rfl
theorem sh_8 : gs 8 = .inr (4, [61, 14, 0, 1, 0]) := rfl
theorem sh_9 : gs 9 = .inr (9, [62, 67, 68, 0]) := rfl
theorem sh_10 : gs 10 = .inr (5, [1, 1]) := rfl
theorem sh_11 : gs 11 = .inr (5, [1, 1]) := rfl
theorem sh_12 : gs 12 = .inr (5, [1, 1]) := rfl
theorem sh_13 : gs 13 = .inl (0, 14, 0) := rfl
theorem sh_14 : gs 14 = .inl (0, 14, 0) := rfl
theorem sh_15 : gs 15 = .inl (0, 150, 0) := rfl
theorem sh_16 : gs 16 = .inl (0, 150, 0) := rfl
theorem sh_17 : gs 17 = .inl (0, 150, 0) := rfl
theorem sh_18 : gs 18 = .inl (0, 150, 0) := rfl
theorem sh_19 : gs 19 = .inl (0, 150, 0) := rfl
theorem sh_20 : gs 20 = .inl (0, 150, 0) := rfl
theorem sh_21 : gs 21 = .inl (0, 4, 0) := rfl
theorem sh_22 : gs 22 = .inl (3, 4, 23) := rfl
theorem sh_23 : gs 23 = .inl (0, 8, 0) := rfl
theorem sh_24 : gs 24 = .inl (0, 8, 0) := rfl
theorem sh_25 : gs 25 = .inl (0, 8, 0) := rfl
theorem sh_26 : gs 26 = .inl (0, 8, 0) := rfl
theorem sh_27 : gs 27 = .inl (3, 4, 28) := rfl
theorem sh_28 : gs 28 = .inl (0, 8, 0) := rfl
theorem sh_29 : gs 29 = .inl (0, 8, 0) := rfl
theorem sh_30 : gs 30 = .inl (0, 8, 0) := rfl
theorem sh_31 : gs 31 = .inl (0, 8, 0) := rfl
theorem sh_32 : gs 32 = .inl (3, 4, 33) := rfl
theorem sh_33 : gs 33 = .inl (0, 8, 0) := rfl
theorem sh_34 : gs 34 = .inl (0, 8, 0) := rfl
theorem sh_35 : gs 35 = .inl (0, 8, 0) := rfl
theorem sh_36 : gs 36 = .inl (0, 8, 0) := rfl
theorem sh_37 : gs 37 = .inl (1, 14, 0) := rfl
theorem sh_38 : gs 38 = .inl (0, 150, 0) := rfl
theorem sh_39 : gs 39 = .inl (3, 4, 40) := rfl
theorem sh_40 : gs 40 = .inl (0, 14, 0) := rfl
theorem sh_41 : gs 41 = .inl (0, 14, 0) := rfl
theorem sh_42 : gs 42 = .inl (0, 14, 0) := rfl
theorem sh_43 : gs 43 = .inl (0, 14, 0) := rfl
theorem sh_44 : gs 44 = .inl (3, 4, 45) := rfl
theorem sh_45 : gs 45 = .inl (0, 14, 0) := rfl
theorem sh_46 : gs 46 = .inl (0, 14, 0) := rfl
theorem sh_47 : gs 47 = .inl (0, 14, 0) := rfl
theorem sh_48 : gs 48 = .inl (0, 14, 0) := rfl
theorem sh_49 : gs 49 = .inl (0, 14, 0) := rfl
theorem sh_50 : gs 50 = .inl (0, 14, 0) := rfl
theorem sh_51 : gs 51 = .inl (0, 14, 0) := rfl
theorem sh_52 : gs 52 = .inl (1, 14, 0) := rfl
theorem sh_53 : gs 53 = .inl (1, 14, 0) := rfl
theorem sh_54 : gs 54 = .inl (1, 105, 0) := rfl
theorem sh_55 : gs 55 = .inl (1, 14, 0) := rfl
theorem sh_56 : gs 56 = .inl (1, 14, 0) := rfl
theorem sh_57 : gs 57 = .inl (0, 14, 0) := rfl
theorem sh_58 : gs 58 = .inl (0, 2, 0) := rfl
theorem sh_59 : gs 59 = .inl (0, 60, 0) := rfl
theorem sh_60 : gs 60 = .inl (3, 4, 61) := rfl
theorem sh_61 : gs 61 = .inl (0, 60, 0) := rfl
theorem sh_62 : gs 62 = .inl (0, 60, 0) := rfl
theorem sh_63 : gs 63 = .inl (0, 60, 0) := rfl
theorem sh_64 : gs 64 = .inl (0, 60, 0) := rfl
theorem sh_65 : gs 65 = .inl (0, 4, 0) := rfl
theorem sh_66 : gs 66 = .inl (0, 4, 0) := rfl
theorem sh_67 : gs 67 = .inr (11, [0, 0, 70, 71, 0, 72, 73, 74, 75, 76, 77, 0, 0, 0, 78, 79, 80, 81, 82, 83, 84, 1, 85, 0, 86, 1, 1, 1, 1, 0, 87, 0, 0, 1, 1, 1, 88, 89, 90, 91, 92, 0]) := rfl
theorem sh_68 : gs 68 = .inl (0, 14, 0) := rfl
theorem sh_69 : gs 69 = .inl (0, 14, 0) := rfl
theorem sh_70 : gs 70 = .inl (0, 150, 0) := rfl
theorem sh_71 : gs 71 = .inl (0, 150, 0) := rfl
theorem sh_72 : gs 72 = .inl (0, 150, 0) := rfl
theorem sh_73 : gs 73 = .inl (0, 150, 0) := rfl
theorem sh_74 : gs 74 = .inl (0, 150, 0) := rfl
theorem sh_75 : gs 75 = .inl (0, 150, 0) := rfl
theorem sh_76 : gs 76 = .inl (0, 4, 0) := rfl
theorem sh_77 : gs 77 = .inl (0, 600, 0) := rfl
theorem sh_78 : gs 78 = .inl (1, 600, 0) := rfl
theorem sh_79 : gs 79 = .inl (0, 600, 0) := rfl
theorem sh_80 : gs 80 = .inl (0, 56, 0) := rfl
theorem sh_81 : gs 81 = .inl (1, 56, 0) := rfl
theorem sh_82 : gs 82 = .inl (0, 14, 0) := rfl
theorem sh_83 : gs 83 = .inl (1, 14, 0) := rfl
theorem sh_84 : gs 84 = .inl (1, 105, 0) := rfl
theorem sh_85 : gs 85 = .inl (0, 60, 0) := rfl
theorem sh_86 : gs 86 = .inl (2, 4, 0) := rfl
theorem sh_87 : gs 87 = .inl (0, 4, 0) := rfl
theorem sh_88 : gs 88 = .inl (0, 4, 0) := rfl
theorem sh_89 : gs 89 = .inl (0, 240, 0) := rfl
theorem sh_90 : gs 90 = .inl (0, 60, 0) := rfl
theorem sr_23 {j : Nat} (h : j < 4) : gs (23 + j) = .inl (0, 8, 0) := by
  match j, h with
  | 0, _ => rfl
  | 1, _ => rfl
  | 2, _ => rfl
  | 3, _ => rfl
theorem sr_28 {j : Nat} (h : j < 4) : gs (28 + j) = .inl (0, 8, 0) := by
  match j, h with
  | 0, _ => rfl
  | 1, _ => rfl
  | 2, _ => rfl
  | 3, _ => rfl
theorem sr_33 {j : Nat} (h : j < 4) : gs (33 + j) = .inl (0, 8, 0) := by
  match j, h with
  | 0, _ => rfl
  | 1, _ => rfl
  | 2, _ => rfl
  | 3, _ => rfl
theorem sr_40 {j : Nat} (h : j < 4) : gs (40 + j) = .inl (0, 14, 0) := by
  match j, h with
  | 0, _ => rfl
  | 1, _ => rfl
  | 2, _ => rfl
  | 3, _ => rfl
theorem sr_45 {j : Nat} (h : j < 4) : gs (45 + j) = .inl (0, 14, 0) := by
  match j, h with
  | 0, _ => rfl
  | 1, _ => rfl
  | 2, _ => rfl
  | 3, _ => rfl
theorem sr_61 {j : Nat} (h : j < 4) : gs (61 + j) = .inl (0, 60, 0) := by
  match j, h with
  | 0, _ => rfl
  | 1, _ => rfl
  | 2, _ => rfl
  | 3, _ => rfl
theorem gs_lt {c : Nat} (h : ∀ z, gs c = .inr (0, z) → z ≠ []) : c < gN := by
  rcases Nat.lt_or_ge c gN with q | q
  · exact q
  · exact absurd rfl (h [] (by unfold gs; rw [List.getD_eq_getElem?_getD, List.getElem?_eq_none (by exact q)]; rfl))
def gt : List Cond := lw_tbl.filter goodWord
theorem gt_in {w : Cond} (i : Nat) (h : tables_1[i]? = some w) (hg : goodWord w = true) : w ∈ gt := List.mem_filter.mpr ⟨List.mem_append_right _ (List.mem_of_getElem? h), hg⟩
theorem gt_1 {w : Cond} (i : Nat) (h : tables_1_1[i]? = some w) (hg : goodWord w = true) : w ∈ gt := List.mem_filter.mpr ⟨List.mem_append_right _ (List.mem_append_left _ (List.mem_of_getElem? h)), hg⟩
theorem gt_2 {w : Cond} (i : Nat) (h : tables_1_2[i]? = some w) (hg : goodWord w = true) : w ∈ gt := List.mem_filter.mpr ⟨List.mem_append_right _ (List.mem_append_right _ (List.mem_append_left _ (List.mem_of_getElem? h))), hg⟩
theorem gt_3 {w : Cond} (i : Nat) (h : tables_1_3[i]? = some w) (hg : goodWord w = true) : w ∈ gt := List.mem_filter.mpr ⟨List.mem_append_right _ (List.mem_append_right _ (List.mem_append_right _ (List.mem_append_left _ (List.mem_of_getElem? h)))), hg⟩
theorem gt_4 {w : Cond} (i : Nat) (h : tables_1_4[i]? = some w) (hg : goodWord w = true) : w ∈ gt := List.mem_filter.mpr ⟨List.mem_append_right _ (List.mem_append_right _ (List.mem_append_right _ (List.mem_append_right _ (List.mem_append_left _ (List.mem_of_getElem? h))))), hg⟩
theorem gt_5 {w : Cond} (i : Nat) (h : tables_1_5[i]? = some w) (hg : goodWord w = true) : w ∈ gt := List.mem_filter.mpr ⟨List.mem_append_right _ (List.mem_append_right _ (List.mem_append_right _ (List.mem_append_right _ (List.mem_append_right _ (List.mem_append_left _ (List.mem_of_getElem? h)))))), hg⟩
theorem gt_6 {w : Cond} (i : Nat) (h : tables_1_6[i]? = some w) (hg : goodWord w = true) : w ∈ gt := List.mem_filter.mpr ⟨List.mem_append_right _ (List.mem_append_right _ (List.mem_append_right _ (List.mem_append_right _ (List.mem_append_right _ (List.mem_append_right _ ((List.mem_of_getElem? h))))))), hg⟩
theorem gt_sel {q : MethodName × Nat} (h : q ∈ lw_privs) : Cond.selects q.1.cls q.1 q.1 ∈ gt := List.mem_filter.mpr ⟨List.mem_append_left _ (List.mem_map.mpr ⟨q, h, rfl⟩), rfl⟩
theorem gt_ins {ws : List Cond} (ps : List Nat) (h : ws = ps.filterMap (fun i => tables_1[i]?)) (hg : ws.all goodWord = true) : ∀ w ∈ ws, w ∈ gt := fun w hw => by
  have h1 := List.all_eq_true.mp hg w hw
  rw [h] at hw
  obtain ⟨i, -, hi⟩ := List.mem_filterMap.mp hw
  exact gt_in i hi h1
theorem gt_all : gt.all goodWord = true := List.all_eq_true.mpr (fun w h => (List.mem_filter.mp h).2)
abbrev Mt : Type := MethodName × ByteArray × Nat × Option FieldType
abbrev mX0_init : Mt := (yX0_init, cX0_init, 3, none)
abbrev mX0_changeFactor : Mt := (yX0_changeFactor, cX0_changeFactor, 3, some .int)
abbrev mX0_holds : Mt := (yX0_holds, cX0_holds, 8, some .boolean)
abbrev mX0_mostOf : Mt := (yX0_mostOf, cX0_mostOf, 4, some .int)
abbrev mX0_agreeingWith : Mt := (yX0_agreeingWith, cX0_agreeingWith, 6, some .int)
abbrev mX0_widestCircle : Mt := (yX0_widestCircle, cX0_widestCircle, 8, some .int)
abbrev mX0_meet : Mt := (yX0_meet, cX0_meet, 5, none)
abbrev mX0_spansAt : Mt := (yX0_spansAt, cX0_spansAt, 6, some .int)
abbrev mX0_reachOf : Mt := (yX0_reachOf, cX0_reachOf, 2, some .int)
abbrev mX1_init : Mt := (yX1_init, cX1_init, 1, none)
abbrev mX1_addHouse : Mt := (yX1_addHouse, cX1_addHouse, 2, some .int)
abbrev mX1_changeDoubt : Mt := (yX1_changeDoubt, cX1_changeDoubt, 4, some .int)
abbrev mX1_addReading : Mt := (yX1_addReading, cX1_addReading, 5, some .int)
abbrev mX1_readingsOf : Mt := (yX1_readingsOf, cX1_readingsOf, 5, some .int)
abbrev mX1_isKnown : Mt := (yX1_isKnown, cX1_isKnown, 4, some .boolean)
abbrev mX1_isKnownOf : Mt := (yX1_isKnownOf, cX1_isKnownOf, 3, some .boolean)
abbrev mX1_knownReadings : Mt := (yX1_knownReadings, cX1_knownReadings, 3, some .int)
abbrev mX1_squaredDoubt : Mt := (yX1_squaredDoubt, cX1_squaredDoubt, 2, some .int)
abbrev mX2_init : Mt := (yX2_init, cX2_init, 3, none)
abbrev mX2_reckonTo : Mt := (yX2_reckonTo, cX2_reckonTo, 5, none)
abbrev mX2_findNeighbours : Mt := (yX2_findNeighbours, cX2_findNeighbours, 4, none)
abbrev mX2_cheapestBeside : Mt := (yX2_cheapestBeside, cX2_cheapestBeside, 5, some .int)
abbrev mX2_costBy : Mt := (yX2_costBy, cX2_costBy, 4, none)
abbrev mX2_nextFrom : Mt := (yX2_nextFrom, cX2_nextFrom, 4, some .int)
abbrev mX3_init : Mt := (yX3_init, cX3_init, 3, none)
abbrev mX3_gather : Mt := (yX3_gather, cX3_gather, 4, none)
abbrev mX3_chance : Mt := (yX3_chance, cX3_chance, 5, some .int)
abbrev mX3_choices : Mt := (yX3_choices, cX3_choices, 5, some .long)
abbrev mX3_dealt : Mt := (yX3_dealt, cX3_dealt, 5, some .int)
abbrev mX4_init : Mt := (yX4_init, cX4_init, 1, none)
abbrev mX4_append : Mt := (yX4_append, cX4_append, 2, some .int)
abbrev mX4_firstFault : Mt := (yX4_firstFault, cX4_firstFault, 3, some .int)
abbrev mX4_faultOfPart : Mt := (yX4_faultOfPart, cX4_faultOfPart, 5, some .int)
abbrev mX4_nextNumber : Mt := (yX4_nextNumber, cX4_nextNumber, 3, some .int)
abbrev mX4_squareOfPart : Mt := (yX4_squareOfPart, cX4_squareOfPart, 3, some .long)
abbrev mX4_doubtOfSquare : Mt := (yX4_doubtOfSquare, cX4_doubtOfSquare, 2, some .int)
abbrev mX5_init : Mt := (yX5_init, cX5_init, 1, none)
abbrev mX5_become : Mt := (yX5_become, cX5_become, 7, none)
abbrev mX5_side : Mt := (yX5_side, cX5_side, 2, some .long)
abbrev mX5_greatestShared : Mt := (yX5_greatestShared, cX5_greatestShared, 11, some .long)
abbrev mX6_init : Mt := (yX6_init, cX6_init, 3, none)
abbrev mX6_reckonBy : Mt := (yX6_reckonBy, cX6_reckonBy, 3, some .boolean)
abbrev mX6_gather : Mt := (yX6_gather, cX6_gather, 3, none)
abbrev mX6_twiceMiddle : Mt := (yX6_twiceMiddle, cX6_twiceMiddle, 2, some .long)
abbrev mX6_byPairs : Mt := (yX6_byPairs, cX6_byPairs, 4, none)
abbrev mX6_byWeights : Mt := (yX6_byWeights, cX6_byWeights, 10, none)
abbrev mX6_bySteps : Mt := (yX6_bySteps, cX6_bySteps, 6, some .long)
abbrev mX6_clippedMean : Mt := (yX6_clippedMean, cX6_clippedMean, 8, some .long)
abbrev mX6_clippedSpread : Mt := (yX6_clippedSpread, cX6_clippedSpread, 6, some .long)
abbrev mX6_root : Mt := (yX6_root, cX6_root, 7, some .long)
abbrev mX6_markOf : Mt := (yX6_markOf, cX6_markOf, 5, some .int)
abbrev mX6_longestRun : Mt := (yX6_longestRun, cX6_longestRun, 7, some .int)
abbrev mX7_init : Mt := (yX7_init, cX7_init, 2, none)
abbrev mX7_takesPart : Mt := (yX7_takesPart, cX7_takesPart, 3, some .boolean)
abbrev mX7_takingPart : Mt := (yX7_takingPart, cX7_takingPart, 4, some .int)
abbrev mX7_renew : Mt := (yX7_renew, cX7_renew, 4, none)
abbrev mX7_findPoints : Mt := (yX7_findPoints, cX7_findPoints, 3, none)
abbrev mX7_addToPoint : Mt := (yX7_addToPoint, cX7_addToPoint, 6, none)
abbrev mX7_openPoint : Mt := (yX7_openPoint, cX7_openPoint, 5, none)
abbrev mX7_driftOn : Mt := (yX7_driftOn, cX7_driftOn, 6, some .int)
abbrev mX7_driftBetween : Mt := (yX7_driftBetween, cX7_driftBetween, 22, some .int)
abbrev mX8_init : Mt := (yX8_init, cX8_init, 3, none)
abbrev mX8_gather : Mt := (yX8_gather, cX8_gather, 5, none)
abbrev mX8_reckonWithin : Mt := (yX8_reckonWithin, cX8_reckonWithin, 5, some .boolean)
abbrev mX8_spread : Mt := (yX8_spread, cX8_spread, 4, some .long)
abbrev mX8_scaledWithin : Mt := (yX8_scaledWithin, cX8_scaledWithin, 4, some .long)
abbrev mX8_widestOf : Mt := (yX8_widestOf, cX8_widestOf, 8, some .int)
abbrev mX8_reckonShare : Mt := (yX8_reckonShare, cX8_reckonShare, 6, some .boolean)
abbrev mX8_likeMany : Mt := (yX8_likeMany, cX8_likeMany, 5, some .int)
abbrev mX8_reckonPart : Mt := (yX8_reckonPart, cX8_reckonPart, 15, some .boolean)
abbrev mX9_init : Mt := (yX9_init, cX9_init, 1, none)
abbrev mX9_find : Mt := (yX9_find, cX9_find, 2, some .int)
abbrev mX9_isLost : Mt := (yX9_isLost, cX9_isLost, 2, some .boolean)
abbrev mX9_make : Mt := (yX9_make, cX9_make, 4, some .int)
abbrev mX9_against : Mt := (yX9_against, cX9_against, 4, some .int)
abbrev mX9_holds : Mt := (yX9_holds, cX9_holds, 4, some .boolean)
abbrev mX9_store : Mt := (yX9_store, cX9_store, 5, none)
abbrev mX10_init : Mt := (yX10_init, cX10_init, 1, none)
abbrev mX10_pass : Mt := (yX10_pass, cX10_pass, 2, some .int)
abbrev mX10_house : Mt := (yX10_house, cX10_house, 2, some .int)
abbrev mX10_doubt : Mt := (yX10_doubt, cX10_doubt, 3, some .int)
abbrev mX10_reading : Mt := (yX10_reading, cX10_reading, 5, some .int)
abbrev mX10_read : Mt := (yX10_read, cX10_read, 6, some .int)
abbrev mX10_takeBack : Mt := (yX10_takeBack, cX10_takeBack, 2, some .int)
abbrev mX10_about : Mt := (yX10_about, cX10_about, 3, some .int)
abbrev mX10_asOf : Mt := (yX10_asOf, cX10_asOf, 4, some .int)
abbrev mX10_factor : Mt := (yX10_factor, cX10_factor, 2, some .int)
abbrev mX10_drift : Mt := (yX10_drift, cX10_drift, 3, some .int)
abbrev mX10_many : Mt := (yX10_many, cX10_many, 3, some .int)
abbrev mX10_told : Mt := (yX10_told, cX10_told, 3, some .int)
abbrev mX10_agree : Mt := (yX10_agree, cX10_agree, 4, some .int)
abbrev mX10_agreeing : Mt := (yX10_agreeing, cX10_agreeing, 2, some .int)
abbrev mX10_common : Mt := (yX10_common, cX10_common, 3, some .int)
abbrev mX10_chain : Mt := (yX10_chain, cX10_chain, 3, some .int)
abbrev mX10_via : Mt := (yX10_via, cX10_via, 3, some .int)
abbrev mX10_number : Mt := (yX10_number, cX10_number, 4, some .long)
abbrev mX10_mark : Mt := (yX10_mark, cX10_mark, 3, some .int)
abbrev mX10_judged : Mt := (yX10_judged, cX10_judged, 4, some .int)
abbrev mX10_run : Mt := (yX10_run, cX10_run, 2, some .int)
abbrev mX10_within : Mt := (yX10_within, cX10_within, 4, some .long)
abbrev mX10_widest : Mt := (yX10_widest, cX10_widest, 2, some .int)
abbrev mX10_share : Mt := (yX10_share, cX10_share, 3, some .long)
abbrev mX10_parts : Mt := (yX10_parts, cX10_parts, 4, some .long)
abbrev mX10_ways : Mt := (yX10_ways, cX10_ways, 3, some .int)
abbrev mX10_score : Mt := (yX10_score, cX10_score, 2, some .long)
abbrev mX10_type : Mt := (yX10_type, cX10_type, 2, some .int)
abbrev mX10_wipe : Mt := (yX10_wipe, cX10_wipe, 2, some .int)
abbrev mX10_fault : Mt := (yX10_fault, cX10_fault, 1, some .int)
abbrev mX10_reckon : Mt := (yX10_reckon, cX10_reckon, 1, some .int)
abbrev mX10_claim : Mt := (yX10_claim, cX10_claim, 2, some .int)
abbrev mX10_sheet : Mt := (yX10_sheet, cX10_sheet, 4, some .int)
abbrev mX10_lose : Mt := (yX10_lose, cX10_lose, 2, some .int)
abbrev mX10_put : Mt := (yX10_put, cX10_put, 6, some .int)
abbrev mX10_get : Mt := (yX10_get, cX10_get, 5, some .int)
abbrev mX10_copy : Mt := (yX10_copy, cX10_copy, 6, some .int)
abbrev mX10_write : Mt := (yX10_write, cX10_write, 5, some .int)
abbrev mX10_count : Mt := (yX10_count, cX10_count, 2, some .int)
abbrev mX10_digest : Mt := (yX10_digest, cX10_digest, 5, some .long)
abbrev mX10_digestPiece : Mt := (yX10_digestPiece, cX10_digestPiece, 8, some .long)
abbrev mX10_tell : Mt := (yX10_tell, cX10_tell, 6, some .int)
abbrev mX10_noHouse : Mt := (yX10_noHouse, cX10_noHouse, 2, some .boolean)
abbrev mX10_noReading : Mt := (yX10_noReading, cX10_noReading, 2, some .boolean)
abbrev mX10_noPiece : Mt := (yX10_noPiece, cX10_noPiece, 1, some .boolean)
abbrev mX10_noSheet : Mt := (yX10_noSheet, cX10_noSheet, 1, some .boolean)
abbrev mX10_noType : Mt := (yX10_noType, cX10_noType, 1, some .boolean)
abbrev mX10_refusal : Mt := (yX10_refusal, cX10_refusal, 1, some .long)
abbrev mX10_nearest : Mt := (yX10_nearest, cX10_nearest, 4, some .long)
abbrev mX10_putInOrder : Mt := (yX10_putInOrder, cX10_putInOrder, 5, none)
abbrev mX11_init : Mt := (yX11_init, cX11_init, 1, none)
abbrev mX11_in : Mt := (yX11_in, cX11_in, 3, some .boolean)
abbrev mX11_amount : Mt := (yX11_amount, cX11_amount, 2, some .long)
abbrev mX11_down : Mt := (yX11_down, cX11_down, 6, some .long)
abbrev mX11_near : Mt := (yX11_near, cX11_near, 4, some .long)
abbrev mX11_divisor : Mt := (yX11_divisor, cX11_divisor, 10, some .long)
abbrev mX11_lowest : Mt := (yX11_lowest, cX11_lowest, 7, some .long)
abbrev mX11_isHouse : Mt := (yX11_isHouse, cX11_isHouse, 2, some .boolean)
abbrev mX11_isPiece : Mt := (yX11_isPiece, cX11_isPiece, 1, some .boolean)
abbrev mX11_isKnown : Mt := (yX11_isKnown, cX11_isKnown, 3, some .boolean)
abbrev mX11_pass : Mt := (yX11_pass, cX11_pass, 2, some .int)
abbrev mX11_house : Mt := (yX11_house, cX11_house, 2, some .int)
abbrev mX11_doubt : Mt := (yX11_doubt, cX11_doubt, 4, some .int)
abbrev mX11_readingMore : Mt := (yX11_readingMore, cX11_readingMore, 7, some .int)
abbrev mX11_reading : Mt := (yX11_reading, cX11_reading, 5, some .int)
abbrev mX11_read : Mt := (yX11_read, cX11_read, 4, some .int)
abbrev mX11_takeBack : Mt := (yX11_takeBack, cX11_takeBack, 2, some .int)
abbrev mX11_about : Mt := (yX11_about, cX11_about, 3, some .int)
abbrev mX11_asOf : Mt := (yX11_asOf, cX11_asOf, 3, some .int)
abbrev mX11_factor : Mt := (yX11_factor, cX11_factor, 3, some .int)
abbrev mX11_points : Mt := (yX11_points, cX11_points, 9, none)
abbrev mX11_driftOf : Mt := (yX11_driftOf, cX11_driftOf, 18, some .int)
abbrev mX11_works : Mt := (yX11_works, cX11_works, 3, none)
abbrev mX11_reducedOf : Mt := (yX11_reducedOf, cX11_reducedOf, 2, some .long)
abbrev mX11_drift : Mt := (yX11_drift, cX11_drift, 3, some .int)
abbrev mX11_takes : Mt := (yX11_takes, cX11_takes, 3, some .boolean)
abbrev mX11_many : Mt := (yX11_many, cX11_many, 3, some .int)
abbrev mX11_toldOf : Mt := (yX11_toldOf, cX11_toldOf, 3, some .long)
abbrev mX11_toldOrNot : Mt := (yX11_toldOrNot, cX11_toldOrNot, 3, some .int)
abbrev mX11_told : Mt := (yX11_told, cX11_told, 3, some .int)
abbrev mX11_square : Mt := (yX11_square, cX11_square, 2, some .long)
abbrev mX11_doAgree : Mt := (yX11_doAgree, cX11_doAgree, 6, some .boolean)
abbrev mX11_agree : Mt := (yX11_agree, cX11_agree, 4, some .int)
abbrev mX11_ones : Mt := (yX11_ones, cX11_ones, 3, some .int)
abbrev mX11_agreeingOf : Mt := (yX11_agreeingOf, cX11_agreeingOf, 7, some .int)
abbrev mX11_agreeing : Mt := (yX11_agreeing, cX11_agreeing, 2, some .int)
abbrev mX11_commonOf : Mt := (yX11_commonOf, cX11_commonOf, 8, some .int)
abbrev mX11_common : Mt := (yX11_common, cX11_common, 4, some .int)
abbrev mX11_together : Mt := (yX11_together, cX11_together, 4, some .boolean)
abbrev mX11_costs : Mt := (yX11_costs, cX11_costs, 8, none)
abbrev mX11_areTwo : Mt := (yX11_areTwo, cX11_areTwo, 3, some .boolean)
abbrev mX11_chain : Mt := (yX11_chain, cX11_chain, 3, some .int)
abbrev mX11_via : Mt := (yX11_via, cX11_via, 4, some .int)
abbrev mX11_add : Mt := (yX11_add, cX11_add, 4, none)
abbrev mX11_middle : Mt := (yX11_middle, cX11_middle, 2, none)
abbrev mX11_rowOf : Mt := (yX11_rowOf, cX11_rowOf, 3, none)
abbrev mX11_pairsOf : Mt := (yX11_pairsOf, cX11_pairsOf, 4, none)
abbrev mX11_weighted : Mt := (yX11_weighted, cX11_weighted, 5, none)
abbrev mX11_root : Mt := (yX11_root, cX11_root, 8, some .long)
abbrev mX11_steps : Mt := (yX11_steps, cX11_steps, 18, none)
abbrev mX11_clipped : Mt := (yX11_clipped, cX11_clipped, 6, some .long)
abbrev mX11_finds : Mt := (yX11_finds, cX11_finds, 3, some .boolean)
abbrev mX11_number : Mt := (yX11_number, cX11_number, 4, some .long)
abbrev mX11_markOf : Mt := (yX11_markOf, cX11_markOf, 3, some .int)
abbrev mX11_mark : Mt := (yX11_mark, cX11_mark, 3, some .int)
abbrev mX11_judged : Mt := (yX11_judged, cX11_judged, 5, some .int)
abbrev mX11_run : Mt := (yX11_run, cX11_run, 8, some .int)
abbrev mX11_repeats : Mt := (yX11_repeats, cX11_repeats, 6, none)
abbrev mX11_withinTop : Mt := (yX11_withinTop, cX11_withinTop, 3, some .long)
abbrev mX11_withinBottom : Mt := (yX11_withinBottom, cX11_withinBottom, 5, some .long)
abbrev mX11_isRepeat : Mt := (yX11_isRepeat, cX11_isRepeat, 3, some .boolean)
abbrev mX11_within : Mt := (yX11_within, cX11_within, 4, some .long)
abbrev mX11_widestOf : Mt := (yX11_widestOf, cX11_widestOf, 5, some .int)
abbrev mX11_widest : Mt := (yX11_widest, cX11_widest, 2, some .int)
abbrev mX11_share : Mt := (yX11_share, cX11_share, 7, some .long)
abbrev mX11_parts : Mt := (yX11_parts, cX11_parts, 18, some .long)
abbrev mX11_wayMany : Mt := (yX11_wayMany, cX11_wayMany, 5, some .int)
abbrev mX11_scoreOf : Mt := (yX11_scoreOf, cX11_scoreOf, 5, some .long)
abbrev mX11_score : Mt := (yX11_score, cX11_score, 2, some .long)
abbrev mX11_chanceOf : Mt := (yX11_chanceOf, cX11_chanceOf, 13, some .int)
abbrev mX11_ways : Mt := (yX11_ways, cX11_ways, 5, some .int)
abbrev mX11_type : Mt := (yX11_type, cX11_type, 2, some .int)
abbrev mX11_wipe : Mt := (yX11_wipe, cX11_wipe, 2, some .int)
abbrev mX11_byteAt : Mt := (yX11_byteAt, cX11_byteAt, 2, some .int)
abbrev mX11_figures : Mt := (yX11_figures, cX11_figures, 3, some .int)
abbrev mX11_part : Mt := (yX11_part, cX11_part, 7, none)
abbrev mX11_faultNow : Mt := (yX11_faultNow, cX11_faultNow, 1, some .int)
abbrev mX11_fault : Mt := (yX11_fault, cX11_fault, 1, some .int)
abbrev mX11_reckons : Mt := (yX11_reckons, cX11_reckons, 2, some .int)
abbrev mX11_reckon : Mt := (yX11_reckon, cX11_reckon, 2, some .int)
abbrev mX11_claim : Mt := (yX11_claim, cX11_claim, 4, some .int)
abbrev mX11_meets : Mt := (yX11_meets, cX11_meets, 2, some .int)
abbrev mX11_isSheet : Mt := (yX11_isSheet, cX11_isSheet, 1, some .boolean)
abbrev mX11_sheet : Mt := (yX11_sheet, cX11_sheet, 5, some .int)
abbrev mX11_lose : Mt := (yX11_lose, cX11_lose, 2, some .int)
abbrev mX11_lacks : Mt := (yX11_lacks, cX11_lacks, 4, some .int)
abbrev mX11_lay : Mt := (yX11_lay, cX11_lay, 4, none)
abbrev mX11_put : Mt := (yX11_put, cX11_put, 6, some .int)
abbrev mX11_get : Mt := (yX11_get, cX11_get, 5, some .int)
abbrev mX11_copy : Mt := (yX11_copy, cX11_copy, 7, some .int)
abbrev mX11_write : Mt := (yX11_write, cX11_write, 4, some .int)
abbrev mX11_knownMany : Mt := (yX11_knownMany, cX11_knownMany, 3, some .int)
abbrev mX11_count : Mt := (yX11_count, cX11_count, 2, some .int)
abbrev mX11_digest : Mt := (yX11_digest, cX11_digest, 6, some .long)
abbrev mJ6_bitCount_0f7a4 : Mt := (yJ6_bitCount_0f7a4, cJ6_bitCount_0f7a4, 1, some .int)
abbrev mJ6_signum_0f7a4 : Mt := (yJ6_signum_0f7a4, cJ6_signum_0f7a4, 1, some .int)
abbrev mJ9_floorDiv_f86c9 : Mt := (yJ9_floorDiv_f86c9, cJ9_floorDiv_f86c9, 6, some .long)
abbrev mJ9_abs_0f7a4 : Mt := (yJ9_abs_0f7a4, cJ9_abs_0f7a4, 1, some .int)
abbrev mJ9_abs_067f4 : Mt := (yJ9_abs_067f4, cJ9_abs_067f4, 2, some .long)
abbrev mJ9_max_7cf53 : Mt := (yJ9_max_7cf53, cJ9_max_7cf53, 2, some .int)
abbrev mJ9_max_f86c9 : Mt := (yJ9_max_f86c9, cJ9_max_f86c9, 4, some .long)
abbrev mJ9_min_7cf53 : Mt := (yJ9_min_7cf53, cJ9_min_7cf53, 2, some .int)
abbrev mJ9_min_f86c9 : Mt := (yJ9_min_f86c9, cJ9_min_f86c9, 4, some .long)
abbrev mJ7_fill_d0a16 : Mt := (yJ7_fill_d0a16, cJ7_fill_d0a16, 5, none)
abbrev mJ7_fill_53178 : Mt := (yJ7_fill_53178, cJ7_fill_53178, 4, none)
theorem inG_X0 : ∀ w ∈ u_ws RX0 TX0 6, w ∈ gt := gt_ins [154, 156, 158, 160, 162, 164] (by decide +kernel) (by decide +kernel)
theorem inG_X1 : ∀ w ∈ u_ws RX1 TX1 12, w ∈ gt := gt_ins [69, 71, 73, 75, 77, 79, 81, 83, 85, 87, 89, 91] (by decide +kernel) (by decide +kernel)
theorem inG_X2 : ∀ w ∈ u_ws RX2 TX2 4, w ∈ gt := gt_ins [178, 180, 182, 184] (by decide +kernel) (by decide +kernel)
theorem inG_X3 : ∀ w ∈ u_ws RX3 TX3 6, w ∈ gt := gt_ins [273, 275, 277, 279, 281, 283] (by decide +kernel) (by decide +kernel)
theorem inG_X4 : ∀ w ∈ u_ws RX4 TX4 5, w ∈ gt := gt_ins [300, 302, 304, 306, 308] (by decide +kernel) (by decide +kernel)
theorem inG_X5 : ∀ w ∈ u_ws RX5 TX5 2, w ∈ gt := gt_ins [205, 207] (by decide +kernel) (by decide +kernel)
theorem inG_X6 : ∀ w ∈ u_ws RX6 TX6 7, w ∈ gt := gt_ins [218, 220, 222, 224, 226, 228, 230] (by decide +kernel) (by decide +kernel)
theorem inG_X7 : ∀ w ∈ u_ws RX7 TX7 9, w ∈ gt := gt_ins [119, 121, 123, 125, 127, 129, 131, 133, 135] (by decide +kernel) (by decide +kernel)
theorem inG_X8 : ∀ w ∈ u_ws RX8 TX8 5, w ∈ gt := gt_ins [247, 249, 251, 253, 255] (by decide +kernel) (by decide +kernel)
theorem inG_X9 : ∀ w ∈ u_ws RX9 TX9 4, w ∈ gt := gt_ins [329, 331, 333, 335] (by decide +kernel) (by decide +kernel)
theorem inG_X10 : ∀ w ∈ u_ws RX10 TX10 9, w ∈ gt := gt_ins [347, 349, 351, 353, 355, 357, 359, 361, 363] (by decide +kernel) (by decide +kernel)
theorem inG_X11 : ∀ w ∈ u_ws RX11 TX11 42, w ∈ gt := gt_ins [968, 970, 972, 974, 976, 978, 980, 982, 984, 986, 988, 990, 992, 994, 996, 998, 1000, 1002, 1004, 1006, 1008, 1010, 1012, 1014, 1016, 1018, 1020, 1022, 1024, 1026, 1028, 1030, 1032, 1034, 1036, 1038, 1040, 1042, 1044, 1046, 1048, 1050] (by decide +kernel) (by decide +kernel)
/-- a field's link: own class, pool entry, class number, place -/
def fldOk (own : String) (idx ci k : Nat) : Prop := ∃ q : vw_C, vwCl[ci]? = some q ∧ k < q.2.2 ∧ Cond.fieldLink own idx (q.2.1 k).1 (q.2.1 k).2.1 (q.2.1 k).2.2.1 ∈ gt ∧ ∀ w ∈ u_ws q.1 q.2.1 q.2.2, w ∈ gt
def putOk (ci k : Nat) (ty : FieldType) : Prop := ∃ (q : vw_C) (ty0 : Nat → FieldType), vwCl[ci]? = some q ∧ (∀ k, k < q.2.2 → parseFieldDescriptor (q.2.1 k).2.2.1 = some (ty0 k)) ∧ (∀ a, a < q.2.2 → ∀ b, b < q.2.2 → a ≠ b → (q.2.1 a).2.1 ≠ (q.2.1 b).2.1) ∧ (q.2.1 k).2.2.2 = false ∧ parseFieldDescriptor (q.2.1 k).2.2.1 = some ty
set_option maxRecDepth 100000 in
theorem fl_X10_78 : fldOk RX10 78 1 0 := ⟨_, rfl, by decide, gt_1 31 rfl rfl, inG_X1⟩
set_option maxRecDepth 100000 in
theorem fl_X1_46 : fldOk RX1 46 1 0 := ⟨_, rfl, by decide, gt_1 32 rfl rfl, inG_X1⟩
set_option maxRecDepth 100000 in
theorem fl_X1_9 : fldOk RX1 9 1 1 := ⟨_, rfl, by decide, gt_1 33 rfl rfl, inG_X1⟩
set_option maxRecDepth 100000 in
theorem fl_X10_146 : fldOk RX10 146 1 1 := ⟨_, rfl, by decide, gt_1 34 rfl rfl, inG_X1⟩
set_option maxRecDepth 100000 in
theorem fl_X1_40 : fldOk RX1 40 1 2 := ⟨_, rfl, by decide, gt_1 35 rfl rfl, inG_X1⟩
set_option maxRecDepth 100000 in
theorem fl_X3_40 : fldOk RX3 40 1 2 := ⟨_, rfl, by decide, gt_1 36 rfl rfl, inG_X1⟩
set_option maxRecDepth 100000 in
theorem fl_X2_41 : fldOk RX2 41 1 2 := ⟨_, rfl, by decide, gt_1 37 rfl rfl, inG_X1⟩
set_option maxRecDepth 100000 in
theorem fl_X7_43 : fldOk RX7 43 1 2 := ⟨_, rfl, by decide, gt_1 38 rfl rfl, inG_X1⟩
set_option maxRecDepth 100000 in
theorem fl_X6_64 : fldOk RX6 64 1 2 := ⟨_, rfl, by decide, gt_1 39 rfl rfl, inG_X1⟩
set_option maxRecDepth 100000 in
theorem fl_X10_82 : fldOk RX10 82 1 2 := ⟨_, rfl, by decide, gt_1 40 rfl rfl, inG_X1⟩
set_option maxRecDepth 100000 in
theorem fl_X0_44 : fldOk RX0 44 1 2 := ⟨_, rfl, by decide, gt_1 41 rfl rfl, inG_X1⟩
set_option maxRecDepth 100000 in
theorem fl_X8_84 : fldOk RX8 84 1 2 := ⟨_, rfl, by decide, gt_1 42 rfl rfl, inG_X1⟩
set_option maxRecDepth 100000 in
theorem fl_X1_15 : fldOk RX1 15 1 3 := ⟨_, rfl, by decide, gt_1 43 rfl rfl, inG_X1⟩
set_option maxRecDepth 100000 in
theorem fl_X3_53 : fldOk RX3 53 1 3 := ⟨_, rfl, by decide, gt_1 44 rfl rfl, inG_X1⟩
set_option maxRecDepth 100000 in
theorem fl_X1_19 : fldOk RX1 19 1 4 := ⟨_, rfl, by decide, gt_1 45 rfl rfl, inG_X1⟩
set_option maxRecDepth 100000 in
theorem fl_X0_86 : fldOk RX0 86 1 4 := ⟨_, rfl, by decide, gt_1 46 rfl rfl, inG_X1⟩
set_option maxRecDepth 100000 in
theorem fl_X6_126 : fldOk RX6 126 1 4 := ⟨_, rfl, by decide, gt_1 47 rfl rfl, inG_X1⟩
set_option maxRecDepth 100000 in
theorem fl_X10_319 : fldOk RX10 319 1 4 := ⟨_, rfl, by decide, gt_1 48 rfl rfl, inG_X1⟩
set_option maxRecDepth 100000 in
theorem fl_X8_39 : fldOk RX8 39 1 5 := ⟨_, rfl, by decide, gt_1 49 rfl rfl, inG_X1⟩
set_option maxRecDepth 100000 in
theorem fl_X1_43 : fldOk RX1 43 1 5 := ⟨_, rfl, by decide, gt_1 50 rfl rfl, inG_X1⟩
set_option maxRecDepth 100000 in
theorem fl_X7_66 : fldOk RX7 66 1 5 := ⟨_, rfl, by decide, gt_1 51 rfl rfl, inG_X1⟩
set_option maxRecDepth 100000 in
theorem fl_X10_294 : fldOk RX10 294 1 5 := ⟨_, rfl, by decide, gt_1 52 rfl rfl, inG_X1⟩
set_option maxRecDepth 100000 in
theorem fl_X1_22 : fldOk RX1 22 1 6 := ⟨_, rfl, by decide, gt_1 53 rfl rfl, inG_X1⟩
set_option maxRecDepth 100000 in
theorem fl_X8_61 : fldOk RX8 61 1 6 := ⟨_, rfl, by decide, gt_1 54 rfl rfl, inG_X1⟩
set_option maxRecDepth 100000 in
theorem fl_X7_82 : fldOk RX7 82 1 6 := ⟨_, rfl, by decide, gt_1 55 rfl rfl, inG_X1⟩
set_option maxRecDepth 100000 in
theorem fl_X10_131 : fldOk RX10 131 1 6 := ⟨_, rfl, by decide, gt_1 56 rfl rfl, inG_X1⟩
set_option maxRecDepth 100000 in
theorem fl_X1_25 : fldOk RX1 25 1 7 := ⟨_, rfl, by decide, gt_1 57 rfl rfl, inG_X1⟩
set_option maxRecDepth 100000 in
theorem fl_X10_124 : fldOk RX10 124 1 7 := ⟨_, rfl, by decide, gt_1 58 rfl rfl, inG_X1⟩
set_option maxRecDepth 100000 in
theorem fl_X1_28 : fldOk RX1 28 1 8 := ⟨_, rfl, by decide, gt_1 59 rfl rfl, inG_X1⟩
set_option maxRecDepth 100000 in
theorem fl_X7_75 : fldOk RX7 75 1 8 := ⟨_, rfl, by decide, gt_1 60 rfl rfl, inG_X1⟩
set_option maxRecDepth 100000 in
theorem fl_X10_134 : fldOk RX10 134 1 8 := ⟨_, rfl, by decide, gt_1 61 rfl rfl, inG_X1⟩
set_option maxRecDepth 100000 in
theorem fl_X1_31 : fldOk RX1 31 1 9 := ⟨_, rfl, by decide, gt_1 62 rfl rfl, inG_X1⟩
set_option maxRecDepth 100000 in
theorem fl_X7_72 : fldOk RX7 72 1 9 := ⟨_, rfl, by decide, gt_1 63 rfl rfl, inG_X1⟩
set_option maxRecDepth 100000 in
theorem fl_X10_137 : fldOk RX10 137 1 9 := ⟨_, rfl, by decide, gt_1 64 rfl rfl, inG_X1⟩
set_option maxRecDepth 100000 in
theorem fl_X1_34 : fldOk RX1 34 1 10 := ⟨_, rfl, by decide, gt_1 65 rfl rfl, inG_X1⟩
set_option maxRecDepth 100000 in
theorem fl_X10_140 : fldOk RX10 140 1 10 := ⟨_, rfl, by decide, gt_1 66 rfl rfl, inG_X1⟩
set_option maxRecDepth 100000 in
theorem fl_X1_37 : fldOk RX1 37 1 11 := ⟨_, rfl, by decide, gt_1 67 rfl rfl, inG_X1⟩
set_option maxRecDepth 100000 in
theorem fl_X10_121 : fldOk RX10 121 1 11 := ⟨_, rfl, by decide, gt_1 68 rfl rfl, inG_X1⟩
set_option maxRecDepth 100000 in
theorem fl_X7_39 : fldOk RX7 39 7 0 := ⟨_, rfl, by decide, gt_1 103 rfl rfl, inG_X7⟩
set_option maxRecDepth 100000 in
theorem fl_X7_9 : fldOk RX7 9 7 1 := ⟨_, rfl, by decide, gt_1 104 rfl rfl, inG_X7⟩
set_option maxRecDepth 100000 in
theorem fl_X7_17 : fldOk RX7 17 7 2 := ⟨_, rfl, by decide, gt_1 105 rfl rfl, inG_X7⟩
set_option maxRecDepth 100000 in
theorem fl_X7_20 : fldOk RX7 20 7 3 := ⟨_, rfl, by decide, gt_1 106 rfl rfl, inG_X7⟩
set_option maxRecDepth 100000 in
theorem fl_X7_23 : fldOk RX7 23 7 4 := ⟨_, rfl, by decide, gt_1 107 rfl rfl, inG_X7⟩
set_option maxRecDepth 100000 in
theorem fl_X7_26 : fldOk RX7 26 7 5 := ⟨_, rfl, by decide, gt_1 108 rfl rfl, inG_X7⟩
set_option maxRecDepth 100000 in
theorem fl_X7_30 : fldOk RX7 30 7 6 := ⟨_, rfl, by decide, gt_1 109 rfl rfl, inG_X7⟩
set_option maxRecDepth 100000 in
theorem fl_X8_49 : fldOk RX8 49 7 6 := ⟨_, rfl, by decide, gt_1 110 rfl rfl, inG_X7⟩
set_option maxRecDepth 100000 in
theorem fl_X7_33 : fldOk RX7 33 7 7 := ⟨_, rfl, by decide, gt_1 111 rfl rfl, inG_X7⟩
set_option maxRecDepth 100000 in
theorem fl_X8_64 : fldOk RX8 64 7 7 := ⟨_, rfl, by decide, gt_1 112 rfl rfl, inG_X7⟩
set_option maxRecDepth 100000 in
theorem fl_X10_159 : fldOk RX10 159 7 7 := ⟨_, rfl, by decide, gt_1 113 rfl rfl, inG_X7⟩
set_option maxRecDepth 100000 in
theorem fl_X7_36 : fldOk RX7 36 7 8 := ⟨_, rfl, by decide, gt_1 114 rfl rfl, inG_X7⟩
set_option maxRecDepth 100000 in
theorem fl_X3_49 : fldOk RX3 49 7 8 := ⟨_, rfl, by decide, gt_1 115 rfl rfl, inG_X7⟩
set_option maxRecDepth 100000 in
theorem fl_X0_27 : fldOk RX0 27 7 8 := ⟨_, rfl, by decide, gt_1 116 rfl rfl, inG_X7⟩
set_option maxRecDepth 100000 in
theorem fl_X6_75 : fldOk RX6 75 7 8 := ⟨_, rfl, by decide, gt_1 117 rfl rfl, inG_X7⟩
set_option maxRecDepth 100000 in
theorem fl_X10_166 : fldOk RX10 166 7 8 := ⟨_, rfl, by decide, gt_1 118 rfl rfl, inG_X7⟩
set_option maxRecDepth 100000 in
theorem fl_X0_19 : fldOk RX0 19 0 0 := ⟨_, rfl, by decide, gt_1 145 rfl rfl, inG_X0⟩
set_option maxRecDepth 100000 in
theorem fl_X0_23 : fldOk RX0 23 0 1 := ⟨_, rfl, by decide, gt_1 146 rfl rfl, inG_X0⟩
set_option maxRecDepth 100000 in
theorem fl_X0_9 : fldOk RX0 9 0 2 := ⟨_, rfl, by decide, gt_1 147 rfl rfl, inG_X0⟩
set_option maxRecDepth 100000 in
theorem fl_X0_15 : fldOk RX0 15 0 3 := ⟨_, rfl, by decide, gt_1 148 rfl rfl, inG_X0⟩
set_option maxRecDepth 100000 in
theorem fl_X10_309 : fldOk RX10 309 0 3 := ⟨_, rfl, by decide, gt_1 149 rfl rfl, inG_X0⟩
set_option maxRecDepth 100000 in
theorem fl_X0_64 : fldOk RX0 64 0 4 := ⟨_, rfl, by decide, gt_1 150 rfl rfl, inG_X0⟩
set_option maxRecDepth 100000 in
theorem fl_X10_180 : fldOk RX10 180 0 4 := ⟨_, rfl, by decide, gt_1 151 rfl rfl, inG_X0⟩
set_option maxRecDepth 100000 in
theorem fl_X0_67 : fldOk RX0 67 0 5 := ⟨_, rfl, by decide, gt_1 152 rfl rfl, inG_X0⟩
set_option maxRecDepth 100000 in
theorem fl_X10_183 : fldOk RX10 183 0 5 := ⟨_, rfl, by decide, gt_1 153 rfl rfl, inG_X0⟩
set_option maxRecDepth 100000 in
theorem fl_X2_18 : fldOk RX2 18 2 0 := ⟨_, rfl, by decide, gt_1 173 rfl rfl, inG_X2⟩
set_option maxRecDepth 100000 in
theorem fl_X2_22 : fldOk RX2 22 2 1 := ⟨_, rfl, by decide, gt_1 174 rfl rfl, inG_X2⟩
set_option maxRecDepth 100000 in
theorem fl_X2_9 : fldOk RX2 9 2 2 := ⟨_, rfl, by decide, gt_1 175 rfl rfl, inG_X2⟩
set_option maxRecDepth 100000 in
theorem fl_X2_15 : fldOk RX2 15 2 3 := ⟨_, rfl, by decide, gt_1 176 rfl rfl, inG_X2⟩
set_option maxRecDepth 100000 in
theorem fl_X10_189 : fldOk RX10 189 2 3 := ⟨_, rfl, by decide, gt_1 177 rfl rfl, inG_X2⟩
set_option maxRecDepth 100000 in
theorem fl_X5_23 : fldOk RX5 23 5 0 := ⟨_, rfl, by decide, gt_1 199 rfl rfl, inG_X5⟩
set_option maxRecDepth 100000 in
theorem fl_X4_48 : fldOk RX4 48 5 0 := ⟨_, rfl, by decide, gt_1 200 rfl rfl, inG_X5⟩
set_option maxRecDepth 100000 in
theorem fl_X10_338 : fldOk RX10 338 5 0 := ⟨_, rfl, by decide, gt_1 201 rfl rfl, inG_X5⟩
set_option maxRecDepth 100000 in
theorem fl_X5_7 : fldOk RX5 7 5 1 := ⟨_, rfl, by decide, gt_1 202 rfl rfl, inG_X5⟩
set_option maxRecDepth 100000 in
theorem fl_X4_51 : fldOk RX4 51 5 1 := ⟨_, rfl, by decide, gt_1 203 rfl rfl, inG_X5⟩
set_option maxRecDepth 100000 in
theorem fl_X10_343 : fldOk RX10 343 5 1 := ⟨_, rfl, by decide, gt_1 204 rfl rfl, inG_X5⟩
set_option maxRecDepth 100000 in
theorem fl_X6_28 : fldOk RX6 28 6 0 := ⟨_, rfl, by decide, gt_1 210 rfl rfl, inG_X6⟩
set_option maxRecDepth 100000 in
theorem fl_X6_32 : fldOk RX6 32 6 1 := ⟨_, rfl, by decide, gt_1 211 rfl rfl, inG_X6⟩
set_option maxRecDepth 100000 in
theorem fl_X6_9 : fldOk RX6 9 6 2 := ⟨_, rfl, by decide, gt_1 212 rfl rfl, inG_X6⟩
set_option maxRecDepth 100000 in
theorem fl_X6_15 : fldOk RX6 15 6 3 := ⟨_, rfl, by decide, gt_1 213 rfl rfl, inG_X6⟩
set_option maxRecDepth 100000 in
theorem fl_X6_18 : fldOk RX6 18 6 4 := ⟨_, rfl, by decide, gt_1 214 rfl rfl, inG_X6⟩
set_option maxRecDepth 100000 in
theorem fl_X6_40 : fldOk RX6 40 6 5 := ⟨_, rfl, by decide, gt_1 215 rfl rfl, inG_X6⟩
set_option maxRecDepth 100000 in
theorem fl_X6_24 : fldOk RX6 24 6 6 := ⟨_, rfl, by decide, gt_1 216 rfl rfl, inG_X6⟩
set_option maxRecDepth 100000 in
theorem fl_X10_202 : fldOk RX10 202 6 6 := ⟨_, rfl, by decide, gt_1 217 rfl rfl, inG_X6⟩
set_option maxRecDepth 100000 in
theorem fl_X8_25 : fldOk RX8 25 8 0 := ⟨_, rfl, by decide, gt_2 1 rfl rfl, inG_X8⟩
set_option maxRecDepth 100000 in
theorem fl_X8_29 : fldOk RX8 29 8 1 := ⟨_, rfl, by decide, gt_2 2 rfl rfl, inG_X8⟩
set_option maxRecDepth 100000 in
theorem fl_X8_9 : fldOk RX8 9 8 2 := ⟨_, rfl, by decide, gt_2 3 rfl rfl, inG_X8⟩
set_option maxRecDepth 100000 in
theorem fl_X8_15 : fldOk RX8 15 8 3 := ⟨_, rfl, by decide, gt_2 4 rfl rfl, inG_X8⟩
set_option maxRecDepth 100000 in
theorem fl_X8_21 : fldOk RX8 21 8 4 := ⟨_, rfl, by decide, gt_2 5 rfl rfl, inG_X8⟩
set_option maxRecDepth 100000 in
theorem fl_X10_225 : fldOk RX10 225 8 4 := ⟨_, rfl, by decide, gt_2 6 rfl rfl, inG_X8⟩
set_option maxRecDepth 100000 in
theorem fl_X3_18 : fldOk RX3 18 3 0 := ⟨_, rfl, by decide, gt_2 24 rfl rfl, inG_X3⟩
set_option maxRecDepth 100000 in
theorem fl_X3_22 : fldOk RX3 22 3 1 := ⟨_, rfl, by decide, gt_2 25 rfl rfl, inG_X3⟩
set_option maxRecDepth 100000 in
theorem fl_X3_9 : fldOk RX3 9 3 2 := ⟨_, rfl, by decide, gt_2 26 rfl rfl, inG_X3⟩
set_option maxRecDepth 100000 in
theorem fl_X3_15 : fldOk RX3 15 3 3 := ⟨_, rfl, by decide, gt_2 27 rfl rfl, inG_X3⟩
set_option maxRecDepth 100000 in
theorem fl_X10_239 : fldOk RX10 239 3 3 := ⟨_, rfl, by decide, gt_2 28 rfl rfl, inG_X3⟩
set_option maxRecDepth 100000 in
theorem fl_X3_32 : fldOk RX3 32 3 4 := ⟨_, rfl, by decide, gt_2 29 rfl rfl, inG_X3⟩
set_option maxRecDepth 100000 in
theorem fl_X10_242 : fldOk RX10 242 3 4 := ⟨_, rfl, by decide, gt_2 30 rfl rfl, inG_X3⟩
set_option maxRecDepth 100000 in
theorem fl_X3_36 : fldOk RX3 36 3 5 := ⟨_, rfl, by decide, gt_2 31 rfl rfl, inG_X3⟩
set_option maxRecDepth 100000 in
theorem fl_X10_251 : fldOk RX10 251 3 5 := ⟨_, rfl, by decide, gt_2 32 rfl rfl, inG_X3⟩
set_option maxRecDepth 100000 in
theorem fl_X4_9 : fldOk RX4 9 4 0 := ⟨_, rfl, by decide, gt_2 54 rfl rfl, inG_X4⟩
set_option maxRecDepth 100000 in
theorem fl_X4_18 : fldOk RX4 18 4 1 := ⟨_, rfl, by decide, gt_2 55 rfl rfl, inG_X4⟩
set_option maxRecDepth 100000 in
theorem fl_X4_26 : fldOk RX4 26 4 2 := ⟨_, rfl, by decide, gt_2 56 rfl rfl, inG_X4⟩
set_option maxRecDepth 100000 in
theorem fl_X4_29 : fldOk RX4 29 4 3 := ⟨_, rfl, by decide, gt_2 57 rfl rfl, inG_X4⟩
set_option maxRecDepth 100000 in
theorem fl_X4_22 : fldOk RX4 22 4 4 := ⟨_, rfl, by decide, gt_2 58 rfl rfl, inG_X4⟩
set_option maxRecDepth 100000 in
theorem fl_X10_255 : fldOk RX10 255 4 4 := ⟨_, rfl, by decide, gt_2 59 rfl rfl, inG_X4⟩
set_option maxRecDepth 100000 in
theorem fl_X9_11 : fldOk RX9 11 9 0 := ⟨_, rfl, by decide, gt_2 81 rfl rfl, inG_X9⟩
set_option maxRecDepth 100000 in
theorem fl_X10_110 : fldOk RX10 110 9 0 := ⟨_, rfl, by decide, gt_2 82 rfl rfl, inG_X9⟩
set_option maxRecDepth 100000 in
theorem fl_X9_16 : fldOk RX9 16 9 1 := ⟨_, rfl, by decide, gt_2 83 rfl rfl, inG_X9⟩
set_option maxRecDepth 100000 in
theorem fl_X10_274 : fldOk RX10 274 9 1 := ⟨_, rfl, by decide, gt_2 84 rfl rfl, inG_X9⟩
set_option maxRecDepth 100000 in
theorem fl_X9_20 : fldOk RX9 20 9 2 := ⟨_, rfl, by decide, gt_2 85 rfl rfl, inG_X9⟩
set_option maxRecDepth 100000 in
theorem fl_X10_114 : fldOk RX10 114 9 2 := ⟨_, rfl, by decide, gt_2 86 rfl rfl, inG_X9⟩
set_option maxRecDepth 100000 in
theorem fl_X9_29 : fldOk RX9 29 9 3 := ⟨_, rfl, by decide, gt_2 87 rfl rfl, inG_X9⟩
set_option maxRecDepth 100000 in
theorem fl_X10_306 : fldOk RX10 306 9 3 := ⟨_, rfl, by decide, gt_2 88 rfl rfl, inG_X9⟩
set_option maxRecDepth 100000 in
theorem fl_X10_12 : fldOk RX10 12 10 0 := ⟨_, rfl, by decide, gt_2 98 rfl rfl, inG_X10⟩
set_option maxRecDepth 100000 in
theorem fl_X10_23 : fldOk RX10 23 10 1 := ⟨_, rfl, by decide, gt_2 99 rfl rfl, inG_X10⟩
set_option maxRecDepth 100000 in
theorem fl_X10_32 : fldOk RX10 32 10 2 := ⟨_, rfl, by decide, gt_2 100 rfl rfl, inG_X10⟩
set_option maxRecDepth 100000 in
theorem fl_X10_39 : fldOk RX10 39 10 3 := ⟨_, rfl, by decide, gt_2 101 rfl rfl, inG_X10⟩
set_option maxRecDepth 100000 in
theorem fl_X10_46 : fldOk RX10 46 10 4 := ⟨_, rfl, by decide, gt_2 102 rfl rfl, inG_X10⟩
set_option maxRecDepth 100000 in
theorem fl_X10_53 : fldOk RX10 53 10 5 := ⟨_, rfl, by decide, gt_2 103 rfl rfl, inG_X10⟩
set_option maxRecDepth 100000 in
theorem fl_X10_60 : fldOk RX10 60 10 6 := ⟨_, rfl, by decide, gt_2 104 rfl rfl, inG_X10⟩
set_option maxRecDepth 100000 in
theorem fl_X10_67 : fldOk RX10 67 10 7 := ⟨_, rfl, by decide, gt_2 105 rfl rfl, inG_X10⟩
set_option maxRecDepth 100000 in
theorem fl_X10_74 : fldOk RX10 74 10 8 := ⟨_, rfl, by decide, gt_2 106 rfl rfl, inG_X10⟩
set_option maxRecDepth 100000 in
theorem fl_X11_108 : fldOk RX11 108 11 0 := ⟨_, rfl, by decide, gt_4 206 rfl rfl, inG_X11⟩
set_option maxRecDepth 100000 in
theorem fl_X11_101 : fldOk RX11 101 11 1 := ⟨_, rfl, by decide, gt_4 207 rfl rfl, inG_X11⟩
set_option maxRecDepth 100000 in
theorem fl_X11_9 : fldOk RX11 9 11 2 := ⟨_, rfl, by decide, gt_4 208 rfl rfl, inG_X11⟩
set_option maxRecDepth 100000 in
theorem fl_X11_13 : fldOk RX11 13 11 3 := ⟨_, rfl, by decide, gt_4 209 rfl rfl, inG_X11⟩
set_option maxRecDepth 100000 in
theorem fl_X11_122 : fldOk RX11 122 11 4 := ⟨_, rfl, by decide, gt_4 210 rfl rfl, inG_X11⟩
set_option maxRecDepth 100000 in
theorem fl_X11_16 : fldOk RX11 16 11 5 := ⟨_, rfl, by decide, gt_4 211 rfl rfl, inG_X11⟩
set_option maxRecDepth 100000 in
theorem fl_X11_19 : fldOk RX11 19 11 6 := ⟨_, rfl, by decide, gt_4 212 rfl rfl, inG_X11⟩
set_option maxRecDepth 100000 in
theorem fl_X11_22 : fldOk RX11 22 11 7 := ⟨_, rfl, by decide, gt_4 213 rfl rfl, inG_X11⟩
set_option maxRecDepth 100000 in
theorem fl_X11_25 : fldOk RX11 25 11 8 := ⟨_, rfl, by decide, gt_4 214 rfl rfl, inG_X11⟩
set_option maxRecDepth 100000 in
theorem fl_X11_28 : fldOk RX11 28 11 9 := ⟨_, rfl, by decide, gt_4 215 rfl rfl, inG_X11⟩
set_option maxRecDepth 100000 in
theorem fl_X11_31 : fldOk RX11 31 11 10 := ⟨_, rfl, by decide, gt_4 216 rfl rfl, inG_X11⟩
set_option maxRecDepth 100000 in
theorem fl_X11_34 : fldOk RX11 34 11 11 := ⟨_, rfl, by decide, gt_4 217 rfl rfl, inG_X11⟩
set_option maxRecDepth 100000 in
theorem fl_X11_38 : fldOk RX11 38 11 12 := ⟨_, rfl, by decide, gt_4 218 rfl rfl, inG_X11⟩
set_option maxRecDepth 100000 in
theorem fl_X11_111 : fldOk RX11 111 11 13 := ⟨_, rfl, by decide, gt_4 219 rfl rfl, inG_X11⟩
set_option maxRecDepth 100000 in
theorem fl_X11_41 : fldOk RX11 41 11 14 := ⟨_, rfl, by decide, gt_4 220 rfl rfl, inG_X11⟩
set_option maxRecDepth 100000 in
theorem fl_X11_44 : fldOk RX11 44 11 15 := ⟨_, rfl, by decide, gt_4 221 rfl rfl, inG_X11⟩
set_option maxRecDepth 100000 in
theorem fl_X11_47 : fldOk RX11 47 11 16 := ⟨_, rfl, by decide, gt_4 222 rfl rfl, inG_X11⟩
set_option maxRecDepth 100000 in
theorem fl_X11_51 : fldOk RX11 51 11 17 := ⟨_, rfl, by decide, gt_4 223 rfl rfl, inG_X11⟩
set_option maxRecDepth 100000 in
theorem fl_X11_54 : fldOk RX11 54 11 18 := ⟨_, rfl, by decide, gt_4 224 rfl rfl, inG_X11⟩
set_option maxRecDepth 100000 in
theorem fl_X11_57 : fldOk RX11 57 11 19 := ⟨_, rfl, by decide, gt_4 225 rfl rfl, inG_X11⟩
set_option maxRecDepth 100000 in
theorem fl_X11_60 : fldOk RX11 60 11 20 := ⟨_, rfl, by decide, gt_4 226 rfl rfl, inG_X11⟩
set_option maxRecDepth 100000 in
theorem fl_X11_186 : fldOk RX11 186 11 21 := ⟨_, rfl, by decide, gt_4 227 rfl rfl, inG_X11⟩
set_option maxRecDepth 100000 in
theorem fl_X11_63 : fldOk RX11 63 11 22 := ⟨_, rfl, by decide, gt_4 228 rfl rfl, inG_X11⟩
set_option maxRecDepth 100000 in
theorem fl_X11_204 : fldOk RX11 204 11 23 := ⟨_, rfl, by decide, gt_4 229 rfl rfl, inG_X11⟩
set_option maxRecDepth 100000 in
theorem fl_X11_66 : fldOk RX11 66 11 24 := ⟨_, rfl, by decide, gt_4 230 rfl rfl, inG_X11⟩
set_option maxRecDepth 100000 in
theorem fl_X11_207 : fldOk RX11 207 11 25 := ⟨_, rfl, by decide, gt_4 231 rfl rfl, inG_X11⟩
set_option maxRecDepth 100000 in
theorem fl_X11_210 : fldOk RX11 210 11 26 := ⟨_, rfl, by decide, gt_4 232 rfl rfl, inG_X11⟩
set_option maxRecDepth 100000 in
theorem fl_X11_269 : fldOk RX11 269 11 27 := ⟨_, rfl, by decide, gt_4 233 rfl rfl, inG_X11⟩
set_option maxRecDepth 100000 in
theorem fl_X11_272 : fldOk RX11 272 11 28 := ⟨_, rfl, by decide, gt_4 234 rfl rfl, inG_X11⟩
set_option maxRecDepth 100000 in
theorem fl_X11_304 : fldOk RX11 304 11 29 := ⟨_, rfl, by decide, gt_4 235 rfl rfl, inG_X11⟩
set_option maxRecDepth 100000 in
theorem fl_X11_69 : fldOk RX11 69 11 30 := ⟨_, rfl, by decide, gt_4 236 rfl rfl, inG_X11⟩
set_option maxRecDepth 100000 in
theorem fl_X11_307 : fldOk RX11 307 11 31 := ⟨_, rfl, by decide, gt_4 237 rfl rfl, inG_X11⟩
set_option maxRecDepth 100000 in
theorem fl_X11_313 : fldOk RX11 313 11 32 := ⟨_, rfl, by decide, gt_4 238 rfl rfl, inG_X11⟩
set_option maxRecDepth 100000 in
theorem fl_X11_320 : fldOk RX11 320 11 33 := ⟨_, rfl, by decide, gt_4 239 rfl rfl, inG_X11⟩
set_option maxRecDepth 100000 in
theorem fl_X11_323 : fldOk RX11 323 11 34 := ⟨_, rfl, by decide, gt_5 0 rfl rfl, inG_X11⟩
set_option maxRecDepth 100000 in
theorem fl_X11_330 : fldOk RX11 330 11 35 := ⟨_, rfl, by decide, gt_5 1 rfl rfl, inG_X11⟩
set_option maxRecDepth 100000 in
theorem fl_X11_72 : fldOk RX11 72 11 36 := ⟨_, rfl, by decide, gt_5 2 rfl rfl, inG_X11⟩
set_option maxRecDepth 100000 in
theorem fl_X11_76 : fldOk RX11 76 11 37 := ⟨_, rfl, by decide, gt_5 3 rfl rfl, inG_X11⟩
set_option maxRecDepth 100000 in
theorem fl_X11_79 : fldOk RX11 79 11 38 := ⟨_, rfl, by decide, gt_5 4 rfl rfl, inG_X11⟩
set_option maxRecDepth 100000 in
theorem fl_X11_82 : fldOk RX11 82 11 39 := ⟨_, rfl, by decide, gt_5 5 rfl rfl, inG_X11⟩
set_option maxRecDepth 100000 in
theorem fl_X11_85 : fldOk RX11 85 11 40 := ⟨_, rfl, by decide, gt_5 6 rfl rfl, inG_X11⟩
set_option maxRecDepth 100000 in
theorem fl_X11_342 : fldOk RX11 342 11 41 := ⟨_, rfl, by decide, gt_5 7 rfl rfl, inG_X11⟩
theorem po_X0_3 : putOk 0 3 .int := ⟨_, tyX0, rfl, tyX0_ok, nmX0, rfl, by decide +kernel⟩
theorem po_X0_4 : putOk 0 4 .int := ⟨_, tyX0, rfl, tyX0_ok, nmX0, rfl, by decide +kernel⟩
theorem po_X0_5 : putOk 0 5 .int := ⟨_, tyX0, rfl, tyX0_ok, nmX0, rfl, by decide +kernel⟩
theorem po_X1_0 : putOk 1 0 .int := ⟨_, tyX1, rfl, tyX1_ok, nmX1, rfl, by decide +kernel⟩
theorem po_X1_1 : putOk 1 1 .int := ⟨_, tyX1, rfl, tyX1_ok, nmX1, rfl, by decide +kernel⟩
theorem po_X1_2 : putOk 1 2 .int := ⟨_, tyX1, rfl, tyX1_ok, nmX1, rfl, by decide +kernel⟩
theorem po_X1_5 : putOk 1 5 .int := ⟨_, tyX1, rfl, tyX1_ok, nmX1, rfl, by decide +kernel⟩
theorem po_X3_4 : putOk 3 4 .int := ⟨_, tyX3, rfl, tyX3_ok, nmX3, rfl, by decide +kernel⟩
theorem po_X3_5 : putOk 3 5 .long := ⟨_, tyX3, rfl, tyX3_ok, nmX3, rfl, by decide +kernel⟩
theorem po_X4_2 : putOk 4 2 .int := ⟨_, tyX4, rfl, tyX4_ok, nmX4, rfl, by decide +kernel⟩
theorem po_X4_3 : putOk 4 3 .long := ⟨_, tyX4, rfl, tyX4_ok, nmX4, rfl, by decide +kernel⟩
theorem po_X4_4 : putOk 4 4 .int := ⟨_, tyX4, rfl, tyX4_ok, nmX4, rfl, by decide +kernel⟩
theorem po_X5_0 : putOk 5 0 .long := ⟨_, tyX5, rfl, tyX5_ok, nmX5, rfl, by decide +kernel⟩
theorem po_X5_1 : putOk 5 1 .long := ⟨_, tyX5, rfl, tyX5_ok, nmX5, rfl, by decide +kernel⟩
theorem po_X6_5 : putOk 6 5 .int := ⟨_, tyX6, rfl, tyX6_ok, nmX6, rfl, by decide +kernel⟩
theorem po_X9_3 : putOk 9 3 .int := ⟨_, tyX9, rfl, tyX9_ok, nmX9, rfl, by decide +kernel⟩
theorem po_X11_0 : putOk 11 0 .int := ⟨_, tyX11, rfl, tyX11_ok, nmX11, rfl, by decide +kernel⟩
theorem po_X11_1 : putOk 11 1 .int := ⟨_, tyX11, rfl, tyX11_ok, nmX11, rfl, by decide +kernel⟩
theorem po_X11_4 : putOk 11 4 .int := ⟨_, tyX11, rfl, tyX11_ok, nmX11, rfl, by decide +kernel⟩
theorem po_X11_11 : putOk 11 11 .int := ⟨_, tyX11, rfl, tyX11_ok, nmX11, rfl, by decide +kernel⟩
theorem po_X11_12 : putOk 11 12 .int := ⟨_, tyX11, rfl, tyX11_ok, nmX11, rfl, by decide +kernel⟩
theorem po_X11_13 : putOk 11 13 .boolean := ⟨_, tyX11, rfl, tyX11_ok, nmX11, rfl, by decide +kernel⟩
theorem po_X11_21 : putOk 11 21 .long := ⟨_, tyX11, rfl, tyX11_ok, nmX11, rfl, by decide +kernel⟩
theorem po_X11_23 : putOk 11 23 .int := ⟨_, tyX11, rfl, tyX11_ok, nmX11, rfl, by decide +kernel⟩
theorem po_X11_25 : putOk 11 25 .long := ⟨_, tyX11, rfl, tyX11_ok, nmX11, rfl, by decide +kernel⟩
theorem po_X11_26 : putOk 11 26 .long := ⟨_, tyX11, rfl, tyX11_ok, nmX11, rfl, by decide +kernel⟩
theorem po_X11_27 : putOk 11 27 .long := ⟨_, tyX11, rfl, tyX11_ok, nmX11, rfl, by decide +kernel⟩
theorem po_X11_28 : putOk 11 28 .long := ⟨_, tyX11, rfl, tyX11_ok, nmX11, rfl, by decide +kernel⟩
theorem po_X11_29 : putOk 11 29 .int := ⟨_, tyX11, rfl, tyX11_ok, nmX11, rfl, by decide +kernel⟩
theorem po_X11_31 : putOk 11 31 .int := ⟨_, tyX11, rfl, tyX11_ok, nmX11, rfl, by decide +kernel⟩
theorem po_X11_32 : putOk 11 32 .int := ⟨_, tyX11, rfl, tyX11_ok, nmX11, rfl, by decide +kernel⟩
theorem po_X11_33 : putOk 11 33 .long := ⟨_, tyX11, rfl, tyX11_ok, nmX11, rfl, by decide +kernel⟩
theorem po_X11_34 : putOk 11 34 .long := ⟨_, tyX11, rfl, tyX11_ok, nmX11, rfl, by decide +kernel⟩
theorem po_X11_35 : putOk 11 35 .long := ⟨_, tyX11, rfl, tyX11_ok, nmX11, rfl, by decide +kernel⟩
theorem po_X11_41 : putOk 11 41 .int := ⟨_, tyX11, rfl, tyX11_ok, nmX11, rfl, by decide +kernel⟩
set_option maxRecDepth 100000 in
theorem ci_X10_155 : Cond.constant RX10 155 (-2147483648) ∈ gt := gt_3 17 rfl rfl
set_option maxRecDepth 100000 in
theorem ci_X10_169 : Cond.constant RX10 169 (-2147483647) ∈ gt := gt_3 31 rfl rfl
set_option maxRecDepth 100000 in
theorem ci_J6_265 : Cond.constant RJ6 265 (1431655765) ∈ gt := gt_3 69 rfl rfl
set_option maxRecDepth 100000 in
theorem ci_J6_266 : Cond.constant RJ6 266 (858993459) ∈ gt := gt_3 70 rfl rfl
set_option maxRecDepth 100000 in
theorem ci_J6_267 : Cond.constant RJ6 267 (252645135) ∈ gt := gt_3 71 rfl rfl
set_option maxRecDepth 100000 in
theorem ci_X11_156 : Cond.constant RX11 156 (-2147483648) ∈ gt := gt_5 159 rfl rfl
set_option maxRecDepth 100000 in
theorem ci_X11_168 : Cond.constant RX11 168 (-2147483647) ∈ gt := gt_5 204 rfl rfl
set_option maxRecDepth 100000 in
theorem cl_X7_100 : Cond.constantLong RX7 100 (1000) ∈ gt := gt_2 205 rfl rfl
set_option maxRecDepth 100000 in
theorem cl_X10_355 : Cond.constantLong RX10 355 (2) ∈ gt := gt_2 209 rfl rfl
set_option maxRecDepth 100000 in
theorem cl_X0_39 : Cond.constantLong RX0 39 (1000000) ∈ gt := gt_3 44 rfl rfl
set_option maxRecDepth 100000 in
theorem cl_X10_249 : Cond.constantLong RX10 249 (-9223372036854775808) ∈ gt := gt_3 130 rfl rfl
set_option maxRecDepth 100000 in
theorem cl_X6_48 : Cond.constantLong RX6 48 (2) ∈ gt := gt_3 146 rfl rfl
set_option maxRecDepth 100000 in
theorem cl_X6_83 : Cond.constantLong RX6 83 (4) ∈ gt := gt_3 161 rfl rfl
set_option maxRecDepth 100000 in
theorem cl_X6_89 : Cond.constantLong RX6 89 (100000000) ∈ gt := gt_3 167 rfl rfl
set_option maxRecDepth 100000 in
theorem cl_X6_101 : Cond.constantLong RX6 101 (1483) ∈ gt := gt_3 174 rfl rfl
set_option maxRecDepth 100000 in
theorem cl_X6_103 : Cond.constantLong RX6 103 (2000) ∈ gt := gt_3 175 rfl rfl
set_option maxRecDepth 100000 in
theorem cl_X6_105 : Cond.constantLong RX6 105 (3) ∈ gt := gt_3 176 rfl rfl
set_option maxRecDepth 100000 in
theorem cl_X6_122 : Cond.constantLong RX6 122 (1286) ∈ gt := gt_3 191 rfl rfl
set_option maxRecDepth 100000 in
theorem cl_X6_124 : Cond.constantLong RX6 124 (1000) ∈ gt := gt_3 192 rfl rfl
set_option maxRecDepth 100000 in
theorem cl_X6_130 : Cond.constantLong RX6 130 (100) ∈ gt := gt_3 208 rfl rfl
set_option maxRecDepth 100000 in
theorem cl_X8_68 : Cond.constantLong RX8 68 (2) ∈ gt := gt_3 237 rfl rfl
set_option maxRecDepth 100000 in
theorem cl_X8_55 : Cond.constantLong RX8 55 (1000) ∈ gt := gt_4 4 rfl rfl
set_option maxRecDepth 100000 in
theorem cl_X8_82 : Cond.constantLong RX8 82 (-1) ∈ gt := gt_4 20 rfl rfl
set_option maxRecDepth 100000 in
theorem cl_X3_64 : Cond.constantLong RX3 64 (1000000) ∈ gt := gt_4 70 rfl rfl
set_option maxRecDepth 100000 in
theorem cl_X4_54 : Cond.constantLong RX4 54 (100000) ∈ gt := gt_4 105 rfl rfl
set_option maxRecDepth 100000 in
theorem cl_X4_62 : Cond.constantLong RX4 62 (10000) ∈ gt := gt_4 110 rfl rfl
set_option maxRecDepth 100000 in
theorem cl_X10_312 : Cond.constantLong RX10 312 (17) ∈ gt := gt_4 187 rfl rfl
set_option maxRecDepth 100000 in
theorem cl_X10_314 : Cond.constantLong RX10 314 (31) ∈ gt := gt_4 188 rfl rfl
set_option maxRecDepth 100000 in
theorem cl_X10_341 : Cond.constantLong RX10 341 (-3) ∈ gt := gt_4 197 rfl rfl
set_option maxRecDepth 100000 in
theorem cl_X11_139 : Cond.constantLong RX11 139 (1000) ∈ gt := gt_5 172 rfl rfl
set_option maxRecDepth 100000 in
theorem cl_X11_88 : Cond.constantLong RX11 88 (2) ∈ gt := gt_5 180 rfl rfl
set_option maxRecDepth 100000 in
theorem cl_X11_175 : Cond.constantLong RX11 175 (1000000) ∈ gt := gt_5 216 rfl rfl
set_option maxRecDepth 100000 in
theorem cl_X11_193 : Cond.constantLong RX11 193 (-1) ∈ gt := gt_6 11 rfl rfl
set_option maxRecDepth 100000 in
theorem cl_X11_249 : Cond.constantLong RX11 249 (-9223372036854775806) ∈ gt := gt_6 24 rfl rfl
set_option maxRecDepth 100000 in
theorem cl_X11_220 : Cond.constantLong RX11 220 (100000000) ∈ gt := gt_6 49 rfl rfl
set_option maxRecDepth 100000 in
theorem cl_X11_227 : Cond.constantLong RX11 227 (1483) ∈ gt := gt_6 54 rfl rfl
set_option maxRecDepth 100000 in
theorem cl_X11_229 : Cond.constantLong RX11 229 (3) ∈ gt := gt_6 55 rfl rfl
set_option maxRecDepth 100000 in
theorem cl_X11_235 : Cond.constantLong RX11 235 (1286) ∈ gt := gt_6 59 rfl rfl
set_option maxRecDepth 100000 in
theorem cl_X11_222 : Cond.constantLong RX11 222 (3000000000) ∈ gt := gt_6 63 rfl rfl
set_option maxRecDepth 100000 in
theorem cl_X11_258 : Cond.constantLong RX11 258 (-9223372036854775805) ∈ gt := gt_6 70 rfl rfl
set_option maxRecDepth 100000 in
theorem cl_X11_260 : Cond.constantLong RX11 260 (100) ∈ gt := gt_6 79 rfl rfl
set_option maxRecDepth 100000 in
theorem cl_X11_265 : Cond.constantLong RX11 265 (200) ∈ gt := gt_6 84 rfl rfl
set_option maxRecDepth 100000 in
theorem cl_X11_267 : Cond.constantLong RX11 267 (300) ∈ gt := gt_6 85 rfl rfl
set_option maxRecDepth 100000 in
theorem cl_X11_291 : Cond.constantLong RX11 291 (840) ∈ gt := gt_6 122 rfl rfl
set_option maxRecDepth 100000 in
theorem cl_X11_296 : Cond.constantLong RX11 296 (-9223372036854775808) ∈ gt := gt_6 135 rfl rfl
set_option maxRecDepth 100000 in
theorem cl_X11_326 : Cond.constantLong RX11 326 (100000) ∈ gt := gt_6 176 rfl rfl
set_option maxRecDepth 100000 in
theorem cl_X11_328 : Cond.constantLong RX11 328 (10000) ∈ gt := gt_6 177 rfl rfl
set_option maxRecDepth 100000 in
theorem cl_X11_356 : Cond.constantLong RX11 356 (17) ∈ gt := gt_6 234 rfl rfl
set_option maxRecDepth 100000 in
theorem cl_X11_358 : Cond.constantLong RX11 358 (31) ∈ gt := gt_6 235 rfl rfl
set_option maxRecDepth 100000 in
theorem cl_X11_363 : Cond.constantLong RX11 363 (-3) ∈ gt := gt_6 237 rfl rfl
/-- what is known of a method: initialised, its code, its descriptor -/
def kOk (n : Nat) (M : Mt) : Prop := Cond.initialized M.1.cls ∈ gt ∧ Cond.code M.1 M.2.1 M.2.2.1 M.2.2.2 ∈ gt ∧ (M.1.cls ≠ "java/lang/invoke/MethodHandle" ∧ M.1.cls ≠ "java/lang/invoke/VarHandle" ∧ (parseMethodDescriptor M.1.desc).map (fun d => d.parameters.length) = some n) ∧ M.2.2.1 ≤ 40 ∧ plainFor M.1 = true
def vOk (ci : Nat) (M : Mt) : Prop := Cond.instanceMethod M.1 ∈ gt ∧ Cond.selects M.1.cls M.1 M.1 ∈ gt ∧ ∃ q : vw_C, vwCl[ci]? = some q ∧ q.1 = M.1.cls
def neL : List (String × Nat × MethodName × String) := [(RX7, 85, yX10_nearest, "SentRound"), (RX6, 79, yX10_putInOrder, "SentRound"), (RX8, 57, yX10_nearest, "SentRound")]
set_option maxRecDepth 100000 in
theorem ko_X0_changeFactor : kOk 1 mX0_changeFactor := ⟨gt_1 4 rfl rfl, gt_3 12 rfl rfl, ⟨by decide +kernel, by decide +kernel, by decide +kernel⟩, Nat.le_of_ble_eq_true rfl, by decide +kernel⟩
set_option maxRecDepth 100000 in
theorem kv_X0_changeFactor : vOk 0 mX0_changeFactor := ⟨gt_3 10 rfl rfl, gt_3 11 rfl rfl, _, rfl, rfl⟩
set_option maxRecDepth 100000 in
theorem ko_X0_holds : kOk 3 mX0_holds := ⟨gt_1 4 rfl rfl, gt_3 39 rfl rfl, ⟨by decide +kernel, by decide +kernel, by decide +kernel⟩, Nat.le_of_ble_eq_true rfl, by decide +kernel⟩
set_option maxRecDepth 100000 in
theorem kv_X0_holds : vOk 0 mX0_holds := ⟨gt_3 37 rfl rfl, gt_3 38 rfl rfl, _, rfl, rfl⟩
set_option maxRecDepth 100000 in
theorem ko_X0_mostOf : kOk 1 mX0_mostOf := ⟨gt_1 4 rfl rfl, gt_3 52 rfl rfl, ⟨by decide +kernel, by decide +kernel, by decide +kernel⟩, Nat.le_of_ble_eq_true rfl, by decide +kernel⟩
set_option maxRecDepth 100000 in
theorem kv_X0_mostOf : vOk 0 mX0_mostOf := ⟨gt_3 50 rfl rfl, gt_3 51 rfl rfl, _, rfl, rfl⟩
set_option maxRecDepth 100000 in
theorem ko_X0_agreeingWith : kOk 3 mX0_agreeingWith := ⟨gt_1 4 rfl rfl, gt_3 61 rfl rfl, ⟨by decide +kernel, by decide +kernel, by decide +kernel⟩, Nat.le_of_ble_eq_true rfl, by decide +kernel⟩
set_option maxRecDepth 100000 in
theorem kv_X0_agreeingWith : vOk 0 mX0_agreeingWith := ⟨gt_3 60 rfl rfl, gt_sel (q := (yX0_agreeingWith, 6)) (by decide +kernel), _, rfl, rfl⟩
set_option maxRecDepth 100000 in
theorem ko_X0_widestCircle : kOk 5 mX0_widestCircle := ⟨gt_1 4 rfl rfl, gt_3 65 rfl rfl, ⟨by decide +kernel, by decide +kernel, by decide +kernel⟩, Nat.le_of_ble_eq_true rfl, by decide +kernel⟩
set_option maxRecDepth 100000 in
theorem ks_X0_widestCircle : Cond.static yX0_widestCircle ∈ gt := gt_3 64 rfl rfl
set_option maxRecDepth 100000 in
theorem ko_X0_meet : kOk 1 mX0_meet := ⟨gt_1 4 rfl rfl, gt_3 79 rfl rfl, ⟨by decide +kernel, by decide +kernel, by decide +kernel⟩, Nat.le_of_ble_eq_true rfl, by decide +kernel⟩
set_option maxRecDepth 100000 in
theorem kv_X0_meet : vOk 0 mX0_meet := ⟨gt_3 77 rfl rfl, gt_3 78 rfl rfl, _, rfl, rfl⟩
set_option maxRecDepth 100000 in
theorem ko_X0_spansAt : kOk 2 mX0_spansAt := ⟨gt_1 4 rfl rfl, gt_3 88 rfl rfl, ⟨by decide +kernel, by decide +kernel, by decide +kernel⟩, Nat.le_of_ble_eq_true rfl, by decide +kernel⟩
set_option maxRecDepth 100000 in
theorem kv_X0_spansAt : vOk 0 mX0_spansAt := ⟨gt_3 87 rfl rfl, gt_sel (q := (yX0_spansAt, 6)) (by decide +kernel), _, rfl, rfl⟩
set_option maxRecDepth 100000 in
theorem ko_X0_reachOf : kOk 1 mX0_reachOf := ⟨gt_1 4 rfl rfl, gt_3 84 rfl rfl, ⟨by decide +kernel, by decide +kernel, by decide +kernel⟩, Nat.le_of_ble_eq_true rfl, by decide +kernel⟩
set_option maxRecDepth 100000 in
theorem kv_X0_reachOf : vOk 0 mX0_reachOf := ⟨gt_3 83 rfl rfl, gt_sel (q := (yX0_reachOf, 6)) (by decide +kernel), _, rfl, rfl⟩
set_option maxRecDepth 100000 in
theorem ko_X1_addHouse : kOk 1 mX1_addHouse := ⟨gt_1 2 rfl rfl, gt_2 137 rfl rfl, ⟨by decide +kernel, by decide +kernel, by decide +kernel⟩, Nat.le_of_ble_eq_true rfl, by decide +kernel⟩
set_option maxRecDepth 100000 in
theorem kv_X1_addHouse : vOk 1 mX1_addHouse := ⟨gt_2 135 rfl rfl, gt_2 136 rfl rfl, _, rfl, rfl⟩
set_option maxRecDepth 100000 in
theorem ko_X1_changeDoubt : kOk 2 mX1_changeDoubt := ⟨gt_1 2 rfl rfl, gt_2 149 rfl rfl, ⟨by decide +kernel, by decide +kernel, by decide +kernel⟩, Nat.le_of_ble_eq_true rfl, by decide +kernel⟩
set_option maxRecDepth 100000 in
theorem kv_X1_changeDoubt : vOk 1 mX1_changeDoubt := ⟨gt_2 147 rfl rfl, gt_2 148 rfl rfl, _, rfl, rfl⟩
set_option maxRecDepth 100000 in
theorem ko_X1_addReading : kOk 4 mX1_addReading := ⟨gt_1 2 rfl rfl, gt_2 168 rfl rfl, ⟨by decide +kernel, by decide +kernel, by decide +kernel⟩, Nat.le_of_ble_eq_true rfl, by decide +kernel⟩
set_option maxRecDepth 100000 in
theorem kv_X1_addReading : vOk 1 mX1_addReading := ⟨gt_2 166 rfl rfl, gt_2 167 rfl rfl, _, rfl, rfl⟩
set_option maxRecDepth 100000 in
theorem ko_X1_readingsOf : kOk 2 mX1_readingsOf := ⟨gt_1 2 rfl rfl, gt_2 164 rfl rfl, ⟨by decide +kernel, by decide +kernel, by decide +kernel⟩, Nat.le_of_ble_eq_true rfl, by decide +kernel⟩
set_option maxRecDepth 100000 in
theorem kv_X1_readingsOf : vOk 1 mX1_readingsOf := ⟨gt_2 162 rfl rfl, gt_2 163 rfl rfl, _, rfl, rfl⟩
set_option maxRecDepth 100000 in
theorem ko_X1_isKnown : kOk 1 mX1_isKnown := ⟨gt_1 2 rfl rfl, gt_2 184 rfl rfl, ⟨by decide +kernel, by decide +kernel, by decide +kernel⟩, Nat.le_of_ble_eq_true rfl, by decide +kernel⟩
set_option maxRecDepth 100000 in
theorem kv_X1_isKnown : vOk 1 mX1_isKnown := ⟨gt_2 182 rfl rfl, gt_2 183 rfl rfl, _, rfl, rfl⟩
set_option maxRecDepth 100000 in
theorem ko_X1_isKnownOf : kOk 2 mX1_isKnownOf := ⟨gt_1 2 rfl rfl, gt_2 180 rfl rfl, ⟨by decide +kernel, by decide +kernel, by decide +kernel⟩, Nat.le_of_ble_eq_true rfl, by decide +kernel⟩
set_option maxRecDepth 100000 in
theorem kv_X1_isKnownOf : vOk 1 mX1_isKnownOf := ⟨gt_2 178 rfl rfl, gt_2 179 rfl rfl, _, rfl, rfl⟩
set_option maxRecDepth 100000 in
theorem ko_X1_knownReadings : kOk 0 mX1_knownReadings := ⟨gt_1 2 rfl rfl, gt_4 180 rfl rfl, ⟨by decide +kernel, by decide +kernel, by decide +kernel⟩, Nat.le_of_ble_eq_true rfl, by decide +kernel⟩
set_option maxRecDepth 100000 in
theorem kv_X1_knownReadings : vOk 1 mX1_knownReadings := ⟨gt_4 178 rfl rfl, gt_4 179 rfl rfl, _, rfl, rfl⟩
set_option maxRecDepth 100000 in
theorem ko_X1_squaredDoubt : kOk 1 mX1_squaredDoubt := ⟨gt_1 2 rfl rfl, gt_3 43 rfl rfl, ⟨by decide +kernel, by decide +kernel, by decide +kernel⟩, Nat.le_of_ble_eq_true rfl, by decide +kernel⟩
set_option maxRecDepth 100000 in
theorem kv_X1_squaredDoubt : vOk 1 mX1_squaredDoubt := ⟨gt_3 41 rfl rfl, gt_3 42 rfl rfl, _, rfl, rfl⟩
set_option maxRecDepth 100000 in
theorem ko_X2_reckonTo : kOk 1 mX2_reckonTo := ⟨gt_1 5 rfl rfl, gt_3 99 rfl rfl, ⟨by decide +kernel, by decide +kernel, by decide +kernel⟩, Nat.le_of_ble_eq_true rfl, by decide +kernel⟩
set_option maxRecDepth 100000 in
theorem kv_X2_reckonTo : vOk 2 mX2_reckonTo := ⟨gt_3 97 rfl rfl, gt_3 98 rfl rfl, _, rfl, rfl⟩
set_option maxRecDepth 100000 in
theorem ko_X2_findNeighbours : kOk 0 mX2_findNeighbours := ⟨gt_1 5 rfl rfl, gt_3 103 rfl rfl, ⟨by decide +kernel, by decide +kernel, by decide +kernel⟩, Nat.le_of_ble_eq_true rfl, by decide +kernel⟩
set_option maxRecDepth 100000 in
theorem kv_X2_findNeighbours : vOk 2 mX2_findNeighbours := ⟨gt_3 102 rfl rfl, gt_sel (q := (yX2_findNeighbours, 4)) (by decide +kernel), _, rfl, rfl⟩
set_option maxRecDepth 100000 in
theorem ko_X2_cheapestBeside : kOk 1 mX2_cheapestBeside := ⟨gt_1 5 rfl rfl, gt_3 110 rfl rfl, ⟨by decide +kernel, by decide +kernel, by decide +kernel⟩, Nat.le_of_ble_eq_true rfl, by decide +kernel⟩
set_option maxRecDepth 100000 in
theorem kv_X2_cheapestBeside : vOk 2 mX2_cheapestBeside := ⟨gt_3 109 rfl rfl, gt_sel (q := (yX2_cheapestBeside, 4)) (by decide +kernel), _, rfl, rfl⟩
set_option maxRecDepth 100000 in
theorem ko_X2_costBy : kOk 1 mX2_costBy := ⟨gt_1 5 rfl rfl, gt_3 114 rfl rfl, ⟨by decide +kernel, by decide +kernel, by decide +kernel⟩, Nat.le_of_ble_eq_true rfl, by decide +kernel⟩
set_option maxRecDepth 100000 in
theorem kv_X2_costBy : vOk 2 mX2_costBy := ⟨gt_3 113 rfl rfl, gt_sel (q := (yX2_costBy, 4)) (by decide +kernel), _, rfl, rfl⟩
set_option maxRecDepth 100000 in
theorem ko_X2_nextFrom : kOk 1 mX2_nextFrom := ⟨gt_1 5 rfl rfl, gt_3 122 rfl rfl, ⟨by decide +kernel, by decide +kernel, by decide +kernel⟩, Nat.le_of_ble_eq_true rfl, by decide +kernel⟩
set_option maxRecDepth 100000 in
theorem kv_X2_nextFrom : vOk 2 mX2_nextFrom := ⟨gt_3 120 rfl rfl, gt_3 121 rfl rfl, _, rfl, rfl⟩
set_option maxRecDepth 100000 in
theorem ko_X3_gather : kOk 1 mX3_gather := ⟨gt_1 9 rfl rfl, gt_4 57 rfl rfl, ⟨by decide +kernel, by decide +kernel, by decide +kernel⟩, Nat.le_of_ble_eq_true rfl, by decide +kernel⟩
set_option maxRecDepth 100000 in
theorem kv_X3_gather : vOk 3 mX3_gather := ⟨gt_4 55 rfl rfl, gt_4 56 rfl rfl, _, rfl, rfl⟩
set_option maxRecDepth 100000 in
theorem ko_X3_chance : kOk 0 mX3_chance := ⟨gt_1 9 rfl rfl, gt_4 63 rfl rfl, ⟨by decide +kernel, by decide +kernel, by decide +kernel⟩, Nat.le_of_ble_eq_true rfl, by decide +kernel⟩
set_option maxRecDepth 100000 in
theorem kv_X3_chance : vOk 3 mX3_chance := ⟨gt_4 61 rfl rfl, gt_4 62 rfl rfl, _, rfl, rfl⟩
set_option maxRecDepth 100000 in
theorem ko_X3_choices : kOk 2 mX3_choices := ⟨gt_1 9 rfl rfl, gt_4 66 rfl rfl, ⟨by decide +kernel, by decide +kernel, by decide +kernel⟩, Nat.le_of_ble_eq_true rfl, by decide +kernel⟩
set_option maxRecDepth 100000 in
theorem ks_X3_choices : Cond.static yX3_choices ∈ gt := gt_4 65 rfl rfl
set_option maxRecDepth 100000 in
theorem ko_X3_dealt : kOk 4 mX3_dealt := ⟨gt_1 9 rfl rfl, gt_4 69 rfl rfl, ⟨by decide +kernel, by decide +kernel, by decide +kernel⟩, Nat.le_of_ble_eq_true rfl, by decide +kernel⟩
set_option maxRecDepth 100000 in
theorem ks_X3_dealt : Cond.static yX3_dealt ∈ gt := gt_4 68 rfl rfl
set_option maxRecDepth 100000 in
theorem ko_X4_append : kOk 1 mX4_append := ⟨gt_1 10 rfl rfl, gt_4 82 rfl rfl, ⟨by decide +kernel, by decide +kernel, by decide +kernel⟩, Nat.le_of_ble_eq_true rfl, by decide +kernel⟩
set_option maxRecDepth 100000 in
theorem kv_X4_append : vOk 4 mX4_append := ⟨gt_4 80 rfl rfl, gt_4 81 rfl rfl, _, rfl, rfl⟩
set_option maxRecDepth 100000 in
theorem ko_X4_firstFault : kOk 0 mX4_firstFault := ⟨gt_1 10 rfl rfl, gt_4 94 rfl rfl, ⟨by decide +kernel, by decide +kernel, by decide +kernel⟩, Nat.le_of_ble_eq_true rfl, by decide +kernel⟩
set_option maxRecDepth 100000 in
theorem kv_X4_firstFault : vOk 4 mX4_firstFault := ⟨gt_4 92 rfl rfl, gt_4 93 rfl rfl, _, rfl, rfl⟩
set_option maxRecDepth 100000 in
theorem ko_X4_faultOfPart : kOk 0 mX4_faultOfPart := ⟨gt_1 10 rfl rfl, gt_4 98 rfl rfl, ⟨by decide +kernel, by decide +kernel, by decide +kernel⟩, Nat.le_of_ble_eq_true rfl, by decide +kernel⟩
set_option maxRecDepth 100000 in
theorem kv_X4_faultOfPart : vOk 4 mX4_faultOfPart := ⟨gt_4 97 rfl rfl, gt_sel (q := (yX4_faultOfPart, 5)) (by decide +kernel), _, rfl, rfl⟩
set_option maxRecDepth 100000 in
theorem ko_X4_nextNumber : kOk 0 mX4_nextNumber := ⟨gt_1 10 rfl rfl, gt_4 103 rfl rfl, ⟨by decide +kernel, by decide +kernel, by decide +kernel⟩, Nat.le_of_ble_eq_true rfl, by decide +kernel⟩
set_option maxRecDepth 100000 in
theorem kv_X4_nextNumber : vOk 4 mX4_nextNumber := ⟨gt_4 102 rfl rfl, gt_sel (q := (yX4_nextNumber, 5)) (by decide +kernel), _, rfl, rfl⟩
set_option maxRecDepth 100000 in
theorem ko_X4_squareOfPart : kOk 0 mX4_squareOfPart := ⟨gt_1 10 rfl rfl, gt_4 109 rfl rfl, ⟨by decide +kernel, by decide +kernel, by decide +kernel⟩, Nat.le_of_ble_eq_true rfl, by decide +kernel⟩
set_option maxRecDepth 100000 in
theorem kv_X4_squareOfPart : vOk 4 mX4_squareOfPart := ⟨gt_4 108 rfl rfl, gt_sel (q := (yX4_squareOfPart, 5)) (by decide +kernel), _, rfl, rfl⟩
set_option maxRecDepth 100000 in
theorem ko_X4_doubtOfSquare : kOk 0 mX4_doubtOfSquare := ⟨gt_1 10 rfl rfl, gt_4 118 rfl rfl, ⟨by decide +kernel, by decide +kernel, by decide +kernel⟩, Nat.le_of_ble_eq_true rfl, by decide +kernel⟩
set_option maxRecDepth 100000 in
theorem kv_X4_doubtOfSquare : vOk 4 mX4_doubtOfSquare := ⟨gt_4 116 rfl rfl, gt_4 117 rfl rfl, _, rfl, rfl⟩
set_option maxRecDepth 100000 in
theorem ko_X5_become : kOk 2 mX5_become := ⟨gt_1 7 rfl rfl, gt_3 150 rfl rfl, ⟨by decide +kernel, by decide +kernel, by decide +kernel⟩, Nat.le_of_ble_eq_true rfl, by decide +kernel⟩
set_option maxRecDepth 100000 in
theorem kv_X5_become : vOk 5 mX5_become := ⟨gt_3 148 rfl rfl, gt_3 149 rfl rfl, _, rfl, rfl⟩
set_option maxRecDepth 100000 in
theorem ko_X5_side : kOk 1 mX5_side := ⟨gt_1 7 rfl rfl, gt_3 199 rfl rfl, ⟨by decide +kernel, by decide +kernel, by decide +kernel⟩, Nat.le_of_ble_eq_true rfl, by decide +kernel⟩
set_option maxRecDepth 100000 in
theorem kv_X5_side : vOk 5 mX5_side := ⟨gt_3 197 rfl rfl, gt_3 198 rfl rfl, _, rfl, rfl⟩
set_option maxRecDepth 100000 in
theorem ko_X5_greatestShared : kOk 2 mX5_greatestShared := ⟨gt_1 7 rfl rfl, gt_3 156 rfl rfl, ⟨by decide +kernel, by decide +kernel, by decide +kernel⟩, Nat.le_of_ble_eq_true rfl, by decide +kernel⟩
set_option maxRecDepth 100000 in
theorem ks_X5_greatestShared : Cond.static yX5_greatestShared ∈ gt := gt_3 155 rfl rfl
set_option maxRecDepth 100000 in
theorem ko_X6_reckonBy : kOk 2 mX6_reckonBy := ⟨gt_1 6 rfl rfl, gt_3 134 rfl rfl, ⟨by decide +kernel, by decide +kernel, by decide +kernel⟩, Nat.le_of_ble_eq_true rfl, by decide +kernel⟩
set_option maxRecDepth 100000 in
theorem kv_X6_reckonBy : vOk 6 mX6_reckonBy := ⟨gt_3 132 rfl rfl, gt_3 133 rfl rfl, _, rfl, rfl⟩
set_option maxRecDepth 100000 in
theorem ko_X6_gather : kOk 1 mX6_gather := ⟨gt_1 6 rfl rfl, gt_3 138 rfl rfl, ⟨by decide +kernel, by decide +kernel, by decide +kernel⟩, Nat.le_of_ble_eq_true rfl, by decide +kernel⟩
set_option maxRecDepth 100000 in
theorem kv_X6_gather : vOk 6 mX6_gather := ⟨gt_3 137 rfl rfl, gt_sel (q := (yX6_gather, 7)) (by decide +kernel), _, rfl, rfl⟩
set_option maxRecDepth 100000 in
theorem ko_X6_twiceMiddle : kOk 2 mX6_twiceMiddle := ⟨gt_1 6 rfl rfl, gt_3 145 rfl rfl, ⟨by decide +kernel, by decide +kernel, by decide +kernel⟩, Nat.le_of_ble_eq_true rfl, by decide +kernel⟩
set_option maxRecDepth 100000 in
theorem ks_X6_twiceMiddle : Cond.static yX6_twiceMiddle ∈ gt := gt_3 144 rfl rfl
set_option maxRecDepth 100000 in
theorem ko_X6_byPairs : kOk 0 mX6_byPairs := ⟨gt_1 6 rfl rfl, gt_3 160 rfl rfl, ⟨by decide +kernel, by decide +kernel, by decide +kernel⟩, Nat.le_of_ble_eq_true rfl, by decide +kernel⟩
set_option maxRecDepth 100000 in
theorem kv_X6_byPairs : vOk 6 mX6_byPairs := ⟨gt_3 159 rfl rfl, gt_sel (q := (yX6_byPairs, 7)) (by decide +kernel), _, rfl, rfl⟩
set_option maxRecDepth 100000 in
theorem ko_X6_byWeights : kOk 1 mX6_byWeights := ⟨gt_1 6 rfl rfl, gt_3 165 rfl rfl, ⟨by decide +kernel, by decide +kernel, by decide +kernel⟩, Nat.le_of_ble_eq_true rfl, by decide +kernel⟩
set_option maxRecDepth 100000 in
theorem kv_X6_byWeights : vOk 6 mX6_byWeights := ⟨gt_3 164 rfl rfl, gt_sel (q := (yX6_byWeights, 7)) (by decide +kernel), _, rfl, rfl⟩
set_option maxRecDepth 100000 in
theorem ko_X6_bySteps : kOk 0 mX6_bySteps := ⟨gt_1 6 rfl rfl, gt_3 171 rfl rfl, ⟨by decide +kernel, by decide +kernel, by decide +kernel⟩, Nat.le_of_ble_eq_true rfl, by decide +kernel⟩
set_option maxRecDepth 100000 in
theorem kv_X6_bySteps : vOk 6 mX6_bySteps := ⟨gt_3 170 rfl rfl, gt_sel (q := (yX6_bySteps, 7)) (by decide +kernel), _, rfl, rfl⟩
set_option maxRecDepth 100000 in
theorem ko_X6_clippedMean : kOk 2 mX6_clippedMean := ⟨gt_1 6 rfl rfl, gt_3 180 rfl rfl, ⟨by decide +kernel, by decide +kernel, by decide +kernel⟩, Nat.le_of_ble_eq_true rfl, by decide +kernel⟩
set_option maxRecDepth 100000 in
theorem kv_X6_clippedMean : vOk 6 mX6_clippedMean := ⟨gt_3 179 rfl rfl, gt_sel (q := (yX6_clippedMean, 7)) (by decide +kernel), _, rfl, rfl⟩
set_option maxRecDepth 100000 in
theorem ko_X6_clippedSpread : kOk 1 mX6_clippedSpread := ⟨gt_1 6 rfl rfl, gt_3 190 rfl rfl, ⟨by decide +kernel, by decide +kernel, by decide +kernel⟩, Nat.le_of_ble_eq_true rfl, by decide +kernel⟩
set_option maxRecDepth 100000 in
theorem kv_X6_clippedSpread : vOk 6 mX6_clippedSpread := ⟨gt_3 189 rfl rfl, gt_sel (q := (yX6_clippedSpread, 7)) (by decide +kernel), _, rfl, rfl⟩
set_option maxRecDepth 100000 in
theorem ko_X6_root : kOk 1 mX6_root := ⟨gt_1 6 rfl rfl, gt_3 195 rfl rfl, ⟨by decide +kernel, by decide +kernel, by decide +kernel⟩, Nat.le_of_ble_eq_true rfl, by decide +kernel⟩
set_option maxRecDepth 100000 in
theorem ks_X6_root : Cond.static yX6_root ∈ gt := gt_3 194 rfl rfl
set_option maxRecDepth 100000 in
theorem ko_X6_markOf : kOk 2 mX6_markOf := ⟨gt_1 6 rfl rfl, gt_3 207 rfl rfl, ⟨by decide +kernel, by decide +kernel, by decide +kernel⟩, Nat.le_of_ble_eq_true rfl, by decide +kernel⟩
set_option maxRecDepth 100000 in
theorem kv_X6_markOf : vOk 6 mX6_markOf := ⟨gt_3 205 rfl rfl, gt_3 206 rfl rfl, _, rfl, rfl⟩
set_option maxRecDepth 100000 in
theorem ko_X6_longestRun : kOk 1 mX6_longestRun := ⟨gt_1 6 rfl rfl, gt_3 221 rfl rfl, ⟨by decide +kernel, by decide +kernel, by decide +kernel⟩, Nat.le_of_ble_eq_true rfl, by decide +kernel⟩
set_option maxRecDepth 100000 in
theorem kv_X6_longestRun : vOk 6 mX6_longestRun := ⟨gt_3 219 rfl rfl, gt_3 220 rfl rfl, _, rfl, rfl⟩
set_option maxRecDepth 100000 in
theorem ko_X7_takesPart : kOk 2 mX7_takesPart := ⟨gt_1 3 rfl rfl, gt_3 30 rfl rfl, ⟨by decide +kernel, by decide +kernel, by decide +kernel⟩, Nat.le_of_ble_eq_true rfl, by decide +kernel⟩
set_option maxRecDepth 100000 in
theorem kv_X7_takesPart : vOk 7 mX7_takesPart := ⟨gt_3 28 rfl rfl, gt_3 29 rfl rfl, _, rfl, rfl⟩
set_option maxRecDepth 100000 in
theorem ko_X7_takingPart : kOk 1 mX7_takingPart := ⟨gt_1 3 rfl rfl, gt_3 56 rfl rfl, ⟨by decide +kernel, by decide +kernel, by decide +kernel⟩, Nat.le_of_ble_eq_true rfl, by decide +kernel⟩
set_option maxRecDepth 100000 in
theorem kv_X7_takingPart : vOk 7 mX7_takingPart := ⟨gt_3 54 rfl rfl, gt_3 55 rfl rfl, _, rfl, rfl⟩
set_option maxRecDepth 100000 in
theorem ko_X7_renew : kOk 1 mX7_renew := ⟨gt_1 3 rfl rfl, gt_2 172 rfl rfl, ⟨by decide +kernel, by decide +kernel, by decide +kernel⟩, Nat.le_of_ble_eq_true rfl, by decide +kernel⟩
set_option maxRecDepth 100000 in
theorem kv_X7_renew : vOk 7 mX7_renew := ⟨gt_2 170 rfl rfl, gt_2 171 rfl rfl, _, rfl, rfl⟩
set_option maxRecDepth 100000 in
theorem ko_X7_findPoints : kOk 1 mX7_findPoints := ⟨gt_1 3 rfl rfl, gt_2 176 rfl rfl, ⟨by decide +kernel, by decide +kernel, by decide +kernel⟩, Nat.le_of_ble_eq_true rfl, by decide +kernel⟩
set_option maxRecDepth 100000 in
theorem kv_X7_findPoints : vOk 7 mX7_findPoints := ⟨gt_2 175 rfl rfl, gt_sel (q := (yX7_findPoints, 9)) (by decide +kernel), _, rfl, rfl⟩
set_option maxRecDepth 100000 in
theorem ko_X7_addToPoint : kOk 3 mX7_addToPoint := ⟨gt_1 3 rfl rfl, gt_2 188 rfl rfl, ⟨by decide +kernel, by decide +kernel, by decide +kernel⟩, Nat.le_of_ble_eq_true rfl, by decide +kernel⟩
set_option maxRecDepth 100000 in
theorem kv_X7_addToPoint : vOk 7 mX7_addToPoint := ⟨gt_2 187 rfl rfl, gt_sel (q := (yX7_addToPoint, 9)) (by decide +kernel), _, rfl, rfl⟩
set_option maxRecDepth 100000 in
theorem ko_X7_openPoint : kOk 3 mX7_openPoint := ⟨gt_1 3 rfl rfl, gt_2 192 rfl rfl, ⟨by decide +kernel, by decide +kernel, by decide +kernel⟩, Nat.le_of_ble_eq_true rfl, by decide +kernel⟩
set_option maxRecDepth 100000 in
theorem kv_X7_openPoint : vOk 7 mX7_openPoint := ⟨gt_2 191 rfl rfl, gt_sel (q := (yX7_openPoint, 9)) (by decide +kernel), _, rfl, rfl⟩
set_option maxRecDepth 100000 in
theorem ko_X7_driftOn : kOk 2 mX7_driftOn := ⟨gt_1 3 rfl rfl, gt_2 200 rfl rfl, ⟨by decide +kernel, by decide +kernel, by decide +kernel⟩, Nat.le_of_ble_eq_true rfl, by decide +kernel⟩
set_option maxRecDepth 100000 in
theorem kv_X7_driftOn : vOk 7 mX7_driftOn := ⟨gt_2 198 rfl rfl, gt_2 199 rfl rfl, _, rfl, rfl⟩
set_option maxRecDepth 100000 in
theorem ko_X7_driftBetween : kOk 5 mX7_driftBetween := ⟨gt_1 3 rfl rfl, gt_2 204 rfl rfl, ⟨by decide +kernel, by decide +kernel, by decide +kernel⟩, Nat.le_of_ble_eq_true rfl, by decide +kernel⟩
set_option maxRecDepth 100000 in
theorem kv_X7_driftBetween : vOk 7 mX7_driftBetween := ⟨gt_2 203 rfl rfl, gt_sel (q := (yX7_driftBetween, 9)) (by decide +kernel), _, rfl, rfl⟩
set_option maxRecDepth 100000 in
theorem ko_X8_gather : kOk 1 mX8_gather := ⟨gt_1 8 rfl rfl, gt_4 1 rfl rfl, ⟨by decide +kernel, by decide +kernel, by decide +kernel⟩, Nat.le_of_ble_eq_true rfl, by decide +kernel⟩
set_option maxRecDepth 100000 in
theorem kv_X8_gather : vOk 8 mX8_gather := ⟨gt_3 239 rfl rfl, gt_4 0 rfl rfl, _, rfl, rfl⟩
set_option maxRecDepth 100000 in
theorem ko_X8_reckonWithin : kOk 2 mX8_reckonWithin := ⟨gt_1 8 rfl rfl, gt_3 236 rfl rfl, ⟨by decide +kernel, by decide +kernel, by decide +kernel⟩, Nat.le_of_ble_eq_true rfl, by decide +kernel⟩
set_option maxRecDepth 100000 in
theorem kv_X8_reckonWithin : vOk 8 mX8_reckonWithin := ⟨gt_3 234 rfl rfl, gt_3 235 rfl rfl, _, rfl, rfl⟩
set_option maxRecDepth 100000 in
theorem ko_X8_spread : kOk 2 mX8_spread := ⟨gt_1 8 rfl rfl, gt_4 9 rfl rfl, ⟨by decide +kernel, by decide +kernel, by decide +kernel⟩, Nat.le_of_ble_eq_true rfl, by decide +kernel⟩
set_option maxRecDepth 100000 in
theorem kv_X8_spread : vOk 8 mX8_spread := ⟨gt_4 8 rfl rfl, gt_sel (q := (yX8_spread, 5)) (by decide +kernel), _, rfl, rfl⟩
set_option maxRecDepth 100000 in
theorem ko_X8_scaledWithin : kOk 2 mX8_scaledWithin := ⟨gt_1 8 rfl rfl, gt_4 24 rfl rfl, ⟨by decide +kernel, by decide +kernel, by decide +kernel⟩, Nat.le_of_ble_eq_true rfl, by decide +kernel⟩
set_option maxRecDepth 100000 in
theorem kv_X8_scaledWithin : vOk 8 mX8_scaledWithin := ⟨gt_4 23 rfl rfl, gt_sel (q := (yX8_scaledWithin, 5)) (by decide +kernel), _, rfl, rfl⟩
set_option maxRecDepth 100000 in
theorem ko_X8_widestOf : kOk 1 mX8_widestOf := ⟨gt_1 8 rfl rfl, gt_4 19 rfl rfl, ⟨by decide +kernel, by decide +kernel, by decide +kernel⟩, Nat.le_of_ble_eq_true rfl, by decide +kernel⟩
set_option maxRecDepth 100000 in
theorem kv_X8_widestOf : vOk 8 mX8_widestOf := ⟨gt_4 17 rfl rfl, gt_4 18 rfl rfl, _, rfl, rfl⟩
set_option maxRecDepth 100000 in
theorem ko_X8_reckonShare : kOk 1 mX8_reckonShare := ⟨gt_1 8 rfl rfl, gt_4 32 rfl rfl, ⟨by decide +kernel, by decide +kernel, by decide +kernel⟩, Nat.le_of_ble_eq_true rfl, by decide +kernel⟩
set_option maxRecDepth 100000 in
theorem kv_X8_reckonShare : vOk 8 mX8_reckonShare := ⟨gt_4 30 rfl rfl, gt_4 31 rfl rfl, _, rfl, rfl⟩
set_option maxRecDepth 100000 in
theorem ko_X8_likeMany : kOk 1 mX8_likeMany := ⟨gt_1 8 rfl rfl, gt_4 46 rfl rfl, ⟨by decide +kernel, by decide +kernel, by decide +kernel⟩, Nat.le_of_ble_eq_true rfl, by decide +kernel⟩
set_option maxRecDepth 100000 in
theorem kv_X8_likeMany : vOk 8 mX8_likeMany := ⟨gt_4 45 rfl rfl, gt_sel (q := (yX8_likeMany, 5)) (by decide +kernel), _, rfl, rfl⟩
set_option maxRecDepth 100000 in
theorem ko_X8_reckonPart : kOk 2 mX8_reckonPart := ⟨gt_1 8 rfl rfl, gt_4 42 rfl rfl, ⟨by decide +kernel, by decide +kernel, by decide +kernel⟩, Nat.le_of_ble_eq_true rfl, by decide +kernel⟩
set_option maxRecDepth 100000 in
theorem kv_X8_reckonPart : vOk 8 mX8_reckonPart := ⟨gt_4 40 rfl rfl, gt_4 41 rfl rfl, _, rfl, rfl⟩
set_option maxRecDepth 100000 in
theorem ko_X9_find : kOk 1 mX9_find := ⟨gt_1 11 rfl rfl, gt_2 227 rfl rfl, ⟨by decide +kernel, by decide +kernel, by decide +kernel⟩, Nat.le_of_ble_eq_true rfl, by decide +kernel⟩
set_option maxRecDepth 100000 in
theorem kv_X9_find : vOk 9 mX9_find := ⟨gt_2 225 rfl rfl, gt_2 226 rfl rfl, _, rfl, rfl⟩
set_option maxRecDepth 100000 in
theorem ko_X9_isLost : kOk 1 mX9_isLost := ⟨gt_1 11 rfl rfl, gt_2 223 rfl rfl, ⟨by decide +kernel, by decide +kernel, by decide +kernel⟩, Nat.le_of_ble_eq_true rfl, by decide +kernel⟩
set_option maxRecDepth 100000 in
theorem kv_X9_isLost : vOk 9 mX9_isLost := ⟨gt_2 221 rfl rfl, gt_2 222 rfl rfl, _, rfl, rfl⟩
set_option maxRecDepth 100000 in
theorem ko_X9_make : kOk 3 mX9_make := ⟨gt_1 11 rfl rfl, gt_4 133 rfl rfl, ⟨by decide +kernel, by decide +kernel, by decide +kernel⟩, Nat.le_of_ble_eq_true rfl, by decide +kernel⟩
set_option maxRecDepth 100000 in
theorem kv_X9_make : vOk 9 mX9_make := ⟨gt_4 131 rfl rfl, gt_4 132 rfl rfl, _, rfl, rfl⟩
set_option maxRecDepth 100000 in
theorem ko_X9_against : kOk 3 mX9_against := ⟨gt_1 11 rfl rfl, gt_4 145 rfl rfl, ⟨by decide +kernel, by decide +kernel, by decide +kernel⟩, Nat.le_of_ble_eq_true rfl, by decide +kernel⟩
set_option maxRecDepth 100000 in
theorem kv_X9_against : vOk 9 mX9_against := ⟨gt_4 143 rfl rfl, gt_4 144 rfl rfl, _, rfl, rfl⟩
set_option maxRecDepth 100000 in
theorem ko_X9_holds : kOk 3 mX9_holds := ⟨gt_1 11 rfl rfl, gt_4 162 rfl rfl, ⟨by decide +kernel, by decide +kernel, by decide +kernel⟩, Nat.le_of_ble_eq_true rfl, by decide +kernel⟩
set_option maxRecDepth 100000 in
theorem kv_X9_holds : vOk 9 mX9_holds := ⟨gt_4 160 rfl rfl, gt_4 161 rfl rfl, _, rfl, rfl⟩
set_option maxRecDepth 100000 in
theorem ko_X9_store : kOk 3 mX9_store := ⟨gt_1 11 rfl rfl, gt_4 150 rfl rfl, ⟨by decide +kernel, by decide +kernel, by decide +kernel⟩, Nat.le_of_ble_eq_true rfl, by decide +kernel⟩
set_option maxRecDepth 100000 in
theorem kv_X9_store : vOk 9 mX9_store := ⟨gt_4 148 rfl rfl, gt_4 149 rfl rfl, _, rfl, rfl⟩
set_option maxRecDepth 100000 in
theorem ko_X10_pass : kOk 1 mX10_pass := ⟨gt_1 1 rfl rfl, gt_2 129 rfl rfl, ⟨by decide +kernel, by decide +kernel, by decide +kernel⟩, Nat.le_of_ble_eq_true rfl, by decide +kernel⟩
set_option maxRecDepth 100000 in
theorem kv_X10_pass : vOk 10 mX10_pass := ⟨gt_2 127 rfl rfl, gt_2 128 rfl rfl, _, rfl, rfl⟩
set_option maxRecDepth 100000 in
theorem ko_X10_house : kOk 1 mX10_house := ⟨gt_1 1 rfl rfl, gt_2 133 rfl rfl, ⟨by decide +kernel, by decide +kernel, by decide +kernel⟩, Nat.le_of_ble_eq_true rfl, by decide +kernel⟩
set_option maxRecDepth 100000 in
theorem kv_X10_house : vOk 10 mX10_house := ⟨gt_2 131 rfl rfl, gt_2 132 rfl rfl, _, rfl, rfl⟩
set_option maxRecDepth 100000 in
theorem ko_X10_doubt : kOk 2 mX10_doubt := ⟨gt_1 1 rfl rfl, gt_2 141 rfl rfl, ⟨by decide +kernel, by decide +kernel, by decide +kernel⟩, Nat.le_of_ble_eq_true rfl, by decide +kernel⟩
set_option maxRecDepth 100000 in
theorem kv_X10_doubt : vOk 10 mX10_doubt := ⟨gt_2 139 rfl rfl, gt_2 140 rfl rfl, _, rfl, rfl⟩
set_option maxRecDepth 100000 in
theorem ko_X10_reading : kOk 4 mX10_reading := ⟨gt_1 1 rfl rfl, gt_2 153 rfl rfl, ⟨by decide +kernel, by decide +kernel, by decide +kernel⟩, Nat.le_of_ble_eq_true rfl, by decide +kernel⟩
set_option maxRecDepth 100000 in
theorem kv_X10_reading : vOk 10 mX10_reading := ⟨gt_2 151 rfl rfl, gt_2 152 rfl rfl, _, rfl, rfl⟩
set_option maxRecDepth 100000 in
theorem ko_X10_read : kOk 1 mX10_read := ⟨gt_1 1 rfl rfl, gt_2 216 rfl rfl, ⟨by decide +kernel, by decide +kernel, by decide +kernel⟩, Nat.le_of_ble_eq_true rfl, by decide +kernel⟩
set_option maxRecDepth 100000 in
theorem kv_X10_read : vOk 10 mX10_read := ⟨gt_2 214 rfl rfl, gt_2 215 rfl rfl, _, rfl, rfl⟩
set_option maxRecDepth 100000 in
theorem ko_X10_takeBack : kOk 1 mX10_takeBack := ⟨gt_1 1 rfl rfl, gt_2 231 rfl rfl, ⟨by decide +kernel, by decide +kernel, by decide +kernel⟩, Nat.le_of_ble_eq_true rfl, by decide +kernel⟩
set_option maxRecDepth 100000 in
theorem kv_X10_takeBack : vOk 10 mX10_takeBack := ⟨gt_2 229 rfl rfl, gt_2 230 rfl rfl, _, rfl, rfl⟩
set_option maxRecDepth 100000 in
theorem ko_X10_about : kOk 2 mX10_about := ⟨gt_1 1 rfl rfl, gt_2 239 rfl rfl, ⟨by decide +kernel, by decide +kernel, by decide +kernel⟩, Nat.le_of_ble_eq_true rfl, by decide +kernel⟩
set_option maxRecDepth 100000 in
theorem kv_X10_about : vOk 10 mX10_about := ⟨gt_2 237 rfl rfl, gt_2 238 rfl rfl, _, rfl, rfl⟩
set_option maxRecDepth 100000 in
theorem ko_X10_asOf : kOk 1 mX10_asOf := ⟨gt_1 1 rfl rfl, gt_3 4 rfl rfl, ⟨by decide +kernel, by decide +kernel, by decide +kernel⟩, Nat.le_of_ble_eq_true rfl, by decide +kernel⟩
set_option maxRecDepth 100000 in
theorem kv_X10_asOf : vOk 10 mX10_asOf := ⟨gt_3 2 rfl rfl, gt_3 3 rfl rfl, _, rfl, rfl⟩
set_option maxRecDepth 100000 in
theorem ko_X10_factor : kOk 1 mX10_factor := ⟨gt_1 1 rfl rfl, gt_3 8 rfl rfl, ⟨by decide +kernel, by decide +kernel, by decide +kernel⟩, Nat.le_of_ble_eq_true rfl, by decide +kernel⟩
set_option maxRecDepth 100000 in
theorem kv_X10_factor : vOk 10 mX10_factor := ⟨gt_3 6 rfl rfl, gt_3 7 rfl rfl, _, rfl, rfl⟩
set_option maxRecDepth 100000 in
theorem ko_X10_drift : kOk 2 mX10_drift := ⟨gt_1 1 rfl rfl, gt_3 16 rfl rfl, ⟨by decide +kernel, by decide +kernel, by decide +kernel⟩, Nat.le_of_ble_eq_true rfl, by decide +kernel⟩
set_option maxRecDepth 100000 in
theorem kv_X10_drift : vOk 10 mX10_drift := ⟨gt_3 14 rfl rfl, gt_3 15 rfl rfl, _, rfl, rfl⟩
set_option maxRecDepth 100000 in
theorem ko_X10_many : kOk 2 mX10_many := ⟨gt_1 1 rfl rfl, gt_3 22 rfl rfl, ⟨by decide +kernel, by decide +kernel, by decide +kernel⟩, Nat.le_of_ble_eq_true rfl, by decide +kernel⟩
set_option maxRecDepth 100000 in
theorem kv_X10_many : vOk 10 mX10_many := ⟨gt_3 20 rfl rfl, gt_3 21 rfl rfl, _, rfl, rfl⟩
set_option maxRecDepth 100000 in
theorem ko_X10_told : kOk 2 mX10_told := ⟨gt_1 1 rfl rfl, gt_3 26 rfl rfl, ⟨by decide +kernel, by decide +kernel, by decide +kernel⟩, Nat.le_of_ble_eq_true rfl, by decide +kernel⟩
set_option maxRecDepth 100000 in
theorem kv_X10_told : vOk 10 mX10_told := ⟨gt_3 24 rfl rfl, gt_3 25 rfl rfl, _, rfl, rfl⟩
set_option maxRecDepth 100000 in
theorem ko_X10_agree : kOk 3 mX10_agree := ⟨gt_1 1 rfl rfl, gt_3 35 rfl rfl, ⟨by decide +kernel, by decide +kernel, by decide +kernel⟩, Nat.le_of_ble_eq_true rfl, by decide +kernel⟩
set_option maxRecDepth 100000 in
theorem kv_X10_agree : vOk 10 mX10_agree := ⟨gt_3 33 rfl rfl, gt_3 34 rfl rfl, _, rfl, rfl⟩
set_option maxRecDepth 100000 in
theorem ko_X10_agreeing : kOk 1 mX10_agreeing := ⟨gt_1 1 rfl rfl, gt_3 48 rfl rfl, ⟨by decide +kernel, by decide +kernel, by decide +kernel⟩, Nat.le_of_ble_eq_true rfl, by decide +kernel⟩
set_option maxRecDepth 100000 in
theorem kv_X10_agreeing : vOk 10 mX10_agreeing := ⟨gt_3 46 rfl rfl, gt_3 47 rfl rfl, _, rfl, rfl⟩
set_option maxRecDepth 100000 in
theorem ko_X10_common : kOk 2 mX10_common := ⟨gt_1 1 rfl rfl, gt_3 75 rfl rfl, ⟨by decide +kernel, by decide +kernel, by decide +kernel⟩, Nat.le_of_ble_eq_true rfl, by decide +kernel⟩
set_option maxRecDepth 100000 in
theorem kv_X10_common : vOk 10 mX10_common := ⟨gt_3 73 rfl rfl, gt_3 74 rfl rfl, _, rfl, rfl⟩
set_option maxRecDepth 100000 in
theorem ko_X10_chain : kOk 2 mX10_chain := ⟨gt_1 1 rfl rfl, gt_3 95 rfl rfl, ⟨by decide +kernel, by decide +kernel, by decide +kernel⟩, Nat.le_of_ble_eq_true rfl, by decide +kernel⟩
set_option maxRecDepth 100000 in
theorem kv_X10_chain : vOk 10 mX10_chain := ⟨gt_3 93 rfl rfl, gt_3 94 rfl rfl, _, rfl, rfl⟩
set_option maxRecDepth 100000 in
theorem ko_X10_via : kOk 2 mX10_via := ⟨gt_1 1 rfl rfl, gt_3 118 rfl rfl, ⟨by decide +kernel, by decide +kernel, by decide +kernel⟩, Nat.le_of_ble_eq_true rfl, by decide +kernel⟩
set_option maxRecDepth 100000 in
theorem kv_X10_via : vOk 10 mX10_via := ⟨gt_3 116 rfl rfl, gt_3 117 rfl rfl, _, rfl, rfl⟩
set_option maxRecDepth 100000 in
theorem ko_X10_number : kOk 3 mX10_number := ⟨gt_1 1 rfl rfl, gt_3 126 rfl rfl, ⟨by decide +kernel, by decide +kernel, by decide +kernel⟩, Nat.le_of_ble_eq_true rfl, by decide +kernel⟩
set_option maxRecDepth 100000 in
theorem kv_X10_number : vOk 10 mX10_number := ⟨gt_3 124 rfl rfl, gt_3 125 rfl rfl, _, rfl, rfl⟩
set_option maxRecDepth 100000 in
theorem ko_X10_mark : kOk 2 mX10_mark := ⟨gt_1 1 rfl rfl, gt_3 203 rfl rfl, ⟨by decide +kernel, by decide +kernel, by decide +kernel⟩, Nat.le_of_ble_eq_true rfl, by decide +kernel⟩
set_option maxRecDepth 100000 in
theorem kv_X10_mark : vOk 10 mX10_mark := ⟨gt_3 201 rfl rfl, gt_3 202 rfl rfl, _, rfl, rfl⟩
set_option maxRecDepth 100000 in
theorem ko_X10_judged : kOk 2 mX10_judged := ⟨gt_1 1 rfl rfl, gt_3 212 rfl rfl, ⟨by decide +kernel, by decide +kernel, by decide +kernel⟩, Nat.le_of_ble_eq_true rfl, by decide +kernel⟩
set_option maxRecDepth 100000 in
theorem kv_X10_judged : vOk 10 mX10_judged := ⟨gt_3 210 rfl rfl, gt_3 211 rfl rfl, _, rfl, rfl⟩
set_option maxRecDepth 100000 in
theorem ko_X10_run : kOk 1 mX10_run := ⟨gt_1 1 rfl rfl, gt_3 217 rfl rfl, ⟨by decide +kernel, by decide +kernel, by decide +kernel⟩, Nat.le_of_ble_eq_true rfl, by decide +kernel⟩
set_option maxRecDepth 100000 in
theorem kv_X10_run : vOk 10 mX10_run := ⟨gt_3 215 rfl rfl, gt_3 216 rfl rfl, _, rfl, rfl⟩
set_option maxRecDepth 100000 in
theorem ko_X10_within : kOk 3 mX10_within := ⟨gt_1 1 rfl rfl, gt_3 232 rfl rfl, ⟨by decide +kernel, by decide +kernel, by decide +kernel⟩, Nat.le_of_ble_eq_true rfl, by decide +kernel⟩
set_option maxRecDepth 100000 in
theorem kv_X10_within : vOk 10 mX10_within := ⟨gt_3 230 rfl rfl, gt_3 231 rfl rfl, _, rfl, rfl⟩
set_option maxRecDepth 100000 in
theorem ko_X10_widest : kOk 1 mX10_widest := ⟨gt_1 1 rfl rfl, gt_4 14 rfl rfl, ⟨by decide +kernel, by decide +kernel, by decide +kernel⟩, Nat.le_of_ble_eq_true rfl, by decide +kernel⟩
set_option maxRecDepth 100000 in
theorem kv_X10_widest : vOk 10 mX10_widest := ⟨gt_4 12 rfl rfl, gt_4 13 rfl rfl, _, rfl, rfl⟩
set_option maxRecDepth 100000 in
theorem ko_X10_share : kOk 2 mX10_share := ⟨gt_1 1 rfl rfl, gt_4 28 rfl rfl, ⟨by decide +kernel, by decide +kernel, by decide +kernel⟩, Nat.le_of_ble_eq_true rfl, by decide +kernel⟩
set_option maxRecDepth 100000 in
theorem kv_X10_share : vOk 10 mX10_share := ⟨gt_4 26 rfl rfl, gt_4 27 rfl rfl, _, rfl, rfl⟩
set_option maxRecDepth 100000 in
theorem ko_X10_parts : kOk 3 mX10_parts := ⟨gt_1 1 rfl rfl, gt_4 38 rfl rfl, ⟨by decide +kernel, by decide +kernel, by decide +kernel⟩, Nat.le_of_ble_eq_true rfl, by decide +kernel⟩
set_option maxRecDepth 100000 in
theorem kv_X10_parts : vOk 10 mX10_parts := ⟨gt_4 36 rfl rfl, gt_4 37 rfl rfl, _, rfl, rfl⟩
set_option maxRecDepth 100000 in
theorem ko_X10_ways : kOk 2 mX10_ways := ⟨gt_1 1 rfl rfl, gt_4 53 rfl rfl, ⟨by decide +kernel, by decide +kernel, by decide +kernel⟩, Nat.le_of_ble_eq_true rfl, by decide +kernel⟩
set_option maxRecDepth 100000 in
theorem kv_X10_ways : vOk 10 mX10_ways := ⟨gt_4 51 rfl rfl, gt_4 52 rfl rfl, _, rfl, rfl⟩
set_option maxRecDepth 100000 in
theorem ko_X10_score : kOk 1 mX10_score := ⟨gt_1 1 rfl rfl, gt_4 74 rfl rfl, ⟨by decide +kernel, by decide +kernel, by decide +kernel⟩, Nat.le_of_ble_eq_true rfl, by decide +kernel⟩
set_option maxRecDepth 100000 in
theorem kv_X10_score : vOk 10 mX10_score := ⟨gt_4 72 rfl rfl, gt_4 73 rfl rfl, _, rfl, rfl⟩
set_option maxRecDepth 100000 in
theorem ko_X10_type : kOk 1 mX10_type := ⟨gt_1 1 rfl rfl, gt_4 78 rfl rfl, ⟨by decide +kernel, by decide +kernel, by decide +kernel⟩, Nat.le_of_ble_eq_true rfl, by decide +kernel⟩
set_option maxRecDepth 100000 in
theorem kv_X10_type : vOk 10 mX10_type := ⟨gt_4 76 rfl rfl, gt_4 77 rfl rfl, _, rfl, rfl⟩
set_option maxRecDepth 100000 in
theorem ko_X10_wipe : kOk 0 mX10_wipe := ⟨gt_1 1 rfl rfl, gt_4 86 rfl rfl, ⟨by decide +kernel, by decide +kernel, by decide +kernel⟩, Nat.le_of_ble_eq_true rfl, by decide +kernel⟩
set_option maxRecDepth 100000 in
theorem kv_X10_wipe : vOk 10 mX10_wipe := ⟨gt_4 84 rfl rfl, gt_4 85 rfl rfl, _, rfl, rfl⟩
set_option maxRecDepth 100000 in
theorem ko_X10_fault : kOk 0 mX10_fault := ⟨gt_1 1 rfl rfl, gt_4 90 rfl rfl, ⟨by decide +kernel, by decide +kernel, by decide +kernel⟩, Nat.le_of_ble_eq_true rfl, by decide +kernel⟩
set_option maxRecDepth 100000 in
theorem kv_X10_fault : vOk 10 mX10_fault := ⟨gt_4 88 rfl rfl, gt_4 89 rfl rfl, _, rfl, rfl⟩
set_option maxRecDepth 100000 in
theorem ko_X10_reckon : kOk 0 mX10_reckon := ⟨gt_1 1 rfl rfl, gt_4 114 rfl rfl, ⟨by decide +kernel, by decide +kernel, by decide +kernel⟩, Nat.le_of_ble_eq_true rfl, by decide +kernel⟩
set_option maxRecDepth 100000 in
theorem kv_X10_reckon : vOk 10 mX10_reckon := ⟨gt_4 112 rfl rfl, gt_4 113 rfl rfl, _, rfl, rfl⟩
set_option maxRecDepth 100000 in
theorem ko_X10_claim : kOk 1 mX10_claim := ⟨gt_1 1 rfl rfl, gt_4 122 rfl rfl, ⟨by decide +kernel, by decide +kernel, by decide +kernel⟩, Nat.le_of_ble_eq_true rfl, by decide +kernel⟩
set_option maxRecDepth 100000 in
theorem kv_X10_claim : vOk 10 mX10_claim := ⟨gt_4 120 rfl rfl, gt_4 121 rfl rfl, _, rfl, rfl⟩
set_option maxRecDepth 100000 in
theorem ko_X10_sheet : kOk 3 mX10_sheet := ⟨gt_1 1 rfl rfl, gt_4 126 rfl rfl, ⟨by decide +kernel, by decide +kernel, by decide +kernel⟩, Nat.le_of_ble_eq_true rfl, by decide +kernel⟩
set_option maxRecDepth 100000 in
theorem kv_X10_sheet : vOk 10 mX10_sheet := ⟨gt_4 124 rfl rfl, gt_4 125 rfl rfl, _, rfl, rfl⟩
set_option maxRecDepth 100000 in
theorem ko_X10_lose : kOk 1 mX10_lose := ⟨gt_1 1 rfl rfl, gt_4 137 rfl rfl, ⟨by decide +kernel, by decide +kernel, by decide +kernel⟩, Nat.le_of_ble_eq_true rfl, by decide +kernel⟩
set_option maxRecDepth 100000 in
theorem kv_X10_lose : vOk 10 mX10_lose := ⟨gt_4 135 rfl rfl, gt_4 136 rfl rfl, _, rfl, rfl⟩
set_option maxRecDepth 100000 in
theorem ko_X10_put : kOk 4 mX10_put := ⟨gt_1 1 rfl rfl, gt_4 141 rfl rfl, ⟨by decide +kernel, by decide +kernel, by decide +kernel⟩, Nat.le_of_ble_eq_true rfl, by decide +kernel⟩
set_option maxRecDepth 100000 in
theorem kv_X10_put : vOk 10 mX10_put := ⟨gt_4 139 rfl rfl, gt_4 140 rfl rfl, _, rfl, rfl⟩
set_option maxRecDepth 100000 in
theorem ko_X10_get : kOk 3 mX10_get := ⟨gt_1 1 rfl rfl, gt_4 154 rfl rfl, ⟨by decide +kernel, by decide +kernel, by decide +kernel⟩, Nat.le_of_ble_eq_true rfl, by decide +kernel⟩
set_option maxRecDepth 100000 in
theorem kv_X10_get : vOk 10 mX10_get := ⟨gt_4 152 rfl rfl, gt_4 153 rfl rfl, _, rfl, rfl⟩
set_option maxRecDepth 100000 in
theorem ko_X10_copy : kOk 5 mX10_copy := ⟨gt_1 1 rfl rfl, gt_4 158 rfl rfl, ⟨by decide +kernel, by decide +kernel, by decide +kernel⟩, Nat.le_of_ble_eq_true rfl, by decide +kernel⟩
set_option maxRecDepth 100000 in
theorem kv_X10_copy : vOk 10 mX10_copy := ⟨gt_4 156 rfl rfl, gt_4 157 rfl rfl, _, rfl, rfl⟩
set_option maxRecDepth 100000 in
theorem ko_X10_write : kOk 2 mX10_write := ⟨gt_1 1 rfl rfl, gt_4 169 rfl rfl, ⟨by decide +kernel, by decide +kernel, by decide +kernel⟩, Nat.le_of_ble_eq_true rfl, by decide +kernel⟩
set_option maxRecDepth 100000 in
theorem kv_X10_write : vOk 10 mX10_write := ⟨gt_4 167 rfl rfl, gt_4 168 rfl rfl, _, rfl, rfl⟩
set_option maxRecDepth 100000 in
theorem ko_X10_count : kOk 1 mX10_count := ⟨gt_1 1 rfl rfl, gt_4 176 rfl rfl, ⟨by decide +kernel, by decide +kernel, by decide +kernel⟩, Nat.le_of_ble_eq_true rfl, by decide +kernel⟩
set_option maxRecDepth 100000 in
theorem kv_X10_count : vOk 10 mX10_count := ⟨gt_4 174 rfl rfl, gt_4 175 rfl rfl, _, rfl, rfl⟩
set_option maxRecDepth 100000 in
theorem ko_X10_digest : kOk 0 mX10_digest := ⟨gt_1 1 rfl rfl, gt_4 186 rfl rfl, ⟨by decide +kernel, by decide +kernel, by decide +kernel⟩, Nat.le_of_ble_eq_true rfl, by decide +kernel⟩
set_option maxRecDepth 100000 in
theorem kv_X10_digest : vOk 10 mX10_digest := ⟨gt_4 184 rfl rfl, gt_4 185 rfl rfl, _, rfl, rfl⟩
set_option maxRecDepth 100000 in
theorem ko_X10_digestPiece : kOk 2 mX10_digestPiece := ⟨gt_1 1 rfl rfl, gt_4 194 rfl rfl, ⟨by decide +kernel, by decide +kernel, by decide +kernel⟩, Nat.le_of_ble_eq_true rfl, by decide +kernel⟩
set_option maxRecDepth 100000 in
theorem kv_X10_digestPiece : vOk 10 mX10_digestPiece := ⟨gt_4 193 rfl rfl, gt_sel (q := (yX10_digestPiece, 9)) (by decide +kernel), _, rfl, rfl⟩
set_option maxRecDepth 100000 in
theorem ko_X10_tell : kOk 4 mX10_tell := ⟨gt_1 1 rfl rfl, gt_2 157 rfl rfl, ⟨by decide +kernel, by decide +kernel, by decide +kernel⟩, Nat.le_of_ble_eq_true rfl, by decide +kernel⟩
set_option maxRecDepth 100000 in
theorem kv_X10_tell : vOk 10 mX10_tell := ⟨gt_2 156 rfl rfl, gt_sel (q := (yX10_tell, 9)) (by decide +kernel), _, rfl, rfl⟩
set_option maxRecDepth 100000 in
theorem ko_X10_noHouse : kOk 1 mX10_noHouse := ⟨gt_1 1 rfl rfl, gt_2 145 rfl rfl, ⟨by decide +kernel, by decide +kernel, by decide +kernel⟩, Nat.le_of_ble_eq_true rfl, by decide +kernel⟩
set_option maxRecDepth 100000 in
theorem kv_X10_noHouse : vOk 10 mX10_noHouse := ⟨gt_2 144 rfl rfl, gt_sel (q := (yX10_noHouse, 9)) (by decide +kernel), _, rfl, rfl⟩
set_option maxRecDepth 100000 in
theorem ko_X10_noReading : kOk 1 mX10_noReading := ⟨gt_1 1 rfl rfl, gt_2 235 rfl rfl, ⟨by decide +kernel, by decide +kernel, by decide +kernel⟩, Nat.le_of_ble_eq_true rfl, by decide +kernel⟩
set_option maxRecDepth 100000 in
theorem kv_X10_noReading : vOk 10 mX10_noReading := ⟨gt_2 234 rfl rfl, gt_sel (q := (yX10_noReading, 9)) (by decide +kernel), _, rfl, rfl⟩
set_option maxRecDepth 100000 in
theorem ko_X10_noPiece : kOk 1 mX10_noPiece := ⟨gt_1 1 rfl rfl, gt_2 160 rfl rfl, ⟨by decide +kernel, by decide +kernel, by decide +kernel⟩, Nat.le_of_ble_eq_true rfl, by decide +kernel⟩
set_option maxRecDepth 100000 in
theorem ks_X10_noPiece : Cond.static yX10_noPiece ∈ gt := gt_2 159 rfl rfl
set_option maxRecDepth 100000 in
theorem ko_X10_noSheet : kOk 1 mX10_noSheet := ⟨gt_1 1 rfl rfl, gt_2 219 rfl rfl, ⟨by decide +kernel, by decide +kernel, by decide +kernel⟩, Nat.le_of_ble_eq_true rfl, by decide +kernel⟩
set_option maxRecDepth 100000 in
theorem ks_X10_noSheet : Cond.static yX10_noSheet ∈ gt := gt_2 218 rfl rfl
set_option maxRecDepth 100000 in
theorem ko_X10_noType : kOk 1 mX10_noType := ⟨gt_1 1 rfl rfl, gt_4 129 rfl rfl, ⟨by decide +kernel, by decide +kernel, by decide +kernel⟩, Nat.le_of_ble_eq_true rfl, by decide +kernel⟩
set_option maxRecDepth 100000 in
theorem ks_X10_noType : Cond.static yX10_noType ∈ gt := gt_4 128 rfl rfl
set_option maxRecDepth 100000 in
theorem ko_X10_refusal : kOk 1 mX10_refusal := ⟨gt_1 1 rfl rfl, gt_3 129 rfl rfl, ⟨by decide +kernel, by decide +kernel, by decide +kernel⟩, Nat.le_of_ble_eq_true rfl, by decide +kernel⟩
set_option maxRecDepth 100000 in
theorem ks_X10_refusal : Cond.static yX10_refusal ∈ gt := gt_3 128 rfl rfl
set_option maxRecDepth 100000 in
theorem ko_X10_nearest : kOk 2 mX10_nearest := ⟨gt_1 1 rfl rfl, gt_2 208 rfl rfl, ⟨by decide +kernel, by decide +kernel, by decide +kernel⟩, Nat.le_of_ble_eq_true rfl, by decide +kernel⟩
set_option maxRecDepth 100000 in
theorem ks_X10_nearest : Cond.static yX10_nearest ∈ gt := gt_2 207 rfl rfl
set_option maxRecDepth 100000 in
theorem ko_X10_putInOrder : kOk 3 mX10_putInOrder := ⟨gt_1 1 rfl rfl, gt_3 142 rfl rfl, ⟨by decide +kernel, by decide +kernel, by decide +kernel⟩, Nat.le_of_ble_eq_true rfl, by decide +kernel⟩
set_option maxRecDepth 100000 in
theorem ks_X10_putInOrder : Cond.static yX10_putInOrder ∈ gt := gt_3 141 rfl rfl
set_option maxRecDepth 100000 in
theorem ko_X11_in : kOk 3 mX11_in := ⟨gt_1 13 rfl rfl, gt_5 100 rfl rfl, ⟨by decide +kernel, by decide +kernel, by decide +kernel⟩, Nat.le_of_ble_eq_true rfl, by decide +kernel⟩
set_option maxRecDepth 100000 in
theorem ks_X11_in : Cond.static yX11_in ∈ gt := gt_5 99 rfl rfl
set_option maxRecDepth 100000 in
theorem ko_X11_amount : kOk 1 mX11_amount := ⟨gt_1 13 rfl rfl, gt_5 238 rfl rfl, ⟨by decide +kernel, by decide +kernel, by decide +kernel⟩, Nat.le_of_ble_eq_true rfl, by decide +kernel⟩
set_option maxRecDepth 100000 in
theorem ks_X11_amount : Cond.static yX11_amount ∈ gt := gt_5 237 rfl rfl
set_option maxRecDepth 100000 in
theorem ko_X11_down : kOk 2 mX11_down := ⟨gt_1 13 rfl rfl, gt_5 183 rfl rfl, ⟨by decide +kernel, by decide +kernel, by decide +kernel⟩, Nat.le_of_ble_eq_true rfl, by decide +kernel⟩
set_option maxRecDepth 100000 in
theorem ks_X11_down : Cond.static yX11_down ∈ gt := gt_5 182 rfl rfl
set_option maxRecDepth 100000 in
theorem ko_X11_near : kOk 2 mX11_near := ⟨gt_1 13 rfl rfl, gt_5 179 rfl rfl, ⟨by decide +kernel, by decide +kernel, by decide +kernel⟩, Nat.le_of_ble_eq_true rfl, by decide +kernel⟩
set_option maxRecDepth 100000 in
theorem ks_X11_near : Cond.static yX11_near ∈ gt := gt_5 178 rfl rfl
set_option maxRecDepth 100000 in
theorem ko_X11_divisor : kOk 2 mX11_divisor := ⟨gt_1 13 rfl rfl, gt_6 69 rfl rfl, ⟨by decide +kernel, by decide +kernel, by decide +kernel⟩, Nat.le_of_ble_eq_true rfl, by decide +kernel⟩
set_option maxRecDepth 100000 in
theorem ks_X11_divisor : Cond.static yX11_divisor ∈ gt := gt_6 68 rfl rfl
set_option maxRecDepth 100000 in
theorem ko_X11_lowest : kOk 3 mX11_lowest := ⟨gt_1 13 rfl rfl, gt_6 66 rfl rfl, ⟨by decide +kernel, by decide +kernel, by decide +kernel⟩, Nat.le_of_ble_eq_true rfl, by decide +kernel⟩
set_option maxRecDepth 100000 in
theorem ks_X11_lowest : Cond.static yX11_lowest ∈ gt := gt_6 65 rfl rfl
set_option maxRecDepth 100000 in
theorem ko_X11_isHouse : kOk 1 mX11_isHouse := ⟨gt_1 13 rfl rfl, gt_5 112 rfl rfl, ⟨by decide +kernel, by decide +kernel, by decide +kernel⟩, Nat.le_of_ble_eq_true rfl, by decide +kernel⟩
set_option maxRecDepth 100000 in
theorem kv_X11_isHouse : vOk 11 mX11_isHouse := ⟨gt_5 111 rfl rfl, gt_sel (q := (yX11_isHouse, 42)) (by decide +kernel), _, rfl, rfl⟩
set_option maxRecDepth 100000 in
theorem ko_X11_isPiece : kOk 1 mX11_isPiece := ⟨gt_1 13 rfl rfl, gt_5 123 rfl rfl, ⟨by decide +kernel, by decide +kernel, by decide +kernel⟩, Nat.le_of_ble_eq_true rfl, by decide +kernel⟩
set_option maxRecDepth 100000 in
theorem ks_X11_isPiece : Cond.static yX11_isPiece ∈ gt := gt_5 122 rfl rfl
set_option maxRecDepth 100000 in
theorem ko_X11_isKnown : kOk 1 mX11_isKnown := ⟨gt_1 13 rfl rfl, gt_5 146 rfl rfl, ⟨by decide +kernel, by decide +kernel, by decide +kernel⟩, Nat.le_of_ble_eq_true rfl, by decide +kernel⟩
set_option maxRecDepth 100000 in
theorem kv_X11_isKnown : vOk 11 mX11_isKnown := ⟨gt_5 145 rfl rfl, gt_sel (q := (yX11_isKnown, 42)) (by decide +kernel), _, rfl, rfl⟩
set_option maxRecDepth 100000 in
theorem ko_X11_pass : kOk 1 mX11_pass := ⟨gt_1 13 rfl rfl, gt_5 97 rfl rfl, ⟨by decide +kernel, by decide +kernel, by decide +kernel⟩, Nat.le_of_ble_eq_true rfl, by decide +kernel⟩
set_option maxRecDepth 100000 in
theorem kv_X11_pass : vOk 11 mX11_pass := ⟨gt_5 95 rfl rfl, gt_5 96 rfl rfl, _, rfl, rfl⟩
set_option maxRecDepth 100000 in
theorem ko_X11_house : kOk 1 mX11_house := ⟨gt_1 13 rfl rfl, gt_5 104 rfl rfl, ⟨by decide +kernel, by decide +kernel, by decide +kernel⟩, Nat.le_of_ble_eq_true rfl, by decide +kernel⟩
set_option maxRecDepth 100000 in
theorem kv_X11_house : vOk 11 mX11_house := ⟨gt_5 102 rfl rfl, gt_5 103 rfl rfl, _, rfl, rfl⟩
set_option maxRecDepth 100000 in
theorem ko_X11_doubt : kOk 2 mX11_doubt := ⟨gt_1 13 rfl rfl, gt_5 108 rfl rfl, ⟨by decide +kernel, by decide +kernel, by decide +kernel⟩, Nat.le_of_ble_eq_true rfl, by decide +kernel⟩
set_option maxRecDepth 100000 in
theorem kv_X11_doubt : vOk 11 mX11_doubt := ⟨gt_5 106 rfl rfl, gt_5 107 rfl rfl, _, rfl, rfl⟩
set_option maxRecDepth 100000 in
theorem ko_X11_readingMore : kOk 4 mX11_readingMore := ⟨gt_1 13 rfl rfl, gt_5 120 rfl rfl, ⟨by decide +kernel, by decide +kernel, by decide +kernel⟩, Nat.le_of_ble_eq_true rfl, by decide +kernel⟩
set_option maxRecDepth 100000 in
theorem kv_X11_readingMore : vOk 11 mX11_readingMore := ⟨gt_5 119 rfl rfl, gt_sel (q := (yX11_readingMore, 42)) (by decide +kernel), _, rfl, rfl⟩
set_option maxRecDepth 100000 in
theorem ko_X11_reading : kOk 4 mX11_reading := ⟨gt_1 13 rfl rfl, gt_5 116 rfl rfl, ⟨by decide +kernel, by decide +kernel, by decide +kernel⟩, Nat.le_of_ble_eq_true rfl, by decide +kernel⟩
set_option maxRecDepth 100000 in
theorem kv_X11_reading : vOk 11 mX11_reading := ⟨gt_5 114 rfl rfl, gt_5 115 rfl rfl, _, rfl, rfl⟩
set_option maxRecDepth 100000 in
theorem ko_X11_read : kOk 1 mX11_read := ⟨gt_1 13 rfl rfl, gt_5 127 rfl rfl, ⟨by decide +kernel, by decide +kernel, by decide +kernel⟩, Nat.le_of_ble_eq_true rfl, by decide +kernel⟩
set_option maxRecDepth 100000 in
theorem kv_X11_read : vOk 11 mX11_read := ⟨gt_5 125 rfl rfl, gt_5 126 rfl rfl, _, rfl, rfl⟩
set_option maxRecDepth 100000 in
theorem ko_X11_takeBack : kOk 1 mX11_takeBack := ⟨gt_1 13 rfl rfl, gt_5 138 rfl rfl, ⟨by decide +kernel, by decide +kernel, by decide +kernel⟩, Nat.le_of_ble_eq_true rfl, by decide +kernel⟩
set_option maxRecDepth 100000 in
theorem kv_X11_takeBack : vOk 11 mX11_takeBack := ⟨gt_5 136 rfl rfl, gt_5 137 rfl rfl, _, rfl, rfl⟩
set_option maxRecDepth 100000 in
theorem ko_X11_about : kOk 2 mX11_about := ⟨gt_1 13 rfl rfl, gt_5 142 rfl rfl, ⟨by decide +kernel, by decide +kernel, by decide +kernel⟩, Nat.le_of_ble_eq_true rfl, by decide +kernel⟩
set_option maxRecDepth 100000 in
theorem kv_X11_about : vOk 11 mX11_about := ⟨gt_5 140 rfl rfl, gt_5 141 rfl rfl, _, rfl, rfl⟩
set_option maxRecDepth 100000 in
theorem ko_X11_asOf : kOk 1 mX11_asOf := ⟨gt_1 13 rfl rfl, gt_5 150 rfl rfl, ⟨by decide +kernel, by decide +kernel, by decide +kernel⟩, Nat.le_of_ble_eq_true rfl, by decide +kernel⟩
set_option maxRecDepth 100000 in
theorem kv_X11_asOf : vOk 11 mX11_asOf := ⟨gt_5 148 rfl rfl, gt_5 149 rfl rfl, _, rfl, rfl⟩
set_option maxRecDepth 100000 in
theorem ko_X11_factor : kOk 1 mX11_factor := ⟨gt_1 13 rfl rfl, gt_5 154 rfl rfl, ⟨by decide +kernel, by decide +kernel, by decide +kernel⟩, Nat.le_of_ble_eq_true rfl, by decide +kernel⟩
set_option maxRecDepth 100000 in
theorem kv_X11_factor : vOk 11 mX11_factor := ⟨gt_5 152 rfl rfl, gt_5 153 rfl rfl, _, rfl, rfl⟩
set_option maxRecDepth 100000 in
theorem ko_X11_points : kOk 1 mX11_points := ⟨gt_1 13 rfl rfl, gt_5 167 rfl rfl, ⟨by decide +kernel, by decide +kernel, by decide +kernel⟩, Nat.le_of_ble_eq_true rfl, by decide +kernel⟩
set_option maxRecDepth 100000 in
theorem kv_X11_points : vOk 11 mX11_points := ⟨gt_5 166 rfl rfl, gt_sel (q := (yX11_points, 42)) (by decide +kernel), _, rfl, rfl⟩
set_option maxRecDepth 100000 in
theorem ko_X11_driftOf : kOk 2 mX11_driftOf := ⟨gt_1 13 rfl rfl, gt_5 176 rfl rfl, ⟨by decide +kernel, by decide +kernel, by decide +kernel⟩, Nat.le_of_ble_eq_true rfl, by decide +kernel⟩
set_option maxRecDepth 100000 in
theorem kv_X11_driftOf : vOk 11 mX11_driftOf := ⟨gt_5 175 rfl rfl, gt_sel (q := (yX11_driftOf, 42)) (by decide +kernel), _, rfl, rfl⟩
set_option maxRecDepth 100000 in
theorem ko_X11_works : kOk 0 mX11_works := ⟨gt_1 13 rfl rfl, gt_5 163 rfl rfl, ⟨by decide +kernel, by decide +kernel, by decide +kernel⟩, Nat.le_of_ble_eq_true rfl, by decide +kernel⟩
set_option maxRecDepth 100000 in
theorem kv_X11_works : vOk 11 mX11_works := ⟨gt_5 162 rfl rfl, gt_sel (q := (yX11_works, 42)) (by decide +kernel), _, rfl, rfl⟩
set_option maxRecDepth 100000 in
theorem ko_X11_reducedOf : kOk 1 mX11_reducedOf := ⟨gt_1 13 rfl rfl, gt_5 171 rfl rfl, ⟨by decide +kernel, by decide +kernel, by decide +kernel⟩, Nat.le_of_ble_eq_true rfl, by decide +kernel⟩
set_option maxRecDepth 100000 in
theorem kv_X11_reducedOf : vOk 11 mX11_reducedOf := ⟨gt_5 170 rfl rfl, gt_sel (q := (yX11_reducedOf, 42)) (by decide +kernel), _, rfl, rfl⟩
set_option maxRecDepth 100000 in
theorem ko_X11_drift : kOk 2 mX11_drift := ⟨gt_1 13 rfl rfl, gt_5 158 rfl rfl, ⟨by decide +kernel, by decide +kernel, by decide +kernel⟩, Nat.le_of_ble_eq_true rfl, by decide +kernel⟩
set_option maxRecDepth 100000 in
theorem kv_X11_drift : vOk 11 mX11_drift := ⟨gt_5 156 rfl rfl, gt_5 157 rfl rfl, _, rfl, rfl⟩
set_option maxRecDepth 100000 in
theorem ko_X11_takes : kOk 2 mX11_takes := ⟨gt_1 13 rfl rfl, gt_5 199 rfl rfl, ⟨by decide +kernel, by decide +kernel, by decide +kernel⟩, Nat.le_of_ble_eq_true rfl, by decide +kernel⟩
set_option maxRecDepth 100000 in
theorem kv_X11_takes : vOk 11 mX11_takes := ⟨gt_5 198 rfl rfl, gt_sel (q := (yX11_takes, 42)) (by decide +kernel), _, rfl, rfl⟩
set_option maxRecDepth 100000 in
theorem ko_X11_many : kOk 2 mX11_many := ⟨gt_1 13 rfl rfl, gt_5 187 rfl rfl, ⟨by decide +kernel, by decide +kernel, by decide +kernel⟩, Nat.le_of_ble_eq_true rfl, by decide +kernel⟩
set_option maxRecDepth 100000 in
theorem kv_X11_many : vOk 11 mX11_many := ⟨gt_5 185 rfl rfl, gt_5 186 rfl rfl, _, rfl, rfl⟩
set_option maxRecDepth 100000 in
theorem ko_X11_toldOf : kOk 2 mX11_toldOf := ⟨gt_1 13 rfl rfl, gt_5 203 rfl rfl, ⟨by decide +kernel, by decide +kernel, by decide +kernel⟩, Nat.le_of_ble_eq_true rfl, by decide +kernel⟩
set_option maxRecDepth 100000 in
theorem kv_X11_toldOf : vOk 11 mX11_toldOf := ⟨gt_5 202 rfl rfl, gt_sel (q := (yX11_toldOf, 42)) (by decide +kernel), _, rfl, rfl⟩
set_option maxRecDepth 100000 in
theorem ko_X11_toldOrNot : kOk 2 mX11_toldOrNot := ⟨gt_1 13 rfl rfl, gt_5 195 rfl rfl, ⟨by decide +kernel, by decide +kernel, by decide +kernel⟩, Nat.le_of_ble_eq_true rfl, by decide +kernel⟩
set_option maxRecDepth 100000 in
theorem kv_X11_toldOrNot : vOk 11 mX11_toldOrNot := ⟨gt_5 194 rfl rfl, gt_sel (q := (yX11_toldOrNot, 42)) (by decide +kernel), _, rfl, rfl⟩
set_option maxRecDepth 100000 in
theorem ko_X11_told : kOk 2 mX11_told := ⟨gt_1 13 rfl rfl, gt_5 191 rfl rfl, ⟨by decide +kernel, by decide +kernel, by decide +kernel⟩, Nat.le_of_ble_eq_true rfl, by decide +kernel⟩
set_option maxRecDepth 100000 in
theorem kv_X11_told : vOk 11 mX11_told := ⟨gt_5 189 rfl rfl, gt_5 190 rfl rfl, _, rfl, rfl⟩
set_option maxRecDepth 100000 in
theorem ko_X11_square : kOk 1 mX11_square := ⟨gt_1 13 rfl rfl, gt_5 215 rfl rfl, ⟨by decide +kernel, by decide +kernel, by decide +kernel⟩, Nat.le_of_ble_eq_true rfl, by decide +kernel⟩
set_option maxRecDepth 100000 in
theorem ks_X11_square : Cond.static yX11_square ∈ gt := gt_5 214 rfl rfl
set_option maxRecDepth 100000 in
theorem ko_X11_doAgree : kOk 3 mX11_doAgree := ⟨gt_1 13 rfl rfl, gt_5 212 rfl rfl, ⟨by decide +kernel, by decide +kernel, by decide +kernel⟩, Nat.le_of_ble_eq_true rfl, by decide +kernel⟩
set_option maxRecDepth 100000 in
theorem kv_X11_doAgree : vOk 11 mX11_doAgree := ⟨gt_5 211 rfl rfl, gt_sel (q := (yX11_doAgree, 42)) (by decide +kernel), _, rfl, rfl⟩
set_option maxRecDepth 100000 in
theorem ko_X11_agree : kOk 3 mX11_agree := ⟨gt_1 13 rfl rfl, gt_5 208 rfl rfl, ⟨by decide +kernel, by decide +kernel, by decide +kernel⟩, Nat.le_of_ble_eq_true rfl, by decide +kernel⟩
set_option maxRecDepth 100000 in
theorem kv_X11_agree : vOk 11 mX11_agree := ⟨gt_5 206 rfl rfl, gt_5 207 rfl rfl, _, rfl, rfl⟩
set_option maxRecDepth 100000 in
theorem ko_X11_ones : kOk 1 mX11_ones := ⟨gt_1 13 rfl rfl, gt_5 227 rfl rfl, ⟨by decide +kernel, by decide +kernel, by decide +kernel⟩, Nat.le_of_ble_eq_true rfl, by decide +kernel⟩
set_option maxRecDepth 100000 in
theorem ks_X11_ones : Cond.static yX11_ones ∈ gt := gt_5 226 rfl rfl
set_option maxRecDepth 100000 in
theorem ko_X11_agreeingOf : kOk 1 mX11_agreeingOf := ⟨gt_1 13 rfl rfl, gt_5 224 rfl rfl, ⟨by decide +kernel, by decide +kernel, by decide +kernel⟩, Nat.le_of_ble_eq_true rfl, by decide +kernel⟩
set_option maxRecDepth 100000 in
theorem kv_X11_agreeingOf : vOk 11 mX11_agreeingOf := ⟨gt_5 223 rfl rfl, gt_sel (q := (yX11_agreeingOf, 42)) (by decide +kernel), _, rfl, rfl⟩
set_option maxRecDepth 100000 in
theorem ko_X11_agreeing : kOk 1 mX11_agreeing := ⟨gt_1 13 rfl rfl, gt_5 220 rfl rfl, ⟨by decide +kernel, by decide +kernel, by decide +kernel⟩, Nat.le_of_ble_eq_true rfl, by decide +kernel⟩
set_option maxRecDepth 100000 in
theorem kv_X11_agreeing : vOk 11 mX11_agreeing := ⟨gt_5 218 rfl rfl, gt_5 219 rfl rfl, _, rfl, rfl⟩
set_option maxRecDepth 100000 in
theorem ko_X11_commonOf : kOk 1 mX11_commonOf := ⟨gt_1 13 rfl rfl, gt_5 235 rfl rfl, ⟨by decide +kernel, by decide +kernel, by decide +kernel⟩, Nat.le_of_ble_eq_true rfl, by decide +kernel⟩
set_option maxRecDepth 100000 in
theorem kv_X11_commonOf : vOk 11 mX11_commonOf := ⟨gt_5 234 rfl rfl, gt_sel (q := (yX11_commonOf, 42)) (by decide +kernel), _, rfl, rfl⟩
set_option maxRecDepth 100000 in
theorem ko_X11_common : kOk 2 mX11_common := ⟨gt_1 13 rfl rfl, gt_5 231 rfl rfl, ⟨by decide +kernel, by decide +kernel, by decide +kernel⟩, Nat.le_of_ble_eq_true rfl, by decide +kernel⟩
set_option maxRecDepth 100000 in
theorem kv_X11_common : vOk 11 mX11_common := ⟨gt_5 229 rfl rfl, gt_5 230 rfl rfl, _, rfl, rfl⟩
set_option maxRecDepth 100000 in
theorem ko_X11_together : kOk 2 mX11_together := ⟨gt_1 13 rfl rfl, gt_6 15 rfl rfl, ⟨by decide +kernel, by decide +kernel, by decide +kernel⟩, Nat.le_of_ble_eq_true rfl, by decide +kernel⟩
set_option maxRecDepth 100000 in
theorem kv_X11_together : vOk 11 mX11_together := ⟨gt_6 14 rfl rfl, gt_sel (q := (yX11_together, 42)) (by decide +kernel), _, rfl, rfl⟩
set_option maxRecDepth 100000 in
theorem ko_X11_costs : kOk 1 mX11_costs := ⟨gt_1 13 rfl rfl, gt_6 10 rfl rfl, ⟨by decide +kernel, by decide +kernel, by decide +kernel⟩, Nat.le_of_ble_eq_true rfl, by decide +kernel⟩
set_option maxRecDepth 100000 in
theorem kv_X11_costs : vOk 11 mX11_costs := ⟨gt_6 9 rfl rfl, gt_sel (q := (yX11_costs, 42)) (by decide +kernel), _, rfl, rfl⟩
set_option maxRecDepth 100000 in
theorem ko_X11_areTwo : kOk 2 mX11_areTwo := ⟨gt_1 13 rfl rfl, gt_6 6 rfl rfl, ⟨by decide +kernel, by decide +kernel, by decide +kernel⟩, Nat.le_of_ble_eq_true rfl, by decide +kernel⟩
set_option maxRecDepth 100000 in
theorem kv_X11_areTwo : vOk 11 mX11_areTwo := ⟨gt_6 5 rfl rfl, gt_sel (q := (yX11_areTwo, 42)) (by decide +kernel), _, rfl, rfl⟩
set_option maxRecDepth 100000 in
theorem ko_X11_chain : kOk 2 mX11_chain := ⟨gt_1 13 rfl rfl, gt_6 2 rfl rfl, ⟨by decide +kernel, by decide +kernel, by decide +kernel⟩, Nat.le_of_ble_eq_true rfl, by decide +kernel⟩
set_option maxRecDepth 100000 in
theorem kv_X11_chain : vOk 11 mX11_chain := ⟨gt_6 0 rfl rfl, gt_6 1 rfl rfl, _, rfl, rfl⟩
set_option maxRecDepth 100000 in
theorem ko_X11_via : kOk 2 mX11_via := ⟨gt_1 13 rfl rfl, gt_6 19 rfl rfl, ⟨by decide +kernel, by decide +kernel, by decide +kernel⟩, Nat.le_of_ble_eq_true rfl, by decide +kernel⟩
set_option maxRecDepth 100000 in
theorem kv_X11_via : vOk 11 mX11_via := ⟨gt_6 17 rfl rfl, gt_6 18 rfl rfl, _, rfl, rfl⟩
set_option maxRecDepth 100000 in
theorem ko_X11_add : kOk 1 mX11_add := ⟨gt_1 13 rfl rfl, gt_6 36 rfl rfl, ⟨by decide +kernel, by decide +kernel, by decide +kernel⟩, Nat.le_of_ble_eq_true rfl, by decide +kernel⟩
set_option maxRecDepth 100000 in
theorem kv_X11_add : vOk 11 mX11_add := ⟨gt_6 35 rfl rfl, gt_sel (q := (yX11_add, 42)) (by decide +kernel), _, rfl, rfl⟩
set_option maxRecDepth 100000 in
theorem ko_X11_middle : kOk 0 mX11_middle := ⟨gt_1 13 rfl rfl, gt_6 40 rfl rfl, ⟨by decide +kernel, by decide +kernel, by decide +kernel⟩, Nat.le_of_ble_eq_true rfl, by decide +kernel⟩
set_option maxRecDepth 100000 in
theorem kv_X11_middle : vOk 11 mX11_middle := ⟨gt_6 39 rfl rfl, gt_sel (q := (yX11_middle, 42)) (by decide +kernel), _, rfl, rfl⟩
set_option maxRecDepth 100000 in
theorem ko_X11_rowOf : kOk 1 mX11_rowOf := ⟨gt_1 13 rfl rfl, gt_6 32 rfl rfl, ⟨by decide +kernel, by decide +kernel, by decide +kernel⟩, Nat.le_of_ble_eq_true rfl, by decide +kernel⟩
set_option maxRecDepth 100000 in
theorem kv_X11_rowOf : vOk 11 mX11_rowOf := ⟨gt_6 31 rfl rfl, gt_sel (q := (yX11_rowOf, 42)) (by decide +kernel), _, rfl, rfl⟩
set_option maxRecDepth 100000 in
theorem ko_X11_pairsOf : kOk 1 mX11_pairsOf := ⟨gt_1 13 rfl rfl, gt_6 44 rfl rfl, ⟨by decide +kernel, by decide +kernel, by decide +kernel⟩, Nat.le_of_ble_eq_true rfl, by decide +kernel⟩
set_option maxRecDepth 100000 in
theorem kv_X11_pairsOf : vOk 11 mX11_pairsOf := ⟨gt_6 43 rfl rfl, gt_sel (q := (yX11_pairsOf, 42)) (by decide +kernel), _, rfl, rfl⟩
set_option maxRecDepth 100000 in
theorem ko_X11_weighted : kOk 1 mX11_weighted := ⟨gt_1 13 rfl rfl, gt_6 48 rfl rfl, ⟨by decide +kernel, by decide +kernel, by decide +kernel⟩, Nat.le_of_ble_eq_true rfl, by decide +kernel⟩
set_option maxRecDepth 100000 in
theorem kv_X11_weighted : vOk 11 mX11_weighted := ⟨gt_6 47 rfl rfl, gt_sel (q := (yX11_weighted, 42)) (by decide +kernel), _, rfl, rfl⟩
set_option maxRecDepth 100000 in
theorem ko_X11_root : kOk 1 mX11_root := ⟨gt_1 13 rfl rfl, gt_6 62 rfl rfl, ⟨by decide +kernel, by decide +kernel, by decide +kernel⟩, Nat.le_of_ble_eq_true rfl, by decide +kernel⟩
set_option maxRecDepth 100000 in
theorem ks_X11_root : Cond.static yX11_root ∈ gt := gt_6 61 rfl rfl
set_option maxRecDepth 100000 in
theorem ko_X11_steps : kOk 1 mX11_steps := ⟨gt_1 13 rfl rfl, gt_6 53 rfl rfl, ⟨by decide +kernel, by decide +kernel, by decide +kernel⟩, Nat.le_of_ble_eq_true rfl, by decide +kernel⟩
set_option maxRecDepth 100000 in
theorem kv_X11_steps : vOk 11 mX11_steps := ⟨gt_6 52 rfl rfl, gt_sel (q := (yX11_steps, 42)) (by decide +kernel), _, rfl, rfl⟩
set_option maxRecDepth 100000 in
theorem ko_X11_clipped : kOk 3 mX11_clipped := ⟨gt_1 13 rfl rfl, gt_6 58 rfl rfl, ⟨by decide +kernel, by decide +kernel, by decide +kernel⟩, Nat.le_of_ble_eq_true rfl, by decide +kernel⟩
set_option maxRecDepth 100000 in
theorem ks_X11_clipped : Cond.static yX11_clipped ∈ gt := gt_6 57 rfl rfl
set_option maxRecDepth 100000 in
theorem ko_X11_finds : kOk 2 mX11_finds := ⟨gt_1 13 rfl rfl, gt_6 28 rfl rfl, ⟨by decide +kernel, by decide +kernel, by decide +kernel⟩, Nat.le_of_ble_eq_true rfl, by decide +kernel⟩
set_option maxRecDepth 100000 in
theorem kv_X11_finds : vOk 11 mX11_finds := ⟨gt_6 27 rfl rfl, gt_sel (q := (yX11_finds, 42)) (by decide +kernel), _, rfl, rfl⟩
set_option maxRecDepth 100000 in
theorem ko_X11_number : kOk 3 mX11_number := ⟨gt_1 13 rfl rfl, gt_6 23 rfl rfl, ⟨by decide +kernel, by decide +kernel, by decide +kernel⟩, Nat.le_of_ble_eq_true rfl, by decide +kernel⟩
set_option maxRecDepth 100000 in
theorem kv_X11_number : vOk 11 mX11_number := ⟨gt_6 21 rfl rfl, gt_6 22 rfl rfl, _, rfl, rfl⟩
set_option maxRecDepth 100000 in
theorem ko_X11_markOf : kOk 2 mX11_markOf := ⟨gt_1 13 rfl rfl, gt_6 78 rfl rfl, ⟨by decide +kernel, by decide +kernel, by decide +kernel⟩, Nat.le_of_ble_eq_true rfl, by decide +kernel⟩
set_option maxRecDepth 100000 in
theorem kv_X11_markOf : vOk 11 mX11_markOf := ⟨gt_6 77 rfl rfl, gt_sel (q := (yX11_markOf, 42)) (by decide +kernel), _, rfl, rfl⟩
set_option maxRecDepth 100000 in
theorem ko_X11_mark : kOk 2 mX11_mark := ⟨gt_1 13 rfl rfl, gt_6 74 rfl rfl, ⟨by decide +kernel, by decide +kernel, by decide +kernel⟩, Nat.le_of_ble_eq_true rfl, by decide +kernel⟩
set_option maxRecDepth 100000 in
theorem kv_X11_mark : vOk 11 mX11_mark := ⟨gt_6 72 rfl rfl, gt_6 73 rfl rfl, _, rfl, rfl⟩
set_option maxRecDepth 100000 in
theorem ko_X11_judged : kOk 2 mX11_judged := ⟨gt_1 13 rfl rfl, gt_6 83 rfl rfl, ⟨by decide +kernel, by decide +kernel, by decide +kernel⟩, Nat.le_of_ble_eq_true rfl, by decide +kernel⟩
set_option maxRecDepth 100000 in
theorem kv_X11_judged : vOk 11 mX11_judged := ⟨gt_6 81 rfl rfl, gt_6 82 rfl rfl, _, rfl, rfl⟩
set_option maxRecDepth 100000 in
theorem ko_X11_run : kOk 1 mX11_run := ⟨gt_1 13 rfl rfl, gt_6 89 rfl rfl, ⟨by decide +kernel, by decide +kernel, by decide +kernel⟩, Nat.le_of_ble_eq_true rfl, by decide +kernel⟩
set_option maxRecDepth 100000 in
theorem kv_X11_run : vOk 11 mX11_run := ⟨gt_6 87 rfl rfl, gt_6 88 rfl rfl, _, rfl, rfl⟩
set_option maxRecDepth 100000 in
theorem ko_X11_repeats : kOk 2 mX11_repeats := ⟨gt_1 13 rfl rfl, gt_6 105 rfl rfl, ⟨by decide +kernel, by decide +kernel, by decide +kernel⟩, Nat.le_of_ble_eq_true rfl, by decide +kernel⟩
set_option maxRecDepth 100000 in
theorem kv_X11_repeats : vOk 11 mX11_repeats := ⟨gt_6 104 rfl rfl, gt_sel (q := (yX11_repeats, 42)) (by decide +kernel), _, rfl, rfl⟩
set_option maxRecDepth 100000 in
theorem ko_X11_withinTop : kOk 2 mX11_withinTop := ⟨gt_1 13 rfl rfl, gt_6 101 rfl rfl, ⟨by decide +kernel, by decide +kernel, by decide +kernel⟩, Nat.le_of_ble_eq_true rfl, by decide +kernel⟩
set_option maxRecDepth 100000 in
theorem kv_X11_withinTop : vOk 11 mX11_withinTop := ⟨gt_6 100 rfl rfl, gt_sel (q := (yX11_withinTop, 42)) (by decide +kernel), _, rfl, rfl⟩
set_option maxRecDepth 100000 in
theorem ko_X11_withinBottom : kOk 2 mX11_withinBottom := ⟨gt_1 13 rfl rfl, gt_6 109 rfl rfl, ⟨by decide +kernel, by decide +kernel, by decide +kernel⟩, Nat.le_of_ble_eq_true rfl, by decide +kernel⟩
set_option maxRecDepth 100000 in
theorem kv_X11_withinBottom : vOk 11 mX11_withinBottom := ⟨gt_6 108 rfl rfl, gt_sel (q := (yX11_withinBottom, 42)) (by decide +kernel), _, rfl, rfl⟩
set_option maxRecDepth 100000 in
theorem ko_X11_isRepeat : kOk 2 mX11_isRepeat := ⟨gt_1 13 rfl rfl, gt_6 97 rfl rfl, ⟨by decide +kernel, by decide +kernel, by decide +kernel⟩, Nat.le_of_ble_eq_true rfl, by decide +kernel⟩
set_option maxRecDepth 100000 in
theorem kv_X11_isRepeat : vOk 11 mX11_isRepeat := ⟨gt_6 96 rfl rfl, gt_sel (q := (yX11_isRepeat, 42)) (by decide +kernel), _, rfl, rfl⟩
set_option maxRecDepth 100000 in
theorem ko_X11_within : kOk 3 mX11_within := ⟨gt_1 13 rfl rfl, gt_6 93 rfl rfl, ⟨by decide +kernel, by decide +kernel, by decide +kernel⟩, Nat.le_of_ble_eq_true rfl, by decide +kernel⟩
set_option maxRecDepth 100000 in
theorem kv_X11_within : vOk 11 mX11_within := ⟨gt_6 91 rfl rfl, gt_6 92 rfl rfl, _, rfl, rfl⟩
set_option maxRecDepth 100000 in
theorem ko_X11_widestOf : kOk 1 mX11_widestOf := ⟨gt_1 13 rfl rfl, gt_6 117 rfl rfl, ⟨by decide +kernel, by decide +kernel, by decide +kernel⟩, Nat.le_of_ble_eq_true rfl, by decide +kernel⟩
set_option maxRecDepth 100000 in
theorem kv_X11_widestOf : vOk 11 mX11_widestOf := ⟨gt_6 116 rfl rfl, gt_sel (q := (yX11_widestOf, 42)) (by decide +kernel), _, rfl, rfl⟩
set_option maxRecDepth 100000 in
theorem ko_X11_widest : kOk 1 mX11_widest := ⟨gt_1 13 rfl rfl, gt_6 113 rfl rfl, ⟨by decide +kernel, by decide +kernel, by decide +kernel⟩, Nat.le_of_ble_eq_true rfl, by decide +kernel⟩
set_option maxRecDepth 100000 in
theorem kv_X11_widest : vOk 11 mX11_widest := ⟨gt_6 111 rfl rfl, gt_6 112 rfl rfl, _, rfl, rfl⟩
set_option maxRecDepth 100000 in
theorem ko_X11_share : kOk 2 mX11_share := ⟨gt_1 13 rfl rfl, gt_6 121 rfl rfl, ⟨by decide +kernel, by decide +kernel, by decide +kernel⟩, Nat.le_of_ble_eq_true rfl, by decide +kernel⟩
set_option maxRecDepth 100000 in
theorem kv_X11_share : vOk 11 mX11_share := ⟨gt_6 119 rfl rfl, gt_6 120 rfl rfl, _, rfl, rfl⟩
set_option maxRecDepth 100000 in
theorem ko_X11_parts : kOk 3 mX11_parts := ⟨gt_1 13 rfl rfl, gt_6 126 rfl rfl, ⟨by decide +kernel, by decide +kernel, by decide +kernel⟩, Nat.le_of_ble_eq_true rfl, by decide +kernel⟩
set_option maxRecDepth 100000 in
theorem kv_X11_parts : vOk 11 mX11_parts := ⟨gt_6 124 rfl rfl, gt_6 125 rfl rfl, _, rfl, rfl⟩
set_option maxRecDepth 100000 in
theorem ko_X11_wayMany : kOk 2 mX11_wayMany := ⟨gt_1 13 rfl rfl, gt_6 143 rfl rfl, ⟨by decide +kernel, by decide +kernel, by decide +kernel⟩, Nat.le_of_ble_eq_true rfl, by decide +kernel⟩
set_option maxRecDepth 100000 in
theorem kv_X11_wayMany : vOk 11 mX11_wayMany := ⟨gt_6 142 rfl rfl, gt_sel (q := (yX11_wayMany, 42)) (by decide +kernel), _, rfl, rfl⟩
set_option maxRecDepth 100000 in
theorem ko_X11_scoreOf : kOk 1 mX11_scoreOf := ⟨gt_1 13 rfl rfl, gt_6 134 rfl rfl, ⟨by decide +kernel, by decide +kernel, by decide +kernel⟩, Nat.le_of_ble_eq_true rfl, by decide +kernel⟩
set_option maxRecDepth 100000 in
theorem kv_X11_scoreOf : vOk 11 mX11_scoreOf := ⟨gt_6 133 rfl rfl, gt_sel (q := (yX11_scoreOf, 42)) (by decide +kernel), _, rfl, rfl⟩
set_option maxRecDepth 100000 in
theorem ko_X11_score : kOk 1 mX11_score := ⟨gt_1 13 rfl rfl, gt_6 130 rfl rfl, ⟨by decide +kernel, by decide +kernel, by decide +kernel⟩, Nat.le_of_ble_eq_true rfl, by decide +kernel⟩
set_option maxRecDepth 100000 in
theorem kv_X11_score : vOk 11 mX11_score := ⟨gt_6 128 rfl rfl, gt_6 129 rfl rfl, _, rfl, rfl⟩
set_option maxRecDepth 100000 in
theorem ko_X11_chanceOf : kOk 2 mX11_chanceOf := ⟨gt_1 13 rfl rfl, gt_6 147 rfl rfl, ⟨by decide +kernel, by decide +kernel, by decide +kernel⟩, Nat.le_of_ble_eq_true rfl, by decide +kernel⟩
set_option maxRecDepth 100000 in
theorem kv_X11_chanceOf : vOk 11 mX11_chanceOf := ⟨gt_6 146 rfl rfl, gt_sel (q := (yX11_chanceOf, 42)) (by decide +kernel), _, rfl, rfl⟩
set_option maxRecDepth 100000 in
theorem ko_X11_ways : kOk 2 mX11_ways := ⟨gt_1 13 rfl rfl, gt_6 139 rfl rfl, ⟨by decide +kernel, by decide +kernel, by decide +kernel⟩, Nat.le_of_ble_eq_true rfl, by decide +kernel⟩
set_option maxRecDepth 100000 in
theorem kv_X11_ways : vOk 11 mX11_ways := ⟨gt_6 137 rfl rfl, gt_6 138 rfl rfl, _, rfl, rfl⟩
set_option maxRecDepth 100000 in
theorem ko_X11_type : kOk 1 mX11_type := ⟨gt_1 13 rfl rfl, gt_6 151 rfl rfl, ⟨by decide +kernel, by decide +kernel, by decide +kernel⟩, Nat.le_of_ble_eq_true rfl, by decide +kernel⟩
set_option maxRecDepth 100000 in
theorem kv_X11_type : vOk 11 mX11_type := ⟨gt_6 149 rfl rfl, gt_6 150 rfl rfl, _, rfl, rfl⟩
set_option maxRecDepth 100000 in
theorem ko_X11_wipe : kOk 0 mX11_wipe := ⟨gt_1 13 rfl rfl, gt_6 155 rfl rfl, ⟨by decide +kernel, by decide +kernel, by decide +kernel⟩, Nat.le_of_ble_eq_true rfl, by decide +kernel⟩
set_option maxRecDepth 100000 in
theorem kv_X11_wipe : vOk 11 mX11_wipe := ⟨gt_6 153 rfl rfl, gt_6 154 rfl rfl, _, rfl, rfl⟩
set_option maxRecDepth 100000 in
theorem ko_X11_byteAt : kOk 1 mX11_byteAt := ⟨gt_1 13 rfl rfl, gt_6 175 rfl rfl, ⟨by decide +kernel, by decide +kernel, by decide +kernel⟩, Nat.le_of_ble_eq_true rfl, by decide +kernel⟩
set_option maxRecDepth 100000 in
theorem kv_X11_byteAt : vOk 11 mX11_byteAt := ⟨gt_6 174 rfl rfl, gt_sel (q := (yX11_byteAt, 42)) (by decide +kernel), _, rfl, rfl⟩
set_option maxRecDepth 100000 in
theorem ko_X11_figures : kOk 0 mX11_figures := ⟨gt_1 13 rfl rfl, gt_6 171 rfl rfl, ⟨by decide +kernel, by decide +kernel, by decide +kernel⟩, Nat.le_of_ble_eq_true rfl, by decide +kernel⟩
set_option maxRecDepth 100000 in
theorem kv_X11_figures : vOk 11 mX11_figures := ⟨gt_6 170 rfl rfl, gt_sel (q := (yX11_figures, 42)) (by decide +kernel), _, rfl, rfl⟩
set_option maxRecDepth 100000 in
theorem ko_X11_part : kOk 0 mX11_part := ⟨gt_1 13 rfl rfl, gt_6 167 rfl rfl, ⟨by decide +kernel, by decide +kernel, by decide +kernel⟩, Nat.le_of_ble_eq_true rfl, by decide +kernel⟩
set_option maxRecDepth 100000 in
theorem kv_X11_part : vOk 11 mX11_part := ⟨gt_6 166 rfl rfl, gt_sel (q := (yX11_part, 42)) (by decide +kernel), _, rfl, rfl⟩
set_option maxRecDepth 100000 in
theorem ko_X11_faultNow : kOk 0 mX11_faultNow := ⟨gt_1 13 rfl rfl, gt_6 163 rfl rfl, ⟨by decide +kernel, by decide +kernel, by decide +kernel⟩, Nat.le_of_ble_eq_true rfl, by decide +kernel⟩
set_option maxRecDepth 100000 in
theorem kv_X11_faultNow : vOk 11 mX11_faultNow := ⟨gt_6 162 rfl rfl, gt_sel (q := (yX11_faultNow, 42)) (by decide +kernel), _, rfl, rfl⟩
set_option maxRecDepth 100000 in
theorem ko_X11_fault : kOk 0 mX11_fault := ⟨gt_1 13 rfl rfl, gt_6 159 rfl rfl, ⟨by decide +kernel, by decide +kernel, by decide +kernel⟩, Nat.le_of_ble_eq_true rfl, by decide +kernel⟩
set_option maxRecDepth 100000 in
theorem kv_X11_fault : vOk 11 mX11_fault := ⟨gt_6 157 rfl rfl, gt_6 158 rfl rfl, _, rfl, rfl⟩
set_option maxRecDepth 100000 in
theorem ko_X11_reckons : kOk 0 mX11_reckons := ⟨gt_1 13 rfl rfl, gt_6 185 rfl rfl, ⟨by decide +kernel, by decide +kernel, by decide +kernel⟩, Nat.le_of_ble_eq_true rfl, by decide +kernel⟩
set_option maxRecDepth 100000 in
theorem kv_X11_reckons : vOk 11 mX11_reckons := ⟨gt_6 184 rfl rfl, gt_sel (q := (yX11_reckons, 42)) (by decide +kernel), _, rfl, rfl⟩
set_option maxRecDepth 100000 in
theorem ko_X11_reckon : kOk 0 mX11_reckon := ⟨gt_1 13 rfl rfl, gt_6 181 rfl rfl, ⟨by decide +kernel, by decide +kernel, by decide +kernel⟩, Nat.le_of_ble_eq_true rfl, by decide +kernel⟩
set_option maxRecDepth 100000 in
theorem kv_X11_reckon : vOk 11 mX11_reckon := ⟨gt_6 179 rfl rfl, gt_6 180 rfl rfl, _, rfl, rfl⟩
set_option maxRecDepth 100000 in
theorem ko_X11_claim : kOk 1 mX11_claim := ⟨gt_1 13 rfl rfl, gt_6 189 rfl rfl, ⟨by decide +kernel, by decide +kernel, by decide +kernel⟩, Nat.le_of_ble_eq_true rfl, by decide +kernel⟩
set_option maxRecDepth 100000 in
theorem kv_X11_claim : vOk 11 mX11_claim := ⟨gt_6 187 rfl rfl, gt_6 188 rfl rfl, _, rfl, rfl⟩
set_option maxRecDepth 100000 in
theorem ko_X11_meets : kOk 1 mX11_meets := ⟨gt_1 13 rfl rfl, gt_5 134 rfl rfl, ⟨by decide +kernel, by decide +kernel, by decide +kernel⟩, Nat.le_of_ble_eq_true rfl, by decide +kernel⟩
set_option maxRecDepth 100000 in
theorem kv_X11_meets : vOk 11 mX11_meets := ⟨gt_5 133 rfl rfl, gt_sel (q := (yX11_meets, 42)) (by decide +kernel), _, rfl, rfl⟩
set_option maxRecDepth 100000 in
theorem ko_X11_isSheet : kOk 1 mX11_isSheet := ⟨gt_1 13 rfl rfl, gt_5 130 rfl rfl, ⟨by decide +kernel, by decide +kernel, by decide +kernel⟩, Nat.le_of_ble_eq_true rfl, by decide +kernel⟩
set_option maxRecDepth 100000 in
theorem ks_X11_isSheet : Cond.static yX11_isSheet ∈ gt := gt_5 129 rfl rfl
set_option maxRecDepth 100000 in
theorem ko_X11_sheet : kOk 3 mX11_sheet := ⟨gt_1 13 rfl rfl, gt_6 193 rfl rfl, ⟨by decide +kernel, by decide +kernel, by decide +kernel⟩, Nat.le_of_ble_eq_true rfl, by decide +kernel⟩
set_option maxRecDepth 100000 in
theorem kv_X11_sheet : vOk 11 mX11_sheet := ⟨gt_6 191 rfl rfl, gt_6 192 rfl rfl, _, rfl, rfl⟩
set_option maxRecDepth 100000 in
theorem ko_X11_lose : kOk 1 mX11_lose := ⟨gt_1 13 rfl rfl, gt_6 197 rfl rfl, ⟨by decide +kernel, by decide +kernel, by decide +kernel⟩, Nat.le_of_ble_eq_true rfl, by decide +kernel⟩
set_option maxRecDepth 100000 in
theorem kv_X11_lose : vOk 11 mX11_lose := ⟨gt_6 195 rfl rfl, gt_6 196 rfl rfl, _, rfl, rfl⟩
set_option maxRecDepth 100000 in
theorem ko_X11_lacks : kOk 3 mX11_lacks := ⟨gt_1 13 rfl rfl, gt_6 205 rfl rfl, ⟨by decide +kernel, by decide +kernel, by decide +kernel⟩, Nat.le_of_ble_eq_true rfl, by decide +kernel⟩
set_option maxRecDepth 100000 in
theorem kv_X11_lacks : vOk 11 mX11_lacks := ⟨gt_6 204 rfl rfl, gt_sel (q := (yX11_lacks, 42)) (by decide +kernel), _, rfl, rfl⟩
set_option maxRecDepth 100000 in
theorem ko_X11_lay : kOk 3 mX11_lay := ⟨gt_1 13 rfl rfl, gt_6 209 rfl rfl, ⟨by decide +kernel, by decide +kernel, by decide +kernel⟩, Nat.le_of_ble_eq_true rfl, by decide +kernel⟩
set_option maxRecDepth 100000 in
theorem kv_X11_lay : vOk 11 mX11_lay := ⟨gt_6 208 rfl rfl, gt_sel (q := (yX11_lay, 42)) (by decide +kernel), _, rfl, rfl⟩
set_option maxRecDepth 100000 in
theorem ko_X11_put : kOk 4 mX11_put := ⟨gt_1 13 rfl rfl, gt_6 201 rfl rfl, ⟨by decide +kernel, by decide +kernel, by decide +kernel⟩, Nat.le_of_ble_eq_true rfl, by decide +kernel⟩
set_option maxRecDepth 100000 in
theorem kv_X11_put : vOk 11 mX11_put := ⟨gt_6 199 rfl rfl, gt_6 200 rfl rfl, _, rfl, rfl⟩
set_option maxRecDepth 100000 in
theorem ko_X11_get : kOk 3 mX11_get := ⟨gt_1 13 rfl rfl, gt_6 213 rfl rfl, ⟨by decide +kernel, by decide +kernel, by decide +kernel⟩, Nat.le_of_ble_eq_true rfl, by decide +kernel⟩
set_option maxRecDepth 100000 in
theorem kv_X11_get : vOk 11 mX11_get := ⟨gt_6 211 rfl rfl, gt_6 212 rfl rfl, _, rfl, rfl⟩
set_option maxRecDepth 100000 in
theorem ko_X11_copy : kOk 5 mX11_copy := ⟨gt_1 13 rfl rfl, gt_6 217 rfl rfl, ⟨by decide +kernel, by decide +kernel, by decide +kernel⟩, Nat.le_of_ble_eq_true rfl, by decide +kernel⟩
set_option maxRecDepth 100000 in
theorem kv_X11_copy : vOk 11 mX11_copy := ⟨gt_6 215 rfl rfl, gt_6 216 rfl rfl, _, rfl, rfl⟩
set_option maxRecDepth 100000 in
theorem ko_X11_write : kOk 2 mX11_write := ⟨gt_1 13 rfl rfl, gt_6 221 rfl rfl, ⟨by decide +kernel, by decide +kernel, by decide +kernel⟩, Nat.le_of_ble_eq_true rfl, by decide +kernel⟩
set_option maxRecDepth 100000 in
theorem kv_X11_write : vOk 11 mX11_write := ⟨gt_6 219 rfl rfl, gt_6 220 rfl rfl, _, rfl, rfl⟩
set_option maxRecDepth 100000 in
theorem ko_X11_knownMany : kOk 0 mX11_knownMany := ⟨gt_1 13 rfl rfl, gt_6 229 rfl rfl, ⟨by decide +kernel, by decide +kernel, by decide +kernel⟩, Nat.le_of_ble_eq_true rfl, by decide +kernel⟩
set_option maxRecDepth 100000 in
theorem kv_X11_knownMany : vOk 11 mX11_knownMany := ⟨gt_6 228 rfl rfl, gt_sel (q := (yX11_knownMany, 42)) (by decide +kernel), _, rfl, rfl⟩
set_option maxRecDepth 100000 in
theorem ko_X11_count : kOk 1 mX11_count := ⟨gt_1 13 rfl rfl, gt_6 225 rfl rfl, ⟨by decide +kernel, by decide +kernel, by decide +kernel⟩, Nat.le_of_ble_eq_true rfl, by decide +kernel⟩
set_option maxRecDepth 100000 in
theorem kv_X11_count : vOk 11 mX11_count := ⟨gt_6 223 rfl rfl, gt_6 224 rfl rfl, _, rfl, rfl⟩
set_option maxRecDepth 100000 in
theorem ko_X11_digest : kOk 0 mX11_digest := ⟨gt_1 13 rfl rfl, gt_6 233 rfl rfl, ⟨by decide +kernel, by decide +kernel, by decide +kernel⟩, Nat.le_of_ble_eq_true rfl, by decide +kernel⟩
set_option maxRecDepth 100000 in
theorem kv_X11_digest : vOk 11 mX11_digest := ⟨gt_6 231 rfl rfl, gt_6 232 rfl rfl, _, rfl, rfl⟩
set_option maxRecDepth 100000 in
theorem ko_J6_bitCount_0f7a4 : kOk 1 mJ6_bitCount_0f7a4 := ⟨gt_1 15 rfl rfl, gt_3 68 rfl rfl, ⟨by decide +kernel, by decide +kernel, by decide +kernel⟩, Nat.le_of_ble_eq_true rfl, by decide +kernel⟩
set_option maxRecDepth 100000 in
theorem ks_J6_bitCount_0f7a4 : Cond.static yJ6_bitCount_0f7a4 ∈ gt := gt_3 67 rfl rfl
set_option maxRecDepth 100000 in
theorem ko_J6_signum_0f7a4 : kOk 1 mJ6_signum_0f7a4 := ⟨gt_1 15 rfl rfl, gt_3 225 rfl rfl, ⟨by decide +kernel, by decide +kernel, by decide +kernel⟩, Nat.le_of_ble_eq_true rfl, by decide +kernel⟩
set_option maxRecDepth 100000 in
theorem ks_J6_signum_0f7a4 : Cond.static yJ6_signum_0f7a4 ∈ gt := gt_3 224 rfl rfl
set_option maxRecDepth 100000 in
theorem ko_J9_floorDiv_f86c9 : kOk 2 mJ9_floorDiv_f86c9 := ⟨gt_1 14 rfl rfl, gt_2 212 rfl rfl, ⟨by decide +kernel, by decide +kernel, by decide +kernel⟩, Nat.le_of_ble_eq_true rfl, by decide +kernel⟩
set_option maxRecDepth 100000 in
theorem ks_J9_floorDiv_f86c9 : Cond.static yJ9_floorDiv_f86c9 ∈ gt := gt_2 211 rfl rfl
set_option maxRecDepth 100000 in
theorem ko_J9_abs_0f7a4 : kOk 1 mJ9_abs_0f7a4 := ⟨gt_1 14 rfl rfl, gt_3 91 rfl rfl, ⟨by decide +kernel, by decide +kernel, by decide +kernel⟩, Nat.le_of_ble_eq_true rfl, by decide +kernel⟩
set_option maxRecDepth 100000 in
theorem ks_J9_abs_0f7a4 : Cond.static yJ9_abs_0f7a4 ∈ gt := gt_3 90 rfl rfl
set_option maxRecDepth 100000 in
theorem ko_J9_abs_067f4 : kOk 1 mJ9_abs_067f4 := ⟨gt_1 14 rfl rfl, gt_3 153 rfl rfl, ⟨by decide +kernel, by decide +kernel, by decide +kernel⟩, Nat.le_of_ble_eq_true rfl, by decide +kernel⟩
set_option maxRecDepth 100000 in
theorem ks_J9_abs_067f4 : Cond.static yJ9_abs_067f4 ∈ gt := gt_3 152 rfl rfl
set_option maxRecDepth 100000 in
theorem ko_J9_max_7cf53 : kOk 2 mJ9_max_7cf53 := ⟨gt_1 14 rfl rfl, gt_3 228 rfl rfl, ⟨by decide +kernel, by decide +kernel, by decide +kernel⟩, Nat.le_of_ble_eq_true rfl, by decide +kernel⟩
set_option maxRecDepth 100000 in
theorem ks_J9_max_7cf53 : Cond.static yJ9_max_7cf53 ∈ gt := gt_3 227 rfl rfl
set_option maxRecDepth 100000 in
theorem ko_J9_max_f86c9 : kOk 2 mJ9_max_f86c9 := ⟨gt_1 14 rfl rfl, gt_3 186 rfl rfl, ⟨by decide +kernel, by decide +kernel, by decide +kernel⟩, Nat.le_of_ble_eq_true rfl, by decide +kernel⟩
set_option maxRecDepth 100000 in
theorem ks_J9_max_f86c9 : Cond.static yJ9_max_f86c9 ∈ gt := gt_3 185 rfl rfl
set_option maxRecDepth 100000 in
theorem ko_J9_min_7cf53 : kOk 2 mJ9_min_7cf53 := ⟨gt_1 14 rfl rfl, gt_4 172 rfl rfl, ⟨by decide +kernel, by decide +kernel, by decide +kernel⟩, Nat.le_of_ble_eq_true rfl, by decide +kernel⟩
set_option maxRecDepth 100000 in
theorem ks_J9_min_7cf53 : Cond.static yJ9_min_7cf53 ∈ gt := gt_4 171 rfl rfl
set_option maxRecDepth 100000 in
theorem ko_J9_min_f86c9 : kOk 2 mJ9_min_f86c9 := ⟨gt_1 14 rfl rfl, gt_3 183 rfl rfl, ⟨by decide +kernel, by decide +kernel, by decide +kernel⟩, Nat.le_of_ble_eq_true rfl, by decide +kernel⟩
set_option maxRecDepth 100000 in
theorem ks_J9_min_f86c9 : Cond.static yJ9_min_f86c9 ∈ gt := gt_3 182 rfl rfl
set_option maxRecDepth 100000 in
theorem ko_J7_fill_d0a16 : kOk 2 mJ7_fill_d0a16 := ⟨gt_1 12 rfl rfl, gt_2 196 rfl rfl, ⟨by decide +kernel, by decide +kernel, by decide +kernel⟩, Nat.le_of_ble_eq_true rfl, by decide +kernel⟩
set_option maxRecDepth 100000 in
theorem ks_J7_fill_d0a16 : Cond.static yJ7_fill_d0a16 ∈ gt := gt_2 195 rfl rfl
set_option maxRecDepth 100000 in
theorem ko_J7_fill_53178 : kOk 2 mJ7_fill_53178 := ⟨gt_1 12 rfl rfl, gt_2 80 rfl rfl, ⟨by decide +kernel, by decide +kernel, by decide +kernel⟩, Nat.le_of_ble_eq_true rfl, by decide +kernel⟩
set_option maxRecDepth 100000 in
theorem ks_J7_fill_53178 : Cond.static yJ7_fill_53178 ∈ gt := gt_2 79 rfl rfl
set_option maxRecDepth 100000 in
theorem ml_X9_23 : Cond.methodLink RX9 23 yJ7_fill_53178 ∈ gt := gt_2 78 rfl rfl
set_option maxRecDepth 100000 in
theorem ml_X10_85 : Cond.methodLink RX10 85 yX1_addHouse ∈ gt := gt_2 134 rfl rfl
set_option maxRecDepth 100000 in
theorem ml_X10_89 : Cond.methodLink RX10 89 yX10_noHouse ∈ gt := gt_2 142 rfl rfl
set_option maxRecDepth 100000 in
theorem ml_X10_93 : Cond.methodLink RX10 93 yX1_changeDoubt ∈ gt := gt_2 146 rfl rfl
set_option maxRecDepth 100000 in
theorem ml_X10_97 : Cond.methodLink RX10 97 yX10_tell ∈ gt := gt_2 154 rfl rfl
set_option maxRecDepth 100000 in
theorem ml_X10_152 : Cond.methodLink RX10 152 yX10_noPiece ∈ gt := gt_2 158 rfl rfl
set_option maxRecDepth 100000 in
theorem ml_X10_349 : Cond.methodLink RX10 349 yX1_readingsOf ∈ gt := gt_2 161 rfl rfl
set_option maxRecDepth 100000 in
theorem ml_X10_352 : Cond.methodLink RX10 352 yX1_addReading ∈ gt := gt_2 165 rfl rfl
set_option maxRecDepth 100000 in
theorem ml_X10_127 : Cond.methodLink RX10 127 yX7_renew ∈ gt := gt_2 169 rfl rfl
set_option maxRecDepth 100000 in
theorem ml_X7_53 : Cond.methodLink RX7 53 yX7_findPoints ∈ gt := gt_2 173 rfl rfl
set_option maxRecDepth 100000 in
theorem ml_X7_69 : Cond.methodLink RX7 69 yX1_isKnownOf ∈ gt := gt_2 177 rfl rfl
set_option maxRecDepth 100000 in
theorem ml_X1_49 : Cond.methodLink RX1 49 yX1_isKnown ∈ gt := gt_2 181 rfl rfl
set_option maxRecDepth 100000 in
theorem ml_X7_89 : Cond.methodLink RX7 89 yX7_addToPoint ∈ gt := gt_2 185 rfl rfl
set_option maxRecDepth 100000 in
theorem ml_X7_93 : Cond.methodLink RX7 93 yX7_openPoint ∈ gt := gt_2 189 rfl rfl
set_option maxRecDepth 100000 in
theorem ml_X7_57 : Cond.methodLink RX7 57 yJ7_fill_53178 ∈ gt := gt_2 193 rfl rfl
set_option maxRecDepth 100000 in
theorem ml_X7_63 : Cond.methodLink RX7 63 yJ7_fill_d0a16 ∈ gt := gt_2 194 rfl rfl
set_option maxRecDepth 100000 in
theorem ml_X7_78 : Cond.methodLink RX7 78 yX7_driftOn ∈ gt := gt_2 197 rfl rfl
set_option maxRecDepth 100000 in
theorem ml_X7_96 : Cond.methodLink RX7 96 yX7_driftBetween ∈ gt := gt_2 201 rfl rfl
set_option maxRecDepth 100000 in
theorem ml_X10_357 : Cond.methodLink RX10 357 yJ9_floorDiv_f86c9 ∈ gt := gt_2 210 rfl rfl
set_option maxRecDepth 100000 in
theorem ml_X10_101 : Cond.methodLink RX10 101 yX10_noSheet ∈ gt := gt_2 217 rfl rfl
set_option maxRecDepth 100000 in
theorem ml_X10_104 : Cond.methodLink RX10 104 yX9_isLost ∈ gt := gt_2 220 rfl rfl
set_option maxRecDepth 100000 in
theorem ml_X10_107 : Cond.methodLink RX10 107 yX9_find ∈ gt := gt_2 224 rfl rfl
set_option maxRecDepth 100000 in
theorem ml_X10_118 : Cond.methodLink RX10 118 yX10_noReading ∈ gt := gt_2 232 rfl rfl
set_option maxRecDepth 100000 in
theorem ml_X10_143 : Cond.methodLink RX10 143 yX1_isKnown ∈ gt := gt_3 0 rfl rfl
set_option maxRecDepth 100000 in
theorem ml_X10_149 : Cond.methodLink RX10 149 yX0_changeFactor ∈ gt := gt_3 9 rfl rfl
set_option maxRecDepth 100000 in
theorem ml_X10_156 : Cond.methodLink RX10 156 yX7_driftOn ∈ gt := gt_3 18 rfl rfl
set_option maxRecDepth 100000 in
theorem ml_X10_162 : Cond.methodLink RX10 162 yX7_takesPart ∈ gt := gt_3 27 rfl rfl
set_option maxRecDepth 100000 in
theorem ml_X10_170 : Cond.methodLink RX10 170 yX0_holds ∈ gt := gt_3 36 rfl rfl
set_option maxRecDepth 100000 in
theorem ml_X0_33 : Cond.methodLink RX0 33 yX1_squaredDoubt ∈ gt := gt_3 40 rfl rfl
set_option maxRecDepth 100000 in
theorem ml_X10_174 : Cond.methodLink RX10 174 yX0_mostOf ∈ gt := gt_3 49 rfl rfl
set_option maxRecDepth 100000 in
theorem ml_X0_41 : Cond.methodLink RX0 41 yX7_takingPart ∈ gt := gt_3 53 rfl rfl
set_option maxRecDepth 100000 in
theorem ml_X7_49 : Cond.methodLink RX7 49 yX7_takesPart ∈ gt := gt_3 57 rfl rfl
set_option maxRecDepth 100000 in
theorem ml_X0_47 : Cond.methodLink RX0 47 yX0_agreeingWith ∈ gt := gt_3 58 rfl rfl
set_option maxRecDepth 100000 in
theorem ml_X0_55 : Cond.methodLink RX0 55 yX0_holds ∈ gt := gt_3 62 rfl rfl
set_option maxRecDepth 100000 in
theorem ml_X0_51 : Cond.methodLink RX0 51 yX0_widestCircle ∈ gt := gt_3 63 rfl rfl
set_option maxRecDepth 100000 in
theorem ml_X0_59 : Cond.methodLink RX0 59 yJ6_bitCount_0f7a4 ∈ gt := gt_3 66 rfl rfl
set_option maxRecDepth 100000 in
theorem ml_X10_177 : Cond.methodLink RX10 177 yX0_meet ∈ gt := gt_3 76 rfl rfl
set_option maxRecDepth 100000 in
theorem ml_X0_70 : Cond.methodLink RX0 70 yX7_takesPart ∈ gt := gt_3 80 rfl rfl
set_option maxRecDepth 100000 in
theorem ml_X0_74 : Cond.methodLink RX0 74 yX0_reachOf ∈ gt := gt_3 81 rfl rfl
set_option maxRecDepth 100000 in
theorem ml_X0_77 : Cond.methodLink RX0 77 yX0_spansAt ∈ gt := gt_3 85 rfl rfl
set_option maxRecDepth 100000 in
theorem ml_X0_81 : Cond.methodLink RX0 81 yJ9_abs_0f7a4 ∈ gt := gt_3 89 rfl rfl
set_option maxRecDepth 100000 in
theorem ml_X10_186 : Cond.methodLink RX10 186 yX2_reckonTo ∈ gt := gt_3 96 rfl rfl
set_option maxRecDepth 100000 in
theorem ml_X2_26 : Cond.methodLink RX2 26 yX2_findNeighbours ∈ gt := gt_3 100 rfl rfl
set_option maxRecDepth 100000 in
theorem ml_X2_29 : Cond.methodLink RX2 29 yJ7_fill_53178 ∈ gt := gt_3 104 rfl rfl
set_option maxRecDepth 100000 in
theorem ml_X2_52 : Cond.methodLink RX2 52 yX7_takingPart ∈ gt := gt_3 105 rfl rfl
set_option maxRecDepth 100000 in
theorem ml_X2_35 : Cond.methodLink RX2 35 yX1_squaredDoubt ∈ gt := gt_3 106 rfl rfl
set_option maxRecDepth 100000 in
theorem ml_X2_45 : Cond.methodLink RX2 45 yX2_cheapestBeside ∈ gt := gt_3 107 rfl rfl
set_option maxRecDepth 100000 in
theorem ml_X2_48 : Cond.methodLink RX2 48 yX2_costBy ∈ gt := gt_3 111 rfl rfl
set_option maxRecDepth 100000 in
theorem ml_X10_192 : Cond.methodLink RX10 192 yX2_nextFrom ∈ gt := gt_3 119 rfl rfl
set_option maxRecDepth 100000 in
theorem ml_X10_195 : Cond.methodLink RX10 195 yX10_refusal ∈ gt := gt_3 127 rfl rfl
set_option maxRecDepth 100000 in
theorem ml_X10_199 : Cond.methodLink RX10 199 yX6_reckonBy ∈ gt := gt_3 131 rfl rfl
set_option maxRecDepth 100000 in
theorem ml_X6_36 : Cond.methodLink RX6 36 yX6_gather ∈ gt := gt_3 135 rfl rfl
set_option maxRecDepth 100000 in
theorem ml_X6_69 : Cond.methodLink RX6 69 yX7_takesPart ∈ gt := gt_3 139 rfl rfl
set_option maxRecDepth 100000 in
theorem ml_X6_44 : Cond.methodLink RX6 44 yX6_twiceMiddle ∈ gt := gt_3 143 rfl rfl
set_option maxRecDepth 100000 in
theorem ml_X6_50 : Cond.methodLink RX6 50 yX5_become ∈ gt := gt_3 147 rfl rfl
set_option maxRecDepth 100000 in
theorem ml_X5_13 : Cond.methodLink RX5 13 yJ9_abs_067f4 ∈ gt := gt_3 151 rfl rfl
set_option maxRecDepth 100000 in
theorem ml_X5_19 : Cond.methodLink RX5 19 yX5_greatestShared ∈ gt := gt_3 154 rfl rfl
set_option maxRecDepth 100000 in
theorem ml_X6_54 : Cond.methodLink RX6 54 yX6_byPairs ∈ gt := gt_3 157 rfl rfl
set_option maxRecDepth 100000 in
theorem ml_X6_57 : Cond.methodLink RX6 57 yX6_byWeights ∈ gt := gt_3 162 rfl rfl
set_option maxRecDepth 100000 in
theorem ml_X6_85 : Cond.methodLink RX6 85 yX1_squaredDoubt ∈ gt := gt_3 166 rfl rfl
set_option maxRecDepth 100000 in
theorem ml_X6_60 : Cond.methodLink RX6 60 yX6_bySteps ∈ gt := gt_3 168 rfl rfl
set_option maxRecDepth 100000 in
theorem ml_X6_91 : Cond.methodLink RX6 91 yJ9_floorDiv_f86c9 ∈ gt := gt_3 172 rfl rfl
set_option maxRecDepth 100000 in
theorem ml_X6_97 : Cond.methodLink RX6 97 yJ9_abs_067f4 ∈ gt := gt_3 173 rfl rfl
set_option maxRecDepth 100000 in
theorem ml_X6_107 : Cond.methodLink RX6 107 yX6_clippedMean ∈ gt := gt_3 177 rfl rfl
set_option maxRecDepth 100000 in
theorem ml_X6_116 : Cond.methodLink RX6 116 yJ9_min_f86c9 ∈ gt := gt_3 181 rfl rfl
set_option maxRecDepth 100000 in
theorem ml_X6_119 : Cond.methodLink RX6 119 yJ9_max_f86c9 ∈ gt := gt_3 184 rfl rfl
set_option maxRecDepth 100000 in
theorem ml_X6_110 : Cond.methodLink RX6 110 yX6_clippedSpread ∈ gt := gt_3 187 rfl rfl
set_option maxRecDepth 100000 in
theorem ml_X6_113 : Cond.methodLink RX6 113 yX6_root ∈ gt := gt_3 193 rfl rfl
set_option maxRecDepth 100000 in
theorem ml_X10_206 : Cond.methodLink RX10 206 yX5_side ∈ gt := gt_3 196 rfl rfl
set_option maxRecDepth 100000 in
theorem ml_X10_211 : Cond.methodLink RX10 211 yX6_markOf ∈ gt := gt_3 204 rfl rfl
set_option maxRecDepth 100000 in
theorem ml_X10_214 : Cond.methodLink RX10 214 yJ9_abs_0f7a4 ∈ gt := gt_3 213 rfl rfl
set_option maxRecDepth 100000 in
theorem ml_X10_219 : Cond.methodLink RX10 219 yX6_longestRun ∈ gt := gt_3 218 rfl rfl
set_option maxRecDepth 100000 in
theorem ml_X6_132 : Cond.methodLink RX6 132 yX6_markOf ∈ gt := gt_3 222 rfl rfl
set_option maxRecDepth 100000 in
theorem ml_X6_136 : Cond.methodLink RX6 136 yJ6_signum_0f7a4 ∈ gt := gt_3 223 rfl rfl
set_option maxRecDepth 100000 in
theorem ml_X6_141 : Cond.methodLink RX6 141 yJ9_max_7cf53 ∈ gt := gt_3 226 rfl rfl
set_option maxRecDepth 100000 in
theorem ml_X10_222 : Cond.methodLink RX10 222 yX8_reckonWithin ∈ gt := gt_3 233 rfl rfl
set_option maxRecDepth 100000 in
theorem ml_X8_70 : Cond.methodLink RX8 70 yX8_gather ∈ gt := gt_3 238 rfl rfl
set_option maxRecDepth 100000 in
theorem ml_X8_33 : Cond.methodLink RX8 33 yJ7_fill_d0a16 ∈ gt := gt_4 2 rfl rfl
set_option maxRecDepth 100000 in
theorem ml_X8_45 : Cond.methodLink RX8 45 yX1_isKnownOf ∈ gt := gt_4 3 rfl rfl
set_option maxRecDepth 100000 in
theorem ml_X8_74 : Cond.methodLink RX8 74 yX8_spread ∈ gt := gt_4 6 rfl rfl
set_option maxRecDepth 100000 in
theorem ml_X8_78 : Cond.methodLink RX8 78 yX5_become ∈ gt := gt_4 10 rfl rfl
set_option maxRecDepth 100000 in
theorem ml_X10_226 : Cond.methodLink RX10 226 yX8_gather ∈ gt := gt_4 15 rfl rfl
set_option maxRecDepth 100000 in
theorem ml_X10_229 : Cond.methodLink RX10 229 yX8_widestOf ∈ gt := gt_4 16 rfl rfl
set_option maxRecDepth 100000 in
theorem ml_X8_87 : Cond.methodLink RX8 87 yX8_scaledWithin ∈ gt := gt_4 21 rfl rfl
set_option maxRecDepth 100000 in
theorem ml_X10_232 : Cond.methodLink RX10 232 yX8_reckonShare ∈ gt := gt_4 29 rfl rfl
set_option maxRecDepth 100000 in
theorem ml_X8_91 : Cond.methodLink RX8 91 yX8_widestOf ∈ gt := gt_4 33 rfl rfl
set_option maxRecDepth 100000 in
theorem ml_X8_95 : Cond.methodLink RX8 95 yJ9_max_f86c9 ∈ gt := gt_4 34 rfl rfl
set_option maxRecDepth 100000 in
theorem ml_X10_235 : Cond.methodLink RX10 235 yX8_reckonPart ∈ gt := gt_4 39 rfl rfl
set_option maxRecDepth 100000 in
theorem ml_X8_103 : Cond.methodLink RX8 103 yX8_likeMany ∈ gt := gt_4 43 rfl rfl
set_option maxRecDepth 100000 in
theorem ml_X8_100 : Cond.methodLink RX8 100 yJ9_max_7cf53 ∈ gt := gt_4 47 rfl rfl
set_option maxRecDepth 100000 in
theorem ml_X8_106 : Cond.methodLink RX8 106 yX7_takingPart ∈ gt := gt_4 48 rfl rfl
set_option maxRecDepth 100000 in
theorem ml_X8_109 : Cond.methodLink RX8 109 yJ6_bitCount_0f7a4 ∈ gt := gt_4 49 rfl rfl
set_option maxRecDepth 100000 in
theorem ml_X10_238 : Cond.methodLink RX10 238 yX3_gather ∈ gt := gt_4 54 rfl rfl
set_option maxRecDepth 100000 in
theorem ml_X3_26 : Cond.methodLink RX3 26 yJ7_fill_53178 ∈ gt := gt_4 58 rfl rfl
set_option maxRecDepth 100000 in
theorem ml_X3_43 : Cond.methodLink RX3 43 yX7_takesPart ∈ gt := gt_4 59 rfl rfl
set_option maxRecDepth 100000 in
theorem ml_X10_243 : Cond.methodLink RX10 243 yX3_chance ∈ gt := gt_4 60 rfl rfl
set_option maxRecDepth 100000 in
theorem ml_X3_56 : Cond.methodLink RX3 56 yX3_choices ∈ gt := gt_4 64 rfl rfl
set_option maxRecDepth 100000 in
theorem ml_X3_60 : Cond.methodLink RX3 60 yX3_dealt ∈ gt := gt_4 67 rfl rfl
set_option maxRecDepth 100000 in
theorem ml_X10_258 : Cond.methodLink RX10 258 yX4_append ∈ gt := gt_4 79 rfl rfl
set_option maxRecDepth 100000 in
theorem ml_X10_261 : Cond.methodLink RX10 261 yX4_firstFault ∈ gt := gt_4 91 rfl rfl
set_option maxRecDepth 100000 in
theorem ml_X4_33 : Cond.methodLink RX4 33 yX4_faultOfPart ∈ gt := gt_4 95 rfl rfl
set_option maxRecDepth 100000 in
theorem ml_X4_41 : Cond.methodLink RX4 41 yX5_become ∈ gt := gt_4 99 rfl rfl
set_option maxRecDepth 100000 in
theorem ml_X4_45 : Cond.methodLink RX4 45 yX4_nextNumber ∈ gt := gt_4 100 rfl rfl
set_option maxRecDepth 100000 in
theorem ml_X4_56 : Cond.methodLink RX4 56 yJ9_max_7cf53 ∈ gt := gt_4 104 rfl rfl
set_option maxRecDepth 100000 in
theorem ml_X4_37 : Cond.methodLink RX4 37 yX4_squareOfPart ∈ gt := gt_4 106 rfl rfl
set_option maxRecDepth 100000 in
theorem ml_X10_264 : Cond.methodLink RX10 264 yX4_doubtOfSquare ∈ gt := gt_4 115 rfl rfl
set_option maxRecDepth 100000 in
theorem ml_X10_267 : Cond.methodLink RX10 267 yX10_noType ∈ gt := gt_4 127 rfl rfl
set_option maxRecDepth 100000 in
theorem ml_X10_270 : Cond.methodLink RX10 270 yX9_make ∈ gt := gt_4 130 rfl rfl
set_option maxRecDepth 100000 in
theorem ml_X10_277 : Cond.methodLink RX10 277 yX9_against ∈ gt := gt_4 142 rfl rfl
set_option maxRecDepth 100000 in
theorem ml_X9_33 : Cond.methodLink RX9 33 yX9_isLost ∈ gt := gt_4 146 rfl rfl
set_option maxRecDepth 100000 in
theorem ml_X10_280 : Cond.methodLink RX10 280 yX9_store ∈ gt := gt_4 147 rfl rfl
set_option maxRecDepth 100000 in
theorem ml_X10_284 : Cond.methodLink RX10 284 yX9_holds ∈ gt := gt_4 159 rfl rfl
set_option maxRecDepth 100000 in
theorem ml_X10_291 : Cond.methodLink RX10 291 yJ9_min_7cf53 ∈ gt := gt_4 170 rfl rfl
set_option maxRecDepth 100000 in
theorem ml_X10_297 : Cond.methodLink RX10 297 yX1_knownReadings ∈ gt := gt_4 177 rfl rfl
set_option maxRecDepth 100000 in
theorem ml_X10_300 : Cond.methodLink RX10 300 yX7_takingPart ∈ gt := gt_4 181 rfl rfl
set_option maxRecDepth 100000 in
theorem ml_X10_303 : Cond.methodLink RX10 303 yJ6_bitCount_0f7a4 ∈ gt := gt_4 182 rfl rfl
set_option maxRecDepth 100000 in
theorem ml_X10_316 : Cond.methodLink RX10 316 yX10_count ∈ gt := gt_4 189 rfl rfl
set_option maxRecDepth 100000 in
theorem ml_X10_322 : Cond.methodLink RX10 322 yX10_told ∈ gt := gt_4 190 rfl rfl
set_option maxRecDepth 100000 in
theorem ml_X10_325 : Cond.methodLink RX10 325 yX10_digestPiece ∈ gt := gt_4 191 rfl rfl
set_option maxRecDepth 100000 in
theorem ml_X10_332 : Cond.methodLink RX10 332 yX10_agreeing ∈ gt := gt_4 195 rfl rfl
set_option maxRecDepth 100000 in
theorem ml_X10_335 : Cond.methodLink RX10 335 yX10_common ∈ gt := gt_4 196 rfl rfl
set_option maxRecDepth 100000 in
theorem ml_X10_346 : Cond.methodLink RX10 346 yX10_widest ∈ gt := gt_4 198 rfl rfl
set_option maxRecDepth 100000 in
theorem ml_X10_329 : Cond.methodLink RX10 329 yX10_fault ∈ gt := gt_4 199 rfl rfl
set_option maxRecDepth 100000 in
theorem ml_X11_104 : Cond.methodLink RX11 104 yX11_in ∈ gt := gt_5 98 rfl rfl
set_option maxRecDepth 100000 in
theorem ml_X11_115 : Cond.methodLink RX11 115 yX11_isHouse ∈ gt := gt_5 109 rfl rfl
set_option maxRecDepth 100000 in
theorem ml_X11_125 : Cond.methodLink RX11 125 yX11_readingMore ∈ gt := gt_5 117 rfl rfl
set_option maxRecDepth 100000 in
theorem ml_X11_119 : Cond.methodLink RX11 119 yX11_isPiece ∈ gt := gt_5 121 rfl rfl
set_option maxRecDepth 100000 in
theorem ml_X11_129 : Cond.methodLink RX11 129 yX11_isSheet ∈ gt := gt_5 128 rfl rfl
set_option maxRecDepth 100000 in
theorem ml_X11_132 : Cond.methodLink RX11 132 yX11_meets ∈ gt := gt_5 131 rfl rfl
set_option maxRecDepth 100000 in
theorem ml_X11_136 : Cond.methodLink RX11 136 yX11_isKnown ∈ gt := gt_5 143 rfl rfl
set_option maxRecDepth 100000 in
theorem ml_X11_157 : Cond.methodLink RX11 157 yX11_works ∈ gt := gt_5 160 rfl rfl
set_option maxRecDepth 100000 in
theorem ml_X11_144 : Cond.methodLink RX11 144 yX11_points ∈ gt := gt_5 164 rfl rfl
set_option maxRecDepth 100000 in
theorem ml_X11_148 : Cond.methodLink RX11 148 yX11_reducedOf ∈ gt := gt_5 168 rfl rfl
set_option maxRecDepth 100000 in
theorem ml_X11_152 : Cond.methodLink RX11 152 yX11_driftOf ∈ gt := gt_5 173 rfl rfl
set_option maxRecDepth 100000 in
theorem ml_X11_141 : Cond.methodLink RX11 141 yX11_near ∈ gt := gt_5 177 rfl rfl
set_option maxRecDepth 100000 in
theorem ml_X11_90 : Cond.methodLink RX11 90 yX11_down ∈ gt := gt_5 181 rfl rfl
set_option maxRecDepth 100000 in
theorem ml_X11_169 : Cond.methodLink RX11 169 yX11_toldOrNot ∈ gt := gt_5 192 rfl rfl
set_option maxRecDepth 100000 in
theorem ml_X11_160 : Cond.methodLink RX11 160 yX11_takes ∈ gt := gt_5 196 rfl rfl
set_option maxRecDepth 100000 in
theorem ml_X11_164 : Cond.methodLink RX11 164 yX11_toldOf ∈ gt := gt_5 200 rfl rfl
set_option maxRecDepth 100000 in
theorem ml_X11_177 : Cond.methodLink RX11 177 yX11_doAgree ∈ gt := gt_5 209 rfl rfl
set_option maxRecDepth 100000 in
theorem ml_X11_172 : Cond.methodLink RX11 172 yX11_square ∈ gt := gt_5 213 rfl rfl
set_option maxRecDepth 100000 in
theorem ml_X11_183 : Cond.methodLink RX11 183 yX11_agreeingOf ∈ gt := gt_5 221 rfl rfl
set_option maxRecDepth 100000 in
theorem ml_X11_180 : Cond.methodLink RX11 180 yX11_ones ∈ gt := gt_5 225 rfl rfl
set_option maxRecDepth 100000 in
theorem ml_X11_190 : Cond.methodLink RX11 190 yX11_commonOf ∈ gt := gt_5 232 rfl rfl
set_option maxRecDepth 100000 in
theorem ml_X11_94 : Cond.methodLink RX11 94 yX11_amount ∈ gt := gt_5 236 rfl rfl
set_option maxRecDepth 100000 in
theorem ml_X11_198 : Cond.methodLink RX11 198 yX11_areTwo ∈ gt := gt_6 3 rfl rfl
set_option maxRecDepth 100000 in
theorem ml_X11_201 : Cond.methodLink RX11 201 yX11_costs ∈ gt := gt_6 7 rfl rfl
set_option maxRecDepth 100000 in
theorem ml_X11_195 : Cond.methodLink RX11 195 yX11_together ∈ gt := gt_6 12 rfl rfl
set_option maxRecDepth 100000 in
theorem ml_X11_251 : Cond.methodLink RX11 251 yX11_finds ∈ gt := gt_6 25 rfl rfl
set_option maxRecDepth 100000 in
theorem ml_X11_224 : Cond.methodLink RX11 224 yX11_rowOf ∈ gt := gt_6 29 rfl rfl
set_option maxRecDepth 100000 in
theorem ml_X11_213 : Cond.methodLink RX11 213 yX11_add ∈ gt := gt_6 33 rfl rfl
set_option maxRecDepth 100000 in
theorem ml_X11_217 : Cond.methodLink RX11 217 yX11_middle ∈ gt := gt_6 37 rfl rfl
set_option maxRecDepth 100000 in
theorem ml_X11_240 : Cond.methodLink RX11 240 yX11_pairsOf ∈ gt := gt_6 41 rfl rfl
set_option maxRecDepth 100000 in
theorem ml_X11_243 : Cond.methodLink RX11 243 yX11_weighted ∈ gt := gt_6 45 rfl rfl
set_option maxRecDepth 100000 in
theorem ml_X11_246 : Cond.methodLink RX11 246 yX11_steps ∈ gt := gt_6 50 rfl rfl
set_option maxRecDepth 100000 in
theorem ml_X11_231 : Cond.methodLink RX11 231 yX11_clipped ∈ gt := gt_6 56 rfl rfl
set_option maxRecDepth 100000 in
theorem ml_X11_237 : Cond.methodLink RX11 237 yX11_root ∈ gt := gt_6 60 rfl rfl
set_option maxRecDepth 100000 in
theorem ml_X11_254 : Cond.methodLink RX11 254 yX11_lowest ∈ gt := gt_6 64 rfl rfl
set_option maxRecDepth 100000 in
theorem ml_X11_98 : Cond.methodLink RX11 98 yX11_divisor ∈ gt := gt_6 67 rfl rfl
set_option maxRecDepth 100000 in
theorem ml_X11_262 : Cond.methodLink RX11 262 yX11_markOf ∈ gt := gt_6 75 rfl rfl
set_option maxRecDepth 100000 in
theorem ml_X11_279 : Cond.methodLink RX11 279 yX11_isRepeat ∈ gt := gt_6 94 rfl rfl
set_option maxRecDepth 100000 in
theorem ml_X11_282 : Cond.methodLink RX11 282 yX11_withinTop ∈ gt := gt_6 98 rfl rfl
set_option maxRecDepth 100000 in
theorem ml_X11_275 : Cond.methodLink RX11 275 yX11_repeats ∈ gt := gt_6 102 rfl rfl
set_option maxRecDepth 100000 in
theorem ml_X11_285 : Cond.methodLink RX11 285 yX11_withinBottom ∈ gt := gt_6 106 rfl rfl
set_option maxRecDepth 100000 in
theorem ml_X11_288 : Cond.methodLink RX11 288 yX11_widestOf ∈ gt := gt_6 114 rfl rfl
set_option maxRecDepth 100000 in
theorem ml_X11_293 : Cond.methodLink RX11 293 yX11_scoreOf ∈ gt := gt_6 131 rfl rfl
set_option maxRecDepth 100000 in
theorem ml_X11_298 : Cond.methodLink RX11 298 yX11_wayMany ∈ gt := gt_6 140 rfl rfl
set_option maxRecDepth 100000 in
theorem ml_X11_301 : Cond.methodLink RX11 301 yX11_chanceOf ∈ gt := gt_6 144 rfl rfl
set_option maxRecDepth 100000 in
theorem ml_X11_336 : Cond.methodLink RX11 336 yX11_faultNow ∈ gt := gt_6 160 rfl rfl
set_option maxRecDepth 100000 in
theorem ml_X11_333 : Cond.methodLink RX11 333 yX11_part ∈ gt := gt_6 164 rfl rfl
set_option maxRecDepth 100000 in
theorem ml_X11_316 : Cond.methodLink RX11 316 yX11_figures ∈ gt := gt_6 168 rfl rfl
set_option maxRecDepth 100000 in
theorem ml_X11_310 : Cond.methodLink RX11 310 yX11_byteAt ∈ gt := gt_6 172 rfl rfl
set_option maxRecDepth 100000 in
theorem ml_X11_339 : Cond.methodLink RX11 339 yX11_reckons ∈ gt := gt_6 182 rfl rfl
set_option maxRecDepth 100000 in
theorem ml_X11_345 : Cond.methodLink RX11 345 yX11_lacks ∈ gt := gt_6 202 rfl rfl
set_option maxRecDepth 100000 in
theorem ml_X11_349 : Cond.methodLink RX11 349 yX11_lay ∈ gt := gt_6 206 rfl rfl
set_option maxRecDepth 100000 in
theorem ml_X11_353 : Cond.methodLink RX11 353 yX11_knownMany ∈ gt := gt_6 226 rfl rfl
set_option maxRecDepth 100000 in
theorem ml_X11_360 : Cond.methodLink RX11 360 yX11_count ∈ gt := gt_6 236 rfl rfl
theorem mn_X7_85 : (RX7, 85, yX10_nearest, "SentRound") ∈ neL := by decide +kernel
theorem mn_X6_79 : (RX6, 79, yX10_putInOrder, "SentRound") ∈ neL := by decide +kernel
theorem mn_X8_57 : (RX8, 57, yX10_nearest, "SentRound") ∈ neL := by decide +kernel
set_option maxRecDepth 100000 in
theorem ac_l : Cond.methodLink RX10 285 arraycopyName ∈ gt := gt_4 163 rfl rfl
set_option maxRecDepth 100000 in
theorem ac_n : Cond.native arraycopyName ∈ gt := gt_4 165 rfl rfl
set_option maxRecDepth 100000 in
theorem ac_s : Cond.static arraycopyName ∈ gt := gt_4 164 rfl rfl
set_option maxRecDepth 100000 in
theorem ac_i : Cond.initialized "java/lang/System" ∈ gt := gt_1 16 rfl rfl
end
section
/-! THE STORE: ints and longs, by cell and place; the world of both objects by the store; the judgement V: the machine inside a method, its context hidden -/
abbrev Sto : Type := (Nat → Nat → Int32) × (Nat → Nat → Int64)
def wA (σ : Sto) (c : Nat) (f : Nat → Int32) : Sto := (fun c' => if c' = c then f else σ.1 c', σ.2)
def wJ (σ : Sto) (c : Nat) (f : Nat → Int64) : Sto := (σ.1, fun c' => if c' = c then f else σ.2 c')
def wI (σ : Sto) (c i : Nat) (v : Int32) : Sto := wA σ c (upd (σ.1 c) i v)
def wL (σ : Sto) (c i : Nat) (v : Int64) : Sto := wJ σ c (vp_updL (σ.2 c) i v)
def tr (ad : Nat → Nat) (v : Value) : Value := match v with
  | .ref a => .ref (ad a)
  | v => v
def trL (ad : Nat → Nat) (lv : List (Nat × Value)) : List (Nat × Value) := lv.map (fun q => (q.1, tr ad q.2))
theorem tr_cat (ad : Nat → Nat) (v : Value) : (tr ad v).category = v.category := by cases v <;> rfl
def zfv (ad : Nat → Nat) (σ : Sto) (c k : Nat) (f : Nat) : Value := match f with
  | 0 => .int (σ.1 c k)
  | 1 => .long (σ.2 c k)
  | r + 2 => .ref (ad r)
def zfs (ad : Nat → Nat) (σ : Sto) (c : Nat) : Nat → List Nat → List Value
  | _, [] => []
  | k, f :: t => zfv ad σ c k f :: zfs ad σ c (k + 1) t
def zar (ad : Nat → Nat) (σ : Sto) (c t N b : Nat) : vp_A := (N, match t with
  | 0 => .inl (σ.1 c)
  | 1 => .inr (.inl (σ.2 c))
  | 2 => .inl (σ.1 c)
  | _ => .inr (.inr (.inr (.inr (fun i => some (ad (b + i)))))))
def zce (ad : Nat → Nat) (cA : Nat → ClassId) (σ : Sto) (c : Nat) (s : Shp) : va_E := match s with
  | .inl (t, N, b) => .inl (cA t, zar ad σ c t N b)
  | .inr (ci, fs) => .inr (ci, zfs ad σ c 0 fs)
def zG (ad : Nat → Nat) (cA : Nat → ClassId) (σ : Sto) : va_W := (List.range gN).map (fun c => (ad c, zce ad cA σ c (gs c)))
theorem zG_get {ad : Nat → Nat} {cA : Nat → ClassId} {σ : Sto} {c : Nat} (h : c < gN) : (zG ad cA σ)[c]? = some (ad c, zce ad cA σ c (gs c)) := by
  unfold zG
  rw [List.getElem?_map, List.getElem?_range h]
  rfl
theorem zG_none {ad : Nat → Nat} {cA : Nat → ClassId} {σ : Sto} {c : Nat} (h : gN ≤ c) : (zG ad cA σ)[c]? = none := by
  refine List.getElem?_eq_none ?_
  unfold zG
  rw [List.length_map, List.length_range]
  exact h
theorem zfs_get (ad : Nat → Nat) (σ : Sto) (c : Nat) : ∀ (fs : List Nat) (k j : Nat), (zfs ad σ c k fs)[j]? = (fs[j]?).map (zfv ad σ c (k + j))
  | [], k, j => by simp [zfs]
  | f :: t, k, 0 => by simp [zfs]
  | f :: t, k, j + 1 => by
    simp only [zfs, List.getElem?_cons_succ]
    rw [zfs_get ad σ c t (k + 1) j, show k + 1 + j = k + (j + 1) by omega]
theorem zfs_congr {ad : Nat → Nat} {σ τ : Sto} {c : Nat} (h1 : σ.1 c = τ.1 c) (h2 : σ.2 c = τ.2 c) : ∀ (fs : List Nat) (k : Nat), zfs ad σ c k fs = zfs ad τ c k fs
  | [], k => rfl
  | f :: t, k => by
    simp only [zfs]
    rw [zfs_congr h1 h2 t (k + 1)]
    congr 1
    match f with
    | 0 => simp [zfv, h1]
    | 1 => simp [zfv, h2]
    | r + 2 => rfl
theorem zce_congr {ad : Nat → Nat} {cA : Nat → ClassId} {σ τ : Sto} {c : Nat} (h1 : σ.1 c = τ.1 c) (h2 : σ.2 c = τ.2 c) (s : Shp) : zce ad cA σ c s = zce ad cA τ c s := by
  rcases s with ⟨t, N, b⟩ | ⟨ci, fs⟩
  · simp only [zce, zar, h1, h2]
  · simp only [zce, zfs_congr h1 h2]
theorem zG_set {ad : Nat → Nat} {cA : Nat → ClassId} {σ τ : Sto} {c : Nat} {e : va_E} (hc : c < gN) (h : ∀ c', c' ≠ c → σ.1 c' = τ.1 c' ∧ σ.2 c' = τ.2 c') (he : e = zce ad cA τ c (gs c)) : (zG ad cA σ).set c (ad c, e) = zG ad cA τ := by
  apply List.ext_getElem?
  intro j
  have hlen : (zG ad cA σ).length = gN := by unfold zG; rw [List.length_map, List.length_range]
  by_cases hj : j < gN
  · by_cases e1 : c = j
    · subst e1
      rw [List.getElem?_set_self (by rw [hlen]; exact hc), zG_get hc, he]
    · rw [List.getElem?_set_ne e1, zG_get hj, zG_get hj, zce_congr (h j (Ne.symm e1)).1 (h j (Ne.symm e1)).2]
  · rw [List.getElem?_eq_none (by rw [List.length_set, hlen]; omega), zG_none (by omega)]
theorem wA_1 {σ : Sto} {c : Nat} {f : Nat → Int32} : (wA σ c f).1 c = f := by simp [wA]
theorem wA_o {σ : Sto} {c : Nat} {f : Nat → Int32} {c' : Nat} (h : c' ≠ c) : σ.1 c' = (wA σ c f).1 c' ∧ σ.2 c' = (wA σ c f).2 c' := by simp [wA, h]
theorem wJ_2 {σ : Sto} {c : Nat} {f : Nat → Int64} : (wJ σ c f).2 c = f := by simp [wJ]
theorem wJ_o {σ : Sto} {c : Nat} {f : Nat → Int64} {c' : Nat} (h : c' ≠ c) : σ.1 c' = (wJ σ c f).1 c' ∧ σ.2 c' = (wJ σ c f).2 c' := by simp [wJ, h]
theorem zfs_setI {ad : Nat → Nat} {σ : Sto} {c k : Nat} {v : Int32} {fs : List Nat} (h : fs[k]? = some 0) : (zfs ad σ c 0 fs).set k (.int v) = zfs ad (wI σ c k v) c 0 fs := by
  apply List.ext_getElem?
  intro j
  have hlen : ∀ (fs : List Nat) (n : Nat), (zfs ad σ c n fs).length = fs.length := by
    intro fs
    induction fs with
    | nil => intro n; rfl
    | cons a t ih => intro n; simp [zfs, ih]
  have hk : k < fs.length := (List.getElem?_eq_some_iff.mp h).1
  by_cases e1 : k = j
  · subst e1
    rw [List.getElem?_set_self (by rw [hlen]; exact hk), zfs_get, h]
    simp [zfv, wI, wA, upd]
  · rw [List.getElem?_set_ne e1, zfs_get, zfs_get]
    cases fs[j]? with
    | none => rfl
    | some f =>
      match f with
      | 0 => simp [zfv, wI, wA, upd, Ne.symm e1]
      | 1 => simp [zfv, wI, wA]
      | r + 2 => rfl
theorem zfs_setL {ad : Nat → Nat} {σ : Sto} {c k : Nat} {v : Int64} {fs : List Nat} (h : fs[k]? = some 1) : (zfs ad σ c 0 fs).set k (.long v) = zfs ad (wL σ c k v) c 0 fs := by
  apply List.ext_getElem?
  intro j
  have hlen : ∀ (fs : List Nat) (n : Nat), (zfs ad σ c n fs).length = fs.length := by
    intro fs
    induction fs with
    | nil => intro n; rfl
    | cons a t ih => intro n; simp [zfs, ih]
  have hk : k < fs.length := (List.getElem?_eq_some_iff.mp h).1
  by_cases e1 : k = j
  · subst e1
    rw [List.getElem?_set_self (by rw [hlen]; exact hk), zfs_get, h]
    simp [zfv, wL, wJ, vp_updL]
  · rw [List.getElem?_set_ne e1, zfs_get, zfs_get]
    cases fs[j]? with
    | none => rfl
    | some f =>
      match f with
      | 0 => simp [zfv, wL, wJ]
      | 1 => simp [zfv, wL, wJ, vp_updL, Ne.symm e1]
      | r + 2 => rfl
/-- the addresses of the world -/
def zA (ad : Nat → Nat) : Nat → Prop := fun q => ∃ c, c < gN ∧ q = ad c
def zinj (ad : Nat → Nat) : Prop := ∀ i j, i < gN → j < gN → ad i = ad j → i = j
theorem zD {ad : Nat → Nat} {cA : Nat → ClassId} {σ : Sto} (h : zinj ad) : va_D (zA ad) (zG ad cA σ) := by
  have key : ∀ (i : Nat) (p : Nat × va_E), (zG ad cA σ)[i]? = some p → i < gN ∧ p.1 = ad i := by
    intro i p hp
    by_cases hi : i < gN
    · rw [zG_get hi] at hp
      cases hp
      exact ⟨hi, rfl⟩
    · rw [zG_none (by omega)] at hp
      cases hp
  refine ⟨fun i j p q hp hq e => ?_, fun k q hq => ?_⟩
  · obtain ⟨h1, e1⟩ := key i p hp
    obtain ⟨h2, e2⟩ := key j q hq
    exact h i j h1 h2 (by rw [← e1, ← e2]; exact e)
  · obtain ⟨h1, e1⟩ := key k q hq
    exact ⟨k, h1, e1⟩
/-- classes, array classes, links of nest mates -/
def zT (cA : Nat → ClassId) : List (ClassId × FieldType) := [(cA 0, .int), (cA 1, .long), (cA 2, .boolean), (cA 3, .array .int)]
def zK (D : va_G) (cA : Nat → ClassId) (U : State) : Prop := va_K D vwCl (zT cA) U ∧ ∀ q ∈ neL, va_Nw (.methodLinkNest q.1 q.2.1 q.2.2.1 q.2.2.2) U
theorem zK.same {D : va_G} {cA : Nat → ClassId} {u U : State} (h : zK D cA u) (hvm : u.vm = U.vm) : zK D cA U := ⟨va_K.moved (by rw [hvm]; exact Vm.Alike.refl _) h.1, fun q hq => va_Nw.same rfl hvm (h.2 q hq)⟩
theorem zK.warm {D : va_G} {cA : Nat → ClassId} {s U : State} (h : zK D cA s) (hW : s.WarmedH U.vm) : zK D cA U := ⟨va_K.moved hW.alike h.1, fun q hq => va_Nw.warmM hW (h.2 q hq)⟩
/-- launch, classes' data, addresses, array classes -/
abbrev Ev : Type := Launch × va_G × (Nat → Nat) × (Nat → ClassId)
abbrev Po : Type := Option Value → Sto → Prop
def Cx (E : Ev) (M : Mt) (p : Program) (s : State) (m : MethodId) (args : Array Value) (meth : Method) (c : Code) : Prop :=
  p.tables.exec = Jvm.exec ∧ c.code = M.2.1 ∧ c.maxLocals = M.2.2.1 ∧ meth.sig.returnType = M.2.2.2 ∧ meth.locks = false ∧ s.vm.findClass M.1.cls = some m.cls ∧ (∀ w ∈ gt, w.before args s = true) ∧ zK E.2.1 E.2.2.2 s ∧ zinj E.2.2.1
def zQ (E : Ev) (post : Po) : Array Value → State → Outcome → State → Prop := fun _ st o t => ∃ (r : Option Value) (τ : Sto), o = .returned r ∧ post r τ ∧ va_P E.2.1 vwCl (zG E.2.2.1 E.2.2.2 τ) t.heap ∧ st.heap.size ≤ t.heap.size ∧ ∀ q : Nat, q < st.heap.size → ¬ zA E.2.2.1 q → t.heap[q]? = st.heap[q]?
def rmD (d : Nat) : Room := { frames := d + 1, cells := 0, slots := 0, locals := 64 * (d + 1) }
def V (E : Ev) (d : Nat) (M : Mt) (post : Po) (pc : Nat) (lv : List (Nat × Value)) (st : List Value) (σ : Sto) : Prop :=
  ∀ (p : Program) (e : Env) (s : State) (m : MethodId) (args : Array Value) (below : List Frame) (meth : Method) (c : Code) (H : Heap) (locs : List Loc) (ls : Array Slot),
    Cx E M p s m args meth c → va_P E.2.1 vwCl (zG E.2.2.1 E.2.2.2 σ) H → va_S (zA E.2.2.1) s.heap H locs → lv_has ls M.2.2.1 (trL E.2.2.1 lv) →
    W p E.1 e (rmD d) s m args below meth c H locs 0 0 (MQ below (zQ E post) args s 0 0 (zA E.2.2.1)) (F0 m pc ls (st.map (tr E.2.2.1)))
end
section
section VR
variable {E : Ev} {d : Nat} {M : Mt} {post : Po} {lv : List (Nat × Value)} {st : List Value} {σ : Sto}
theorem V_iconst {pc : Nat} {n : Int} {v : Int32} (hd : decode M.2.1 pc = .ok (.iconst n, 1)) (hv : Int32.ofInt n = v) (k : V E d M post (pc + 1) lv (.int v :: st) σ) : V E d M post pc lv (st) σ :=
  fun p e s m args below meth c H locs ls C hP hS hl => lv_iconst C.1 C.2.1 hd hv (k p e s m args below meth c H locs ls C hP hS hl)
theorem V_bipush {pc : Nat} {n : Int} {v : Int32} (hd : decode M.2.1 pc = .ok (.bipush n, 2)) (hv : (Int8.ofInt n).toInt32 = v) (k : V E d M post (pc + 2) lv (.int v :: st) σ) : V E d M post pc lv (st) σ :=
  fun p e s m args below meth c H locs ls C hP hS hl => lv_bipush C.1 C.2.1 hd hv (k p e s m args below meth c H locs ls C hP hS hl)
theorem V_sipush {pc : Nat} {n : Int} {v : Int32} (hd : decode M.2.1 pc = .ok (.sipush n, 3)) (hv : (Int16.ofInt n).toInt32 = v) (k : V E d M post (pc + 3) lv (.int v :: st) σ) : V E d M post pc lv (st) σ :=
  fun p e s m args below meth c H locs ls C hP hS hl => lv_sipush C.1 C.2.1 hd hv (k p e s m args below meth c H locs ls C hP hS hl)
theorem V_lconst {pc : Nat} {n : Fin 2} {v : Int64} (hd : decode M.2.1 pc = .ok (.lconst n, 1)) (hv : Int64.ofNat (n : Nat) = v) (k : V E d M post (pc + 1) lv (.long v :: st) σ) : V E d M post pc lv (st) σ :=
  fun p e s m args below meth c H locs ls C hP hS hl => lv_lconst C.1 C.2.1 hd hv (k p e s m args below meth c H locs ls C hP hS hl)
theorem V_iadd {pc : Nat} {x y : Int32} (hd : decode M.2.1 pc = .ok (.iadd, 1)) (k : V E d M post (pc + 1) lv (.int (x + y) :: st) σ) : V E d M post pc lv (.int y :: .int x :: st) σ :=
  fun p e s m args below meth c H locs ls C hP hS hl => lv_iadd C.1 C.2.1 hd (k p e s m args below meth c H locs ls C hP hS hl)
theorem V_isub {pc : Nat} {x y : Int32} (hd : decode M.2.1 pc = .ok (.isub, 1)) (k : V E d M post (pc + 1) lv (.int (x - y) :: st) σ) : V E d M post pc lv (.int y :: .int x :: st) σ :=
  fun p e s m args below meth c H locs ls C hP hS hl => lv_isub C.1 C.2.1 hd (k p e s m args below meth c H locs ls C hP hS hl)
theorem V_imul {pc : Nat} {x y : Int32} (hd : decode M.2.1 pc = .ok (.imul, 1)) (k : V E d M post (pc + 1) lv (.int (x * y) :: st) σ) : V E d M post pc lv (.int y :: .int x :: st) σ :=
  fun p e s m args below meth c H locs ls C hP hS hl => lv_imul C.1 C.2.1 hd (k p e s m args below meth c H locs ls C hP hS hl)
theorem V_iand {pc : Nat} {x y : Int32} (hd : decode M.2.1 pc = .ok (.iand, 1)) (k : V E d M post (pc + 1) lv (.int (x &&& y) :: st) σ) : V E d M post pc lv (.int y :: .int x :: st) σ :=
  fun p e s m args below meth c H locs ls C hP hS hl => lv_iand C.1 C.2.1 hd (k p e s m args below meth c H locs ls C hP hS hl)
theorem V_ior {pc : Nat} {x y : Int32} (hd : decode M.2.1 pc = .ok (.ior, 1)) (k : V E d M post (pc + 1) lv (.int (x ||| y) :: st) σ) : V E d M post pc lv (.int y :: .int x :: st) σ :=
  fun p e s m args below meth c H locs ls C hP hS hl => lv_ior C.1 C.2.1 hd (k p e s m args below meth c H locs ls C hP hS hl)
theorem V_ixor {pc : Nat} {x y : Int32} (hd : decode M.2.1 pc = .ok (.ixor, 1)) (k : V E d M post (pc + 1) lv (.int (x ^^^ y) :: st) σ) : V E d M post pc lv (.int y :: .int x :: st) σ :=
  fun p e s m args below meth c H locs ls C hP hS hl => lv_ixor C.1 C.2.1 hd (k p e s m args below meth c H locs ls C hP hS hl)
theorem V_ishl {pc : Nat} {x y : Int32} (hd : decode M.2.1 pc = .ok (.ishl, 1)) (k : V E d M post (pc + 1) lv (.int (x <<< (y &&& 31)) :: st) σ) : V E d M post pc lv (.int y :: .int x :: st) σ :=
  fun p e s m args below meth c H locs ls C hP hS hl => lv_ishl C.1 C.2.1 hd (k p e s m args below meth c H locs ls C hP hS hl)
theorem V_ishr {pc : Nat} {x y : Int32} (hd : decode M.2.1 pc = .ok (.ishr, 1)) (k : V E d M post (pc + 1) lv (.int (x >>> (y &&& 31)) :: st) σ) : V E d M post pc lv (.int y :: .int x :: st) σ :=
  fun p e s m args below meth c H locs ls C hP hS hl => lv_ishr C.1 C.2.1 hd (k p e s m args below meth c H locs ls C hP hS hl)
theorem V_ladd {pc : Nat} {x y : Int64} (hd : decode M.2.1 pc = .ok (.ladd, 1)) (k : V E d M post (pc + 1) lv (.long (x + y) :: st) σ) : V E d M post pc lv (.long y :: .long x :: st) σ :=
  fun p e s m args below meth c H locs ls C hP hS hl => lv_ladd C.1 C.2.1 hd (k p e s m args below meth c H locs ls C hP hS hl)
theorem V_lsub {pc : Nat} {x y : Int64} (hd : decode M.2.1 pc = .ok (.lsub, 1)) (k : V E d M post (pc + 1) lv (.long (x - y) :: st) σ) : V E d M post pc lv (.long y :: .long x :: st) σ :=
  fun p e s m args below meth c H locs ls C hP hS hl => lv_lsub C.1 C.2.1 hd (k p e s m args below meth c H locs ls C hP hS hl)
theorem V_lmul {pc : Nat} {x y : Int64} (hd : decode M.2.1 pc = .ok (.lmul, 1)) (k : V E d M post (pc + 1) lv (.long (x * y) :: st) σ) : V E d M post pc lv (.long y :: .long x :: st) σ :=
  fun p e s m args below meth c H locs ls C hP hS hl => lv_lmul C.1 C.2.1 hd (k p e s m args below meth c H locs ls C hP hS hl)
theorem V_land {pc : Nat} {x y : Int64} (hd : decode M.2.1 pc = .ok (.land, 1)) (k : V E d M post (pc + 1) lv (.long (x &&& y) :: st) σ) : V E d M post pc lv (.long y :: .long x :: st) σ :=
  fun p e s m args below meth c H locs ls C hP hS hl => lv_land C.1 C.2.1 hd (k p e s m args below meth c H locs ls C hP hS hl)
theorem V_lor {pc : Nat} {x y : Int64} (hd : decode M.2.1 pc = .ok (.lor, 1)) (k : V E d M post (pc + 1) lv (.long (x ||| y) :: st) σ) : V E d M post pc lv (.long y :: .long x :: st) σ :=
  fun p e s m args below meth c H locs ls C hP hS hl => lv_lor C.1 C.2.1 hd (k p e s m args below meth c H locs ls C hP hS hl)
theorem V_lxor {pc : Nat} {x y : Int64} (hd : decode M.2.1 pc = .ok (.lxor, 1)) (k : V E d M post (pc + 1) lv (.long (x ^^^ y) :: st) σ) : V E d M post pc lv (.long y :: .long x :: st) σ :=
  fun p e s m args below meth c H locs ls C hP hS hl => lv_lxor C.1 C.2.1 hd (k p e s m args below meth c H locs ls C hP hS hl)
theorem V_idiv {pc : Nat} {x y : Int32} (hd : decode M.2.1 pc = .ok (.idiv, 1)) (hne : ¬ y = 0) (k : V E d M post (pc + 1) lv (.int (x / y) :: st) σ) : V E d M post pc lv (.int y :: .int x :: st) σ :=
  fun p e s m args below meth c H locs ls C hP hS hl => lv_idiv C.1 C.2.1 hd hne (k p e s m args below meth c H locs ls C hP hS hl)
theorem V_irem {pc : Nat} {x y : Int32} (hd : decode M.2.1 pc = .ok (.irem, 1)) (hne : ¬ y = 0) (k : V E d M post (pc + 1) lv (.int (x - x / y * y) :: st) σ) : V E d M post pc lv (.int y :: .int x :: st) σ :=
  fun p e s m args below meth c H locs ls C hP hS hl => lv_irem C.1 C.2.1 hd hne (k p e s m args below meth c H locs ls C hP hS hl)
theorem V_ldiv {pc : Nat} {x y : Int64} (hd : decode M.2.1 pc = .ok (.ldiv, 1)) (hne : ¬ y = 0) (k : V E d M post (pc + 1) lv (.long (x / y) :: st) σ) : V E d M post pc lv (.long y :: .long x :: st) σ :=
  fun p e s m args below meth c H locs ls C hP hS hl => lv_ldiv C.1 C.2.1 hd hne (k p e s m args below meth c H locs ls C hP hS hl)
theorem V_lrem {pc : Nat} {x y : Int64} (hd : decode M.2.1 pc = .ok (.lrem, 1)) (hne : ¬ y = 0) (k : V E d M post (pc + 1) lv (.long (x - x / y * y) :: st) σ) : V E d M post pc lv (.long y :: .long x :: st) σ :=
  fun p e s m args below meth c H locs ls C hP hS hl => lv_lrem C.1 C.2.1 hd hne (k p e s m args below meth c H locs ls C hP hS hl)
theorem V_ineg {pc : Nat} {x : Int32} (hd : decode M.2.1 pc = .ok (.ineg, 1)) (k : V E d M post (pc + 1) lv (.int (-x) :: st) σ) : V E d M post pc lv (.int x :: st) σ :=
  fun p e s m args below meth c H locs ls C hP hS hl => lv_ineg C.1 C.2.1 hd (k p e s m args below meth c H locs ls C hP hS hl)
theorem V_lneg {pc : Nat} {x : Int64} (hd : decode M.2.1 pc = .ok (.lneg, 1)) (k : V E d M post (pc + 1) lv (.long (-x) :: st) σ) : V E d M post pc lv (.long x :: st) σ :=
  fun p e s m args below meth c H locs ls C hP hS hl => lv_lneg C.1 C.2.1 hd (k p e s m args below meth c H locs ls C hP hS hl)
theorem V_i2l {pc : Nat} {x : Int32} (hd : decode M.2.1 pc = .ok (.i2l, 1)) (k : V E d M post (pc + 1) lv (.long x.toInt64 :: st) σ) : V E d M post pc lv (.int x :: st) σ :=
  fun p e s m args below meth c H locs ls C hP hS hl => lv_i2l C.1 C.2.1 hd rfl (k p e s m args below meth c H locs ls C hP hS hl)
theorem V_l2i {pc : Nat} {x : Int64} (hd : decode M.2.1 pc = .ok (.l2i, 1)) (k : V E d M post (pc + 1) lv (.int x.toInt32 :: st) σ) : V E d M post pc lv (.long x :: st) σ :=
  fun p e s m args below meth c H locs ls C hP hS hl => lv_l2i C.1 C.2.1 hd rfl (k p e s m args below meth c H locs ls C hP hS hl)
theorem V_i2b {pc : Nat} {x : Int32} (hd : decode M.2.1 pc = .ok (.i2b, 1)) (k : V E d M post (pc + 1) lv (.int x.toInt8.toInt32 :: st) σ) : V E d M post pc lv (.int x :: st) σ :=
  fun p e s m args below meth c H locs ls C hP hS hl => lv_i2b C.1 C.2.1 hd rfl (k p e s m args below meth c H locs ls C hP hS hl)
theorem V_i2s {pc : Nat} {x : Int32} (hd : decode M.2.1 pc = .ok (.i2s, 1)) (k : V E d M post (pc + 1) lv (.int x.toInt16.toInt32 :: st) σ) : V E d M post pc lv (.int x :: st) σ :=
  fun p e s m args below meth c H locs ls C hP hS hl => lv_i2s C.1 C.2.1 hd rfl (k p e s m args below meth c H locs ls C hP hS hl)
theorem V_iushr {pc : Nat} {x y : Int32} (hd : decode M.2.1 pc = .ok (.iushr, 1)) (k : V E d M post (pc + 1) lv (.int (x.toUInt32 >>> (y.toUInt32 &&& Int32.toUInt32 31)).toInt32 :: st) σ) : V E d M post pc lv (.int y :: .int x :: st) σ :=
  fun p e s m args below meth c H locs ls C hP hS hl => lv_iushr C.1 C.2.1 hd rfl (k p e s m args below meth c H locs ls C hP hS hl)
theorem V_lshl {pc : Nat} {x : Int64} {y : Int32} (hd : decode M.2.1 pc = .ok (.lshl, 1)) (k : V E d M post (pc + 1) lv (.long (x <<< (y.toInt64 &&& 63)) :: st) σ) : V E d M post pc lv (.int y :: .long x :: st) σ :=
  fun p e s m args below meth c H locs ls C hP hS hl => lv_lshl C.1 C.2.1 hd rfl (k p e s m args below meth c H locs ls C hP hS hl)
theorem V_dup {pc : Nat} {a : Value} (hd : decode M.2.1 pc = .ok (.dup, 1)) (ha : a.category = 1) (k : V E d M post (pc + 1) lv (a :: a :: st) σ) : V E d M post pc lv (a :: st) σ :=
  fun p e s m args below meth c H locs ls C hP hS hl => lv_dup C.1 C.2.1 hd ((tr_cat _ _).trans ha) (k p e s m args below meth c H locs ls C hP hS hl)
theorem V_pop {pc : Nat} {a : Value} (hd : decode M.2.1 pc = .ok (.pop, 1)) (ha : a.category = 1) (k : V E d M post (pc + 1) lv (st) σ) : V E d M post pc lv (a :: st) σ :=
  fun p e s m args below meth c H locs ls C hP hS hl => lv_pop C.1 C.2.1 hd ((tr_cat _ _).trans ha) (k p e s m args below meth c H locs ls C hP hS hl)
theorem V_dup_x1 {pc : Nat} {a b : Value} (hd : decode M.2.1 pc = .ok (.dup_x1, 1)) (ha : a.category = 1) (hb : b.category = 1) (k : V E d M post (pc + 1) lv (a :: b :: a :: st) σ) : V E d M post pc lv (a :: b :: st) σ :=
  fun p e s m args below meth c H locs ls C hP hS hl => lv_dup_x1 C.1 C.2.1 hd ((tr_cat _ _).trans ha) ((tr_cat _ _).trans hb) (k p e s m args below meth c H locs ls C hP hS hl)
theorem V_dup_x2 {pc : Nat} {a b w : Value} (hd : decode M.2.1 pc = .ok (.dup_x2, 1)) (ha : a.category = 1) (hb : b.category = 1) (hw : w.category = 1) (k : V E d M post (pc + 1) lv (a :: b :: w :: a :: st) σ) : V E d M post pc lv (a :: b :: w :: st) σ :=
  fun p e s m args below meth c H locs ls C hP hS hl => lv_dup_x2 C.1 C.2.1 hd ((tr_cat _ _).trans ha) ((tr_cat _ _).trans hb) ((tr_cat _ _).trans hw) (k p e s m args below meth c H locs ls C hP hS hl)
theorem V_dup2_11 {pc : Nat} {a b : Value} (hd : decode M.2.1 pc = .ok (.dup2, 1)) (ha : a.category = 1) (hb : b.category = 1) (k : V E d M post (pc + 1) lv (a :: b :: a :: b :: st) σ) : V E d M post pc lv (a :: b :: st) σ :=
  fun p e s m args below meth c H locs ls C hP hS hl => lv_dup2_11 C.1 C.2.1 hd ((tr_cat _ _).trans ha) ((tr_cat _ _).trans hb) (k p e s m args below meth c H locs ls C hP hS hl)
theorem V_dup2_2 {pc : Nat} {a : Value} (hd : decode M.2.1 pc = .ok (.dup2, 1)) (ha : a.category = 2) (k : V E d M post (pc + 1) lv (a :: a :: st) σ) : V E d M post pc lv (a :: st) σ :=
  fun p e s m args below meth c H locs ls C hP hS hl => lv_dup2_2 C.1 C.2.1 hd ((tr_cat _ _).trans ha) (k p e s m args below meth c H locs ls C hP hS hl)
theorem V_dup2_x1_2 {pc : Nat} {a b : Value} (hd : decode M.2.1 pc = .ok (.dup2_x1, 1)) (ha : a.category = 2) (hb : b.category = 1) (k : V E d M post (pc + 1) lv (a :: b :: a :: st) σ) : V E d M post pc lv (a :: b :: st) σ :=
  fun p e s m args below meth c H locs ls C hP hS hl => lv_dup2_x1_2 C.1 C.2.1 hd ((tr_cat _ _).trans ha) ((tr_cat _ _).trans hb) (k p e s m args below meth c H locs ls C hP hS hl)
theorem V_dup2_x2_2 {pc : Nat} {a b w : Value} (hd : decode M.2.1 pc = .ok (.dup2_x2, 1)) (ha : a.category = 2) (hb : b.category = 1) (hw : w.category = 1) (k : V E d M post (pc + 1) lv (a :: b :: w :: a :: st) σ) : V E d M post pc lv (a :: b :: w :: st) σ :=
  fun p e s m args below meth c H locs ls C hP hS hl => lv_dup2_x2_2 C.1 C.2.1 hd ((tr_cat _ _).trans ha) ((tr_cat _ _).trans hb) ((tr_cat _ _).trans hw) (k p e s m args below meth c H locs ls C hP hS hl)
theorem trL_at {ad : Nat → Nat} {lv : List (Nat × Value)} {ls : Array Slot} {n k i : Nat} {v : Value} (hl : lv_has ls n (trL ad lv)) (h : lv[k]? = some (i, v)) : ls[i]? = some (.val (tr ad v)) := lv_at hl k (by unfold trL; rw [List.getElem?_map, h]; rfl)
theorem V_iload_n {pc : Nat} {n : Fin 4} (k : Nat) {x : Int32} (hd : decode M.2.1 pc = .ok (.iload_n n, 1)) (h : lv[k]? = some ((n : Nat), .int x)) (kk : V E d M post (pc + 1) lv (.int x :: st) σ) : V E d M post pc lv st σ :=
  fun p e s m args below meth c H locs ls C hP hS hl => lv_iload_n C.1 C.2.1 hd rfl (trL_at hl h) (kk p e s m args below meth c H locs ls C hP hS hl)
theorem V_iload {pc i : Nat} (k : Nat) {x : Int32} (hd : decode M.2.1 pc = .ok (.iload i, 2)) (h : lv[k]? = some (i, .int x)) (kk : V E d M post (pc + 2) lv (.int x :: st) σ) : V E d M post pc lv st σ :=
  fun p e s m args below meth c H locs ls C hP hS hl => lv_iload C.1 C.2.1 hd (trL_at hl h) (kk p e s m args below meth c H locs ls C hP hS hl)
theorem V_lload_n {pc : Nat} {n : Fin 4} (k : Nat) {x : Int64} (hd : decode M.2.1 pc = .ok (.lload_n n, 1)) (h : lv[k]? = some ((n : Nat), .long x)) (kk : V E d M post (pc + 1) lv (.long x :: st) σ) : V E d M post pc lv st σ :=
  fun p e s m args below meth c H locs ls C hP hS hl => lv_lload_n C.1 C.2.1 hd rfl (trL_at hl h) (kk p e s m args below meth c H locs ls C hP hS hl)
theorem V_lload {pc i : Nat} (k : Nat) {x : Int64} (hd : decode M.2.1 pc = .ok (.lload i, 2)) (h : lv[k]? = some (i, .long x)) (kk : V E d M post (pc + 2) lv (.long x :: st) σ) : V E d M post pc lv st σ :=
  fun p e s m args below meth c H locs ls C hP hS hl => lv_lload C.1 C.2.1 hd (trL_at hl h) (kk p e s m args below meth c H locs ls C hP hS hl)
theorem V_aload_n {pc : Nat} {n : Fin 4} (k : Nat) {x : Nat} (hd : decode M.2.1 pc = .ok (.aload_n n, 1)) (h : lv[k]? = some ((n : Nat), .ref x)) (kk : V E d M post (pc + 1) lv (.ref x :: st) σ) : V E d M post pc lv st σ :=
  fun p e s m args below meth c H locs ls C hP hS hl => lv_aload_n C.1 C.2.1 hd rfl (trL_at hl h) (kk p e s m args below meth c H locs ls C hP hS hl)
theorem V_aload {pc i : Nat} (k : Nat) {x : Nat} (hd : decode M.2.1 pc = .ok (.aload i, 2)) (h : lv[k]? = some (i, .ref x)) (kk : V E d M post (pc + 2) lv (.ref x :: st) σ) : V E d M post pc lv st σ :=
  fun p e s m args below meth c H locs ls C hP hS hl => lv_aload C.1 C.2.1 hd (trL_at hl h) (kk p e s m args below meth c H locs ls C hP hS hl)
def st1 (i : Nat) (v : Value) (lv : List (Nat × Value)) : List (Nat × Value) := (i, v) :: lv.filter (fun q => !(q.1 == i) && !(q.1 + 1 == i && q.2.category == 2))
def st2 (i : Nat) (v : Value) (lv : List (Nat × Value)) : List (Nat × Value) := (i, v) :: lv.filter (fun q => !(q.1 == i) && (!(q.1 == i + 1) && !(q.1 + 1 == i && q.2.category == 2)))
theorem trL_st1 {ad : Nat → Nat} {i : Nat} {v : Value} {lv : List (Nat × Value)} : (i, tr ad v) :: (trL ad lv).filter (fun q => !(q.1 == i) && !(q.1 + 1 == i && q.2.category == 2)) = trL ad (st1 i v lv) := by
  unfold trL st1
  rw [List.map_cons, List.filter_map]
  congr 2
  apply List.filter_congr
  intro q _
  simp [Function.comp, tr_cat]
theorem trL_st2 {ad : Nat → Nat} {i : Nat} {v : Value} {lv : List (Nat × Value)} : (i, tr ad v) :: (trL ad lv).filter (fun q => !(q.1 == i) && (!(q.1 == i + 1) && !(q.1 + 1 == i && q.2.category == 2))) = trL ad (st2 i v lv) := by
  unfold trL st2
  rw [List.map_cons, List.filter_map]
  congr 2
  apply List.filter_congr
  intro q _
  simp [Function.comp, tr_cat]
theorem V_istore_n {pc : Nat} {n : Fin 4} {x : Int32} (hd : decode M.2.1 pc = .ok (.istore_n n, 1)) (hn : (n : Nat) < M.2.2.1) (kk : V E d M post (pc + 1) (st1 (n : Nat) (.int x) lv) st σ) : V E d M post pc lv (.int x :: st) σ :=
  fun p e s m args below meth c H locs ls C hP hS hl => lv_istore_n C.1 C.2.1 hd rfl hl hn (trL_st1 (v := .int x)) (fun ls hl => kk p e s m args below meth c H locs ls C hP hS hl)
theorem V_istore {pc i : Nat} {x : Int32} (hd : decode M.2.1 pc = .ok (.istore i, 2)) (hn : i < M.2.2.1) (kk : V E d M post (pc + 2) (st1 i (.int x) lv) st σ) : V E d M post pc lv (.int x :: st) σ :=
  fun p e s m args below meth c H locs ls C hP hS hl => lv_istore C.1 C.2.1 hd hl hn (trL_st1 (v := .int x)) (fun ls hl => kk p e s m args below meth c H locs ls C hP hS hl)
theorem V_lstore_n {pc : Nat} {n : Fin 4} {x : Int64} (hd : decode M.2.1 pc = .ok (.lstore_n n, 1)) (hn : (n : Nat) + 1 < M.2.2.1) (kk : V E d M post (pc + 1) (st2 (n : Nat) (.long x) lv) st σ) : V E d M post pc lv (.long x :: st) σ :=
  fun p e s m args below meth c H locs ls C hP hS hl => lv_lstore_n C.1 C.2.1 hd rfl hl hn (trL_st2 (v := .long x)) (fun ls hl => kk p e s m args below meth c H locs ls C hP hS hl)
theorem V_lstore {pc i : Nat} {x : Int64} (hd : decode M.2.1 pc = .ok (.lstore i, 2)) (hn : i + 1 < M.2.2.1) (kk : V E d M post (pc + 2) (st2 i (.long x) lv) st σ) : V E d M post pc lv (.long x :: st) σ :=
  fun p e s m args below meth c H locs ls C hP hS hl => lv_lstore C.1 C.2.1 hd hl hn (trL_st2 (v := .long x)) (fun ls hl => kk p e s m args below meth c H locs ls C hP hS hl)
theorem V_astore_n {pc : Nat} {n : Fin 4} {x : Nat} (hd : decode M.2.1 pc = .ok (.astore_n n, 1)) (hn : (n : Nat) < M.2.2.1) (kk : V E d M post (pc + 1) (st1 (n : Nat) (.ref x) lv) st σ) : V E d M post pc lv (.ref x :: st) σ :=
  fun p e s m args below meth c H locs ls C hP hS hl => lv_astore_n C.1 C.2.1 hd rfl hl hn (trL_st1 (v := .ref x)) (fun ls hl => kk p e s m args below meth c H locs ls C hP hS hl)
theorem V_astore {pc i : Nat} {x : Nat} (hd : decode M.2.1 pc = .ok (.astore i, 2)) (hn : i < M.2.2.1) (kk : V E d M post (pc + 2) (st1 i (.ref x) lv) st σ) : V E d M post pc lv (.ref x :: st) σ :=
  fun p e s m args below meth c H locs ls C hP hS hl => lv_astore C.1 C.2.1 hd hl hn (trL_st1 (v := .ref x)) (fun ls hl => kk p e s m args below meth c H locs ls C hP hS hl)
theorem V_iinc {pc i : Nat} (k : Nat) {n : Int} {x v : Int32} (hd : decode M.2.1 pc = .ok (.iinc i n, 3)) (h : lv[k]? = some (i, .int x)) (hv : Int32.ofInt n = v) (hn : i < M.2.2.1) (kk : V E d M post (pc + 3) (st1 i (.int (x + v)) lv) st σ) : V E d M post pc lv st σ :=
  fun p e s m args below meth c H locs ls C hP hS hl => lv_iinc (k := k) (v := x + v) C.1 C.2.1 hd hl (by unfold trL; rw [List.getElem?_map, h]; rfl) (by rw [hv]) hn (trL_st1 (v := .int (x + v))) (fun ls hl => kk p e s m args below meth c H locs ls C hP hS hl)
/-- fewer listed locals, in another order -/
theorem V_loc {pc : Nat} {lv' : List (Nat × Value)} (ks : List Nat) (h : lv_pick lv ks = lv') (kk : V E d M post pc lv' st σ) : V E d M post pc lv st σ :=
  fun p e s m args below meth c H locs ls C hP hS hl => kk p e s m args below meth c H locs ls C hP hS (lv_sub hl ks (by
    rw [← h]
    unfold lv_pick trL
    rw [List.map_filterMap]
    congr 1
    funext k
    rw [List.getElem?_map]))
theorem V_pc {pc pc2 : Nat} (h : pc = pc2) (kk : V E d M post pc2 lv st σ) : V E d M post pc lv st σ := h ▸ kk
theorem V_goto {pc tgt : Nat} {off : Int} (hd : decode M.2.1 pc = .ok (.goto off, 3)) (ht : (pc : Int) + off = (tgt : Int)) (k : V E d M post tgt lv st σ) : V E d M post pc lv st σ :=
  fun p e s m args below meth c H locs ls C hP hS hl => lv_goto C.1 C.2.1 hd ht (k p e s m args below meth c H locs ls C hP hS hl)
theorem V_if_eq {pc tgt : Nat} {off : Int} {x : Int32} (hd : decode M.2.1 pc = .ok (.ifCond .eq off, 3)) (ht : (pc : Int) + off = (tgt : Int)) (kt : x = 0 → V E d M post tgt lv st σ) (kf : ¬ (x = 0) → V E d M post (pc + 3) lv st σ) : V E d M post pc lv (.int x :: st) σ :=
  fun p e s m args below meth c H locs ls C hP hS hl => lv_if_eq C.1 C.2.1 hd ht (fun h => kt h p e s m args below meth c H locs ls C hP hS hl) (fun h => kf h p e s m args below meth c H locs ls C hP hS hl)
theorem V_icmp_eq {pc tgt : Nat} {off : Int} {x y : Int32} (hd : decode M.2.1 pc = .ok (.if_icmp .eq off, 3)) (ht : (pc : Int) + off = (tgt : Int)) (kt : x = y → V E d M post tgt lv st σ) (kf : ¬ (x = y) → V E d M post (pc + 3) lv st σ) : V E d M post pc lv (.int y :: .int x :: st) σ :=
  fun p e s m args below meth c H locs ls C hP hS hl => lv_icmp_eq C.1 C.2.1 hd ht (fun h => kt h p e s m args below meth c H locs ls C hP hS hl) (fun h => kf h p e s m args below meth c H locs ls C hP hS hl)
theorem V_if_ne {pc tgt : Nat} {off : Int} {x : Int32} (hd : decode M.2.1 pc = .ok (.ifCond .ne off, 3)) (ht : (pc : Int) + off = (tgt : Int)) (kt : ¬ x = 0 → V E d M post tgt lv st σ) (kf : x = 0 → V E d M post (pc + 3) lv st σ) : V E d M post pc lv (.int x :: st) σ :=
  fun p e s m args below meth c H locs ls C hP hS hl => lv_if_ne C.1 C.2.1 hd ht (fun h => kt h p e s m args below meth c H locs ls C hP hS hl) (fun h => kf h p e s m args below meth c H locs ls C hP hS hl)
theorem V_icmp_ne {pc tgt : Nat} {off : Int} {x y : Int32} (hd : decode M.2.1 pc = .ok (.if_icmp .ne off, 3)) (ht : (pc : Int) + off = (tgt : Int)) (kt : ¬ x = y → V E d M post tgt lv st σ) (kf : x = y → V E d M post (pc + 3) lv st σ) : V E d M post pc lv (.int y :: .int x :: st) σ :=
  fun p e s m args below meth c H locs ls C hP hS hl => lv_icmp_ne C.1 C.2.1 hd ht (fun h => kt h p e s m args below meth c H locs ls C hP hS hl) (fun h => kf h p e s m args below meth c H locs ls C hP hS hl)
theorem V_if_lt {pc tgt : Nat} {off : Int} {x : Int32} (hd : decode M.2.1 pc = .ok (.ifCond .lt off, 3)) (ht : (pc : Int) + off = (tgt : Int)) (kt : x < 0 → V E d M post tgt lv st σ) (kf : ¬ (x < 0) → V E d M post (pc + 3) lv st σ) : V E d M post pc lv (.int x :: st) σ :=
  fun p e s m args below meth c H locs ls C hP hS hl => lv_if_lt C.1 C.2.1 hd ht (fun h => kt h p e s m args below meth c H locs ls C hP hS hl) (fun h => kf h p e s m args below meth c H locs ls C hP hS hl)
theorem V_icmp_lt {pc tgt : Nat} {off : Int} {x y : Int32} (hd : decode M.2.1 pc = .ok (.if_icmp .lt off, 3)) (ht : (pc : Int) + off = (tgt : Int)) (kt : x < y → V E d M post tgt lv st σ) (kf : ¬ (x < y) → V E d M post (pc + 3) lv st σ) : V E d M post pc lv (.int y :: .int x :: st) σ :=
  fun p e s m args below meth c H locs ls C hP hS hl => lv_icmp_lt C.1 C.2.1 hd ht (fun h => kt h p e s m args below meth c H locs ls C hP hS hl) (fun h => kf h p e s m args below meth c H locs ls C hP hS hl)
theorem V_if_ge {pc tgt : Nat} {off : Int} {x : Int32} (hd : decode M.2.1 pc = .ok (.ifCond .ge off, 3)) (ht : (pc : Int) + off = (tgt : Int)) (kt : 0 ≤ x → V E d M post tgt lv st σ) (kf : ¬ (0 ≤ x) → V E d M post (pc + 3) lv st σ) : V E d M post pc lv (.int x :: st) σ :=
  fun p e s m args below meth c H locs ls C hP hS hl => lv_if_ge C.1 C.2.1 hd ht (fun h => kt h p e s m args below meth c H locs ls C hP hS hl) (fun h => kf h p e s m args below meth c H locs ls C hP hS hl)
theorem V_icmp_ge {pc tgt : Nat} {off : Int} {x y : Int32} (hd : decode M.2.1 pc = .ok (.if_icmp .ge off, 3)) (ht : (pc : Int) + off = (tgt : Int)) (kt : y ≤ x → V E d M post tgt lv st σ) (kf : ¬ (y ≤ x) → V E d M post (pc + 3) lv st σ) : V E d M post pc lv (.int y :: .int x :: st) σ :=
  fun p e s m args below meth c H locs ls C hP hS hl => lv_icmp_ge C.1 C.2.1 hd ht (fun h => kt h p e s m args below meth c H locs ls C hP hS hl) (fun h => kf h p e s m args below meth c H locs ls C hP hS hl)
theorem V_if_gt {pc tgt : Nat} {off : Int} {x : Int32} (hd : decode M.2.1 pc = .ok (.ifCond .gt off, 3)) (ht : (pc : Int) + off = (tgt : Int)) (kt : 0 < x → V E d M post tgt lv st σ) (kf : ¬ (0 < x) → V E d M post (pc + 3) lv st σ) : V E d M post pc lv (.int x :: st) σ :=
  fun p e s m args below meth c H locs ls C hP hS hl => lv_if_gt C.1 C.2.1 hd ht (fun h => kt h p e s m args below meth c H locs ls C hP hS hl) (fun h => kf h p e s m args below meth c H locs ls C hP hS hl)
theorem V_icmp_gt {pc tgt : Nat} {off : Int} {x y : Int32} (hd : decode M.2.1 pc = .ok (.if_icmp .gt off, 3)) (ht : (pc : Int) + off = (tgt : Int)) (kt : y < x → V E d M post tgt lv st σ) (kf : ¬ (y < x) → V E d M post (pc + 3) lv st σ) : V E d M post pc lv (.int y :: .int x :: st) σ :=
  fun p e s m args below meth c H locs ls C hP hS hl => lv_icmp_gt C.1 C.2.1 hd ht (fun h => kt h p e s m args below meth c H locs ls C hP hS hl) (fun h => kf h p e s m args below meth c H locs ls C hP hS hl)
theorem V_if_le {pc tgt : Nat} {off : Int} {x : Int32} (hd : decode M.2.1 pc = .ok (.ifCond .le off, 3)) (ht : (pc : Int) + off = (tgt : Int)) (kt : x ≤ 0 → V E d M post tgt lv st σ) (kf : ¬ (x ≤ 0) → V E d M post (pc + 3) lv st σ) : V E d M post pc lv (.int x :: st) σ :=
  fun p e s m args below meth c H locs ls C hP hS hl => lv_if_le C.1 C.2.1 hd ht (fun h => kt h p e s m args below meth c H locs ls C hP hS hl) (fun h => kf h p e s m args below meth c H locs ls C hP hS hl)
theorem V_icmp_le {pc tgt : Nat} {off : Int} {x y : Int32} (hd : decode M.2.1 pc = .ok (.if_icmp .le off, 3)) (ht : (pc : Int) + off = (tgt : Int)) (kt : x ≤ y → V E d M post tgt lv st σ) (kf : ¬ (x ≤ y) → V E d M post (pc + 3) lv st σ) : V E d M post pc lv (.int y :: .int x :: st) σ :=
  fun p e s m args below meth c H locs ls C hP hS hl => lv_icmp_le C.1 C.2.1 hd ht (fun h => kt h p e s m args below meth c H locs ls C hP hS hl) (fun h => kf h p e s m args below meth c H locs ls C hP hS hl)
theorem V_lcmp {pc : Nat} {x y : Int64} (hd : decode M.2.1 pc = .ok (.lcmp, 1)) (k : V E d M post (pc + 1) lv (.int (lg_cmp x y) :: st) σ) : V E d M post pc lv (.long y :: .long x :: st) σ :=
  fun p e s m args below meth c H locs ls C hP hS hl => W.lcmp C.1 C.2.1 hd (k p e s m args below meth c H locs ls C hP hS hl)
theorem lc_eq (x y : Int64) : (lg_cmp x y = 0) ↔ x = y := by
  unfold lg_cmp
  simp only [gt_iff_lt, Int64.lt_iff_toInt_lt, Int64.le_iff_toInt_le, ← Int64.toInt_inj, ne_eq]
  split
  · simp <;> omega
  · split
    · simp <;> omega
    · simp <;> omega
theorem V_lc_eq {pc tgt : Nat} {off : Int} {x y : Int64} (hd : decode M.2.1 pc = .ok (.lcmp, 1)) (hd2 : decode M.2.1 (pc + 1) = .ok (.ifCond .eq off, 3)) (ht : ((pc + 1 : Nat) : Int) + off = (tgt : Int)) (kt : x = y → V E d M post tgt lv st σ) (kf : ¬ (x = y) → V E d M post (pc + 4) lv st σ) : V E d M post pc lv (.long y :: .long x :: st) σ :=
  V_lcmp hd (V_if_eq hd2 ht (fun h => kt ((lc_eq x y).mp h)) (fun h => kf (fun q => h ((lc_eq x y).mpr q))))
theorem lc_ne (x y : Int64) : (¬ lg_cmp x y = 0) ↔ ¬ x = y := by
  unfold lg_cmp
  simp only [gt_iff_lt, Int64.lt_iff_toInt_lt, Int64.le_iff_toInt_le, ← Int64.toInt_inj, ne_eq]
  split
  · simp <;> omega
  · split
    · simp <;> omega
    · simp <;> omega
theorem V_lc_ne {pc tgt : Nat} {off : Int} {x y : Int64} (hd : decode M.2.1 pc = .ok (.lcmp, 1)) (hd2 : decode M.2.1 (pc + 1) = .ok (.ifCond .ne off, 3)) (ht : ((pc + 1 : Nat) : Int) + off = (tgt : Int)) (kt : ¬ x = y → V E d M post tgt lv st σ) (kf : x = y → V E d M post (pc + 4) lv st σ) : V E d M post pc lv (.long y :: .long x :: st) σ :=
  V_lcmp hd (V_if_ne hd2 ht (fun h => kt ((lc_ne x y).mp h)) (fun h => kf ((lc_eq x y).mp h)))
theorem lc_lt (x y : Int64) : (lg_cmp x y < 0) ↔ x < y := by
  unfold lg_cmp
  simp only [gt_iff_lt, Int64.lt_iff_toInt_lt, Int64.le_iff_toInt_le, ← Int64.toInt_inj, ne_eq]
  split
  · simp <;> omega
  · split
    · simp <;> omega
    · simp <;> omega
theorem V_lc_lt {pc tgt : Nat} {off : Int} {x y : Int64} (hd : decode M.2.1 pc = .ok (.lcmp, 1)) (hd2 : decode M.2.1 (pc + 1) = .ok (.ifCond .lt off, 3)) (ht : ((pc + 1 : Nat) : Int) + off = (tgt : Int)) (kt : x < y → V E d M post tgt lv st σ) (kf : ¬ (x < y) → V E d M post (pc + 4) lv st σ) : V E d M post pc lv (.long y :: .long x :: st) σ :=
  V_lcmp hd (V_if_lt hd2 ht (fun h => kt ((lc_lt x y).mp h)) (fun h => kf (fun q => h ((lc_lt x y).mpr q))))
theorem lc_ge (x y : Int64) : (0 ≤ lg_cmp x y) ↔ y ≤ x := by
  unfold lg_cmp
  simp only [gt_iff_lt, Int64.lt_iff_toInt_lt, Int64.le_iff_toInt_le, ← Int64.toInt_inj, ne_eq]
  split
  · simp <;> omega
  · split
    · simp <;> omega
    · simp <;> omega
theorem V_lc_ge {pc tgt : Nat} {off : Int} {x y : Int64} (hd : decode M.2.1 pc = .ok (.lcmp, 1)) (hd2 : decode M.2.1 (pc + 1) = .ok (.ifCond .ge off, 3)) (ht : ((pc + 1 : Nat) : Int) + off = (tgt : Int)) (kt : y ≤ x → V E d M post tgt lv st σ) (kf : ¬ (y ≤ x) → V E d M post (pc + 4) lv st σ) : V E d M post pc lv (.long y :: .long x :: st) σ :=
  V_lcmp hd (V_if_ge hd2 ht (fun h => kt ((lc_ge x y).mp h)) (fun h => kf (fun q => h ((lc_ge x y).mpr q))))
theorem lc_gt (x y : Int64) : (0 < lg_cmp x y) ↔ y < x := by
  unfold lg_cmp
  simp only [gt_iff_lt, Int64.lt_iff_toInt_lt, Int64.le_iff_toInt_le, ← Int64.toInt_inj, ne_eq]
  split
  · simp <;> omega
  · split
    · simp <;> omega
    · simp <;> omega
theorem V_lc_gt {pc tgt : Nat} {off : Int} {x y : Int64} (hd : decode M.2.1 pc = .ok (.lcmp, 1)) (hd2 : decode M.2.1 (pc + 1) = .ok (.ifCond .gt off, 3)) (ht : ((pc + 1 : Nat) : Int) + off = (tgt : Int)) (kt : y < x → V E d M post tgt lv st σ) (kf : ¬ (y < x) → V E d M post (pc + 4) lv st σ) : V E d M post pc lv (.long y :: .long x :: st) σ :=
  V_lcmp hd (V_if_gt hd2 ht (fun h => kt ((lc_gt x y).mp h)) (fun h => kf (fun q => h ((lc_gt x y).mpr q))))
theorem lc_le (x y : Int64) : (lg_cmp x y ≤ 0) ↔ x ≤ y := by
  unfold lg_cmp
  simp only [gt_iff_lt, Int64.lt_iff_toInt_lt, Int64.le_iff_toInt_le, ← Int64.toInt_inj, ne_eq]
  split
  · simp <;> omega
  · split
    · simp <;> omega
    · simp <;> omega
theorem V_lc_le {pc tgt : Nat} {off : Int} {x y : Int64} (hd : decode M.2.1 pc = .ok (.lcmp, 1)) (hd2 : decode M.2.1 (pc + 1) = .ok (.ifCond .le off, 3)) (ht : ((pc + 1 : Nat) : Int) + off = (tgt : Int)) (kt : x ≤ y → V E d M post tgt lv st σ) (kf : ¬ (x ≤ y) → V E d M post (pc + 4) lv st σ) : V E d M post pc lv (.long y :: .long x :: st) σ :=
  V_lcmp hd (V_if_le hd2 ht (fun h => kt ((lc_le x y).mp h)) (fun h => kf (fun q => h ((lc_le x y).mpr q))))
theorem V_tabOut {pc tgt : Nat} {dflt lo hi : Int} {offs : Array Int} {len : Nat} {x : Int32} (hd : decode M.2.1 pc = .ok (.tableswitch dflt lo hi offs, len)) (h : x.toInt < lo ∨ hi < x.toInt) (ht : (pc : Int) + dflt = (tgt : Int)) (k : V E d M post tgt lv st σ) : V E d M post pc lv (.int x :: st) σ :=
  fun p e s m args below meth c H locs ls C hP hS hl => lv_tableOut C.1 C.2.1 hd h ht (k p e s m args below meth c H locs ls C hP hS hl)
theorem V_tabIn {pc tgt : Nat} {dflt lo hi off : Int} {offs : Array Int} {len : Nat} {x : Int32} (hd : decode M.2.1 pc = .ok (.tableswitch dflt lo hi offs, len)) (h1 : ¬ x.toInt < lo) (h2 : ¬ hi < x.toInt) (ho : offs[(x.toInt - lo).toNat]? = some off) (ht : (pc : Int) + off = (tgt : Int)) (k : V E d M post tgt lv st σ) : V E d M post pc lv (.int x :: st) σ :=
  fun p e s m args below meth c H locs ls C hP hS hl => lv_tableIn C.1 C.2.1 hd h1 h2 ho ht (k p e s m args below meth c H locs ls C hP hS hl)
theorem V_ldc {pc idx : Nat} {v : Int32} (hd : decode M.2.1 pc = .ok (.ldc idx, 2)) (hc : Cond.constant M.1.cls idx v ∈ gt) (k : V E d M post (pc + 2) lv (.int v :: st) σ) : V E d M post pc lv st σ :=
  fun p e s m args below meth c H locs ls C hP hS hl => lv_ldc C.1 C.2.1 C.2.2.2.2.2.1 (C.2.2.2.2.2.2.1 _ hc) hd (k p e s m args below meth c H locs ls C hP hS hl)
theorem V_ldcw {pc idx : Nat} {v : Int32} (hd : decode M.2.1 pc = .ok (.ldc_w idx, 3)) (hc : Cond.constant M.1.cls idx v ∈ gt) (k : V E d M post (pc + 3) lv (.int v :: st) σ) : V E d M post pc lv st σ :=
  fun p e s m args below meth c H locs ls C hP hS hl => lv_ldcw C.1 C.2.1 C.2.2.2.2.2.1 (C.2.2.2.2.2.2.1 _ hc) hd (k p e s m args below meth c H locs ls C hP hS hl)
theorem V_ldc2 {pc idx : Nat} {v : Int64} (hd : decode M.2.1 pc = .ok (.ldc2_w idx, 3)) (hc : Cond.constantLong M.1.cls idx v ∈ gt) (k : V E d M post (pc + 3) lv (.long v :: st) σ) : V E d M post pc lv st σ :=
  fun p e s m args below meth c H locs ls C hP hS hl => lv_ldc2 C.1 C.2.1 C.2.2.2.2.2.1 (C.2.2.2.2.2.2.1 _ hc) hd (k p e s m args below meth c H locs ls C hP hS hl)
end VR
end
section
section VF
variable {E : Ev} {d : Nat} {M : Mt} {post : Po} {lv : List (Nat × Value)} {st : List Value} {σ : Sto}
/-! FIELDS AND ARRAYS -/
theorem gs_obj {c ci k f : Nat} {fs : List Nat} (hs : gs c = .inr (ci, fs)) (hf : fs[k]? = some f) : c < gN := gs_lt (fun z hz => by
  rw [hs] at hz
  cases hz
  intro e
  rw [e] at hf
  cases hf)
theorem gs_arr {c t N b : Nat} (hs : gs c = .inl (t, N, b)) : c < gN := gs_lt (fun z hz => by rw [hs] at hz; cases hz)
theorem zG_obj {ad : Nat → Nat} {cA : Nat → ClassId} {c ci k f : Nat} {fs : List Nat} (hs : gs c = .inr (ci, fs)) (hf : fs[k]? = some f) : (zG ad cA σ)[c]? = some (ad c, .inr (ci, zfs ad σ c 0 fs)) := by
  rw [zG_get (gs_obj hs hf), hs]
  rfl
theorem zG_arr {ad : Nat → Nat} {cA : Nat → ClassId} {c t N b : Nat} (hs : gs c = .inl (t, N, b)) : (zG ad cA σ)[c]? = some (ad c, .inl (cA t, zar ad σ c t N b)) := by
  rw [zG_get (gs_arr hs), hs]
  rfl
theorem zfs_at {ad : Nat → Nat} {c k f : Nat} {fs : List Nat} (hf : fs[k]? = some f) : (zfs ad σ c 0 fs)[k]? = some (zfv ad σ c k f) := by
  rw [zfs_get, hf, Nat.zero_add]
  rfl
theorem V_get {pc idx c ci k f : Nat} {fs : List Nat} (hd : decode M.2.1 pc = .ok (.getfield idx, 3)) (L : fldOk M.1.cls idx ci k) (hs : gs c = .inr (ci, fs)) (hf : fs[k]? = some f)
    (kk : ∀ (p : Program) (e : Env) (s : State) (m : MethodId) (args : Array Value) (below : List Frame) (meth : Method) (c' : Code) (H : Heap) (locs : List Loc) (ls : Array Slot), Cx E M p s m args meth c' → va_P E.2.1 vwCl (zG E.2.2.1 E.2.2.2 σ) H → va_S (zA E.2.2.1) s.heap H locs → lv_has ls M.2.2.1 (trL E.2.2.1 lv) →
      W p E.1 e (rmD d) s m args below meth c' H locs 0 0 (MQ below (zQ E post) args s 0 0 (zA E.2.2.1)) (F0 m (pc + 3) ls (zfv E.2.2.1 σ c k f :: st.map (tr E.2.2.1)))) : V E d M post pc lv (.ref c :: st) σ := by
  intro p e s m args below meth c' H locs ls C hP hS hl
  obtain ⟨⟨Cn, T, N⟩, h1, h2, h3, h4⟩ := L
  exact va_get C.1 C.2.1 C.2.2.2.2.2.2.1 h4 C.2.2.2.2.2.1 C.2.2.2.2.2.2.2.1.1 hP c (zG_obj hs hf) h1 k h2 (C.2.2.2.2.2.2.1 _ h3) (fun x h => h) (zfs_at hf) hd (kk p e s m args below meth c' H locs ls C hP hS hl)
theorem V_getI {pc idx c ci k : Nat} {fs : List Nat} (hd : decode M.2.1 pc = .ok (.getfield idx, 3)) (L : fldOk M.1.cls idx ci k) (hs : gs c = .inr (ci, fs)) (hf : fs[k]? = some 0) (kk : V E d M post (pc + 3) lv (.int (σ.1 c k) :: st) σ) : V E d M post pc lv (.ref c :: st) σ := V_get hd L hs hf kk
theorem V_getL {pc idx c ci k : Nat} {fs : List Nat} (hd : decode M.2.1 pc = .ok (.getfield idx, 3)) (L : fldOk M.1.cls idx ci k) (hs : gs c = .inr (ci, fs)) (hf : fs[k]? = some 1) (kk : V E d M post (pc + 3) lv (.long (σ.2 c k) :: st) σ) : V E d M post pc lv (.ref c :: st) σ := V_get hd L hs hf kk
theorem V_getR {pc idx c ci k r : Nat} {fs : List Nat} (hd : decode M.2.1 pc = .ok (.getfield idx, 3)) (L : fldOk M.1.cls idx ci k) (hs : gs c = .inr (ci, fs)) (hf : fs[k]? = some (r + 2)) (kk : V E d M post (pc + 3) lv (.ref r :: st) σ) : V E d M post pc lv (.ref c :: st) σ := V_get hd L hs hf kk
theorem V_putI {pc idx c ci k : Nat} {fs : List Nat} {ty : FieldType} {v : Int32} (hd : decode M.2.1 pc = .ok (.putfield idx, 3)) (L : fldOk M.1.cls idx ci k) (P : putOk ci k ty) (hs : gs c = .inr (ci, fs)) (hf : fs[k]? = some 0) (hn : narrow ty (.int v) = .int v) (hfit : fits ty (.int v) = true)
    (kk : V E d M post (pc + 3) lv st (wI σ c k v)) : V E d M post pc lv (.int v :: .ref c :: st) σ := by
  intro p e s m args below meth c' H locs ls C hP hS hl
  obtain ⟨⟨Cn, T, N⟩, h1, h2, h3, h4⟩ := L
  obtain ⟨q, ty0, g1, g2, g3, g4, g5⟩ := P
  have hq : q = (Cn, T, N) := Option.some.inj (g1.symm.trans h1)
  subst hq
  refine va_put (v := .int v) C.1 C.2.1 C.2.2.2.2.2.2.1 h4 ty0 g2 g3 C.2.2.2.2.2.1 C.2.2.2.2.2.2.2.1.1 hP (zD C.2.2.2.2.2.2.2.2) hS c (zG_obj hs hf) h1 k h2 (C.2.2.2.2.2.2.1 _ h3) (fun x h => h) g4 g5 hn hfit ?_ hd (fun H1 locs1 hP1 _ hS1 => ?_)
  · have := zfs_at (ad := E.2.2.1) (σ := σ) (c := c) hf
    exact (List.getElem?_eq_some_iff.mp this).1
  · have e1 : (zG E.2.2.1 E.2.2.2 σ).set c (E.2.2.1 c, .inr (ci, (zfs E.2.2.1 σ c 0 fs).set k (.int v))) = zG E.2.2.1 E.2.2.2 (wI σ c k v) := zG_set (gs_obj hs hf) (fun c' h => wA_o h) (by rw [hs, zfs_setI hf]; rfl)
    rw [e1] at hP1
    exact kk p e s m args below meth c' H1 locs1 ls C hP1 hS1 hl
theorem V_putL {pc idx c ci k : Nat} {fs : List Nat} {ty : FieldType} {v : Int64} (hd : decode M.2.1 pc = .ok (.putfield idx, 3)) (L : fldOk M.1.cls idx ci k) (P : putOk ci k ty) (hs : gs c = .inr (ci, fs)) (hf : fs[k]? = some 1) (hn : narrow ty (.long v) = .long v) (hfit : fits ty (.long v) = true)
    (kk : V E d M post (pc + 3) lv st (wL σ c k v)) : V E d M post pc lv (.long v :: .ref c :: st) σ := by
  intro p e s m args below meth c' H locs ls C hP hS hl
  obtain ⟨⟨Cn, T, N⟩, h1, h2, h3, h4⟩ := L
  obtain ⟨q, ty0, g1, g2, g3, g4, g5⟩ := P
  have hq : q = (Cn, T, N) := Option.some.inj (g1.symm.trans h1)
  subst hq
  refine va_put (v := .long v) C.1 C.2.1 C.2.2.2.2.2.2.1 h4 ty0 g2 g3 C.2.2.2.2.2.1 C.2.2.2.2.2.2.2.1.1 hP (zD C.2.2.2.2.2.2.2.2) hS c (zG_obj hs hf) h1 k h2 (C.2.2.2.2.2.2.1 _ h3) (fun x h => h) g4 g5 hn hfit ?_ hd (fun H1 locs1 hP1 _ hS1 => ?_)
  · have := zfs_at (ad := E.2.2.1) (σ := σ) (c := c) hf
    exact (List.getElem?_eq_some_iff.mp this).1
  · have e1 : (zG E.2.2.1 E.2.2.2 σ).set c (E.2.2.1 c, .inr (ci, (zfs E.2.2.1 σ c 0 fs).set k (.long v))) = zG E.2.2.1 E.2.2.2 (wL σ c k v) := zG_set (gs_obj hs hf) (fun c' h => wJ_o h) (by rw [hs, zfs_setL hf]; rfl)
    rw [e1] at hP1
    exact kk p e s m args below meth c' H1 locs1 ls C hP1 hS1 hl
theorem V_iald {pc c N b : Nat} {i : Int32} (hd : decode M.2.1 pc = .ok (.iaload, 1)) (hs : gs c = .inl (0, N, b)) (hi : vp_in i N) (kk : V E d M post (pc + 1) lv (.int (σ.1 c i.toNatClampNeg) :: st) σ) : V E d M post pc lv (.int i :: .ref c :: st) σ :=
  fun p e s m args below meth c' H locs ls C hP hS hl => va_iald C.1 C.2.1 C.2.2.2.2.2.2.2.1.1 hP c 0 (zG_arr hs) rfl hi hd (kk p e s m args below meth c' H locs ls C hP hS hl)
theorem V_lald {pc c N b : Nat} {i : Int32} (hd : decode M.2.1 pc = .ok (.laload, 1)) (hs : gs c = .inl (1, N, b)) (hi : vp_in i N) (kk : V E d M post (pc + 1) lv (.long (σ.2 c i.toNatClampNeg) :: st) σ) : V E d M post pc lv (.int i :: .ref c :: st) σ :=
  fun p e s m args below meth c' H locs ls C hP hS hl => va_lald C.1 C.2.1 C.2.2.2.2.2.2.2.1.1 hP c 1 (zG_arr hs) rfl hi hd (kk p e s m args below meth c' H locs ls C hP hS hl)
theorem V_zald {pc c N b : Nat} {i : Int32} (hd : decode M.2.1 pc = .ok (.baload, 1)) (hs : gs c = .inl (2, N, b)) (hi : vp_in i N) (kk : V E d M post (pc + 1) lv (.int (σ.1 c i.toNatClampNeg) :: st) σ) : V E d M post pc lv (.int i :: .ref c :: st) σ :=
  fun p e s m args below meth c' H locs ls C hP hS hl => va_zald C.1 C.2.1 C.2.2.2.2.2.2.2.1.1 hP c 2 (zG_arr hs) rfl hi hd (kk p e s m args below meth c' H locs ls C hP hS hl)
theorem V_aald {pc c N b : Nat} {i : Int32} (hd : decode M.2.1 pc = .ok (.aaload, 1)) (hs : gs c = .inl (3, N, b)) (hi : vp_in i N) (kk : V E d M post (pc + 1) lv (.ref (b + i.toNatClampNeg) :: st) σ) : V E d M post pc lv (.int i :: .ref c :: st) σ := by
  intro p e s m args below meth c' H locs ls C hP hS hl
  have hlt : i.toNatClampNeg < N := Nat.not_le.mp fun q => hi (Or.inr q)
  have hK := C.2.2.2.2.2.2.2.1.1
  have hc := hP c _ (zG_arr hs)
  refine W.aald (ty := .array .int) C.1 C.2.1 hc ((hK.2 3 _ rfl).1 N (fun j => va_rf (some (E.2.2.1 (b + j))))) rfl (fun q => by cases q) (v := .ref (E.2.2.1 (b + i.toNatClampNeg))) ?_ ?_ rfl rfl hd (kk p e s m args below meth c' H locs ls C hP hS hl)
  · show ¬ (i < 0 ∨ (arrV _ _ _).slots.size ≤ _)
    rw [arrV_size]
    exact hi
  · show (arrV (E.2.2.2 3) N (fun j => va_rf (some (E.2.2.1 (b + j))))).slots[_]? = _
    rw [arrV_read _ _ hlt]
    rfl
theorem V_iast {pc c N b : Nat} {i x : Int32} (hd : decode M.2.1 pc = .ok (.iastore, 1)) (hs : gs c = .inl (0, N, b)) (hi : vp_in i N) (kk : V E d M post (pc + 1) lv st (wI σ c i.toNatClampNeg x)) : V E d M post pc lv (.int x :: .int i :: .ref c :: st) σ := by
  intro p e s m args below meth c' H locs ls C hP hS hl
  refine va_iast C.1 C.2.1 C.2.2.2.2.2.2.2.1.1 hP (zD C.2.2.2.2.2.2.2.2) hS c 0 (zG_arr hs) rfl hi hd (fun H1 locs1 hP1 _ hS1 => ?_)
  have e1 : (zG E.2.2.1 E.2.2.2 σ).set c (E.2.2.1 c, .inl (E.2.2.2 0, N, .inl (upd (σ.1 c) i.toNatClampNeg x))) = zG E.2.2.1 E.2.2.2 (wI σ c i.toNatClampNeg x) := zG_set (gs_arr hs) (fun c' h => wA_o h) (by rw [hs]; simp [zce, zar, wI, wA])
  rw [e1] at hP1
  exact kk p e s m args below meth c' H1 locs1 ls C hP1 hS1 hl
theorem V_zast {pc c N b : Nat} {i x : Int32} (hd : decode M.2.1 pc = .ok (.bastore, 1)) (hs : gs c = .inl (2, N, b)) (hi : vp_in i N) (hx : vp_nar .boolean x = x) (kk : V E d M post (pc + 1) lv st (wI σ c i.toNatClampNeg x)) : V E d M post pc lv (.int x :: .int i :: .ref c :: st) σ := by
  intro p e s m args below meth c' H locs ls C hP hS hl
  refine va_zast C.1 C.2.1 C.2.2.2.2.2.2.2.1.1 hP (zD C.2.2.2.2.2.2.2.2) hS c 2 (zG_arr hs) rfl hi hd (fun H1 locs1 hP1 _ hS1 => ?_)
  rw [hx] at hP1
  have e1 : (zG E.2.2.1 E.2.2.2 σ).set c (E.2.2.1 c, .inl (E.2.2.2 2, N, .inl (upd (σ.1 c) i.toNatClampNeg x))) = zG E.2.2.1 E.2.2.2 (wI σ c i.toNatClampNeg x) := zG_set (gs_arr hs) (fun c' h => wA_o h) (by rw [hs]; simp [zce, zar, wI, wA])
  rw [e1] at hP1
  exact kk p e s m args below meth c' H1 locs1 ls C hP1 hS1 hl
theorem V_last {pc c N b : Nat} {i : Int32} {x : Int64} (hd : decode M.2.1 pc = .ok (.lastore, 1)) (hs : gs c = .inl (1, N, b)) (hi : vp_in i N) (kk : V E d M post (pc + 1) lv st (wL σ c i.toNatClampNeg x)) : V E d M post pc lv (.long x :: .int i :: .ref c :: st) σ := by
  intro p e s m args below meth c' H locs ls C hP hS hl
  refine va_last C.1 C.2.1 C.2.2.2.2.2.2.2.1.1 hP (zD C.2.2.2.2.2.2.2.2) hS c 1 (zG_arr hs) rfl hi hd (fun H1 locs1 hP1 _ hS1 => ?_)
  have e1 : (zG E.2.2.1 E.2.2.2 σ).set c (E.2.2.1 c, .inl (E.2.2.2 1, N, .inr (.inl (vp_updL (σ.2 c) i.toNatClampNeg x)))) = zG E.2.2.1 E.2.2.2 (wL σ c i.toNatClampNeg x) := zG_set (gs_arr hs) (fun c' h => wJ_o h) (by rw [hs]; simp [zce, zar, wL, wJ])
  rw [e1] at hP1
  exact kk p e s m args below meth c' H1 locs1 ls C hP1 hS1 hl
theorem V_alen {pc c t N b : Nat} {v : Int32} (ht : t < 3) (hd : decode M.2.1 pc = .ok (.arraylength, 1)) (hs : gs c = .inl (t, N, b)) (hv : Int32.ofNat N = v) (kk : V E d M post (pc + 1) lv (.int v :: st) σ) : V E d M post pc lv (.ref c :: st) σ := by
  intro p e s m args below meth c' H locs ls C hP hS hl
  match t, ht with
  | 0, _ => exact va_alen C.1 C.2.1 C.2.2.2.2.2.2.2.1.1 hP c 0 (zG_arr hs) rfl hv hd (kk p e s m args below meth c' H locs ls C hP hS hl)
  | 1, _ => exact va_alen C.1 C.2.1 C.2.2.2.2.2.2.2.1.1 hP c 1 (zG_arr hs) rfl hv hd (kk p e s m args below meth c' H locs ls C hP hS hl)
  | 2, _ => exact va_alen C.1 C.2.1 C.2.2.2.2.2.2.2.1.1 hP c 2 (zG_arr hs) rfl hv hd (kk p e s m args below meth c' H locs ls C hP hS hl)
/-! ENDS -/
def pI (P : Int32 → Sto → Prop) : Po := fun r τ => ∃ x : Int32, r = some (.int x) ∧ P x τ
def pL (P : Int64 → Sto → Prop) : Po := fun r τ => ∃ x : Int64, r = some (.long x) ∧ P x τ
def pV (P : Sto → Prop) : Po := fun r τ => r = none ∧ P τ
def b2i (b : Bool) : Int32 := if b then 1 else 0
def pB (P : Bool → Sto → Prop) : Po := fun r τ => ∃ x : Bool, r = some (.int (b2i x)) ∧ P x τ
theorem V_iret {P : Int32 → Sto → Prop} {pc : Nat} {v : Int32} (hd : decode M.2.1 pc = .ok (.ireturn, 1)) (hr : M.2.2.2 = some .int) (h : P v σ) : V E d M (pI P) pc lv [.int v] σ :=
  fun p e s m args below meth c H locs ls C hP hS hl => W.iret C.1 C.2.1 (C.2.2.2.1.trans hr) (fun t ht _ => ⟨some (.int v), σ, rfl, ⟨v, rfl, h⟩, by rw [ht]; exact hP, by rw [ht]; exact hS.1, fun q h1 h2 => by rw [ht]; exact hS.2.1 q h1 h2⟩) (fun q hq => hS.2.2 q hq) hd C.2.2.2.2.1
theorem V_lret {P : Int64 → Sto → Prop} {pc : Nat} {v : Int64} (hd : decode M.2.1 pc = .ok (.lreturn, 1)) (hr : M.2.2.2 = some .long) (h : P v σ) : V E d M (pL P) pc lv [.long v] σ :=
  fun p e s m args below meth c H locs ls C hP hS hl => W.lret C.1 C.2.1 (C.2.2.2.1.trans hr) (fun t ht _ => ⟨some (.long v), σ, rfl, ⟨v, rfl, h⟩, by rw [ht]; exact hP, by rw [ht]; exact hS.1, fun q h1 h2 => by rw [ht]; exact hS.2.1 q h1 h2⟩) (fun q hq => hS.2.2 q hq) hd C.2.2.2.2.1
theorem V_vret {P : Sto → Prop} {pc : Nat} (hd : decode M.2.1 pc = .ok (.return_, 1)) (hr : M.2.2.2 = none) (h : P σ) : V E d M (pV P) pc lv [] σ :=
  fun p e s m args below meth c H locs ls C hP hS hl => W.vret C.1 C.2.1 (C.2.2.2.1.trans hr) (fun t ht _ => ⟨none, σ, rfl, ⟨rfl, h⟩, by rw [ht]; exact hP, by rw [ht]; exact hS.1, fun q h1 h2 => by rw [ht]; exact hS.2.1 q h1 h2⟩) (fun q hq => hS.2.2 q hq) hd C.2.2.2.2.1
theorem V_zret {P : Bool → Sto → Prop} {pc : Nat} {v : Int32} (b : Bool) (hv : v = b2i b) (hd : decode M.2.1 pc = .ok (.ireturn, 1)) (hr : M.2.2.2 = some .boolean) (h : P b σ) : V E d M (pB P) pc lv [.int v] σ := by
  subst hv
  exact fun p e s m args below meth c H locs ls C hP hS hl => W.zret C.1 C.2.1 (C.2.2.2.1.trans hr) (by cases b <;> rfl) (fun t ht _ => ⟨some (.int (b2i b)), σ, rfl, ⟨b, rfl, h⟩, by rw [ht]; exact hP, by rw [ht]; exact hS.1, fun q h1 h2 => by rw [ht]; exact hS.2.1 q h1 h2⟩) (fun q hq => hS.2.2 q hq) hd C.2.2.2.2.1
theorem b2i_0 {b : Bool} : b2i b = 0 ↔ b = false := by cases b <;> simp [b2i]
theorem V_ifz {pc tgt : Nat} {off : Int} {b : Bool} (hd : decode M.2.1 pc = .ok (.ifCond .eq off, 3)) (ht : (pc : Int) + off = (tgt : Int)) (kt : b = false → V E d M post tgt lv st σ) (kf : b = true → V E d M post (pc + 3) lv st σ) : V E d M post pc lv (.int (b2i b) :: st) σ :=
  V_if_eq hd ht (fun h => kt (b2i_0.mp h)) (fun h => kf (by cases b; exact absurd rfl h; rfl))
theorem V_ifnz {pc tgt : Nat} {off : Int} {b : Bool} (hd : decode M.2.1 pc = .ok (.ifCond .ne off, 3)) (ht : (pc : Int) + off = (tgt : Int)) (kt : b = true → V E d M post tgt lv st σ) (kf : b = false → V E d M post (pc + 3) lv st σ) : V E d M post pc lv (.int (b2i b) :: st) σ :=
  V_if_ne hd ht (fun h => kt (by cases b; exact absurd rfl h; rfl)) (fun h => kf (b2i_0.mp h))
/-! CALLS -/
def zP (E : Ev) (As : List Value) (σ : Sto) : Array Value → State → Prop := fun v U => v = (As.map (tr E.2.2.1)).toArray ∧ zK E.2.1 E.2.2.2 U ∧ zinj E.2.2.1 ∧ va_P E.2.1 vwCl (zG E.2.2.1 E.2.2.2 σ) U.heap
def wsM (M : Mt) : List Cond := .code M.1 M.2.1 M.2.2.1 M.2.2.2 :: gt
theorem lv_args_tr (ad : Nat → Nat) : ∀ (As : List Value) (i : Nat), lv_args i (As.map (tr ad)) = trL ad (lv_args i As)
  | [], i => rfl
  | a :: t, i => by
    show (i, tr ad a) :: lv_args (if (tr ad a).category = 2 then i + 2 else i + 1) (t.map (tr ad)) = (i, tr ad a) :: trL ad (lv_args (if a.category = 2 then i + 2 else i + 1) t)
    rw [tr_cat, lv_args_tr ad t]
theorem lg_sl_tr (ad : Nat → Nat) : ∀ (As : List Value), (lg_sl (As.map (tr ad))).length = (lg_sl As).length
  | [] => rfl
  | a :: t => by
    have ih := lg_sl_tr ad t
    unfold lg_sl at ih ⊢
    rw [List.map_cons, List.flatMap_cons, List.flatMap_cons, List.length_append, List.length_append, ih, tr_cat]
    by_cases h : a.category = 2 <;> simp [h]
theorem met_ofWF {l : Launch} {y : MethodName} {ws ws' : List Cond} {rm : Room} {Pc : Array Value → State → Prop} {Qc : Array Value → State → Outcome → State → Prop} {mc ms : Nat} {free : Addr → Prop} {cc : ByteArray} {maxL : Nat} {ret : Option FieldType}
    (hy : plainFor y = true) (hw : ws = Cond.code y cc maxL ret :: ws')
    (body : ∀ p e s m args below meth c s₁, BodyLoose p l y (headSpec ws rm) cc maxL ret e s m args below meth c s₁ → c.maxLocals = maxL → Pc args s →
      W p l e (headSpec ws rm).room s m args below meth c s.heap [] 0 0 (MQ below Qc args s mc ms free) (entryFrame m args maxL)) : Met l y ws rm Pc Qc mc ms free := by
  refine MetFree.of_bodySF (code := cc) (maxLocals := maxL) (ret := ret) hy ?_ ?_
  · intro args s m h hn
    obtain ⟨meth, c, h1, h2, h3, h4, h5, h6, -, -⟩ := Cond.code_spec hn (atoms_spec (ws := ws) h _ (by rw [hw]; exact List.mem_cons_self))
    exact ⟨meth, c, h1, h2, h3, h4, h5, h6⟩
  · intro p e s m args below meth c s₁ B hml hP _
    have hh0 : s₁.heap = s.heap := by rw [B.state]; rfl
    obtain ⟨t, a1, o, b1, b2, b3⟩ := body p e s m args below meth c s₁ B hml hP s₁ hh0 (Stand.of_body B)
    exact ⟨t, o, a1, b1, b2, ⟨b3.1, b3.2⟩⟩
theorem V_met (As : List Value) (hy : plainFor M.1 = true) (hlen : (lg_sl As).length ≤ M.2.2.1) (h : V E d M post 0 (lv_args 0 As) [] σ) : Met E.1 M.1 (wsM M) (rmD d) (zP E As σ) (zQ E post) 0 0 (zA E.2.2.1) := by
  refine met_ofWF (cc := M.2.1) (maxL := M.2.2.1) (ret := M.2.2.2) hy rfl ?_
  intro p e s m args below meth c s₁ B hml hv
  obtain ⟨rfl, hK, hinj, hP⟩ := hv
  have hts := atoms_spec (ws := wsM M) B.pre
  have hl := lv_entry (As.map (tr E.2.2.1)) (n := M.2.2.1) (by rw [lg_sl_tr]; exact hlen)
  rw [lg_entry_eq]
  rw [lv_args_tr] at hl
  exact h p e s m _ below meth c s.heap [] _ ⟨B.exec, B.bytes, hml, B.returns, B.notSynchronized, findClass_of_methodNamed B.named, fun w hw => hts w (List.mem_cons_of_mem _ hw), hK, hinj⟩ hP va_S.rf hl
theorem gt_good {M' : Mt} (hc : Cond.code M'.1 M'.2.1 M'.2.2.1 M'.2.2.2 ∈ gt) : GoodIn gt (wsM M') := by
  have h0 : ∀ w ∈ gt, w ∈ gt ∧ ((w.onTables && w.keeps) = true ∨ ∃ ty, w = .arrayClass ty) := fun w hw => ⟨hw, good_of_word (List.all_eq_true.mp gt_all w hw)⟩
  intro w hw
  rcases List.mem_cons.mp hw with rfl | hw
  · exact h0 _ hc
  · exact h0 _ hw
theorem zP_blind {As : List Value} : FrameBlind (zP E As σ) := fun a U g mk q => ⟨q.1, q.2.1.same rfl, q.2.2.1, q.2.2.2⟩
theorem V_run {d' : Nat} {M' : Mt} {post' : Po} {pc : Nat} {stk rest : List Value} {As : List Value}
    (hr : ∀ (p : Program) (e : Env) (s : State) (m : MethodId) (args : Array Value) (below : List Frame) (meth : Method) (c : Code) (H : Heap) (locs : List Loc) (ls : Array Slot), Cx E M p s m args meth c → va_P E.2.1 vwCl (zG E.2.2.1 E.2.2.2 σ) H → lv_has ls M.2.2.1 (trL E.2.2.1 lv) → va_Run p E.1 e (rmD d) s m args below meth c H locs 0 0 0 0 (F0 m pc ls (stk.map (tr E.2.2.1))) (rest.map (tr E.2.2.1)) (zQ E post' (As.map (tr E.2.2.1)).toArray) (zA E.2.2.1))
    (kk : ∀ (r : Option Value) (τ : Sto), post' r τ → (∀ a, r ≠ some (.ref a)) ∧ V E d M post (pc + 3) lv (r.toList ++ rest) τ) : V E d M post pc lv stk σ := by
  intro p e s m args below meth c H locs ls C hP hS hl T hT X
  obtain ⟨v, st₀, t, T', L, h0, X', hL, e1, e2, ⟨r, τ, hv, hpost, hP', hz, hk⟩, hgo⟩ := hr p e s m args below meth c H locs ls C hP hl T hT X
  cases hv
  rw [h0] at hz hk
  obtain ⟨hnr, hV⟩ := kk v τ hpost
  have hS1 : va_S (zA E.2.2.1) s.heap T'.heap (locs ++ L) := ⟨Nat.le_trans hS.1 (by rw [e1]; exact hz), fun q h1 h2 => by rw [e1, hk q (Nat.lt_of_lt_of_le h1 hS.1) h2]; exact hS.2.1 q h1 h2, fun q hq => by
      rcases List.mem_append.mp hq with h | h
      · exact hS.2.2 q h
      · exact hL q h⟩
  obtain ⟨t2, a1, b1⟩ := hV p e s m args below meth c T'.heap (locs ++ L) ls C (by rw [e1]; exact hP') hS1 hl T' rfl X'
  refine ⟨t2, hgo t2 ?_, b1⟩
  have e3 : (v.toList ++ rest).map (tr E.2.2.1) = v.toList ++ rest.map (tr E.2.2.1) := by
    cases v with
    | none => rfl
    | some x => cases x with
      | ref a => exact absurd rfl (hnr a)
      | _ => rfl
  rw [e3] at a1
  exact a1
theorem rm_fit {d d' n : Nat} (h : d' < d) (hn : n ≤ 40) : (rmD d').frames + 1 ≤ (rmD d).frames ∧ 8 + (n + 11) + (rmD d').locals ≤ (rmD d).locals := ⟨by show d' + 1 + 1 ≤ d + 1; omega, by show 8 + (n + 11) + 64 * (d' + 1) ≤ 64 * (d + 1); omega⟩
theorem map_cat {ad : Nat → Nat} (l : List Value) : (l.map (tr ad)).map (fun v => v.category) = l.map (fun v => v.category) := by
  rw [List.map_map]
  apply List.map_congr_left
  intro v _
  exact tr_cat ad v
theorem take_rev (stk : List Value) (n : Nat) (ad : Nat → Nat) : stk.map (tr ad) = (((stk.take n).reverse).map (tr ad)).reverse ++ (stk.drop n).map (tr ad) := by
  rw [← List.map_reverse, List.reverse_reverse, ← List.map_append, List.take_append_drop]
theorem V_callS {d' : Nat} {M' : Mt} {post' : Po} {pc idx n : Nat} {stk : List Value} (hd : decode M.2.1 pc = .ok (.invokestatic idx, 3)) (L : Cond.methodLink M.1.cls idx M'.1 ∈ gt) (S : Cond.static M'.1 ∈ gt) (K : kOk n M') (hdep : d' < d) (hn : ((stk.take n).reverse).length = n) (hlen : (lg_sl (stk.take n).reverse).length ≤ M'.2.2.1) (hroom : ((stk.drop n).map fun v => v.category).sum ≤ 8)
    (hb : V E d' M' post' 0 (lv_args 0 (stk.take n).reverse) [] σ) (kk : ∀ (r : Option Value) (τ : Sto), post' r τ → (∀ a, r ≠ some (.ref a)) ∧ V E d M post (pc + 3) lv (r.toList ++ stk.drop n) τ) : V E d M post pc lv stk σ := by
  refine V_run (d' := d') (M' := M') (As := (stk.take n).reverse) (rest := stk.drop n) ?_ kk
  intro p e s m args below meth c H locs ls C hP hl
  have hts := C.2.2.2.2.2.2.1
  exact va_runS (As := ((stk.take n).reverse).map (tr E.2.2.1)) ⟨C.1, C.2.1, C.2.2.1, C.2.2.2.2.2.1, hts⟩ (V_met _ K.2.2.2.2 hlen hb) ⟨callB_of n hts (gt_good K.2.1) rfl rfl rfl (hts _ K.1) (hts _ L) K.2.2.1 (rm_fit hdep K.2.2.2.1), hts _ S⟩ ⟨zP_blind, fun U hU hW => ⟨rfl, C.2.2.2.2.2.2.2.1.warm hW, C.2.2.2.2.2.2.2.2, by rw [hU]; exact hP⟩⟩ rfl (by rw [List.length_map]; exact hn) hl.1 (take_rev stk n _) (lv_room (by rw [map_cat]; exact hroom)) hd ⟨Nat.zero_le _, Nat.zero_le _⟩
theorem V_callN {d' : Nat} {M' : Mt} {post' : Po} {pc idx n : Nat} {host : String} {stk : List Value} (hd : decode M.2.1 pc = .ok (.invokestatic idx, 3)) (L : (M.1.cls, idx, M'.1, host) ∈ neL) (S : Cond.static M'.1 ∈ gt) (K : kOk n M') (hdep : d' < d) (hn : ((stk.take n).reverse).length = n) (hlen : (lg_sl (stk.take n).reverse).length ≤ M'.2.2.1) (hroom : ((stk.drop n).map fun v => v.category).sum ≤ 8)
    (hb : V E d' M' post' 0 (lv_args 0 (stk.take n).reverse) [] σ) (kk : ∀ (r : Option Value) (τ : Sto), post' r τ → (∀ a, r ≠ some (.ref a)) ∧ V E d M post (pc + 3) lv (r.toList ++ stk.drop n) τ) : V E d M post pc lv stk σ := by
  refine V_run (d' := d') (M' := M') (As := (stk.take n).reverse) (rest := stk.drop n) ?_ kk
  intro p e s m args below meth c H locs ls C hP hl
  have hts := C.2.2.2.2.2.2.1
  exact va_runSN (As := ((stk.take n).reverse).map (tr E.2.2.1)) ⟨C.1, C.2.1, C.2.2.1, C.2.2.2.2.2.1, hts⟩ (V_met _ K.2.2.2.2 hlen hb) ⟨va_cnB n hts (gt_good K.2.1) rfl rfl rfl (C.2.2.2.2.2.2.2.1.2 _ L) (hts _ K.1) K.2.2.1 (rm_fit hdep K.2.2.2.1), hts _ S, trivial⟩ ⟨zP_blind, fun U hU hW => ⟨rfl, C.2.2.2.2.2.2.2.1.warm hW, C.2.2.2.2.2.2.2.2, by rw [hU]; exact hP⟩⟩ rfl (by rw [List.length_map]; exact hn) hl.1 (take_rev stk n _) (lv_room (by rw [map_cat]; exact hroom)) hd ⟨Nat.zero_le _, Nat.zero_le _⟩
theorem V_callV {d' : Nat} {M' : Mt} {post' : Po} {pc idx n ci b : Nat} {fs : List Nat} {stk : List Value} (hd : decode M.2.1 pc = .ok (.invokevirtual idx, 3)) (L : Cond.methodLink M.1.cls idx M'.1 ∈ gt) (S : vOk ci M') (K : kOk n M') (hs : gs b = .inr (ci, fs)) (hbN : b < gN) (hdep : d' < d) (hn : ((stk.take n).reverse).length = n) (hb0 : stk[n]? = some (.ref b)) (hlen : (lg_sl (.ref b :: (stk.take n).reverse)).length ≤ M'.2.2.1) (hroom : ((stk.drop (n + 1)).map fun v => v.category).sum ≤ 8)
    (hb : V E d' M' post' 0 (lv_args 0 (.ref b :: (stk.take n).reverse)) [] σ) (kk : ∀ (r : Option Value) (τ : Sto), post' r τ → (∀ a, r ≠ some (.ref a)) ∧ V E d M post (pc + 3) lv (r.toList ++ stk.drop (n + 1)) τ) : V E d M post pc lv stk σ := by
  refine V_run (d' := d') (M' := M') (As := .ref b :: (stk.take n).reverse) (rest := stk.drop (n + 1)) ?_ kk
  intro p e s m args below meth c H locs ls C hP hl
  have hts := C.2.2.2.2.2.2.1
  obtain ⟨S1, S2, q, S3, S4⟩ := S
  have hcell := zG_get (ad := E.2.2.1) (cA := E.2.2.2) (σ := σ) hbN
  rw [hs] at hcell
  have hrec := va_recv C.2.2.2.2.2.2.2.1.1 hP S3 hcell
  rw [S4] at hrec
  have hstk : stk = stk.take n ++ .ref b :: stk.drop (n + 1) := by
    have h1 := List.drop_eq_getElem?_toList_append (l := stk) (i := n)
    rw [hb0] at h1
    conv => lhs; rw [← List.take_append_drop n stk, h1]
    rfl
  exact va_runV (C := M'.1.cls) (b := E.2.2.1 b) (As := ((stk.take n).reverse).map (tr E.2.2.1)) ⟨C.1, C.2.1, C.2.2.1, C.2.2.2.2.2.1, hts⟩ (V_met (.ref b :: (stk.take n).reverse) K.2.2.2.2 hlen hb) ⟨callB_of n hts (gt_good K.2.1) rfl rfl rfl (hts _ K.1) (hts _ L) K.2.2.1 (rm_fit hdep K.2.2.2.1), hts _ S1, hts _ S2⟩ ⟨zP_blind, hrec, fun U hU hW => ⟨rfl, C.2.2.2.2.2.2.2.1.warm hW, C.2.2.2.2.2.2.2.2, by rw [hU]; exact hP⟩⟩ rfl (by rw [List.length_map]; exact hn) hl.1 (by
    conv => lhs; rw [hstk]
    rw [List.map_append, ← List.map_reverse, List.reverse_reverse]
    rfl) (lv_room (by rw [map_cat]; exact hroom)) hd ⟨Nat.zero_le _, Nat.zero_le _⟩
theorem kI {P : Int32 → Sto → Prop} {R : Option Value → Sto → Prop} (h : ∀ x τ, P x τ → R (some (.int x)) τ) : ∀ r τ, pI P r τ → (∀ a, r ≠ some (.ref a)) ∧ R r τ := fun r τ hp => by
  obtain ⟨x, rfl, hx⟩ := hp
  exact ⟨fun a q => (by cases q), h x τ hx⟩
theorem kL {P : Int64 → Sto → Prop} {R : Option Value → Sto → Prop} (h : ∀ x τ, P x τ → R (some (.long x)) τ) : ∀ r τ, pL P r τ → (∀ a, r ≠ some (.ref a)) ∧ R r τ := fun r τ hp => by
  obtain ⟨x, rfl, hx⟩ := hp
  exact ⟨fun a q => (by cases q), h x τ hx⟩
theorem kB {P : Bool → Sto → Prop} {R : Option Value → Sto → Prop} (h : ∀ x τ, P x τ → R (some (.int (b2i x))) τ) : ∀ r τ, pB P r τ → (∀ a, r ≠ some (.ref a)) ∧ R r τ := fun r τ hp => by
  obtain ⟨x, rfl, hx⟩ := hp
  exact ⟨fun a q => (by cases q), h x τ hx⟩
theorem kV {P : Sto → Prop} {R : Option Value → Sto → Prop} (h : ∀ τ, P τ → R none τ) : ∀ r τ, pV P r τ → (∀ a, r ≠ some (.ref a)) ∧ R r τ := fun r τ hp => by
  obtain ⟨rfl, hx⟩ := hp
  exact ⟨fun a q => (by cases q), h τ hx⟩
theorem vp_lt {i : Int32} {n : Nat} (h : vp_in i n) : i.toNatClampNeg < n := Nat.not_le.mp fun q => h (Or.inr q)
theorem V_copy {pc idx c0 c1 N0 N1 b0 b1 : Nat} {sp dp n : Int32} (hd : decode M.2.1 pc = .ok (.invokestatic idx, 3)) (L : Cond.methodLink M.1.cls idx arraycopyName ∈ gt) (hnat : Cond.native arraycopyName ∈ gt) (hst : Cond.static arraycopyName ∈ gt) (hini : Cond.initialized "java/lang/System" ∈ gt) (hs0 : gs c0 = .inl (0, N0, b0)) (hs1 : gs c1 = .inl (0, N1, b1))
    (h : (¬ sp < 0 ∧ ¬ dp < 0 ∧ ¬ n < 0) ∧ sp.toNatClampNeg + n.toNatClampNeg ≤ N0 ∧ dp.toNatClampNeg + n.toNatClampNeg ≤ N1) (hroom : (st.map fun v => v.category).sum ≤ 8)
    (kk : V E d M post (pc + 3) lv st (wA σ c1 (va_cpy (σ.1 c0) (σ.1 c1) sp.toNatClampNeg dp.toNatClampNeg n.toNatClampNeg))) : V E d M post pc lv (.int n :: .int dp :: .ref c1 :: .int sp :: .ref c0 :: st) σ := by
  intro p e s m args below meth c' H locs ls C hP hS hl
  have hts := C.2.2.2.2.2.2.1
  refine va_copyi C.1 C.2.1 (C.2.2.1.trans hl.1.symm) C.2.2.2.2.2.1 (hts _ L) (hts _ hnat) (hts _ hst) (hts _ hini) C.2.2.2.2.2.2.2.1.1 hP (zD C.2.2.2.2.2.2.2.2) hS c0 c1 0 0 (ty := .int) (zG_arr hs0) (zG_arr hs1) rfl rfl rfl h.1.1 h.1.2.1 h.1.2.2 h.2.1 h.2.2 (fun i _ => rfl) (by show 1 ≤ d + 1; omega) ?_ hd (fun H1 locs1 hP1 _ hS1 => ?_)
  · rw [map_cat]
    have : nativeFrameWords "java/lang/System" "arraycopy" 5 ≤ 40 := by decide +kernel
    show _ ≤ 64 * (d + 1)
    omega
  · have e1 : (zG E.2.2.1 E.2.2.2 σ).set c1 (E.2.2.1 c1, .inl (E.2.2.2 0, N1, .inl (va_cpy (σ.1 c0) (σ.1 c1) sp.toNatClampNeg dp.toNatClampNeg n.toNatClampNeg))) = zG E.2.2.1 E.2.2.2 (wA σ c1 (va_cpy (σ.1 c0) (σ.1 c1) sp.toNatClampNeg dp.toNatClampNeg n.toNatClampNeg)) := zG_set (gs_arr hs1) (fun c' h => wA_o h) (by rw [hs1]; simp [zce, zar, wA])
    rw [e1] at hP1
    exact kk p e s m args below meth c' H1 locs1 ls C hP1 hS1 hl
end VF
end
