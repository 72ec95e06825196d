section
-- PART A of the skeleton and the printed names (starting texts)
-- ===== PART A: goes FIRST, ahead of the names: the tables' words, and 'selects' of the private methods out of them =====
/-- a private method of a class that the tables say can be made, by its rows of tables_1 -/
def lw_okq (q : MethodName × Nat) : Prop := (q.1.cls ≠ "java/lang/invoke/MethodHandle" ∧ q.1.cls ≠ "java/lang/invoke/VarHandle") ∧ Cond.instantiable q.1.cls q.2 ∈ tables_1 ∧ Cond.privateMethod q.1 ∈ tables_1 ∧ Cond.instanceMethod q.1 ∈ tables_1
theorem lw_p0 : lw_okq (⟨"HeavierSide", "rowOf", "(I)LHeavierSide$Row;"⟩, 11) := ⟨⟨by decide +kernel, by decide +kernel⟩, List.mem_of_getElem? (i := 18) (by decide +kernel), List.mem_of_getElem? (i := 367) (by decide +kernel), List.mem_of_getElem? (i := 368) (by decide +kernel)⟩
theorem lw_p1 : lw_okq (⟨"HeavierSide", "placeRefused", "(LHeavierSide$Row;I)I"⟩, 11) := ⟨⟨by decide +kernel, by decide +kernel⟩, List.mem_of_getElem? (i := 18) (by decide +kernel), List.mem_of_getElem? (i := 389) (by decide +kernel), List.mem_of_getElem? (i := 390) (by decide +kernel)⟩
theorem lw_p2 : lw_okq (⟨"HeavierSide", "textOf", "(I)LHeavierSide$Text;"⟩, 11) := ⟨⟨by decide +kernel, by decide +kernel⟩, List.mem_of_getElem? (i := 18) (by decide +kernel), List.mem_of_getElem? (i := 449) (by decide +kernel), List.mem_of_getElem? (i := 450) (by decide +kernel)⟩
theorem lw_p3 : lw_okq (⟨"HeavierSide$Quarrels", "noteFoes", "(II)V"⟩, 4) := ⟨⟨by decide +kernel, by decide +kernel⟩, List.mem_of_getElem? (i := 63) (by decide +kernel), List.mem_of_getElem? (i := 517) (by decide +kernel), List.mem_of_getElem? (i := 518) (by decide +kernel)⟩
theorem lw_p4 : lw_okq (⟨"HeavierSide$Text", "figureAt", "(I)I"⟩, 2) := ⟨⟨by decide +kernel, by decide +kernel⟩, List.mem_of_getElem? (i := 313) (by decide +kernel), List.mem_of_getElem? (i := 530) (by decide +kernel), List.mem_of_getElem? (i := 531) (by decide +kernel)⟩
theorem lw_p5 : lw_okq (⟨"HeavierSide", "ofBench", "(II)I"⟩, 11) := ⟨⟨by decide +kernel, by decide +kernel⟩, List.mem_of_getElem? (i := 18) (by decide +kernel), List.mem_of_getElem? (i := 606) (by decide +kernel), List.mem_of_getElem? (i := 607) (by decide +kernel)⟩
theorem lw_p6 : lw_okq (⟨"HeavierSide", "ofGuest", "(II)I"⟩, 11) := ⟨⟨by decide +kernel, by decide +kernel⟩, List.mem_of_getElem? (i := 18) (by decide +kernel), List.mem_of_getElem? (i := 639) (by decide +kernel), List.mem_of_getElem? (i := 640) (by decide +kernel)⟩
theorem lw_p7 : lw_okq (⟨"HeavierSide$Deeds", "forgetFirst", "()V"⟩, 4) := ⟨⟨by decide +kernel, by decide +kernel⟩, List.mem_of_getElem? (i := 150) (by decide +kernel), List.mem_of_getElem? (i := 727) (by decide +kernel), List.mem_of_getElem? (i := 728) (by decide +kernel)⟩
theorem lw_p8 : lw_okq (⟨"HeavierSide", "worstMinute", "()I"⟩, 11) := ⟨⟨by decide +kernel, by decide +kernel⟩, List.mem_of_getElem? (i := 18) (by decide +kernel), List.mem_of_getElem? (i := 845) (by decide +kernel), List.mem_of_getElem? (i := 846) (by decide +kernel)⟩
theorem lw_p9 : lw_okq (⟨"HeavierSide", "sizeIn", "(I)I"⟩, 11) := ⟨⟨by decide +kernel, by decide +kernel⟩, List.mem_of_getElem? (i := 18) (by decide +kernel), List.mem_of_getElem? (i := 849) (by decide +kernel), List.mem_of_getElem? (i := 850) (by decide +kernel)⟩
theorem lw_p10 : lw_okq (⟨"HeavierSide", "seatingsRefused", "()I"⟩, 11) := ⟨⟨by decide +kernel, by decide +kernel⟩, List.mem_of_getElem? (i := 18) (by decide +kernel), List.mem_of_getElem? (i := 862) (by decide +kernel), List.mem_of_getElem? (i := 863) (by decide +kernel)⟩
theorem lw_p11 : lw_okq (⟨"HeavierSide$Seatings", "reckonMoments", "(I)V"⟩, 15) := ⟨⟨by decide +kernel, by decide +kernel⟩, List.mem_of_getElem? (i := 184) (by decide +kernel), List.mem_of_getElem? (i := 874) (by decide +kernel), List.mem_of_getElem? (i := 875) (by decide +kernel)⟩
theorem lw_p12 : lw_okq (⟨"HeavierSide$Seatings", "momentIn", "(III)I"⟩, 15) := ⟨⟨by decide +kernel, by decide +kernel⟩, List.mem_of_getElem? (i := 184) (by decide +kernel), List.mem_of_getElem? (i := 878) (by decide +kernel), List.mem_of_getElem? (i := 879) (by decide +kernel)⟩
theorem lw_p13 : lw_okq (⟨"HeavierSide$Seatings", "startIn", "(I)I"⟩, 15) := ⟨⟨by decide +kernel, by decide +kernel⟩, List.mem_of_getElem? (i := 184) (by decide +kernel), List.mem_of_getElem? (i := 887) (by decide +kernel), List.mem_of_getElem? (i := 888) (by decide +kernel)⟩
theorem lw_p14 : lw_okq (⟨"HeavierSide$Seatings", "tryComer", "(IIII)V"⟩, 15) := ⟨⟨by decide +kernel, by decide +kernel⟩, List.mem_of_getElem? (i := 184) (by decide +kernel), List.mem_of_getElem? (i := 892) (by decide +kernel), List.mem_of_getElem? (i := 893) (by decide +kernel)⟩
theorem lw_p15 : lw_okq (⟨"HeavierSide$Seatings", "noteSeating", "(I)V"⟩, 15) := ⟨⟨by decide +kernel, by decide +kernel⟩, List.mem_of_getElem? (i := 184) (by decide +kernel), List.mem_of_getElem? (i := 898) (by decide +kernel), List.mem_of_getElem? (i := 899) (by decide +kernel)⟩
def lw_privs_1 : List (MethodName × Nat) := [(⟨"HeavierSide", "rowOf", "(I)LHeavierSide$Row;"⟩, 11), (⟨"HeavierSide", "placeRefused", "(LHeavierSide$Row;I)I"⟩, 11), (⟨"HeavierSide", "textOf", "(I)LHeavierSide$Text;"⟩, 11), (⟨"HeavierSide$Quarrels", "noteFoes", "(II)V"⟩, 4), (⟨"HeavierSide$Text", "figureAt", "(I)I"⟩, 2), (⟨"HeavierSide", "ofBench", "(II)I"⟩, 11), (⟨"HeavierSide", "ofGuest", "(II)I"⟩, 11), (⟨"HeavierSide$Deeds", "forgetFirst", "()V"⟩, 4), (⟨"HeavierSide", "worstMinute", "()I"⟩, 11), (⟨"HeavierSide", "sizeIn", "(I)I"⟩, 11), (⟨"HeavierSide", "seatingsRefused", "()I"⟩, 11), (⟨"HeavierSide$Seatings", "reckonMoments", "(I)V"⟩, 15), (⟨"HeavierSide$Seatings", "momentIn", "(III)I"⟩, 15), (⟨"HeavierSide$Seatings", "startIn", "(I)I"⟩, 15), (⟨"HeavierSide$Seatings", "tryComer", "(IIII)V"⟩, 15), (⟨"HeavierSide$Seatings", "noteSeating", "(I)V"⟩, 15)]
theorem lw_r1 : ∀ q ∈ lw_privs_1, lw_okq q := List.forall_mem_cons.mpr ⟨lw_p0, List.forall_mem_cons.mpr ⟨lw_p1, List.forall_mem_cons.mpr ⟨lw_p2, List.forall_mem_cons.mpr ⟨lw_p3, List.forall_mem_cons.mpr ⟨lw_p4, List.forall_mem_cons.mpr ⟨lw_p5, List.forall_mem_cons.mpr ⟨lw_p6, List.forall_mem_cons.mpr ⟨lw_p7, List.forall_mem_cons.mpr ⟨lw_p8, List.forall_mem_cons.mpr ⟨lw_p9, List.forall_mem_cons.mpr ⟨lw_p10, List.forall_mem_cons.mpr ⟨lw_p11, List.forall_mem_cons.mpr ⟨lw_p12, List.forall_mem_cons.mpr ⟨lw_p13, List.forall_mem_cons.mpr ⟨lw_p14, List.forall_mem_cons.mpr ⟨lw_p15, fun _ h => absurd h List.not_mem_nil⟩⟩⟩⟩⟩⟩⟩⟩⟩⟩⟩⟩⟩⟩⟩⟩
theorem lw_p16 : lw_okq (⟨"HeavierSide$Seatings", "seatComer", "(IIIII)V"⟩, 15) := ⟨⟨by decide +kernel, by decide +kernel⟩, List.mem_of_getElem? (i := 184) (by decide +kernel), List.mem_of_getElem? (i := 906) (by decide +kernel), List.mem_of_getElem? (i := 907) (by decide +kernel)⟩
theorem lw_p17 : lw_okq (⟨"HeavierSide$Leaving", "listOf", "(I)I"⟩, 6) := ⟨⟨by decide +kernel, by decide +kernel⟩, List.mem_of_getElem? (i := 240) (by decide +kernel), List.mem_of_getElem? (i := 945) (by decide +kernel), List.mem_of_getElem? (i := 946) (by decide +kernel)⟩
theorem lw_p18 : lw_okq (⟨"HeavierSide$Leaving", "whoMayLeave", "(I)I"⟩, 6) := ⟨⟨by decide +kernel, by decide +kernel⟩, List.mem_of_getElem? (i := 240) (by decide +kernel), List.mem_of_getElem? (i := 952) (by decide +kernel), List.mem_of_getElem? (i := 953) (by decide +kernel)⟩
theorem lw_p19 : lw_okq (⟨"HeavierSide$Leaving", "reachFrom", "(I)V"⟩, 6) := ⟨⟨by decide +kernel, by decide +kernel⟩, List.mem_of_getElem? (i := 240) (by decide +kernel), List.mem_of_getElem? (i := 956) (by decide +kernel), List.mem_of_getElem? (i := 957) (by decide +kernel)⟩
theorem lw_p20 : lw_okq (⟨"HeavierSide$Invitation", "tryCousin", "(III)V"⟩, 8) := ⟨⟨by decide +kernel, by decide +kernel⟩, List.mem_of_getElem? (i := 265) (by decide +kernel), List.mem_of_getElem? (i := 999) (by decide +kernel), List.mem_of_getElem? (i := 1000) (by decide +kernel)⟩
theorem lw_p21 : lw_okq (⟨"HeavierSide$Invitation", "noteCheaper", "(I)V"⟩, 8) := ⟨⟨by decide +kernel, by decide +kernel⟩, List.mem_of_getElem? (i := 265) (by decide +kernel), List.mem_of_getElem? (i := 1004) (by decide +kernel), List.mem_of_getElem? (i := 1005) (by decide +kernel)⟩
theorem lw_p22 : lw_okq (⟨"HeavierSide$Invitation", "seatCousin", "(IIII)V"⟩, 8) := ⟨⟨by decide +kernel, by decide +kernel⟩, List.mem_of_getElem? (i := 265) (by decide +kernel), List.mem_of_getElem? (i := 1009) (by decide +kernel), List.mem_of_getElem? (i := 1010) (by decide +kernel)⟩
theorem lw_p23 : lw_okq (⟨"HeavierSide", "countOf", "(I)I"⟩, 11) := ⟨⟨by decide +kernel, by decide +kernel⟩, List.mem_of_getElem? (i := 18) (by decide +kernel), List.mem_of_getElem? (i := 1073) (by decide +kernel), List.mem_of_getElem? (i := 1074) (by decide +kernel)⟩
theorem lw_p24 : lw_okq (⟨"HeavierSide", "rowsThere", "()I"⟩, 11) := ⟨⟨by decide +kernel, by decide +kernel⟩, List.mem_of_getElem? (i := 18) (by decide +kernel), List.mem_of_getElem? (i := 1082) (by decide +kernel), List.mem_of_getElem? (i := 1083) (by decide +kernel)⟩
theorem lw_p25 : lw_okq (⟨"HeavierSide", "textsThere", "()I"⟩, 11) := ⟨⟨by decide +kernel, by decide +kernel⟩, List.mem_of_getElem? (i := 18) (by decide +kernel), List.mem_of_getElem? (i := 1086) (by decide +kernel), List.mem_of_getElem? (i := 1087) (by decide +kernel)⟩
theorem lw_p26 : lw_okq (⟨"HeavierSide", "withBarge", "(J)J"⟩, 11) := ⟨⟨by decide +kernel, by decide +kernel⟩, List.mem_of_getElem? (i := 18) (by decide +kernel), List.mem_of_getElem? (i := 1108) (by decide +kernel), List.mem_of_getElem? (i := 1109) (by decide +kernel)⟩
theorem lw_p27 : lw_okq (⟨"HeavierSide", "withKept", "(J)J"⟩, 11) := ⟨⟨by decide +kernel, by decide +kernel⟩, List.mem_of_getElem? (i := 18) (by decide +kernel), List.mem_of_getElem? (i := 1112) (by decide +kernel), List.mem_of_getElem? (i := 1113) (by decide +kernel)⟩
theorem lw_p28 : lw_okq (⟨"HeavierSide", "withRows", "(J)J"⟩, 11) := ⟨⟨by decide +kernel, by decide +kernel⟩, List.mem_of_getElem? (i := 18) (by decide +kernel), List.mem_of_getElem? (i := 1118) (by decide +kernel), List.mem_of_getElem? (i := 1119) (by decide +kernel)⟩
theorem lw_p29 : lw_okq (⟨"HeavierSide", "withTexts", "(J)J"⟩, 11) := ⟨⟨by decide +kernel, by decide +kernel⟩, List.mem_of_getElem? (i := 18) (by decide +kernel), List.mem_of_getElem? (i := 1122) (by decide +kernel), List.mem_of_getElem? (i := 1123) (by decide +kernel)⟩
theorem lw_p30 : lw_okq (⟨"HeavierSideModel", "meets", "(I)I"⟩, 55) := ⟨⟨by decide +kernel, by decide +kernel⟩, List.mem_of_getElem? (i := 1127) (by decide +kernel), List.mem_of_getElem? (i := 1329) (by decide +kernel), List.mem_of_getElem? (i := 1330) (by decide +kernel)⟩
theorem lw_p31 : lw_okq (⟨"HeavierSideModel", "rowAt", "(II)I"⟩, 55) := ⟨⟨by decide +kernel, by decide +kernel⟩, List.mem_of_getElem? (i := 1127) (by decide +kernel), List.mem_of_getElem? (i := 1337) (by decide +kernel), List.mem_of_getElem? (i := 1338) (by decide +kernel)⟩
def lw_privs_2 : List (MethodName × Nat) := [(⟨"HeavierSide$Seatings", "seatComer", "(IIIII)V"⟩, 15), (⟨"HeavierSide$Leaving", "listOf", "(I)I"⟩, 6), (⟨"HeavierSide$Leaving", "whoMayLeave", "(I)I"⟩, 6), (⟨"HeavierSide$Leaving", "reachFrom", "(I)V"⟩, 6), (⟨"HeavierSide$Invitation", "tryCousin", "(III)V"⟩, 8), (⟨"HeavierSide$Invitation", "noteCheaper", "(I)V"⟩, 8), (⟨"HeavierSide$Invitation", "seatCousin", "(IIII)V"⟩, 8), (⟨"HeavierSide", "countOf", "(I)I"⟩, 11), (⟨"HeavierSide", "rowsThere", "()I"⟩, 11), (⟨"HeavierSide", "textsThere", "()I"⟩, 11), (⟨"HeavierSide", "withBarge", "(J)J"⟩, 11), (⟨"HeavierSide", "withKept", "(J)J"⟩, 11), (⟨"HeavierSide", "withRows", "(J)J"⟩, 11), (⟨"HeavierSide", "withTexts", "(J)J"⟩, 11), (⟨"HeavierSideModel", "meets", "(I)I"⟩, 55), (⟨"HeavierSideModel", "rowAt", "(II)I"⟩, 55)]
theorem lw_r2 : ∀ q ∈ lw_privs_2, lw_okq q := List.forall_mem_cons.mpr ⟨lw_p16, List.forall_mem_cons.mpr ⟨lw_p17, List.forall_mem_cons.mpr ⟨lw_p18, List.forall_mem_cons.mpr ⟨lw_p19, List.forall_mem_cons.mpr ⟨lw_p20, List.forall_mem_cons.mpr ⟨lw_p21, List.forall_mem_cons.mpr ⟨lw_p22, List.forall_mem_cons.mpr ⟨lw_p23, List.forall_mem_cons.mpr ⟨lw_p24, List.forall_mem_cons.mpr ⟨lw_p25, List.forall_mem_cons.mpr ⟨lw_p26, List.forall_mem_cons.mpr ⟨lw_p27, List.forall_mem_cons.mpr ⟨lw_p28, List.forall_mem_cons.mpr ⟨lw_p29, List.forall_mem_cons.mpr ⟨lw_p30, List.forall_mem_cons.mpr ⟨lw_p31, fun _ h => absurd h List.not_mem_nil⟩⟩⟩⟩⟩⟩⟩⟩⟩⟩⟩⟩⟩⟩⟩⟩
theorem lw_p32 : lw_okq (⟨"HeavierSideModel", "tells", "(II)I"⟩, 55) := ⟨⟨by decide +kernel, by decide +kernel⟩, List.mem_of_getElem? (i := 1127) (by decide +kernel), List.mem_of_getElem? (i := 1341) (by decide +kernel), List.mem_of_getElem? (i := 1342) (by decide +kernel)⟩
theorem lw_p33 : lw_okq (⟨"HeavierSideModel", "riteFault", "(I)I"⟩, 55) := ⟨⟨by decide +kernel, by decide +kernel⟩, List.mem_of_getElem? (i := 1127) (by decide +kernel), List.mem_of_getElem? (i := 1376) (by decide +kernel), List.mem_of_getElem? (i := 1377) (by decide +kernel)⟩
theorem lw_p34 : lw_okq (⟨"HeavierSideModel", "byteAt", "(II)I"⟩, 55) := ⟨⟨by decide +kernel, by decide +kernel⟩, List.mem_of_getElem? (i := 1127) (by decide +kernel), List.mem_of_getElem? (i := 1380) (by decide +kernel), List.mem_of_getElem? (i := 1381) (by decide +kernel)⟩
theorem lw_p35 : lw_okq (⟨"HeavierSideModel", "faultOf", "(I)I"⟩, 55) := ⟨⟨by decide +kernel, by decide +kernel⟩, List.mem_of_getElem? (i := 1127) (by decide +kernel), List.mem_of_getElem? (i := 1387) (by decide +kernel), List.mem_of_getElem? (i := 1388) (by decide +kernel)⟩
theorem lw_p36 : lw_okq (⟨"HeavierSideModel", "readsBench", "(I)Z"⟩, 55) := ⟨⟨by decide +kernel, by decide +kernel⟩, List.mem_of_getElem? (i := 1127) (by decide +kernel), List.mem_of_getElem? (i := 1391) (by decide +kernel), List.mem_of_getElem? (i := 1392) (by decide +kernel)⟩
theorem lw_p37 : lw_okq (⟨"HeavierSideModel", "figure", "(III)Z"⟩, 55) := ⟨⟨by decide +kernel, by decide +kernel⟩, List.mem_of_getElem? (i := 1127) (by decide +kernel), List.mem_of_getElem? (i := 1395) (by decide +kernel), List.mem_of_getElem? (i := 1396) (by decide +kernel)⟩
theorem lw_p38 : lw_okq (⟨"HeavierSideModel", "readsGuest", "(I)Z"⟩, 55) := ⟨⟨by decide +kernel, by decide +kernel⟩, List.mem_of_getElem? (i := 1127) (by decide +kernel), List.mem_of_getElem? (i := 1399) (by decide +kernel), List.mem_of_getElem? (i := 1400) (by decide +kernel)⟩
theorem lw_p39 : lw_okq (⟨"HeavierSideModel", "isBench", "(I)Z"⟩, 55) := ⟨⟨by decide +kernel, by decide +kernel⟩, List.mem_of_getElem? (i := 1127) (by decide +kernel), List.mem_of_getElem? (i := 1418) (by decide +kernel), List.mem_of_getElem? (i := 1419) (by decide +kernel)⟩
theorem lw_p40 : lw_okq (⟨"HeavierSideModel", "benchTells", "(II)I"⟩, 55) := ⟨⟨by decide +kernel, by decide +kernel⟩, List.mem_of_getElem? (i := 1127) (by decide +kernel), List.mem_of_getElem? (i := 1422) (by decide +kernel), List.mem_of_getElem? (i := 1423) (by decide +kernel)⟩
theorem lw_p41 : lw_okq (⟨"HeavierSideModel", "takenOn", "(I)I"⟩, 55) := ⟨⟨by decide +kernel, by decide +kernel⟩, List.mem_of_getElem? (i := 1127) (by decide +kernel), List.mem_of_getElem? (i := 1426) (by decide +kernel), List.mem_of_getElem? (i := 1427) (by decide +kernel)⟩
theorem lw_p42 : lw_okq (⟨"HeavierSideModel", "weightOn", "(I)I"⟩, 55) := ⟨⟨by decide +kernel, by decide +kernel⟩, List.mem_of_getElem? (i := 1127) (by decide +kernel), List.mem_of_getElem? (i := 1430) (by decide +kernel), List.mem_of_getElem? (i := 1431) (by decide +kernel)⟩
theorem lw_p43 : lw_okq (⟨"HeavierSideModel", "weighs", "(I)I"⟩, 55) := ⟨⟨by decide +kernel, by decide +kernel⟩, List.mem_of_getElem? (i := 1127) (by decide +kernel), List.mem_of_getElem? (i := 1434) (by decide +kernel), List.mem_of_getElem? (i := 1435) (by decide +kernel)⟩
theorem lw_p44 : lw_okq (⟨"HeavierSideModel", "setOn", "(I)I"⟩, 55) := ⟨⟨by decide +kernel, by decide +kernel⟩, List.mem_of_getElem? (i := 1127) (by decide +kernel), List.mem_of_getElem? (i := 1438) (by decide +kernel), List.mem_of_getElem? (i := 1439) (by decide +kernel)⟩
theorem lw_p45 : lw_okq (⟨"HeavierSideModel", "isGuest", "(I)Z"⟩, 55) := ⟨⟨by decide +kernel, by decide +kernel⟩, List.mem_of_getElem? (i := 1127) (by decide +kernel), List.mem_of_getElem? (i := 1446) (by decide +kernel), List.mem_of_getElem? (i := 1447) (by decide +kernel)⟩
theorem lw_p46 : lw_okq (⟨"HeavierSideModel", "guestTells", "(II)I"⟩, 55) := ⟨⟨by decide +kernel, by decide +kernel⟩, List.mem_of_getElem? (i := 1127) (by decide +kernel), List.mem_of_getElem? (i := 1450) (by decide +kernel), List.mem_of_getElem? (i := 1451) (by decide +kernel)⟩
theorem lw_p47 : lw_okq (⟨"HeavierSideModel", "momentOf", "(III)I"⟩, 55) := ⟨⟨by decide +kernel, by decide +kernel⟩, List.mem_of_getElem? (i := 1127) (by decide +kernel), List.mem_of_getElem? (i := 1458) (by decide +kernel), List.mem_of_getElem? (i := 1459) (by decide +kernel)⟩
def lw_privs_3 : List (MethodName × Nat) := [(⟨"HeavierSideModel", "tells", "(II)I"⟩, 55), (⟨"HeavierSideModel", "riteFault", "(I)I"⟩, 55), (⟨"HeavierSideModel", "byteAt", "(II)I"⟩, 55), (⟨"HeavierSideModel", "faultOf", "(I)I"⟩, 55), (⟨"HeavierSideModel", "readsBench", "(I)Z"⟩, 55), (⟨"HeavierSideModel", "figure", "(III)Z"⟩, 55), (⟨"HeavierSideModel", "readsGuest", "(I)Z"⟩, 55), (⟨"HeavierSideModel", "isBench", "(I)Z"⟩, 55), (⟨"HeavierSideModel", "benchTells", "(II)I"⟩, 55), (⟨"HeavierSideModel", "takenOn", "(I)I"⟩, 55), (⟨"HeavierSideModel", "weightOn", "(I)I"⟩, 55), (⟨"HeavierSideModel", "weighs", "(I)I"⟩, 55), (⟨"HeavierSideModel", "setOn", "(I)I"⟩, 55), (⟨"HeavierSideModel", "isGuest", "(I)Z"⟩, 55), (⟨"HeavierSideModel", "guestTells", "(II)I"⟩, 55), (⟨"HeavierSideModel", "momentOf", "(III)I"⟩, 55)]
theorem lw_r3 : ∀ q ∈ lw_privs_3, lw_okq q := List.forall_mem_cons.mpr ⟨lw_p32, List.forall_mem_cons.mpr ⟨lw_p33, List.forall_mem_cons.mpr ⟨lw_p34, List.forall_mem_cons.mpr ⟨lw_p35, List.forall_mem_cons.mpr ⟨lw_p36, List.forall_mem_cons.mpr ⟨lw_p37, List.forall_mem_cons.mpr ⟨lw_p38, List.forall_mem_cons.mpr ⟨lw_p39, List.forall_mem_cons.mpr ⟨lw_p40, List.forall_mem_cons.mpr ⟨lw_p41, List.forall_mem_cons.mpr ⟨lw_p42, List.forall_mem_cons.mpr ⟨lw_p43, List.forall_mem_cons.mpr ⟨lw_p44, List.forall_mem_cons.mpr ⟨lw_p45, List.forall_mem_cons.mpr ⟨lw_p46, List.forall_mem_cons.mpr ⟨lw_p47, fun _ h => absurd h List.not_mem_nil⟩⟩⟩⟩⟩⟩⟩⟩⟩⟩⟩⟩⟩⟩⟩⟩
theorem lw_p48 : lw_okq (⟨"HeavierSideModel", "outOf", "(III)I"⟩, 55) := ⟨⟨by decide +kernel, by decide +kernel⟩, List.mem_of_getElem? (i := 1127) (by decide +kernel), List.mem_of_getElem? (i := 1462) (by decide +kernel), List.mem_of_getElem? (i := 1463) (by decide +kernel)⟩
theorem lw_p49 : lw_okq (⟨"HeavierSideModel", "kinSeated", "(I)I"⟩, 55) := ⟨⟨by decide +kernel, by decide +kernel⟩, List.mem_of_getElem? (i := 1127) (by decide +kernel), List.mem_of_getElem? (i := 1475) (by decide +kernel), List.mem_of_getElem? (i := 1476) (by decide +kernel)⟩
theorem lw_p50 : lw_okq (⟨"HeavierSideModel", "sitsOn", "(II)Z"⟩, 55) := ⟨⟨by decide +kernel, by decide +kernel⟩, List.mem_of_getElem? (i := 1127) (by decide +kernel), List.mem_of_getElem? (i := 1499) (by decide +kernel), List.mem_of_getElem? (i := 1500) (by decide +kernel)⟩
theorem lw_p51 : lw_okq (⟨"HeavierSideModel", "isAtPeace", "(I)Z"⟩, 55) := ⟨⟨by decide +kernel, by decide +kernel⟩, List.mem_of_getElem? (i := 1127) (by decide +kernel), List.mem_of_getElem? (i := 1503) (by decide +kernel), List.mem_of_getElem? (i := 1504) (by decide +kernel)⟩
theorem lw_p52 : lw_okq (⟨"HeavierSideModel", "isBroken", "(I)Z"⟩, 55) := ⟨⟨by decide +kernel, by decide +kernel⟩, List.mem_of_getElem? (i := 1127) (by decide +kernel), List.mem_of_getElem? (i := 1507) (by decide +kernel), List.mem_of_getElem? (i := 1508) (by decide +kernel)⟩
theorem lw_p53 : lw_okq (⟨"HeavierSideModel", "remembers", "(I)V"⟩, 55) := ⟨⟨by decide +kernel, by decide +kernel⟩, List.mem_of_getElem? (i := 1127) (by decide +kernel), List.mem_of_getElem? (i := 1511) (by decide +kernel), List.mem_of_getElem? (i := 1512) (by decide +kernel)⟩
theorem lw_p54 : lw_okq (⟨"HeavierSideModel", "canChange", "(II)Z"⟩, 55) := ⟨⟨by decide +kernel, by decide +kernel⟩, List.mem_of_getElem? (i := 1127) (by decide +kernel), List.mem_of_getElem? (i := 1523) (by decide +kernel), List.mem_of_getElem? (i := 1524) (by decide +kernel)⟩
theorem lw_p55 : lw_okq (⟨"HeavierSideModel", "swap", "(II)V"⟩, 55) := ⟨⟨by decide +kernel, by decide +kernel⟩, List.mem_of_getElem? (i := 1127) (by decide +kernel), List.mem_of_getElem? (i := 1527) (by decide +kernel), List.mem_of_getElem? (i := 1528) (by decide +kernel)⟩
theorem lw_p56 : lw_okq (⟨"HeavierSideModel", "seatedMany", "()I"⟩, 55) := ⟨⟨by decide +kernel, by decide +kernel⟩, List.mem_of_getElem? (i := 1127) (by decide +kernel), List.mem_of_getElem? (i := 1539) (by decide +kernel), List.mem_of_getElem? (i := 1540) (by decide +kernel)⟩
theorem lw_p57 : lw_okq (⟨"HeavierSideModel", "listOf", "(II)I"⟩, 55) := ⟨⟨by decide +kernel, by decide +kernel⟩, List.mem_of_getElem? (i := 1127) (by decide +kernel), List.mem_of_getElem? (i := 1551) (by decide +kernel), List.mem_of_getElem? (i := 1552) (by decide +kernel)⟩
theorem lw_p58 : lw_okq (⟨"HeavierSideModel", "isLevel", "(I)Z"⟩, 55) := ⟨⟨by decide +kernel, by decide +kernel⟩, List.mem_of_getElem? (i := 1127) (by decide +kernel), List.mem_of_getElem? (i := 1555) (by decide +kernel), List.mem_of_getElem? (i := 1556) (by decide +kernel)⟩
theorem lw_p59 : lw_okq (⟨"HeavierSideModel", "fraction", "(III)I"⟩, 55) := ⟨⟨by decide +kernel, by decide +kernel⟩, List.mem_of_getElem? (i := 1127) (by decide +kernel), List.mem_of_getElem? (i := 1567) (by decide +kernel), List.mem_of_getElem? (i := 1568) (by decide +kernel)⟩
theorem lw_p60 : lw_okq (⟨"HeavierSideModel", "worstNow", "()I"⟩, 55) := ⟨⟨by decide +kernel, by decide +kernel⟩, List.mem_of_getElem? (i := 1127) (by decide +kernel), List.mem_of_getElem? (i := 1575) (by decide +kernel), List.mem_of_getElem? (i := 1576) (by decide +kernel)⟩
theorem lw_p61 : lw_okq (⟨"HeavierSideModel", "needSeatings", "(Z)I"⟩, 55) := ⟨⟨by decide +kernel, by decide +kernel⟩, List.mem_of_getElem? (i := 1127) (by decide +kernel), List.mem_of_getElem? (i := 1587) (by decide +kernel), List.mem_of_getElem? (i := 1588) (by decide +kernel)⟩
theorem lw_p62 : lw_okq (⟨"HeavierSideModel", "laySeatings", "(I)V"⟩, 55) := ⟨⟨by decide +kernel, by decide +kernel⟩, List.mem_of_getElem? (i := 1127) (by decide +kernel), List.mem_of_getElem? (i := 1591) (by decide +kernel), List.mem_of_getElem? (i := 1592) (by decide +kernel)⟩
theorem lw_p63 : lw_okq (⟨"HeavierSideModel", "meetsSeating", "()V"⟩, 55) := ⟨⟨by decide +kernel, by decide +kernel⟩, List.mem_of_getElem? (i := 1127) (by decide +kernel), List.mem_of_getElem? (i := 1595) (by decide +kernel), List.mem_of_getElem? (i := 1596) (by decide +kernel)⟩
def lw_privs_4 : List (MethodName × Nat) := [(⟨"HeavierSideModel", "outOf", "(III)I"⟩, 55), (⟨"HeavierSideModel", "kinSeated", "(I)I"⟩, 55), (⟨"HeavierSideModel", "sitsOn", "(II)Z"⟩, 55), (⟨"HeavierSideModel", "isAtPeace", "(I)Z"⟩, 55), (⟨"HeavierSideModel", "isBroken", "(I)Z"⟩, 55), (⟨"HeavierSideModel", "remembers", "(I)V"⟩, 55), (⟨"HeavierSideModel", "canChange", "(II)Z"⟩, 55), (⟨"HeavierSideModel", "swap", "(II)V"⟩, 55), (⟨"HeavierSideModel", "seatedMany", "()I"⟩, 55), (⟨"HeavierSideModel", "listOf", "(II)I"⟩, 55), (⟨"HeavierSideModel", "isLevel", "(I)Z"⟩, 55), (⟨"HeavierSideModel", "fraction", "(III)I"⟩, 55), (⟨"HeavierSideModel", "worstNow", "()I"⟩, 55), (⟨"HeavierSideModel", "needSeatings", "(Z)I"⟩, 55), (⟨"HeavierSideModel", "laySeatings", "(I)V"⟩, 55), (⟨"HeavierSideModel", "meetsSeating", "()V"⟩, 55)]
theorem lw_r4 : ∀ q ∈ lw_privs_4, lw_okq q := List.forall_mem_cons.mpr ⟨lw_p48, List.forall_mem_cons.mpr ⟨lw_p49, List.forall_mem_cons.mpr ⟨lw_p50, List.forall_mem_cons.mpr ⟨lw_p51, List.forall_mem_cons.mpr ⟨lw_p52, List.forall_mem_cons.mpr ⟨lw_p53, List.forall_mem_cons.mpr ⟨lw_p54, List.forall_mem_cons.mpr ⟨lw_p55, List.forall_mem_cons.mpr ⟨lw_p56, List.forall_mem_cons.mpr ⟨lw_p57, List.forall_mem_cons.mpr ⟨lw_p58, List.forall_mem_cons.mpr ⟨lw_p59, List.forall_mem_cons.mpr ⟨lw_p60, List.forall_mem_cons.mpr ⟨lw_p61, List.forall_mem_cons.mpr ⟨lw_p62, List.forall_mem_cons.mpr ⟨lw_p63, fun _ h => absurd h List.not_mem_nil⟩⟩⟩⟩⟩⟩⟩⟩⟩⟩⟩⟩⟩⟩⟩⟩
theorem lw_p64 : lw_okq (⟨"HeavierSideModel", "allLeave", "()V"⟩, 55) := ⟨⟨by decide +kernel, by decide +kernel⟩, List.mem_of_getElem? (i := 1127) (by decide +kernel), List.mem_of_getElem? (i := 1619) (by decide +kernel), List.mem_of_getElem? (i := 1620) (by decide +kernel)⟩
theorem lw_p65 : lw_okq (⟨"HeavierSideModel", "layLeaving", "(I)V"⟩, 55) := ⟨⟨by decide +kernel, by decide +kernel⟩, List.mem_of_getElem? (i := 1127) (by decide +kernel), List.mem_of_getElem? (i := 1623) (by decide +kernel), List.mem_of_getElem? (i := 1624) (by decide +kernel)⟩
theorem lw_p66 : lw_okq (⟨"HeavierSideModel", "seatedSet", "()I"⟩, 55) := ⟨⟨by decide +kernel, by decide +kernel⟩, List.mem_of_getElem? (i := 1127) (by decide +kernel), List.mem_of_getElem? (i := 1627) (by decide +kernel), List.mem_of_getElem? (i := 1628) (by decide +kernel)⟩
theorem lw_p67 : lw_okq (⟨"HeavierSideModel", "needInvited", "(II)I"⟩, 55) := ⟨⟨by decide +kernel, by decide +kernel⟩, List.mem_of_getElem? (i := 1127) (by decide +kernel), List.mem_of_getElem? (i := 1639) (by decide +kernel), List.mem_of_getElem? (i := 1640) (by decide +kernel)⟩
theorem lw_p68 : lw_okq (⟨"HeavierSideModel", "layInvited", "(III)V"⟩, 55) := ⟨⟨by decide +kernel, by decide +kernel⟩, List.mem_of_getElem? (i := 1127) (by decide +kernel), List.mem_of_getElem? (i := 1643) (by decide +kernel), List.mem_of_getElem? (i := 1644) (by decide +kernel)⟩
theorem lw_p69 : lw_okq (⟨"HeavierSideModel", "weightAll", "()I"⟩, 55) := ⟨⟨by decide +kernel, by decide +kernel⟩, List.mem_of_getElem? (i := 1127) (by decide +kernel), List.mem_of_getElem? (i := 1659) (by decide +kernel), List.mem_of_getElem? (i := 1660) (by decide +kernel)⟩
theorem lw_p70 : lw_okq (⟨"HeavierSideModel", "weightOf", "(I)I"⟩, 55) := ⟨⟨by decide +kernel, by decide +kernel⟩, List.mem_of_getElem? (i := 1127) (by decide +kernel), List.mem_of_getElem? (i := 1663) (by decide +kernel), List.mem_of_getElem? (i := 1664) (by decide +kernel)⟩
theorem lw_p71 : lw_okq (⟨"HeavierSideModel", "counted", "(I)I"⟩, 55) := ⟨⟨by decide +kernel, by decide +kernel⟩, List.mem_of_getElem? (i := 1127) (by decide +kernel), List.mem_of_getElem? (i := 1690) (by decide +kernel), List.mem_of_getElem? (i := 1691) (by decide +kernel)⟩
theorem lw_p72 : lw_okq (⟨"HeavierSideModel", "mix", "(J)V"⟩, 55) := ⟨⟨by decide +kernel, by decide +kernel⟩, List.mem_of_getElem? (i := 1127) (by decide +kernel), List.mem_of_getElem? (i := 1699) (by decide +kernel), List.mem_of_getElem? (i := 1700) (by decide +kernel)⟩
theorem lw_p73 : lw_okq (⟨"HeavierSideModel", "mixBarge", "()V"⟩, 55) := ⟨⟨by decide +kernel, by decide +kernel⟩, List.mem_of_getElem? (i := 1127) (by decide +kernel), List.mem_of_getElem? (i := 1704) (by decide +kernel), List.mem_of_getElem? (i := 1705) (by decide +kernel)⟩
def lw_privs_5 : List (MethodName × Nat) := [(⟨"HeavierSideModel", "allLeave", "()V"⟩, 55), (⟨"HeavierSideModel", "layLeaving", "(I)V"⟩, 55), (⟨"HeavierSideModel", "seatedSet", "()I"⟩, 55), (⟨"HeavierSideModel", "needInvited", "(II)I"⟩, 55), (⟨"HeavierSideModel", "layInvited", "(III)V"⟩, 55), (⟨"HeavierSideModel", "weightAll", "()I"⟩, 55), (⟨"HeavierSideModel", "weightOf", "(I)I"⟩, 55), (⟨"HeavierSideModel", "counted", "(I)I"⟩, 55), (⟨"HeavierSideModel", "mix", "(J)V"⟩, 55), (⟨"HeavierSideModel", "mixBarge", "()V"⟩, 55)]
theorem lw_r5 : ∀ q ∈ lw_privs_5, lw_okq q := List.forall_mem_cons.mpr ⟨lw_p64, List.forall_mem_cons.mpr ⟨lw_p65, List.forall_mem_cons.mpr ⟨lw_p66, List.forall_mem_cons.mpr ⟨lw_p67, List.forall_mem_cons.mpr ⟨lw_p68, List.forall_mem_cons.mpr ⟨lw_p69, List.forall_mem_cons.mpr ⟨lw_p70, List.forall_mem_cons.mpr ⟨lw_p71, List.forall_mem_cons.mpr ⟨lw_p72, List.forall_mem_cons.mpr ⟨lw_p73, fun _ h => absurd h List.not_mem_nil⟩⟩⟩⟩⟩⟩⟩⟩⟩⟩
def lw_privs : List (MethodName × Nat) := lw_privs_1 ++ (lw_privs_2 ++ (lw_privs_3 ++ (lw_privs_4 ++ (lw_privs_5))))
def lw_tbl : List Cond := k2_sels lw_privs ++ tables_1
theorem lw_privs_ok : ∀ q ∈ lw_privs, lw_okq q := by
  show ∀ q ∈ lw_privs_1 ++ (lw_privs_2 ++ (lw_privs_3 ++ (lw_privs_4 ++ (lw_privs_5)))), lw_okq q
  exact List.forall_mem_append.mpr ⟨lw_r1, List.forall_mem_append.mpr ⟨lw_r2, List.forall_mem_append.mpr ⟨lw_r3, List.forall_mem_append.mpr ⟨lw_r4, lw_r5⟩⟩⟩⟩
def RX0 : String := "HeavierSide$Barge"
def TX0 : u_T := fun k => match k with
  | 0 => ("HeavierSide$Barge", "benches", "I", false)
  | 1 => ("HeavierSide$Barge", "guests", "I", false)
  | 2 => ("HeavierSide$Barge", "limit", "I", false)
  | 3 => ("HeavierSide$Barge", "rain", "I", false)
  | 4 => ("HeavierSide$Barge", "quarrels", "LHeavierSide$Quarrels;", true)
  | 5 => ("HeavierSide$Barge", "xs", "[I", true)
  | 6 => ("HeavierSide$Barge", "whoSits", "[I", true)
  | 7 => ("HeavierSide$Barge", "kinds", "[I", true)
  | 8 => ("HeavierSide$Barge", "weights", "[I", true)
  | 9 => ("HeavierSide$Barge", "kins", "[I", true)
  | 10 => ("HeavierSide$Barge", "sitsOn", "[I", true)
  | 11 => ("HeavierSide$Barge", "moments", "[I", true)
  | _ => ("HeavierSide$Barge", "seatTakers", "I", false)
def tyX0 : Nat → FieldType := fun k => match k with
  | 0 => .int
  | 1 => .int
  | 2 => .int
  | 3 => .int
  | 4 => .object "HeavierSide$Quarrels"
  | 5 => .array .int
  | 6 => .array .int
  | 7 => .array .int
  | 8 => .array .int
  | 9 => .array .int
  | 10 => .array .int
  | 11 => .array .int
  | _ => .int
abbrev wsX00 : List Cond := u_ws RX0 TX0 13
theorem nmX0 : ∀ a, a < 13 → ∀ b, b < 13 → a ≠ b → (TX0 a).2.1 ≠ (TX0 b).2.1 := by decide +kernel
theorem tyX0_ok : ∀ k, k < 13 → parseFieldDescriptor (TX0 k).2.2.1 = some (tyX0 k) := by decide +kernel
abbrev cX0_init : ByteArray := prog_2_method_1_code
def yX0_init : MethodName := ⟨RX0, "<init>", "()V"⟩
abbrev cX0_clear : ByteArray := prog_2_method_2_code
def yX0_clear : MethodName := ⟨RX0, "clear", "()V"⟩
abbrev cX0_addBench : ByteArray := prog_2_method_3_code
def yX0_addBench : MethodName := ⟨RX0, "addBench", "(I)V"⟩
abbrev cX0_addGuest : ByteArray := prog_2_method_4_code
def yX0_addGuest : MethodName := ⟨RX0, "addGuest", "(III)V"⟩
abbrev cX0_farOut : ByteArray := prog_2_method_5_code
def yX0_farOut : MethodName := ⟨RX0, "farOut", "(III)I"⟩
abbrev cX0_ofKind : ByteArray := prog_2_method_6_code
def yX0_ofKind : MethodName := ⟨RX0, "ofKind", "([II)I"⟩
abbrev cX0_momentPlace : ByteArray := prog_2_method_7_code
def yX0_momentPlace : MethodName := ⟨RX0, "momentPlace", "(III)I"⟩
abbrev cX0_isBench : ByteArray := prog_2_method_8_code
def yX0_isBench : MethodName := ⟨RX0, "isBench", "(I)Z"⟩
abbrev cX0_isGuest : ByteArray := prog_2_method_9_code
def yX0_isGuest : MethodName := ⟨RX0, "isGuest", "(I)Z"⟩
abbrev cX0_xOf : ByteArray := prog_2_method_10_code
def yX0_xOf : MethodName := ⟨RX0, "xOf", "(I)I"⟩
abbrev cX0_whoOn : ByteArray := prog_2_method_11_code
def yX0_whoOn : MethodName := ⟨RX0, "whoOn", "(I)I"⟩
abbrev cX0_kindOf : ByteArray := prog_2_method_12_code
def yX0_kindOf : MethodName := ⟨RX0, "kindOf", "(I)I"⟩
abbrev cX0_weightOf : ByteArray := prog_2_method_13_code
def yX0_weightOf : MethodName := ⟨RX0, "weightOf", "(I)I"⟩
abbrev cX0_kinOf : ByteArray := prog_2_method_14_code
def yX0_kinOf : MethodName := ⟨RX0, "kinOf", "(I)I"⟩
abbrev cX0_benchOf : ByteArray := prog_2_method_15_code
def yX0_benchOf : MethodName := ⟨RX0, "benchOf", "(I)I"⟩
abbrev cX0_weighs : ByteArray := prog_2_method_16_code
def yX0_weighs : MethodName := ⟨RX0, "weighs", "(I)I"⟩
abbrev cX0_isOf : ByteArray := prog_2_method_17_code
def yX0_isOf : MethodName := ⟨RX0, "isOf", "(II)Z"⟩
abbrev cX0_momentOf : ByteArray := prog_2_method_18_code
def yX0_momentOf : MethodName := ⟨RX0, "momentOf", "(III)I"⟩
abbrev cX0_everybody : ByteArray := prog_2_method_19_code
def yX0_everybody : MethodName := ⟨RX0, "everybody", "()I"⟩
abbrev cX0_seatedSet : ByteArray := prog_2_method_20_code
def yX0_seatedSet : MethodName := ⟨RX0, "seatedSet", "()I"⟩
abbrev cX0_seatedCount : ByteArray := prog_2_method_21_code
def yX0_seatedCount : MethodName := ⟨RX0, "seatedCount", "()I"⟩
abbrev cX0_kinSet : ByteArray := prog_2_method_22_code
def yX0_kinSet : MethodName := ⟨RX0, "kinSet", "(I)I"⟩
abbrev cX0_howManyOf : ByteArray := prog_2_method_23_code
def yX0_howManyOf : MethodName := ⟨RX0, "howManyOf", "(I)I"⟩
abbrev cX0_weighAll : ByteArray := prog_2_method_24_code
def yX0_weighAll : MethodName := ⟨RX0, "weighAll", "(I)I"⟩
abbrev cX0_seatsFor : ByteArray := prog_2_method_25_code
def yX0_seatsFor : MethodName := ⟨RX0, "seatsFor", "(I)I"⟩
abbrev cX0_seatsTaken : ByteArray := prog_2_method_26_code
def yX0_seatsTaken : MethodName := ⟨RX0, "seatsTaken", "(I)I"⟩
abbrev cX0_dryListIn : ByteArray := prog_2_method_27_code
def yX0_dryListIn : MethodName := ⟨RX0, "dryListIn", "(I)I"⟩
abbrev cX0_listIn : ByteArray := prog_2_method_28_code
def yX0_listIn : MethodName := ⟨RX0, "listIn", "(I)I"⟩
abbrev cX0_isLevel : ByteArray := prog_2_method_29_code
def yX0_isLevel : MethodName := ⟨RX0, "isLevel", "(I)Z"⟩
abbrev cX0_mayTake : ByteArray := prog_2_method_30_code
def yX0_mayTake : MethodName := ⟨RX0, "mayTake", "(II)Z"⟩
abbrev cX0_place : ByteArray := prog_2_method_31_code
def yX0_place : MethodName := ⟨RX0, "place", "(II)V"⟩
abbrev cX0_swap : ByteArray := prog_2_method_32_code
def yX0_swap : MethodName := ⟨RX0, "swap", "(II)V"⟩
abbrev cX0_trade : ByteArray := prog_2_method_33_code
def yX0_trade : MethodName := ⟨RX0, "trade", "(II)Z"⟩
def RX1 : String := "HeavierSide$Deeds"
def TX1 : u_T := fun k => match k with
  | 0 => ("HeavierSide$Deeds", "size", "I", false)
  | 1 => ("HeavierSide$Deeds", "sorts", "[I", true)
  | 2 => ("HeavierSide$Deeds", "guests", "[I", true)
  | _ => ("HeavierSide$Deeds", "others", "[I", true)
def tyX1 : Nat → FieldType := fun k => match k with
  | 0 => .int
  | 1 => .array .int
  | 2 => .array .int
  | _ => .array .int
abbrev wsX10 : List Cond := u_ws RX1 TX1 4
theorem nmX1 : ∀ a, a < 4 → ∀ b, b < 4 → a ≠ b → (TX1 a).2.1 ≠ (TX1 b).2.1 := by decide +kernel
theorem tyX1_ok : ∀ k, k < 4 → parseFieldDescriptor (TX1 k).2.2.1 = some (tyX1 k) := by decide +kernel
abbrev cX1_init : ByteArray := prog_3_method_1_code
def yX1_init : MethodName := ⟨RX1, "<init>", "()V"⟩
abbrev cX1_remember : ByteArray := prog_3_method_2_code
def yX1_remember : MethodName := ⟨RX1, "remember", "(III)V"⟩
abbrev cX1_forgetFirst : ByteArray := prog_3_method_3_code
def yX1_forgetFirst : MethodName := ⟨RX1, "forgetFirst", "()V"⟩
abbrev cX1_forgetLast : ByteArray := prog_3_method_4_code
def yX1_forgetLast : MethodName := ⟨RX1, "forgetLast", "()V"⟩
abbrev cX1_forgetAll : ByteArray := prog_3_method_5_code
def yX1_forgetAll : MethodName := ⟨RX1, "forgetAll", "()V"⟩
abbrev cX1_lastSort : ByteArray := prog_3_method_6_code
def yX1_lastSort : MethodName := ⟨RX1, "lastSort", "()I"⟩
abbrev cX1_lastGuest : ByteArray := prog_3_method_7_code
def yX1_lastGuest : MethodName := ⟨RX1, "lastGuest", "()I"⟩
abbrev cX1_lastOther : ByteArray := prog_3_method_8_code
def yX1_lastOther : MethodName := ⟨RX1, "lastOther", "()I"⟩
def RX2 : String := "HeavierSide$Invitation"
def TX2 : u_T := fun k => match k with
  | 0 => ("HeavierSide$Invitation", "invited", "I", false)
  | 1 => ("HeavierSide$Invitation", "least", "I", false)
  | 2 => ("HeavierSide$Invitation", "cheapest", "[I", true)
  | 3 => ("HeavierSide$Invitation", "barge", "LHeavierSide$Barge;", true)
  | 4 => ("HeavierSide$Invitation", "tried", "[I", true)
  | 5 => ("HeavierSide$Invitation", "newcomers", "[I", true)
  | 6 => ("HeavierSide$Invitation", "weights", "[I", true)
  | _ => ("HeavierSide$Invitation", "costs", "[I", true)
def tyX2 : Nat → FieldType := fun k => match k with
  | 0 => .int
  | 1 => .int
  | 2 => .array .int
  | 3 => .object "HeavierSide$Barge"
  | 4 => .array .int
  | 5 => .array .int
  | 6 => .array .int
  | _ => .array .int
abbrev wsX20 : List Cond := u_ws RX2 TX2 8
theorem nmX2 : ∀ a, a < 8 → ∀ b, b < 8 → a ≠ b → (TX2 a).2.1 ≠ (TX2 b).2.1 := by decide +kernel
theorem tyX2_ok : ∀ k, k < 8 → parseFieldDescriptor (TX2 k).2.2.1 = some (tyX2 k) := by decide +kernel
abbrev cX2_init : ByteArray := prog_4_method_1_code
def yX2_init : MethodName := ⟨RX2, "<init>", "(LHeavierSide$Barge;)V"⟩
abbrev cX2_search : ByteArray := prog_4_method_2_code
def yX2_search : MethodName := ⟨RX2, "search", "(LHeavierSide$Row;LHeavierSide$Row;)V"⟩
abbrev cX2_tryCousin : ByteArray := prog_4_method_3_code
def yX2_tryCousin : MethodName := ⟨RX2, "tryCousin", "(III)V"⟩
abbrev cX2_seatCousin : ByteArray := prog_4_method_4_code
def yX2_seatCousin : MethodName := ⟨RX2, "seatCousin", "(IIII)V"⟩
abbrev cX2_noteCheaper : ByteArray := prog_4_method_5_code
def yX2_noteCheaper : MethodName := ⟨RX2, "noteCheaper", "(I)V"⟩
def RX3 : String := "HeavierSide$Kept"
def TX3 : u_T := fun k => match k with
  | 0 => ("HeavierSide$Kept", "there", "[Z", true)
  | _ => ("HeavierSide$Kept", "sitsOn", "[I", true)
def tyX3 : Nat → FieldType := fun k => match k with
  | 0 => .array .boolean
  | _ => .array .int
abbrev wsX30 : List Cond := u_ws RX3 TX3 2
theorem nmX3 : ∀ a, a < 2 → ∀ b, b < 2 → a ≠ b → (TX3 a).2.1 ≠ (TX3 b).2.1 := by decide +kernel
theorem tyX3_ok : ∀ k, k < 2 → parseFieldDescriptor (TX3 k).2.2.1 = some (tyX3 k) := by decide +kernel
abbrev cX3_init : ByteArray := prog_5_method_1_code
def yX3_init : MethodName := ⟨RX3, "<init>", "()V"⟩
abbrev cX3_has : ByteArray := prog_5_method_2_code
def yX3_has : MethodName := ⟨RX3, "has", "(I)Z"⟩
abbrev cX3_benchOf : ByteArray := prog_5_method_3_code
def yX3_benchOf : MethodName := ⟨RX3, "benchOf", "(II)I"⟩
abbrev cX3_forgetAll : ByteArray := prog_5_method_4_code
def yX3_forgetAll : MethodName := ⟨RX3, "forgetAll", "()V"⟩
abbrev cX3_take : ByteArray := prog_5_method_5_code
def yX3_take : MethodName := ⟨RX3, "take", "(ILHeavierSide$Barge;)V"⟩
abbrev cX3_restore : ByteArray := prog_5_method_6_code
def yX3_restore : MethodName := ⟨RX3, "restore", "(ILHeavierSide$Barge;)V"⟩
def RX4 : String := "HeavierSide$Leaving"
def TX4 : u_T := fun k => match k with
  | 0 => ("HeavierSide$Leaving", "barge", "LHeavierSide$Barge;", true)
  | 1 => ("HeavierSide$Leaving", "isLevelSet", "[Z", true)
  | 2 => ("HeavierSide$Leaving", "canEmpty", "[Z", true)
  | 3 => ("HeavierSide$Leaving", "reached", "[Z", true)
  | 4 => ("HeavierSide$Leaving", "order", "[I", true)
  | _ => ("HeavierSide$Leaving", "crew", "I", false)
def tyX4 : Nat → FieldType := fun k => match k with
  | 0 => .object "HeavierSide$Barge"
  | 1 => .array .boolean
  | 2 => .array .boolean
  | 3 => .array .boolean
  | 4 => .array .int
  | _ => .int
abbrev wsX40 : List Cond := u_ws RX4 TX4 6
theorem nmX4 : ∀ a, a < 6 → ∀ b, b < 6 → a ≠ b → (TX4 a).2.1 ≠ (TX4 b).2.1 := by decide +kernel
theorem tyX4_ok : ∀ k, k < 6 → parseFieldDescriptor (TX4 k).2.2.1 = some (tyX4 k) := by decide +kernel
abbrev cX4_init : ByteArray := prog_6_method_1_code
def yX4_init : MethodName := ⟨RX4, "<init>", "(LHeavierSide$Barge;)V"⟩
abbrev cX4_plan : ByteArray := prog_6_method_2_code
def yX4_plan : MethodName := ⟨RX4, "plan", "()V"⟩
abbrev cX4_listOf : ByteArray := prog_6_method_3_code
def yX4_listOf : MethodName := ⟨RX4, "listOf", "(I)I"⟩
abbrev cX4_whoMayLeave : ByteArray := prog_6_method_4_code
def yX4_whoMayLeave : MethodName := ⟨RX4, "whoMayLeave", "(I)I"⟩
abbrev cX4_reachFrom : ByteArray := prog_6_method_5_code
def yX4_reachFrom : MethodName := ⟨RX4, "reachFrom", "(I)V"⟩
abbrev cX4_allCanLeave : ByteArray := prog_6_method_6_code
def yX4_allCanLeave : MethodName := ⟨RX4, "allCanLeave", "()Z"⟩
abbrev cX4_firsts : ByteArray := prog_6_method_7_code
def yX4_firsts : MethodName := ⟨RX4, "firsts", "()I"⟩
abbrev cX4_lasts : ByteArray := prog_6_method_8_code
def yX4_lasts : MethodName := ⟨RX4, "lasts", "()I"⟩
abbrev cX4_firstOrder : ByteArray := prog_6_method_9_code
def yX4_firstOrder : MethodName := ⟨RX4, "firstOrder", "()[I"⟩
abbrev cX4_leastOf : ByteArray := prog_6_method_10_code
def yX4_leastOf : MethodName := ⟨RX4, "leastOf", "(I)I"⟩
def RX5 : String := "HeavierSide$Quarrels"
def TX5 : u_T := fun k => match k with
  | 0 => ("HeavierSide$Quarrels", "size", "I", false)
  | 1 => ("HeavierSide$Quarrels", "ones", "[I", true)
  | 2 => ("HeavierSide$Quarrels", "others", "[I", true)
  | _ => ("HeavierSide$Quarrels", "foes", "[I", true)
def tyX5 : Nat → FieldType := fun k => match k with
  | 0 => .int
  | 1 => .array .int
  | 2 => .array .int
  | _ => .array .int
abbrev wsX50 : List Cond := u_ws RX5 TX5 4
theorem nmX5 : ∀ a, a < 4 → ∀ b, b < 4 → a ≠ b → (TX5 a).2.1 ≠ (TX5 b).2.1 := by decide +kernel
theorem tyX5_ok : ∀ k, k < 4 → parseFieldDescriptor (TX5 k).2.2.1 = some (tyX5 k) := by decide +kernel
abbrev cX5_init : ByteArray := prog_7_method_1_code
def yX5_init : MethodName := ⟨RX5, "<init>", "()V"⟩
abbrev cX5_add : ByteArray := prog_7_method_2_code
def yX5_add : MethodName := ⟨RX5, "add", "(II)V"⟩
abbrev cX5_cutTo : ByteArray := prog_7_method_3_code
def yX5_cutTo : MethodName := ⟨RX5, "cutTo", "(I)V"⟩
abbrev cX5_noteFoes : ByteArray := prog_7_method_4_code
def yX5_noteFoes : MethodName := ⟨RX5, "noteFoes", "(II)V"⟩
abbrev cX5_oneOf : ByteArray := prog_7_method_5_code
def yX5_oneOf : MethodName := ⟨RX5, "oneOf", "(I)I"⟩
abbrev cX5_otherOf : ByteArray := prog_7_method_6_code
def yX5_otherOf : MethodName := ⟨RX5, "otherOf", "(I)I"⟩
abbrev cX5_foesOf : ByteArray := prog_7_method_7_code
def yX5_foesOf : MethodName := ⟨RX5, "foesOf", "(I)I"⟩
def RX6 : String := "HeavierSide$Rite"
def TX6 : u_T := fun k => match k with
  | 0 => ("HeavierSide$Rite", "minutes", "I", false)
  | 1 => ("HeavierSide$Rite", "postures", "[I", true)
  | _ => ("HeavierSide$Rite", "postureSet", "I", false)
def tyX6 : Nat → FieldType := fun k => match k with
  | 0 => .int
  | 1 => .array .int
  | _ => .int
abbrev wsX60 : List Cond := u_ws RX6 TX6 3
theorem nmX6 : ∀ a, a < 3 → ∀ b, b < 3 → a ≠ b → (TX6 a).2.1 ≠ (TX6 b).2.1 := by decide +kernel
theorem tyX6_ok : ∀ k, k < 3 → parseFieldDescriptor (TX6 k).2.2.1 = some (tyX6 k) := by decide +kernel
abbrev cX6_init : ByteArray := prog_8_method_1_code
def yX6_init : MethodName := ⟨RX6, "<init>", "()V"⟩
abbrev cX6_clear : ByteArray := prog_8_method_2_code
def yX6_clear : MethodName := ⟨RX6, "clear", "()V"⟩
abbrev cX6_add : ByteArray := prog_8_method_3_code
def yX6_add : MethodName := ⟨RX6, "add", "(I)V"⟩
abbrev cX6_postureIn : ByteArray := prog_8_method_4_code
def yX6_postureIn : MethodName := ⟨RX6, "postureIn", "(I)I"⟩
abbrev cX6_hasPosture : ByteArray := prog_8_method_5_code
def yX6_hasPosture : MethodName := ⟨RX6, "hasPosture", "(I)Z"⟩
def RX7 : String := "HeavierSide$Row"
def TX7 : u_T := fun k => match k with
  | 0 => ("HeavierSide$Row", "size", "I", false)
  | _ => ("HeavierSide$Row", "places", "[I", true)
def tyX7 : Nat → FieldType := fun k => match k with
  | 0 => .int
  | _ => .array .int
abbrev wsX70 : List Cond := u_ws RX7 TX7 2
theorem nmX7 : ∀ a, a < 2 → ∀ b, b < 2 → a ≠ b → (TX7 a).2.1 ≠ (TX7 b).2.1 := by decide +kernel
theorem tyX7_ok : ∀ k, k < 2 → parseFieldDescriptor (TX7 k).2.2.1 = some (tyX7 k) := by decide +kernel
abbrev cX7_init : ByteArray := prog_9_method_1_code
def yX7_init : MethodName := ⟨RX7, "<init>", "()V"⟩
abbrev cX7_isMissing : ByteArray := prog_9_method_2_code
def yX7_isMissing : MethodName := ⟨RX7, "isMissing", "()Z"⟩
abbrev cX7_has : ByteArray := prog_9_method_3_code
def yX7_has : MethodName := ⟨RX7, "has", "(I)Z"⟩
abbrev cX7_holds : ByteArray := prog_9_method_4_code
def yX7_holds : MethodName := ⟨RX7, "holds", "(II)Z"⟩
abbrev cX7_placeAt : ByteArray := prog_9_method_5_code
def yX7_placeAt : MethodName := ⟨RX7, "placeAt", "(I)I"⟩
abbrev cX7_set : ByteArray := prog_9_method_6_code
def yX7_set : MethodName := ⟨RX7, "set", "(II)V"⟩
abbrev cX7_renew : ByteArray := prog_9_method_7_code
def yX7_renew : MethodName := ⟨RX7, "renew", "(I)V"⟩
abbrev cX7_lose : ByteArray := prog_9_method_8_code
def yX7_lose : MethodName := ⟨RX7, "lose", "()V"⟩
abbrev cX7_take : ByteArray := prog_9_method_9_code
def yX7_take : MethodName := ⟨RX7, "take", "([II)V"⟩
abbrev cX7_sum : ByteArray := prog_9_method_10_code
def yX7_sum : MethodName := ⟨RX7, "sum", "()J"⟩
abbrev cX7_allWithin : ByteArray := prog_9_method_11_code
def yX7_allWithin : MethodName := ⟨RX7, "allWithin", "(II)Z"⟩
def RX8 : String := "HeavierSide$Seatings"
def TX8 : u_T := fun k => match k with
  | 0 => ("HeavierSide$Seatings", "leastWorst", "I", false)
  | 1 => ("HeavierSide$Seatings", "leastSits", "[I", true)
  | 2 => ("HeavierSide$Seatings", "all", "I", false)
  | 3 => ("HeavierSide$Seatings", "level", "I", false)
  | 4 => ("HeavierSide$Seatings", "barge", "LHeavierSide$Barge;", true)
  | 5 => ("HeavierSide$Seatings", "rite", "LHeavierSide$Rite;", true)
  | 6 => ("HeavierSide$Seatings", "coming", "[I", true)
  | 7 => ("HeavierSide$Seatings", "comers", "I", false)
  | 8 => ("HeavierSide$Seatings", "sitsOn", "[I", true)
  | 9 => ("HeavierSide$Seatings", "levelOn", "[I", true)
  | 10 => ("HeavierSide$Seatings", "freeSeats", "[I", true)
  | 11 => ("HeavierSide$Seatings", "whoSits", "[I", true)
  | 12 => ("HeavierSide$Seatings", "sittingMoments", "[I", true)
  | 13 => ("HeavierSide$Seatings", "standingMoments", "[I", true)
  | _ => ("HeavierSide$Seatings", "kneelingMoments", "[I", true)
def tyX8 : Nat → FieldType := fun k => match k with
  | 0 => .int
  | 1 => .array .int
  | 2 => .int
  | 3 => .int
  | 4 => .object "HeavierSide$Barge"
  | 5 => .object "HeavierSide$Rite"
  | 6 => .array .int
  | 7 => .int
  | 8 => .array .int
  | 9 => .array .int
  | 10 => .array .int
  | 11 => .array .int
  | 12 => .array .int
  | 13 => .array .int
  | _ => .array .int
abbrev wsX80 : List Cond := u_ws RX8 TX8 15
theorem nmX8 : ∀ a, a < 15 → ∀ b, b < 15 → a ≠ b → (TX8 a).2.1 ≠ (TX8 b).2.1 := by decide +kernel
theorem tyX8_ok : ∀ k, k < 15 → parseFieldDescriptor (TX8 k).2.2.1 = some (tyX8 k) := by decide +kernel
abbrev cX8_init : ByteArray := prog_10_method_1_code
def yX8_init : MethodName := ⟨RX8, "<init>", "(LHeavierSide$Barge;LHeavierSide$Rite;)V"⟩
abbrev cX8_levelBenches : ByteArray := prog_10_method_2_code
def yX8_levelBenches : MethodName := ⟨RX8, "levelBenches", "(I)I"⟩
abbrev cX8_search : ByteArray := prog_10_method_3_code
def yX8_search : MethodName := ⟨RX8, "search", "()V"⟩
abbrev cX8_startIn : ByteArray := prog_10_method_4_code
def yX8_startIn : MethodName := ⟨RX8, "startIn", "(I)I"⟩
abbrev cX8_momentIn : ByteArray := prog_10_method_5_code
def yX8_momentIn : MethodName := ⟨RX8, "momentIn", "(III)I"⟩
abbrev cX8_reckonMoments : ByteArray := prog_10_method_6_code
def yX8_reckonMoments : MethodName := ⟨RX8, "reckonMoments", "(I)V"⟩
abbrev cX8_tryComer : ByteArray := prog_10_method_7_code
def yX8_tryComer : MethodName := ⟨RX8, "tryComer", "(IIII)V"⟩
abbrev cX8_seatComer : ByteArray := prog_10_method_8_code
def yX8_seatComer : MethodName := ⟨RX8, "seatComer", "(IIIII)V"⟩
abbrev cX8_noteSeating : ByteArray := prog_10_method_9_code
def yX8_noteSeating : MethodName := ⟨RX8, "noteSeating", "(I)V"⟩
def RX9 : String := "HeavierSide$Text"
def TX9 : u_T := fun k => match k with
  | 0 => ("HeavierSide$Text", "size", "I", false)
  | _ => ("HeavierSide$Text", "bytes", "[B", true)
def tyX9 : Nat → FieldType := fun k => match k with
  | 0 => .int
  | _ => .array .byte
abbrev wsX90 : List Cond := u_ws RX9 TX9 2
theorem nmX9 : ∀ a, a < 2 → ∀ b, b < 2 → a ≠ b → (TX9 a).2.1 ≠ (TX9 b).2.1 := by decide +kernel
theorem tyX9_ok : ∀ k, k < 2 → parseFieldDescriptor (TX9 k).2.2.1 = some (tyX9 k) := by decide +kernel
abbrev cX9_init : ByteArray := prog_11_method_1_code
def yX9_init : MethodName := ⟨RX9, "<init>", "()V"⟩
abbrev cX9_isMissing : ByteArray := prog_11_method_2_code
def yX9_isMissing : MethodName := ⟨RX9, "isMissing", "()Z"⟩
abbrev cX9_has : ByteArray := prog_11_method_3_code
def yX9_has : MethodName := ⟨RX9, "has", "(I)Z"⟩
abbrev cX9_byteAt : ByteArray := prog_11_method_4_code
def yX9_byteAt : MethodName := ⟨RX9, "byteAt", "(I)I"⟩
abbrev cX9_renew : ByteArray := prog_11_method_5_code
def yX9_renew : MethodName := ⟨RX9, "renew", "(I)V"⟩
abbrev cX9_faultAsBarge : ByteArray := prog_11_method_6_code
def yX9_faultAsBarge : MethodName := ⟨RX9, "faultAsBarge", "()I"⟩
abbrev cX9_faultAsRite : ByteArray := prog_11_method_7_code
def yX9_faultAsRite : MethodName := ⟨RX9, "faultAsRite", "()I"⟩
abbrev cX9_fillBarge : ByteArray := prog_11_method_8_code
def yX9_fillBarge : MethodName := ⟨RX9, "fillBarge", "(LHeavierSide$Barge;)V"⟩
abbrev cX9_fillRite : ByteArray := prog_11_method_9_code
def yX9_fillRite : MethodName := ⟨RX9, "fillRite", "(LHeavierSide$Rite;)V"⟩
abbrev cX9_figureAt : ByteArray := prog_11_method_10_code
def yX9_figureAt : MethodName := ⟨RX9, "figureAt", "(I)I"⟩
abbrev cX9_isFigureDue : ByteArray := prog_11_method_11_code
def yX9_isFigureDue : MethodName := ⟨RX9, "isFigureDue", "(II)Z"⟩
abbrev cX9_isBenchLetter : ByteArray := prog_11_method_12_code
def yX9_isBenchLetter : MethodName := ⟨RX9, "isBenchLetter", "(I)Z"⟩
abbrev cX9_kindByLetter : ByteArray := prog_11_method_13_code
def yX9_kindByLetter : MethodName := ⟨RX9, "kindByLetter", "(I)I"⟩
abbrev cX9_postureByLetter : ByteArray := prog_11_method_14_code
def yX9_postureByLetter : MethodName := ⟨RX9, "postureByLetter", "(I)I"⟩
def RX10 : String := "HeavierSide$Told"
def TX10 : u_T := fun k => match k with
  | 0 => ("HeavierSide$Told", "asked", "I", false)
  | 1 => ("HeavierSide$Told", "upper", "J", false)
  | 2 => ("HeavierSide$Told", "lower", "J", false)
  | 3 => ("HeavierSide$Told", "finding", "I", false)
  | _ => ("HeavierSide$Told", "times", "[I", true)
def tyX10 : Nat → FieldType := fun k => match k with
  | 0 => .int
  | 1 => .long
  | 2 => .long
  | 3 => .int
  | _ => .array .int
abbrev wsX100 : List Cond := u_ws RX10 TX10 5
theorem nmX10 : ∀ a, a < 5 → ∀ b, b < 5 → a ≠ b → (TX10 a).2.1 ≠ (TX10 b).2.1 := by decide +kernel
theorem tyX10_ok : ∀ k, k < 5 → parseFieldDescriptor (TX10 k).2.2.1 = some (tyX10 k) := by decide +kernel
abbrev cX10_init : ByteArray := prog_12_method_1_code
def yX10_init : MethodName := ⟨RX10, "<init>", "()V"⟩
abbrev cX10_tell : ByteArray := prog_12_method_2_code
def yX10_tell : MethodName := ⟨RX10, "tell", "(I)V"⟩
abbrev cX10_found : ByteArray := prog_12_method_3_code
def yX10_found : MethodName := ⟨RX10, "found", "(I)I"⟩
abbrev cX10_timesFound : ByteArray := prog_12_method_4_code
def yX10_timesFound : MethodName := ⟨RX10, "timesFound", "(I)I"⟩
abbrev cX10_share : ByteArray := prog_12_method_5_code
def yX10_share : MethodName := ⟨RX10, "share", "(II)V"⟩
abbrev cX10_greatestDivisor : ByteArray := prog_12_method_6_code
def yX10_greatestDivisor : MethodName := ⟨RX10, "greatestDivisor", "(II)I"⟩
def RX11 : String := "HeavierSide"
def TX11 : u_T := fun k => match k with
  | 0 => ("HeavierSide", "told", "LHeavierSide$Told;", true)
  | 1 => ("HeavierSide", "rows", "[LHeavierSide$Row;", true)
  | 2 => ("HeavierSide", "texts", "[LHeavierSide$Text;", true)
  | 3 => ("HeavierSide", "barge", "LHeavierSide$Barge;", true)
  | 4 => ("HeavierSide", "quarrels", "LHeavierSide$Quarrels;", true)
  | 5 => ("HeavierSide", "rite", "LHeavierSide$Rite;", true)
  | 6 => ("HeavierSide", "deeds", "LHeavierSide$Deeds;", true)
  | 7 => ("HeavierSide", "kept", "LHeavierSide$Kept;", true)
  | 8 => ("HeavierSide", "seatings", "LHeavierSide$Seatings;", true)
  | 9 => ("HeavierSide", "leaving", "LHeavierSide$Leaving;", true)
  | _ => ("HeavierSide", "invitation", "LHeavierSide$Invitation;", true)
def tyX11 : Nat → FieldType := fun k => match k with
  | 0 => .object "HeavierSide$Told"
  | 1 => .array (.object "HeavierSide$Row")
  | 2 => .array (.object "HeavierSide$Text")
  | 3 => .object "HeavierSide$Barge"
  | 4 => .object "HeavierSide$Quarrels"
  | 5 => .object "HeavierSide$Rite"
  | 6 => .object "HeavierSide$Deeds"
  | 7 => .object "HeavierSide$Kept"
  | 8 => .object "HeavierSide$Seatings"
  | 9 => .object "HeavierSide$Leaving"
  | _ => .object "HeavierSide$Invitation"
abbrev wsX110 : List Cond := u_ws RX11 TX11 11
theorem nmX11 : ∀ a, a < 11 → ∀ b, b < 11 → a ≠ b → (TX11 a).2.1 ≠ (TX11 b).2.1 := by decide +kernel
theorem tyX11_ok : ∀ k, k < 11 → parseFieldDescriptor (TX11 k).2.2.1 = some (tyX11 k) := by decide +kernel
abbrev cX11_init : ByteArray := prog_1_method_1_code
def yX11_init : MethodName := ⟨RX11, "<init>", "()V"⟩
abbrev cX11_row : ByteArray := prog_1_method_2_code
def yX11_row : MethodName := ⟨RX11, "row", "(II)I"⟩
abbrev cX11_lay : ByteArray := prog_1_method_3_code
def yX11_lay : MethodName := ⟨RX11, "lay", "(III)I"⟩
abbrev cX11_at : ByteArray := prog_1_method_4_code
def yX11_at : MethodName := ⟨RX11, "at", "(II)I"⟩
abbrev cX11_tear : ByteArray := prog_1_method_5_code
def yX11_tear : MethodName := ⟨RX11, "tear", "(I)I"⟩
abbrev cX11_copy : ByteArray := prog_1_method_6_code
def yX11_copy : MethodName := ⟨RX11, "copy", "(IIIII)I"⟩
abbrev cX11_mean : ByteArray := prog_1_method_7_code
def yX11_mean : MethodName := ⟨RX11, "mean", "(I)I"⟩
abbrev cX11_text : ByteArray := prog_1_method_8_code
def yX11_text : MethodName := ⟨RX11, "text", "(II)I"⟩
abbrev cX11_put : ByteArray := prog_1_method_9_code
def yX11_put : MethodName := ⟨RX11, "put", "(III)I"⟩
abbrev cX11_fault : ByteArray := prog_1_method_10_code
def yX11_fault : MethodName := ⟨RX11, "fault", "(IZ)I"⟩
abbrev cX11_barge : ByteArray := prog_1_method_11_code
def yX11_barge : MethodName := ⟨RX11, "barge", "(I)I"⟩
abbrev cX11_rite : ByteArray := prog_1_method_12_code
def yX11_rite : MethodName := ⟨RX11, "rite", "(I)I"⟩
abbrev cX11_bench : ByteArray := prog_1_method_13_code
def yX11_bench : MethodName := ⟨RX11, "bench", "(II)I"⟩
abbrev cX11_guest : ByteArray := prog_1_method_14_code
def yX11_guest : MethodName := ⟨RX11, "guest", "(II)I"⟩
abbrev cX11_mark : ByteArray := prog_1_method_15_code
def yX11_mark : MethodName := ⟨RX11, "mark", "(II)I"⟩
abbrev cX11_limit : ByteArray := prog_1_method_16_code
def yX11_limit : MethodName := ⟨RX11, "limit", "(I)I"⟩
abbrev cX11_rain : ByteArray := prog_1_method_17_code
def yX11_rain : MethodName := ⟨RX11, "rain", "(I)I"⟩
abbrev cX11_quarrel : ByteArray := prog_1_method_18_code
def yX11_quarrel : MethodName := ⟨RX11, "quarrel", "(II)I"⟩
abbrev cX11_peace : ByteArray := prog_1_method_19_code
def yX11_peace : MethodName := ⟨RX11, "peace", "(I)I"⟩
abbrev cX11_seat : ByteArray := prog_1_method_20_code
def yX11_seat : MethodName := ⟨RX11, "seat", "(II)I"⟩
abbrev cX11_rise : ByteArray := prog_1_method_21_code
def yX11_rise : MethodName := ⟨RX11, "rise", "(I)I"⟩
abbrev cX11_change : ByteArray := prog_1_method_22_code
def yX11_change : MethodName := ⟨RX11, "change", "(II)I"⟩
abbrev cX11_undo : ByteArray := prog_1_method_23_code
def yX11_undo : MethodName := ⟨RX11, "undo", "()I"⟩
abbrev cX11_keep : ByteArray := prog_1_method_24_code
def yX11_keep : MethodName := ⟨RX11, "keep", "(I)I"⟩
abbrev cX11_on : ByteArray := prog_1_method_25_code
def yX11_on : MethodName := ⟨RX11, "on", "(I)I"⟩
abbrev cX11_list : ByteArray := prog_1_method_26_code
def yX11_list : MethodName := ⟨RX11, "list", "(I)I"⟩
abbrev cX11_when : ByteArray := prog_1_method_27_code
def yX11_when : MethodName := ⟨RX11, "when", "()I"⟩
abbrev cX11_minutes : ByteArray := prog_1_method_28_code
def yX11_minutes : MethodName := ⟨RX11, "minutes", "()I"⟩
abbrev cX11_worst : ByteArray := prog_1_method_29_code
def yX11_worst : MethodName := ⟨RX11, "worst", "()I"⟩
abbrev cX11_need : ByteArray := prog_1_method_30_code
def yX11_need : MethodName := ⟨RX11, "need", "()I"⟩
abbrev cX11_best : ByteArray := prog_1_method_31_code
def yX11_best : MethodName := ⟨RX11, "best", "(I)I"⟩
abbrev cX11_ways : ByteArray := prog_1_method_32_code
def yX11_ways : MethodName := ⟨RX11, "ways", "()I"⟩
abbrev cX11_sure : ByteArray := prog_1_method_33_code
def yX11_sure : MethodName := ⟨RX11, "sure", "()I"⟩
abbrev cX11_where : ByteArray := prog_1_method_34_code
def yX11_where : MethodName := ⟨RX11, "where", "(I)I"⟩
abbrev cX11_aisle : ByteArray := prog_1_method_35_code
def yX11_aisle : MethodName := ⟨RX11, "aisle", "()I"⟩
abbrev cX11_leave : ByteArray := prog_1_method_36_code
def yX11_leave : MethodName := ⟨RX11, "leave", "(I)I"⟩
abbrev cX11_leavers : ByteArray := prog_1_method_37_code
def yX11_leavers : MethodName := ⟨RX11, "leavers", "()I"⟩
abbrev cX11_invite : ByteArray := prog_1_method_38_code
def yX11_invite : MethodName := ⟨RX11, "invite", "(III)I"⟩
abbrev cX11_far : ByteArray := prog_1_method_39_code
def yX11_far : MethodName := ⟨RX11, "far", "(II)I"⟩
abbrev cX11_crossed : ByteArray := prog_1_method_40_code
def yX11_crossed : MethodName := ⟨RX11, "crossed", "()I"⟩
abbrev cX11_divorce : ByteArray := prog_1_method_41_code
def yX11_divorce : MethodName := ⟨RX11, "divorce", "()I"⟩
abbrev cX11_kin : ByteArray := prog_1_method_42_code
def yX11_kin : MethodName := ⟨RX11, "kin", "(I)I"⟩
abbrev cX11_odds : ByteArray := prog_1_method_43_code
def yX11_odds : MethodName := ⟨RX11, "odds", "(II)I"⟩
abbrev cX11_storm : ByteArray := prog_1_method_44_code
def yX11_storm : MethodName := ⟨RX11, "storm", "(I)I"⟩
abbrev cX11_asked : ByteArray := prog_1_method_45_code
def yX11_asked : MethodName := ⟨RX11, "asked", "()I"⟩
abbrev cX11_upper : ByteArray := prog_1_method_46_code
def yX11_upper : MethodName := ⟨RX11, "upper", "()J"⟩
abbrev cX11_lower : ByteArray := prog_1_method_47_code
def yX11_lower : MethodName := ⟨RX11, "lower", "()J"⟩
abbrev cX11_count : ByteArray := prog_1_method_48_code
def yX11_count : MethodName := ⟨RX11, "count", "(I)I"⟩
abbrev cX11_finding : ByteArray := prog_1_method_49_code
def yX11_finding : MethodName := ⟨RX11, "finding", "()I"⟩
abbrev cX11_findings : ByteArray := prog_1_method_50_code
def yX11_findings : MethodName := ⟨RX11, "findings", "(I)I"⟩
abbrev cX11_digest : ByteArray := prog_1_method_51_code
def yX11_digest : MethodName := ⟨RX11, "digest", "()J"⟩
abbrev cX11_isWithin : ByteArray := prog_1_method_52_code
def yX11_isWithin : MethodName := ⟨RX11, "isWithin", "(III)Z"⟩
abbrev cX11_isPosture : ByteArray := prog_1_method_53_code
def yX11_isPosture : MethodName := ⟨RX11, "isPosture", "(I)Z"⟩
abbrev cX11_rowOf : ByteArray := prog_1_method_54_code
def yX11_rowOf : MethodName := ⟨RX11, "rowOf", "(I)LHeavierSide$Row;"⟩
abbrev cX11_textOf : ByteArray := prog_1_method_55_code
def yX11_textOf : MethodName := ⟨RX11, "textOf", "(I)LHeavierSide$Text;"⟩
abbrev cX11_placeRefused : ByteArray := prog_1_method_56_code
def yX11_placeRefused : MethodName := ⟨RX11, "placeRefused", "(LHeavierSide$Row;I)I"⟩
abbrev cX11_seatingsRefused : ByteArray := prog_1_method_57_code
def yX11_seatingsRefused : MethodName := ⟨RX11, "seatingsRefused", "()I"⟩
abbrev cX11_ofBench : ByteArray := prog_1_method_58_code
def yX11_ofBench : MethodName := ⟨RX11, "ofBench", "(II)I"⟩
abbrev cX11_ofGuest : ByteArray := prog_1_method_59_code
def yX11_ofGuest : MethodName := ⟨RX11, "ofGuest", "(II)I"⟩
abbrev cX11_countOf : ByteArray := prog_1_method_60_code
def yX11_countOf : MethodName := ⟨RX11, "countOf", "(I)I"⟩
abbrev cX11_rowsThere : ByteArray := prog_1_method_61_code
def yX11_rowsThere : MethodName := ⟨RX11, "rowsThere", "()I"⟩
abbrev cX11_textsThere : ByteArray := prog_1_method_62_code
def yX11_textsThere : MethodName := ⟨RX11, "textsThere", "()I"⟩
abbrev cX11_sizeIn : ByteArray := prog_1_method_63_code
def yX11_sizeIn : MethodName := ⟨RX11, "sizeIn", "(I)I"⟩
abbrev cX11_worstMinute : ByteArray := prog_1_method_64_code
def yX11_worstMinute : MethodName := ⟨RX11, "worstMinute", "()I"⟩
abbrev cX11_withBarge : ByteArray := prog_1_method_65_code
def yX11_withBarge : MethodName := ⟨RX11, "withBarge", "(J)J"⟩
abbrev cX11_withKept : ByteArray := prog_1_method_66_code
def yX11_withKept : MethodName := ⟨RX11, "withKept", "(J)J"⟩
abbrev cX11_withRows : ByteArray := prog_1_method_67_code
def yX11_withRows : MethodName := ⟨RX11, "withRows", "(J)J"⟩
abbrev cX11_withTexts : ByteArray := prog_1_method_68_code
def yX11_withTexts : MethodName := ⟨RX11, "withTexts", "(J)J"⟩
def RX12 : String := "HeavierSideModel"
def TX12 : u_T := fun k => match k with
  | 0 => ("HeavierSideModel", "latest", "I", false)
  | 1 => ("HeavierSideModel", "came", "[I", true)
  | 2 => ("HeavierSideModel", "asked", "I", false)
  | 3 => ("HeavierSideModel", "upper", "J", false)
  | 4 => ("HeavierSideModel", "lower", "J", false)
  | 5 => ("HeavierSideModel", "sizes", "[I", true)
  | 6 => ("HeavierSideModel", "rows", "[I", true)
  | 7 => ("HeavierSideModel", "copied", "[I", true)
  | 8 => ("HeavierSideModel", "textSizes", "[I", true)
  | 9 => ("HeavierSideModel", "bytes", "[B", true)
  | 10 => ("HeavierSideModel", "benchMany", "I", false)
  | 11 => ("HeavierSideModel", "xs", "[I", true)
  | 12 => ("HeavierSideModel", "n", "I", false)
  | 13 => ("HeavierSideModel", "kinds", "[I", true)
  | 14 => ("HeavierSideModel", "weights", "[I", true)
  | 15 => ("HeavierSideModel", "kins", "[I", true)
  | 16 => ("HeavierSideModel", "sits", "[I", true)
  | 17 => ("HeavierSideModel", "limitNow", "I", false)
  | 18 => ("HeavierSideModel", "rainNow", "I", false)
  | 19 => ("HeavierSideModel", "minuteMany", "I", false)
  | 20 => ("HeavierSideModel", "minutes", "[I", true)
  | 21 => ("HeavierSideModel", "readAt", "I", false)
  | 22 => ("HeavierSideModel", "readNumber", "I", false)
  | 23 => ("HeavierSideModel", "readBenches", "I", false)
  | 24 => ("HeavierSideModel", "readGuests", "I", false)
  | 25 => ("HeavierSideModel", "readXs", "[I", true)
  | 26 => ("HeavierSideModel", "readKinds", "[I", true)
  | 27 => ("HeavierSideModel", "readWeights", "[I", true)
  | 28 => ("HeavierSideModel", "readKins", "[I", true)
  | 29 => ("HeavierSideModel", "quarrelMany", "I", false)
  | 30 => ("HeavierSideModel", "quarrelOne", "[I", true)
  | 31 => ("HeavierSideModel", "quarrelOther", "[I", true)
  | 32 => ("HeavierSideModel", "deedMany", "I", false)
  | 33 => ("HeavierSideModel", "deeds", "[I", true)
  | 34 => ("HeavierSideModel", "isKept", "[Z", true)
  | 35 => ("HeavierSideModel", "kept", "[I", true)
  | 36 => ("HeavierSideModel", "worstMinute", "I", false)
  | 37 => ("HeavierSideModel", "seatings", "I", false)
  | 38 => ("HeavierSideModel", "through", "I", false)
  | 39 => ("HeavierSideModel", "bestWorst", "I", false)
  | 40 => ("HeavierSideModel", "bestSits", "[I", true)
  | 41 => ("HeavierSideModel", "benchesOf", "[I", true)
  | 42 => ("HeavierSideModel", "orders", "I", false)
  | 43 => ("HeavierSideModel", "firstSet", "I", false)
  | 44 => ("HeavierSideModel", "lastSet", "I", false)
  | 45 => ("HeavierSideModel", "leaving", "[I", true)
  | 46 => ("HeavierSideModel", "firstLeaving", "[I", true)
  | 47 => ("HeavierSideModel", "invitedMany", "I", false)
  | 48 => ("HeavierSideModel", "invitedWeight", "[I", true)
  | 49 => ("HeavierSideModel", "invitedCost", "[I", true)
  | 50 => ("HeavierSideModel", "invitedOn", "[I", true)
  | 51 => ("HeavierSideModel", "bestOn", "[I", true)
  | 52 => ("HeavierSideModel", "freeOn", "[I", true)
  | 53 => ("HeavierSideModel", "cheapest", "I", false)
  | _ => ("HeavierSideModel", "hash", "J", false)
def tyX12 : Nat → FieldType := fun k => match k with
  | 0 => .int
  | 1 => .array .int
  | 2 => .int
  | 3 => .long
  | 4 => .long
  | 5 => .array .int
  | 6 => .array .int
  | 7 => .array .int
  | 8 => .array .int
  | 9 => .array .byte
  | 10 => .int
  | 11 => .array .int
  | 12 => .int
  | 13 => .array .int
  | 14 => .array .int
  | 15 => .array .int
  | 16 => .array .int
  | 17 => .int
  | 18 => .int
  | 19 => .int
  | 20 => .array .int
  | 21 => .int
  | 22 => .int
  | 23 => .int
  | 24 => .int
  | 25 => .array .int
  | 26 => .array .int
  | 27 => .array .int
  | 28 => .array .int
  | 29 => .int
  | 30 => .array .int
  | 31 => .array .int
  | 32 => .int
  | 33 => .array .int
  | 34 => .array .boolean
  | 35 => .array .int
  | 36 => .int
  | 37 => .int
  | 38 => .int
  | 39 => .int
  | 40 => .array .int
  | 41 => .array .int
  | 42 => .int
  | 43 => .int
  | 44 => .int
  | 45 => .array .int
  | 46 => .array .int
  | 47 => .int
  | 48 => .array .int
  | 49 => .array .int
  | 50 => .array .int
  | 51 => .array .int
  | 52 => .array .int
  | 53 => .int
  | _ => .long
abbrev wsX120 : List Cond := u_ws RX12 TX12 55
theorem nmX12 : ∀ a, a < 55 → ∀ b, b < 55 → a ≠ b → (TX12 a).2.1 ≠ (TX12 b).2.1 := by decide +kernel
theorem tyX12_ok : ∀ k, k < 55 → parseFieldDescriptor (TX12 k).2.2.1 = some (tyX12 k) := by decide +kernel
abbrev cX12_init : ByteArray := prog_14_method_1_code
def yX12_init : MethodName := ⟨RX12, "<init>", "()V"⟩
abbrev cX12_in : ByteArray := prog_14_method_2_code
def yX12_in : MethodName := ⟨RX12, "in", "(III)Z"⟩
abbrev cX12_has : ByteArray := prog_14_method_3_code
def yX12_has : MethodName := ⟨RX12, "has", "(II)Z"⟩
abbrev cX12_bits : ByteArray := prog_14_method_4_code
def yX12_bits : MethodName := ⟨RX12, "bits", "(I)I"⟩
abbrev cX12_sizeOf : ByteArray := prog_14_method_5_code
def yX12_sizeOf : MethodName := ⟨RX12, "sizeOf", "(I)I"⟩
abbrev cX12_greater : ByteArray := prog_14_method_6_code
def yX12_greater : MethodName := ⟨RX12, "greater", "(II)I"⟩
abbrev cX12_meets : ByteArray := prog_14_method_7_code
def yX12_meets : MethodName := ⟨RX12, "meets", "(I)I"⟩
abbrev cX12_finding : ByteArray := prog_14_method_8_code
def yX12_finding : MethodName := ⟨RX12, "finding", "()I"⟩
abbrev cX12_findings : ByteArray := prog_14_method_9_code
def yX12_findings : MethodName := ⟨RX12, "findings", "(I)I"⟩
abbrev cX12_tells : ByteArray := prog_14_method_10_code
def yX12_tells : MethodName := ⟨RX12, "tells", "(II)I"⟩
abbrev cX12_asked : ByteArray := prog_14_method_11_code
def yX12_asked : MethodName := ⟨RX12, "asked", "()I"⟩
abbrev cX12_fraction : ByteArray := prog_14_method_12_code
def yX12_fraction : MethodName := ⟨RX12, "fraction", "(III)I"⟩
abbrev cX12_upper : ByteArray := prog_14_method_13_code
def yX12_upper : MethodName := ⟨RX12, "upper", "()J"⟩
abbrev cX12_lower : ByteArray := prog_14_method_14_code
def yX12_lower : MethodName := ⟨RX12, "lower", "()J"⟩
abbrev cX12_isRow : ByteArray := prog_14_method_15_code
def yX12_isRow : MethodName := ⟨RX12, "isRow", "(I)Z"⟩
abbrev cX12_rowAt : ByteArray := prog_14_method_16_code
def yX12_rowAt : MethodName := ⟨RX12, "rowAt", "(II)I"⟩
abbrev cX12_row : ByteArray := prog_14_method_17_code
def yX12_row : MethodName := ⟨RX12, "row", "(II)I"⟩
abbrev cX12_lay : ByteArray := prog_14_method_18_code
def yX12_lay : MethodName := ⟨RX12, "lay", "(III)I"⟩
abbrev cX12_at : ByteArray := prog_14_method_19_code
def yX12_at : MethodName := ⟨RX12, "at", "(II)I"⟩
abbrev cX12_tear : ByteArray := prog_14_method_20_code
def yX12_tear : MethodName := ⟨RX12, "tear", "(I)I"⟩
abbrev cX12_copy : ByteArray := prog_14_method_21_code
def yX12_copy : MethodName := ⟨RX12, "copy", "(IIIII)I"⟩
abbrev cX12_mean : ByteArray := prog_14_method_22_code
def yX12_mean : MethodName := ⟨RX12, "mean", "(I)I"⟩
abbrev cX12_isText : ByteArray := prog_14_method_23_code
def yX12_isText : MethodName := ⟨RX12, "isText", "(I)Z"⟩
abbrev cX12_text : ByteArray := prog_14_method_24_code
def yX12_text : MethodName := ⟨RX12, "text", "(II)I"⟩
abbrev cX12_put : ByteArray := prog_14_method_25_code
def yX12_put : MethodName := ⟨RX12, "put", "(III)I"⟩
abbrev cX12_byteAt : ByteArray := prog_14_method_26_code
def yX12_byteAt : MethodName := ⟨RX12, "byteAt", "(II)I"⟩
abbrev cX12_kindOf : ByteArray := prog_14_method_27_code
def yX12_kindOf : MethodName := ⟨RX12, "kindOf", "(I)I"⟩
abbrev cX12_figure : ByteArray := prog_14_method_28_code
def yX12_figure : MethodName := ⟨RX12, "figure", "(III)Z"⟩
abbrev cX12_readsBench : ByteArray := prog_14_method_29_code
def yX12_readsBench : MethodName := ⟨RX12, "readsBench", "(I)Z"⟩
abbrev cX12_readsGuest : ByteArray := prog_14_method_30_code
def yX12_readsGuest : MethodName := ⟨RX12, "readsGuest", "(I)Z"⟩
abbrev cX12_faultOf : ByteArray := prog_14_method_31_code
def yX12_faultOf : MethodName := ⟨RX12, "faultOf", "(I)I"⟩
abbrev cX12_postureOf : ByteArray := prog_14_method_32_code
def yX12_postureOf : MethodName := ⟨RX12, "postureOf", "(I)I"⟩
abbrev cX12_riteFault : ByteArray := prog_14_method_33_code
def yX12_riteFault : MethodName := ⟨RX12, "riteFault", "(I)I"⟩
abbrev cX12_fault : ByteArray := prog_14_method_34_code
def yX12_fault : MethodName := ⟨RX12, "fault", "(IZ)I"⟩
abbrev cX12_barge : ByteArray := prog_14_method_35_code
def yX12_barge : MethodName := ⟨RX12, "barge", "(I)I"⟩
abbrev cX12_rite : ByteArray := prog_14_method_36_code
def yX12_rite : MethodName := ⟨RX12, "rite", "(I)I"⟩
abbrev cX12_isBench : ByteArray := prog_14_method_37_code
def yX12_isBench : MethodName := ⟨RX12, "isBench", "(I)Z"⟩
abbrev cX12_isGuest : ByteArray := prog_14_method_38_code
def yX12_isGuest : MethodName := ⟨RX12, "isGuest", "(I)Z"⟩
abbrev cX12_weighs : ByteArray := prog_14_method_39_code
def yX12_weighs : MethodName := ⟨RX12, "weighs", "(I)I"⟩
abbrev cX12_outOf : ByteArray := prog_14_method_40_code
def yX12_outOf : MethodName := ⟨RX12, "outOf", "(III)I"⟩
abbrev cX12_momentOf : ByteArray := prog_14_method_41_code
def yX12_momentOf : MethodName := ⟨RX12, "momentOf", "(III)I"⟩
abbrev cX12_listOf : ByteArray := prog_14_method_42_code
def yX12_listOf : MethodName := ⟨RX12, "listOf", "(II)I"⟩
abbrev cX12_isLevel : ByteArray := prog_14_method_43_code
def yX12_isLevel : MethodName := ⟨RX12, "isLevel", "(I)Z"⟩
abbrev cX12_takenOn : ByteArray := prog_14_method_44_code
def yX12_takenOn : MethodName := ⟨RX12, "takenOn", "(I)I"⟩
abbrev cX12_setOn : ByteArray := prog_14_method_45_code
def yX12_setOn : MethodName := ⟨RX12, "setOn", "(I)I"⟩
abbrev cX12_weightOn : ByteArray := prog_14_method_46_code
def yX12_weightOn : MethodName := ⟨RX12, "weightOn", "(I)I"⟩
abbrev cX12_benchTells : ByteArray := prog_14_method_47_code
def yX12_benchTells : MethodName := ⟨RX12, "benchTells", "(II)I"⟩
abbrev cX12_bench : ByteArray := prog_14_method_48_code
def yX12_bench : MethodName := ⟨RX12, "bench", "(II)I"⟩
abbrev cX12_guestTells : ByteArray := prog_14_method_49_code
def yX12_guestTells : MethodName := ⟨RX12, "guestTells", "(II)I"⟩
abbrev cX12_guest : ByteArray := prog_14_method_50_code
def yX12_guest : MethodName := ⟨RX12, "guest", "(II)I"⟩
abbrev cX12_kinSeated : ByteArray := prog_14_method_51_code
def yX12_kinSeated : MethodName := ⟨RX12, "kinSeated", "(I)I"⟩
abbrev cX12_mark : ByteArray := prog_14_method_52_code
def yX12_mark : MethodName := ⟨RX12, "mark", "(II)I"⟩
abbrev cX12_limit : ByteArray := prog_14_method_53_code
def yX12_limit : MethodName := ⟨RX12, "limit", "(I)I"⟩
abbrev cX12_rain : ByteArray := prog_14_method_54_code
def yX12_rain : MethodName := ⟨RX12, "rain", "(I)I"⟩
abbrev cX12_quarrel : ByteArray := prog_14_method_55_code
def yX12_quarrel : MethodName := ⟨RX12, "quarrel", "(II)I"⟩
abbrev cX12_peace : ByteArray := prog_14_method_56_code
def yX12_peace : MethodName := ⟨RX12, "peace", "(I)I"⟩
abbrev cX12_isBroken : ByteArray := prog_14_method_57_code
def yX12_isBroken : MethodName := ⟨RX12, "isBroken", "(I)Z"⟩
abbrev cX12_isAtPeace : ByteArray := prog_14_method_58_code
def yX12_isAtPeace : MethodName := ⟨RX12, "isAtPeace", "(I)Z"⟩
abbrev cX12_remembers : ByteArray := prog_14_method_59_code
def yX12_remembers : MethodName := ⟨RX12, "remembers", "(I)V"⟩
abbrev cX12_sitsOn : ByteArray := prog_14_method_60_code
def yX12_sitsOn : MethodName := ⟨RX12, "sitsOn", "(II)Z"⟩
abbrev cX12_seat : ByteArray := prog_14_method_61_code
def yX12_seat : MethodName := ⟨RX12, "seat", "(II)I"⟩
abbrev cX12_rise : ByteArray := prog_14_method_62_code
def yX12_rise : MethodName := ⟨RX12, "rise", "(I)I"⟩
abbrev cX12_swap : ByteArray := prog_14_method_63_code
def yX12_swap : MethodName := ⟨RX12, "swap", "(II)V"⟩
abbrev cX12_canChange : ByteArray := prog_14_method_64_code
def yX12_canChange : MethodName := ⟨RX12, "canChange", "(II)Z"⟩
abbrev cX12_change : ByteArray := prog_14_method_65_code
def yX12_change : MethodName := ⟨RX12, "change", "(II)I"⟩
abbrev cX12_undo : ByteArray := prog_14_method_66_code
def yX12_undo : MethodName := ⟨RX12, "undo", "()I"⟩
abbrev cX12_seatedMany : ByteArray := prog_14_method_67_code
def yX12_seatedMany : MethodName := ⟨RX12, "seatedMany", "()I"⟩
abbrev cX12_seatedSet : ByteArray := prog_14_method_68_code
def yX12_seatedSet : MethodName := ⟨RX12, "seatedSet", "()I"⟩
abbrev cX12_keep : ByteArray := prog_14_method_69_code
def yX12_keep : MethodName := ⟨RX12, "keep", "(I)I"⟩
abbrev cX12_on : ByteArray := prog_14_method_70_code
def yX12_on : MethodName := ⟨RX12, "on", "(I)I"⟩
abbrev cX12_list : ByteArray := prog_14_method_71_code
def yX12_list : MethodName := ⟨RX12, "list", "(I)I"⟩
abbrev cX12_when : ByteArray := prog_14_method_72_code
def yX12_when : MethodName := ⟨RX12, "when", "()I"⟩
abbrev cX12_minutes : ByteArray := prog_14_method_73_code
def yX12_minutes : MethodName := ⟨RX12, "minutes", "()I"⟩
abbrev cX12_worstNow : ByteArray := prog_14_method_74_code
def yX12_worstNow : MethodName := ⟨RX12, "worstNow", "()I"⟩
abbrev cX12_worst : ByteArray := prog_14_method_75_code
def yX12_worst : MethodName := ⟨RX12, "worst", "()I"⟩
abbrev cX12_need : ByteArray := prog_14_method_76_code
def yX12_need : MethodName := ⟨RX12, "need", "()I"⟩
abbrev cX12_meetsSeating : ByteArray := prog_14_method_77_code
def yX12_meetsSeating : MethodName := ⟨RX12, "meetsSeating", "()V"⟩
abbrev cX12_laySeatings : ByteArray := prog_14_method_78_code
def yX12_laySeatings : MethodName := ⟨RX12, "laySeatings", "(I)V"⟩
abbrev cX12_needSeatings : ByteArray := prog_14_method_79_code
def yX12_needSeatings : MethodName := ⟨RX12, "needSeatings", "(Z)I"⟩
abbrev cX12_best : ByteArray := prog_14_method_80_code
def yX12_best : MethodName := ⟨RX12, "best", "(I)I"⟩
abbrev cX12_ways : ByteArray := prog_14_method_81_code
def yX12_ways : MethodName := ⟨RX12, "ways", "()I"⟩
abbrev cX12_sure : ByteArray := prog_14_method_82_code
def yX12_sure : MethodName := ⟨RX12, "sure", "()I"⟩
abbrev cX12_where : ByteArray := prog_14_method_83_code
def yX12_where : MethodName := ⟨RX12, "where", "(I)I"⟩
abbrev cX12_aisle : ByteArray := prog_14_method_84_code
def yX12_aisle : MethodName := ⟨RX12, "aisle", "()I"⟩
abbrev cX12_layLeaving : ByteArray := prog_14_method_85_code
def yX12_layLeaving : MethodName := ⟨RX12, "layLeaving", "(I)V"⟩
abbrev cX12_allLeave : ByteArray := prog_14_method_86_code
def yX12_allLeave : MethodName := ⟨RX12, "allLeave", "()V"⟩
abbrev cX12_leave : ByteArray := prog_14_method_87_code
def yX12_leave : MethodName := ⟨RX12, "leave", "(I)I"⟩
abbrev cX12_leavers : ByteArray := prog_14_method_88_code
def yX12_leavers : MethodName := ⟨RX12, "leavers", "()I"⟩
abbrev cX12_layInvited : ByteArray := prog_14_method_89_code
def yX12_layInvited : MethodName := ⟨RX12, "layInvited", "(III)V"⟩
abbrev cX12_needInvited : ByteArray := prog_14_method_90_code
def yX12_needInvited : MethodName := ⟨RX12, "needInvited", "(II)I"⟩
abbrev cX12_invite : ByteArray := prog_14_method_91_code
def yX12_invite : MethodName := ⟨RX12, "invite", "(III)I"⟩
abbrev cX12_far : ByteArray := prog_14_method_92_code
def yX12_far : MethodName := ⟨RX12, "far", "(II)I"⟩
abbrev cX12_crossed : ByteArray := prog_14_method_93_code
def yX12_crossed : MethodName := ⟨RX12, "crossed", "()I"⟩
abbrev cX12_weightAll : ByteArray := prog_14_method_94_code
def yX12_weightAll : MethodName := ⟨RX12, "weightAll", "()I"⟩
abbrev cX12_weightOf : ByteArray := prog_14_method_95_code
def yX12_weightOf : MethodName := ⟨RX12, "weightOf", "(I)I"⟩
abbrev cX12_divorce : ByteArray := prog_14_method_96_code
def yX12_divorce : MethodName := ⟨RX12, "divorce", "()I"⟩
abbrev cX12_kin : ByteArray := prog_14_method_97_code
def yX12_kin : MethodName := ⟨RX12, "kin", "(I)I"⟩
abbrev cX12_odds : ByteArray := prog_14_method_98_code
def yX12_odds : MethodName := ⟨RX12, "odds", "(II)I"⟩
abbrev cX12_storm : ByteArray := prog_14_method_99_code
def yX12_storm : MethodName := ⟨RX12, "storm", "(I)I"⟩
abbrev cX12_counted : ByteArray := prog_14_method_100_code
def yX12_counted : MethodName := ⟨RX12, "counted", "(I)I"⟩
abbrev cX12_count : ByteArray := prog_14_method_101_code
def yX12_count : MethodName := ⟨RX12, "count", "(I)I"⟩
abbrev cX12_mix : ByteArray := prog_14_method_102_code
def yX12_mix : MethodName := ⟨RX12, "mix", "(J)V"⟩
abbrev cX12_mixBarge : ByteArray := prog_14_method_103_code
def yX12_mixBarge : MethodName := ⟨RX12, "mixBarge", "()V"⟩
abbrev cX12_digest : ByteArray := prog_14_method_104_code
def yX12_digest : MethodName := ⟨RX12, "digest", "()J"⟩
def RJ6 : String := "java/lang/Integer"
def TJ6 : u_T := fun k => match k with
  | _ => ("", "", "", false)
def tyJ6 : Nat → FieldType := fun k => match k with
  | _ => .int
abbrev wsJ60 : List Cond := u_ws RJ6 TJ6 0
theorem nmJ6 : ∀ a, a < 0 → ∀ b, b < 0 → a ≠ b → (TJ6 a).2.1 ≠ (TJ6 b).2.1 := by decide +kernel
theorem tyJ6_ok : ∀ k, k < 0 → parseFieldDescriptor (TJ6 k).2.2.1 = some (tyJ6 k) := by decide +kernel
abbrev cJ6_bitCount_0f7a4 : ByteArray := prog_15_method_49_code
def yJ6_bitCount_0f7a4 : MethodName := ⟨RJ6, "bitCount", "(I)I"⟩
def RJ9 : String := "java/lang/Math"
def TJ9 : u_T := fun k => match k with
  | _ => ("", "", "", false)
def tyJ9 : Nat → FieldType := fun k => match k with
  | _ => .int
abbrev wsJ90 : List Cond := u_ws RJ9 TJ9 0
theorem nmJ9 : ∀ a, a < 0 → ∀ b, b < 0 → a ≠ b → (TJ9 a).2.1 ≠ (TJ9 b).2.1 := by decide +kernel
theorem tyJ9_ok : ∀ k, k < 0 → parseFieldDescriptor (TJ9 k).2.2.1 = some (tyJ9 k) := by decide +kernel
abbrev cJ9_abs_0f7a4 : ByteArray := prog_16_method_59_code
def yJ9_abs_0f7a4 : MethodName := ⟨RJ9, "abs", "(I)I"⟩
abbrev cJ9_max_7cf53 : ByteArray := prog_16_method_65_code
def yJ9_max_7cf53 : MethodName := ⟨RJ9, "max", "(II)I"⟩
abbrev cJ9_min_7cf53 : ByteArray := prog_16_method_69_code
def yJ9_min_7cf53 : MethodName := ⟨RJ9, "min", "(II)I"⟩
def RJ10 : String := "java/lang/System"
def TJ10 : u_T := fun k => match k with
  | _ => ("", "", "", false)
def tyJ10 : Nat → FieldType := fun k => match k with
  | _ => .int
abbrev wsJ100 : List Cond := u_ws RJ10 TJ10 0
theorem nmJ10 : ∀ a, a < 0 → ∀ b, b < 0 → a ≠ b → (TJ10 a).2.1 ≠ (TJ10 b).2.1 := by decide +kernel
theorem tyJ10_ok : ∀ k, k < 0 → parseFieldDescriptor (TJ10 k).2.2.1 = some (tyJ10 k) := by decide +kernel
def RL : String := "HeavierSideLaw"
abbrev cL_law : ByteArray := code
def yL_law : MethodName := ⟨RL, "law", "([I)Z"⟩
abbrev vwCl : List vw_C := [(RX0, TX0, 13), (RX1, TX1, 4), (RX2, TX2, 8), (RX3, TX3, 2), (RX4, TX4, 6), (RX5, TX5, 4), (RX6, TX6, 3), (RX7, TX7, 2), (RX8, TX8, 15), (RX9, TX9, 2), (RX10, TX10, 5), (RX11, TX11, 11), (RX12, TX12, 55)]
end
section
-- the cells that the two constructors make, in their order (cell 0: null): kinds (0 .. 12 a class by its place in vwCl, 20 int[], 21 byte[], 22 boolean[], 23 Row[], 24 Text[]), sizes, references; by a program out of the printed bytecode
def kdL : List Nat := [99, 11, 10, 20, 23, 24, 0, 5, 20, 20, 20, 20, 20, 20, 20, 20, 20, 20, 6, 20, 1, 20, 20, 20, 3, 22, 20, 8, 20, 20, 20, 20, 20, 20, 20, 20, 20, 4, 22, 22, 22, 20, 2, 20, 20, 20, 20, 20, 7, 20, 7, 20, 7, 20, 7, 20, 7, 20, 7, 20, 9, 21, 9, 21, 9, 21, 9, 21, 12, 20, 20, 20, 20, 20, 21, 20, 20, 20, 20, 20, 20, 20, 20, 20, 20, 20, 20, 20, 22, 20, 20, 20, 20, 20, 20, 20, 20, 20, 20]
def kd (q : Nat) : Nat := kdL.getD q 99
def lnL : List Nat := [0, 11, 5, 6, 6, 4, 13, 4, 8, 8, 7, 8, 8, 7, 7, 7, 7, 168, 3, 40, 4, 60, 60, 60, 2, 3, 21, 15, 7, 7, 7, 7, 8, 10, 56, 56, 56, 6, 128, 128, 128, 7, 8, 4, 4, 8, 4, 4, 2, 60, 2, 60, 2, 60, 2, 60, 2, 60, 2, 60, 2, 60, 2, 60, 2, 60, 2, 60, 55, 6, 6, 360, 60, 4, 240, 8, 7, 7, 7, 8, 40, 8, 7, 7, 7, 8, 8, 480, 3, 21, 7, 7, 7, 7, 4, 4, 4, 4, 8]
def ln (q : Nat) : Nat := lnL.getD q 0
def rtL : List (List Nat) := [[], [2, 4, 5, 6, 7, 18, 20, 24, 27, 37, 42], [0, 0, 0, 0, 3], [], [48, 50, 52, 54, 56, 58], [60, 62, 64, 66], [0, 0, 0, 0, 7, 11, 12, 13, 14, 15, 16, 17], [0, 8, 9, 10], [], [], [], [], [], [], [], [], [], [], [0, 19], [], [0, 21, 22, 23], [], [], [], [25, 26], [], [], [0, 28, 0, 0, 6, 18, 29, 0, 30, 31, 32, 33, 34, 35, 36], [], [], [], [], [], [], [], [], [], [6, 38, 39, 40, 41], [], [], [], [], [0, 0, 43, 6, 44, 45, 46, 47], [], [], [], [], [], [0, 49], [], [0, 51], [], [0, 53], [], [0, 55], [], [0, 57], [], [0, 59], [], [0, 61], [], [0, 63], [], [0, 65], [], [0, 67], [], [0, 69, 0, 0, 0, 70, 71, 72, 73, 74, 0, 75, 0, 76, 77, 78, 79, 0, 0, 0, 80, 0, 0, 0, 0, 81, 82, 83, 84, 0, 85, 86, 0, 87, 88, 89, 0, 0, 0, 0, 90, 91, 0, 0, 0, 92, 93, 0, 94, 95, 96, 97, 98], [], [], [], [], [], [], [], [], [], [], [], [], [], [], [], [], [], [], [], [], [], [], [], [], [], [], [], [], [], []]
def RT (q j : Nat) : Nat := (rtL.getD q []).getD j 0
def fkL : List (List Nat) := [[0, 0, 0, 0, 2, 2, 2, 2, 2, 2, 2, 2, 0], [0, 2, 2, 2], [0, 0, 2, 2, 2, 2, 2, 2], [2, 2], [2, 2, 2, 2, 2, 0], [0, 2, 2, 2], [0, 2, 0], [0, 2], [0, 2, 0, 0, 2, 2, 2, 0, 2, 2, 2, 2, 2, 2, 2], [0, 2], [0, 1, 1, 0, 2], [2, 2, 2, 2, 2, 2, 2, 2, 2, 2, 2], [0, 2, 0, 1, 1, 2, 2, 2, 2, 2, 0, 2, 0, 2, 2, 2, 2, 0, 0, 0, 2, 0, 0, 0, 0, 2, 2, 2, 2, 0, 2, 2, 0, 2, 2, 2, 0, 0, 0, 0, 2, 2, 0, 0, 0, 2, 2, 0, 2, 2, 2, 2, 2, 0, 1]]
def fk (c j : Nat) : Nat := (fkL.getD c []).getD j 0
def nf (c : Nat) : Nat := (fkL.getD c []).length
def NNc : Nat := 98
def stcL : List (List Int32) := [[0, 1, 0, 0, 2, 0], [0, 0, 1, 0, 0, 2], [1, 1, 2, 1, 1, 2], [0, 0, 0, 0, 1, 2]]
/-- the static rows, as cells 901 .. 904: STANDS_FARTHER, KNEELS_NEARER, WEIGHT_TIMES, KIND_ABOVE -/
def stc (k j : Nat) : Int32 := (stcL.getD k []).getD j 0
def stN (k : Nat) : String := (["STANDS_FARTHER", "KNEELS_NEARER", "WEIGHT_TIMES", "KIND_ABOVE"] : List String).getD k ""
end
section
-- THE FRAME: a judgement Jg over an abstract machine whose cells are numbered, whose ints lie in one store; each row of it is proved once over the kit's rows
def gtb : List Cond := lw_tbl.filter goodWord
def isNst : Cond → Bool
  | .methodLinkNest .. => true
  | _ => false
def nwL : List Cond := lw_tbl.filter isNst
theorem mem_g {w : Cond} (i : Nat) (h : lw_tbl[i]? = some w) (hg : goodWord w = true) : w ∈ gtb := List.mem_filter.mpr ⟨List.mem_of_getElem? h, hg⟩
theorem mem_n {w : Cond} (i : Nat) (h : lw_tbl[i]? = some w) (hg : isNst w = true) : w ∈ nwL := List.mem_filter.mpr ⟨List.mem_of_getElem? h, hg⟩
abbrev AV : Type := Int32 ⊕ Int64 ⊕ Nat
abbrev vI (x : Int32) : AV := .inl x
abbrev vL (x : Int64) : AV := .inr (.inl x)
abbrev vR (q : Nat) : AV := .inr (.inr q)
/-- the ints, and the longs, by cell and place -/
abbrev Mem : Type := (Nat → Nat → Int32) × (Nat → Nat → Int64)
abbrev Rf : Type := Nat → Nat → Nat
/-- classes and slots, the base address, the static rows' addresses, the array classes -/
abbrev Th : Type := va_G × Nat × (Nat → Nat) × (Nat → ClassId)
abbrev Mi : Type := MethodName × ByteArray × Nat × Option FieldType
def adr (Θ : Th) (q : Nat) : Nat := if q < 900 then Θ.2.1 + q else Θ.2.2.1 (q - 901)
def adO (Θ : Th) (q : Nat) : Option Nat := if q = 0 then none else some (adr Θ q)
def cv (Θ : Th) : AV → Value
  | .inl x => .int x
  | .inr (.inl x) => .long x
  | .inr (.inr q) => va_rf (adO Θ q)
def wI (s : Mem) (q j : Nat) (v : Int32) : Mem := (fun a b => if a = q then (if b = j then v else s.1 a b) else s.1 a b, s.2)
def wL (s : Mem) (q j : Nat) (v : Int64) : Mem := (s.1, fun a b => if a = q then (if b = j then v else s.2 a b) else s.2 a b)
/-- a whole row of a cell anew -/
def wF (s : Mem) (q : Nat) (f : Nat → Int32) : Mem := (fun a => if a = q then f else s.1 a, s.2)
def wR (ρ : Rf) (q j v : Nat) : Rf := fun a b => if a = q then (if b = j then v else ρ a b) else ρ a b
def ix (i : Int32) : Nat := i.toNatClampNeg
def inb (i : Int32) (n : Nat) : Bool := decide (0 ≤ i) && decide (i.toNatClampNeg < n)
def bnd {α β : Type} (o : Option (α × Mem)) (k : α → Mem → Option (β × Mem)) : Option (β × Mem) := match o with
  | none => none
  | some (a, s) => k a s
theorem bnd_some {α β : Type} (a : α) (s : Mem) (k : α → Mem → Option (β × Mem)) : bnd (some (a, s)) k = k a s := rfl
theorem bnd_none {α β : Type} (k : α → Mem → Option (β × Mem)) : bnd (none : Option (α × Mem)) k = none := rfl
def fcont (Θ : Th) (ρ : Rf) (s : Mem) (q j : Nat) : Value := if fk (kd q) j = 0 then .int (s.1 q j) else if fk (kd q) j = 1 then .long (s.2 q j) else va_rf (adO Θ (ρ q j))
def cellOf (Θ : Th) (ρ : Rf) (s : Mem) (q : Nat) : va_E :=
  if kd q < 20 then .inr (kd q, (List.range (nf (kd q))).map (fcont Θ ρ s q))
  else if kd q < 23 then .inl (Θ.2.2.2 (kd q), ln q, .inl (s.1 q))
  else .inl (Θ.2.2.2 (kd q), ln q, .inr (.inr (.inr (.inr (fun k => adO Θ (ρ q k))))))
def wsN (Θ : Th) (N : Nat) (ρ : Rf) (s : Mem) : va_W := (List.range N).map (fun i => (Θ.2.1 + (i + 1), cellOf Θ ρ s (i + 1)))
def tysT (Θ : Th) : List (ClassId × FieldType) := [(Θ.2.2.2 20, .int), (Θ.2.2.2 21, .byte), (Θ.2.2.2 22, .boolean), (Θ.2.2.2 23, .object "HeavierSide$Row"), (Θ.2.2.2 24, .object "HeavierSide$Text")]
def Ar (Θ : Th) : Nat → Prop := fun q => Θ.2.1 + 1 ≤ q
def Rel (Θ : Th) (N : Nat) (ρ : Rf) (s : Mem) (H : Heap) : Prop := va_P Θ.1 vwCl (wsN Θ N ρ s) H ∧ (N < NNc → H.size = Θ.2.1 + 1 + N)
def Frz (Θ : Th) (U : State) : Prop := va_K Θ.1 vwCl (tysT Θ) U ∧ (∀ k, k < 4 → va_Z "HeavierSide$Barge" (stN k) "[I" (.ref (Θ.2.2.1 k)) (Ar Θ) U U.heap ∧ va_T .int (Θ.2.2.1 k) 6 (fun j => .int (stc k j)) (Ar Θ) U U.heap) ∧ (∀ w ∈ nwL, va_Nw w U) ∧ va_AO "HeavierSide$Row" U ∧ va_AO "HeavierSide$Text" U
def wsOf (M : Mi) : List Cond := .code M.1 M.2.1 M.2.2.1 M.2.2.2 :: gtb
def rmH (h mc ms : Nat) : Room := { frames := h, cells := mc, slots := ms, locals := 100 * h }
abbrev Tg : Type := Nat × Rf × Nat × Nat
/-- behind a method: its answer, the store, what isn't the system's is as it was -/
def Qo {α : Type} (Θ : Th) (G : α → Option AV) (T : Tg) (r : α) (s' : Mem) : Array Value → State → Outcome → State → Prop := fun _ st o t => o = .returned ((G r).map (cv Θ)) ∧ Rel Θ T.1 T.2.1 s' t.heap ∧ va_F (Ar Θ) st t
def Pq (Θ : Th) (N : Nat) (ρ : Rf) (as : List AV) (s : Mem) : Array Value → State → Prop := fun v U => v = (as.map (cv Θ)).toArray ∧ Frz Θ U ∧ Rel Θ N ρ s U.heap ∧ Θ.2.1 + 1 ≤ U.heap.size
/-- a method's contract: where the pure reading o answers, the method does so -/
def Ct {α : Type} (Θ : Th) (l : Launch) (M : Mi) (h : Nat) (G : α → Option AV) (T : Tg) (N : Nat) (ρ : Rf) (as : List AV) (s : Mem) (o : Option (α × Mem)) : Prop :=
  ∀ (r : α) (s' : Mem), o = some (r, s') → Met l M.1 (wsOf M) (rmH h T.2.2.1 T.2.2.2) (Pq Θ N ρ as s) (Qo Θ G T r s') T.2.2.1 T.2.2.2 (Ar Θ)
def prs (Θ : Th) (ls : List (Option AV)) : List (Nat × Value) := (List.range ls.length).filterMap (fun i => match ls[i]? with
  | some (some v) => some (i, cv Θ v)
  | _ => none)
def Cx (Θ : Th) (M : Mi) (p : Program) (S : State) (m : MethodId) (args : Array Value) (meth : Method) (c : Code) : Prop :=
  p.tables.exec = Jvm.exec ∧ c.code = M.2.1 ∧ meth.sig.returnType = M.2.2.2 ∧ c.maxLocals = M.2.2.1 ∧ S.vm.findClass M.1.cls = some m.cls ∧ (∀ w ∈ wsOf M, w.before args S = true) ∧ meth.locks = false ∧ meth.name = M.1.name ∧ Frz Θ S ∧ Θ.2.1 + 1 ≤ S.heap.size
/-- THE JUDGEMENT: the machine at pc with locals ls, stack st, store s comes to the method's end with the answer o, if o answers -/
def Jg {α : Type} (Θ : Th) (l : Launch) (M : Mi) (h : Nat) (G : α → Option AV) (T : Tg) (N : Nat) (ρ : Rf) (ce sl pc : Nat) (ls : List (Option AV)) (st : List AV) (s : Mem) (o : Option (α × Mem)) : Prop :=
  ∀ (r : α) (s' : Mem), o = some (r, s') → ∀ (p : Program) (e : Env) (S : State) (m : MethodId) (args : Array Value) (below : List Frame) (meth : Method) (c : Code) (H : Heap) (locs : List Loc) (lr : Array Slot),
    Cx Θ M p S m args meth c → va_S (Ar Θ) S.heap H locs → Rel Θ N ρ s H → lv_has lr M.2.2.1 (prs Θ ls) →
    W p l e (rmH h T.2.2.1 T.2.2.2) S m args below meth c H locs ce sl (MQ below (Qo Θ G T r s') args S T.2.2.1 T.2.2.2 (Ar Θ)) (F0 m pc lr (st.map (cv Θ)))
-- ===== locals =====
theorem prs_mem {Θ : Th} {ls : List (Option AV)} {i : Nat} {v : AV} (h : ls[i]? = some (some v)) : (i, cv Θ v) ∈ prs Θ ls := by
  refine List.mem_filterMap.mpr ⟨i, List.mem_range.mpr (List.getElem?_eq_some_iff.mp h).1, ?_⟩
  simp only [h]
theorem prs_of {Θ : Th} {ls : List (Option AV)} {q : Nat × Value} (h : q ∈ prs Θ ls) : ∃ v : AV, ls[q.1]? = some (some v) ∧ q.2 = cv Θ v := by
  obtain ⟨i, -, hi⟩ := List.mem_filterMap.mp h
  split at hi
  · next v hv =>
    cases hi
    exact ⟨v, hv, rfl⟩
  · cases hi
theorem lr_at {Θ : Th} {lr : Array Slot} {nL : Nat} {ls : List (Option AV)} (h : lv_has lr nL (prs Θ ls)) {i : Nat} {v : AV} (hi : ls[i]? = some (some v)) : lr[i]? = some (.val (cv Θ v)) := h.2.2 _ (prs_mem hi)
def subL : List (Option AV) → List (Option AV) → Prop
  | [], _ => True
  | none :: a, _ :: b => subL a b
  | some v :: a, x :: b => x = some v ∧ subL a b
  | none :: a, [] => subL a []
  | some _ :: _, [] => False
theorem subL_at : ∀ {a b : List (Option AV)}, subL a b → ∀ {i : Nat} {v : AV}, a[i]? = some (some v) → b[i]? = some (some v)
  | [], _, _, i, v, h => by simp at h
  | none :: a, x :: b, hs, 0, v, h => by simp at h
  | none :: a, x :: b, hs, i + 1, v, h => by
    rw [List.getElem?_cons_succ] at h ⊢
    exact subL_at (a := a) (b := b) hs h
  | some w :: a, x :: b, hs, 0, v, h => by
    rw [List.getElem?_cons_zero] at h ⊢
    rw [hs.1]
    exact h
  | some w :: a, x :: b, hs, i + 1, v, h => by
    rw [List.getElem?_cons_succ] at h ⊢
    exact subL_at (a := a) (b := b) hs.2 h
  | none :: a, [], hs, 0, v, h => by simp at h
  | none :: a, [], hs, i + 1, v, h => by
    rw [List.getElem?_cons_succ] at h
    have := subL_at (a := a) (b := []) hs h
    simp at this
theorem lr_sub {Θ : Th} {lr : Array Slot} {nL : Nat} {ls ls' : List (Option AV)} (h : lv_has lr nL (prs Θ ls)) (hs : subL ls' ls) : lv_has lr nL (prs Θ ls') := by
  refine ⟨h.1, h.2.1, fun q hq => ?_⟩
  obtain ⟨v, h1, h2⟩ := prs_of hq
  rw [h2]
  exact lr_at h (subL_at hs h1)
def isLg : AV → Bool
  | .inr (.inl _) => true
  | _ => false
theorem va_rf_cat (r : Option Nat) : (va_rf r).category = 1 := by cases r <;> rfl
theorem cv_cat (Θ : Th) (v : AV) : (cv Θ v).category = if isLg v then 2 else 1 := by
  rcases v with x | x | q
  · rfl
  · rfl
  · simp [cv, isLg, va_rf_cat]
/-- no long stands just ahead of place i -/
def okS (ls : List (Option AV)) (i : Nat) : Bool := match i with
  | 0 => true
  | j + 1 => match ls[j]? with
    | some (some v) => !(isLg v)
    | _ => true
theorem prs_set1 {Θ : Th} {ls : List (Option AV)} {i : Nat} {v : AV} (hok : okS ls i = true) {q : Nat × Value} (hq : q ∈ prs Θ (ls.set i (some v))) :
    q ∈ (i, cv Θ v) :: (prs Θ ls).filter (fun q => !(q.1 == i) && !(q.1 + 1 == i && q.2.category == 2)) := by
  obtain ⟨w, h1, h2⟩ := prs_of hq
  by_cases hi : q.1 = i
  · rw [hi] at h1
    have hl : i < ls.length := by
      have := (List.getElem?_eq_some_iff.mp h1).1
      simpa using this
    rw [List.getElem?_set_self hl] at h1
    cases h1
    obtain ⟨a, b⟩ := q
    simp only at hi h2
    subst hi; subst h2
    exact List.mem_cons_self
  · rw [List.getElem?_set_ne (fun e => hi e.symm)] at h1
    refine List.mem_cons_of_mem _ (List.mem_filter.mpr ⟨?_, ?_⟩)
    · obtain ⟨a, b⟩ := q
      simp only at h1 h2
      subst h2
      exact prs_mem h1
    · have e1 : (q.1 == i) = false := by simp [hi]
      simp only [e1, Bool.not_false, Bool.true_and]
      cases hc : (q.1 + 1 == i && q.2.category == 2) with
      | false => rfl
      | true =>
        simp only [Bool.and_eq_true, beq_iff_eq] at hc
        obtain ⟨e2, e3⟩ := hc
        subst e2
        simp only [okS, h1] at hok
        rw [h2, cv_cat] at e3
        cases hw : isLg w with
        | false => rw [hw] at e3; simp at e3
        | true => rw [hw] at hok; simp at hok
theorem lr_has_sub {lr : Array Slot} {nL : Nat} {l l' : List (Nat × Value)} (h : lv_has lr nL l) (hs : ∀ q ∈ l', q ∈ l) : lv_has lr nL l' := ⟨h.1, h.2.1, fun q hq => h.2.2 q (hs q hq)⟩
theorem lr_store1 {Θ : Th} {ls : List (Option AV)} {i nL : Nat} {v : AV} {lr : Array Slot} (hok : okS ls i = true)
    (h : lv_has lr nL ((i, cv Θ v) :: (prs Θ ls).filter (fun q => !(q.1 == i) && !(q.1 + 1 == i && q.2.category == 2)))) : lv_has lr nL (prs Θ (ls.set i (some v))) := lr_has_sub h (fun q hq => prs_set1 hok hq)
end
section
-- rows of the judgement: constants, locals, arithmetic, branches (by a program)
section JR
variable {α : Type} {Θ : Th} {l : Launch} {M : Mi} {h : Nat} {G : α → Option AV} {T : Tg} {N : Nat} {ρ : Rf} {ce sl pc : Nat} {ls : List (Option AV)} {st : List AV} {s : Mem} {o o1 o2 : Option (α × Mem)}
theorem j_iconst {z : Int} {v : Int32} (n : Nat) (hd : decode M.2.1 pc = .ok (.iconst z, 1)) (hn : pc + 1 = n) (hv : Int32.ofInt z = v) (k : Jg Θ l M h G T N ρ ce sl n ls (vI v :: st) s o) : Jg Θ l M h G T N ρ ce sl pc ls (st) s o := by
  subst hn
  intro r s' ho p e S m args below meth c H locs lr C hS hR hL
  exact lv_iconst C.1 C.2.1 hd hv (k r s' ho p e S m args below meth c H locs lr C hS hR hL)
theorem j_bipush {z : Int} {v : Int32} (n : Nat) (hd : decode M.2.1 pc = .ok (.bipush z, 2)) (hn : pc + 2 = n) (hv : (Int8.ofInt z).toInt32 = v) (k : Jg Θ l M h G T N ρ ce sl n ls (vI v :: st) s o) : Jg Θ l M h G T N ρ ce sl pc ls (st) s o := by
  subst hn
  intro r s' ho p e S m args below meth c H locs lr C hS hR hL
  exact lv_bipush C.1 C.2.1 hd hv (k r s' ho p e S m args below meth c H locs lr C hS hR hL)
theorem j_sipush {z : Int} {v : Int32} (n : Nat) (hd : decode M.2.1 pc = .ok (.sipush z, 3)) (hn : pc + 3 = n) (hv : (Int16.ofInt z).toInt32 = v) (k : Jg Θ l M h G T N ρ ce sl n ls (vI v :: st) s o) : Jg Θ l M h G T N ρ ce sl pc ls (st) s o := by
  subst hn
  intro r s' ho p e S m args below meth c H locs lr C hS hR hL
  exact lv_sipush C.1 C.2.1 hd hv (k r s' ho p e S m args below meth c H locs lr C hS hR hL)
theorem j_lconst {z : Fin 2} {v : Int64} (n : Nat) (hd : decode M.2.1 pc = .ok (.lconst z, 1)) (hn : pc + 1 = n) (hv : Int64.ofNat (z : Nat) = v) (k : Jg Θ l M h G T N ρ ce sl n ls (vL v :: st) s o) : Jg Θ l M h G T N ρ ce sl pc ls (st) s o := by
  subst hn
  intro r s' ho p e S m args below meth c H locs lr C hS hR hL
  exact lv_lconst C.1 C.2.1 hd hv (k r s' ho p e S m args below meth c H locs lr C hS hR hL)
theorem j_ldcw {i : Nat} {v : Int32} (n : Nat) (hd : decode M.2.1 pc = .ok (.ldc_w i, 3)) (hn : pc + 3 = n) (hw : Cond.constant M.1.cls i v ∈ gtb) (k : Jg Θ l M h G T N ρ ce sl n ls (vI v :: st) s o) : Jg Θ l M h G T N ρ ce sl pc ls (st) s o := by
  subst hn
  intro r s' ho p e S m args below meth c H locs lr C hS hR hL
  exact lv_ldcw C.1 C.2.1 C.2.2.2.2.1 (C.2.2.2.2.2.1 _ (List.mem_cons_of_mem _ hw)) hd (k r s' ho p e S m args below meth c H locs lr C hS hR hL)
theorem j_ldc2 {i : Nat} {v : Int64} (n : Nat) (hd : decode M.2.1 pc = .ok (.ldc2_w i, 3)) (hn : pc + 3 = n) (hw : Cond.constantLong M.1.cls i v ∈ gtb) (k : Jg Θ l M h G T N ρ ce sl n ls (vL v :: st) s o) : Jg Θ l M h G T N ρ ce sl pc ls (st) s o := by
  subst hn
  intro r s' ho p e S m args below meth c H locs lr C hS hR hL
  exact lv_ldc2 C.1 C.2.1 C.2.2.2.2.1 (C.2.2.2.2.2.1 _ (List.mem_cons_of_mem _ hw)) hd (k r s' ho p e S m args below meth c H locs lr C hS hR hL)
theorem j_null (n : Nat) (hd : decode M.2.1 pc = .ok (.aconst_null, 1)) (hn : pc + 1 = n) (k : Jg Θ l M h G T N ρ ce sl n ls (vR 0 :: st) s o) : Jg Θ l M h G T N ρ ce sl pc ls (st) s o := by
  subst hn
  intro r s' ho p e S m args below meth c H locs lr C hS hR hL
  exact lv_null C.1 C.2.1 hd (k r s' ho p e S m args below meth c H locs lr C hS hR hL)
theorem j_iload_n {z : Fin 4} {x : Int32} (n : Nat) (hd : decode M.2.1 pc = .ok (.iload_n z, 1)) (hn : pc + 1 = n) (hi : ls[(z : Nat)]? = some (some (vI x))) (k : Jg Θ l M h G T N ρ ce sl n ls (vI x :: st) s o) : Jg Θ l M h G T N ρ ce sl pc ls (st) s o := by
  subst hn
  intro r s' ho p e S m args below meth c H locs lr C hS hR hL
  exact lv_iload_n C.1 C.2.1 hd rfl (lr_at hL hi) (k r s' ho p e S m args below meth c H locs lr C hS hR hL)
theorem j_iload {i : Nat} {x : Int32} (n : Nat) (hd : decode M.2.1 pc = .ok (.iload i, 2)) (hn : pc + 2 = n) (hi : ls[i]? = some (some (vI x))) (k : Jg Θ l M h G T N ρ ce sl n ls (vI x :: st) s o) : Jg Θ l M h G T N ρ ce sl pc ls (st) s o := by
  subst hn
  intro r s' ho p e S m args below meth c H locs lr C hS hR hL
  exact lv_iload C.1 C.2.1 hd (lr_at hL hi) (k r s' ho p e S m args below meth c H locs lr C hS hR hL)
theorem j_lload_n {z : Fin 4} {x : Int64} (n : Nat) (hd : decode M.2.1 pc = .ok (.lload_n z, 1)) (hn : pc + 1 = n) (hi : ls[(z : Nat)]? = some (some (vL x))) (k : Jg Θ l M h G T N ρ ce sl n ls (vL x :: st) s o) : Jg Θ l M h G T N ρ ce sl pc ls (st) s o := by
  subst hn
  intro r s' ho p e S m args below meth c H locs lr C hS hR hL
  exact lv_lload_n C.1 C.2.1 hd rfl (lr_at hL hi) (k r s' ho p e S m args below meth c H locs lr C hS hR hL)
theorem j_lload {i : Nat} {x : Int64} (n : Nat) (hd : decode M.2.1 pc = .ok (.lload i, 2)) (hn : pc + 2 = n) (hi : ls[i]? = some (some (vL x))) (k : Jg Θ l M h G T N ρ ce sl n ls (vL x :: st) s o) : Jg Θ l M h G T N ρ ce sl pc ls (st) s o := by
  subst hn
  intro r s' ho p e S m args below meth c H locs lr C hS hR hL
  exact lv_lload C.1 C.2.1 hd (lr_at hL hi) (k r s' ho p e S m args below meth c H locs lr C hS hR hL)
theorem j_aload_n {z : Fin 4} {q : Nat} (n : Nat) (hd : decode M.2.1 pc = .ok (.aload_n z, 1)) (hn : pc + 1 = n) (hi : ls[(z : Nat)]? = some (some (vR q))) (k : Jg Θ l M h G T N ρ ce sl n ls (vR q :: st) s o) : Jg Θ l M h G T N ρ ce sl pc ls st s o := by
  subst hn
  intro r s' ho p e S m args below meth c H locs lr C hS hR hL
  have h1 := lr_at hL hi
  have h2 := (k r s' ho p e S m args below meth c H locs lr C hS hR hL)
  have e9 : cv Θ (vR q) = va_rf (adO Θ q) := rfl
  simp only [List.map_cons] at h2
  rw [e9] at h1 h2
  cases hq : adO Θ q with
  | none => rw [hq] at h1 h2; exact lv_aload_nN C.1 C.2.1 hd rfl h1 h2
  | some a => rw [hq] at h1 h2; exact lv_aload_n C.1 C.2.1 hd rfl h1 h2
theorem j_aload {i : Nat} {q : Nat} (n : Nat) (hd : decode M.2.1 pc = .ok (.aload i, 2)) (hn : pc + 2 = n) (hi : ls[i]? = some (some (vR q))) (k : Jg Θ l M h G T N ρ ce sl n ls (vR q :: st) s o) : Jg Θ l M h G T N ρ ce sl pc ls st s o := by
  subst hn
  intro r s' ho p e S m args below meth c H locs lr C hS hR hL
  have h1 := lr_at hL hi
  have h2 := (k r s' ho p e S m args below meth c H locs lr C hS hR hL)
  have e9 : cv Θ (vR q) = va_rf (adO Θ q) := rfl
  simp only [List.map_cons] at h2
  rw [e9] at h1 h2
  cases hq : adO Θ q with
  | none => rw [hq] at h1 h2; exact lv_aloadN C.1 C.2.1 hd h1 h2
  | some a => rw [hq] at h1 h2; exact lv_aload C.1 C.2.1 hd h1 h2
theorem j_istore_n {z : Fin 4} {i : Nat} {x : Int32} {ls' : List (Option AV)} (n : Nat) (hd : decode M.2.1 pc = .ok (.istore_n z, 1)) (hn : pc + 1 = n) (hz : (z : Nat) = i) (hl : i < M.2.2.1) (hok : okS ls i = true) (hs : ls.set i (some (vI x)) = ls') (k : Jg Θ l M h G T N ρ ce sl n ls' st s o) : Jg Θ l M h G T N ρ ce sl pc ls (vI x :: st) s o := by
  subst hn; subst hs
  intro r s' ho p e S m args below meth c H locs lr C hS hR hL
  exact lv_istore_n C.1 C.2.1 hd hz hL hl rfl (fun lr' h' => k r s' ho p e S m args below meth c H locs lr' C hS hR (lr_store1 hok h'))
theorem j_istore {i : Nat} {x : Int32} {ls' : List (Option AV)} (n : Nat) (hd : decode M.2.1 pc = .ok (.istore i, 2)) (hn : pc + 2 = n) (hl : i < M.2.2.1) (hok : okS ls i = true) (hs : ls.set i (some (vI x)) = ls') (k : Jg Θ l M h G T N ρ ce sl n ls' st s o) : Jg Θ l M h G T N ρ ce sl pc ls (vI x :: st) s o := by
  subst hn; subst hs
  intro r s' ho p e S m args below meth c H locs lr C hS hR hL
  exact lv_istore C.1 C.2.1 hd hL hl rfl (fun lr' h' => k r s' ho p e S m args below meth c H locs lr' C hS hR (lr_store1 hok h'))
theorem j_astore_n {z : Fin 4} {i q : Nat} {ls' : List (Option AV)} (n : Nat) (hd : decode M.2.1 pc = .ok (.astore_n z, 1)) (hn : pc + 1 = n) (hz : (z : Nat) = i) (hl : i < M.2.2.1) (hok : okS ls i = true) (hs : ls.set i (some (vR q)) = ls') (k : Jg Θ l M h G T N ρ ce sl n ls' st s o) : Jg Θ l M h G T N ρ ce sl pc ls (vR q :: st) s o := by
  subst hn; subst hs
  intro r s' ho p e S m args below meth c H locs lr C hS hR hL
  have e9 : cv Θ (vR q) = va_rf (adO Θ q) := rfl
  have k2 := fun lr' h' => k r s' ho p e S m args below meth c H locs lr' C hS hR (lr_store1 (Θ := Θ) (v := vR q) (nL := M.2.2.1) hok h')
  simp only [List.map_cons]
  rw [e9] at k2 ⊢
  cases hq : adO Θ q with
  | none => rw [hq] at k2; exact lv_astore_nN C.1 C.2.1 hd hz hL hl rfl k2
  | some a => rw [hq] at k2; exact lv_astore_n C.1 C.2.1 hd hz hL hl rfl k2
theorem j_astore {i q : Nat} {ls' : List (Option AV)} (n : Nat) (hd : decode M.2.1 pc = .ok (.astore i, 2)) (hn : pc + 2 = n) (hl : i < M.2.2.1) (hok : okS ls i = true) (hs : ls.set i (some (vR q)) = ls') (k : Jg Θ l M h G T N ρ ce sl n ls' st s o) : Jg Θ l M h G T N ρ ce sl pc ls (vR q :: st) s o := by
  subst hn; subst hs
  intro r s' ho p e S m args below meth c H locs lr C hS hR hL
  have e9 : cv Θ (vR q) = va_rf (adO Θ q) := rfl
  have k2 := fun lr' h' => k r s' ho p e S m args below meth c H locs lr' C hS hR (lr_store1 (Θ := Θ) (v := vR q) (nL := M.2.2.1) hok h')
  simp only [List.map_cons]
  rw [e9] at k2 ⊢
  cases hq : adO Θ q with
  | none => rw [hq] at k2; exact lv_astoreN C.1 C.2.1 hd hL hl rfl k2
  | some a => rw [hq] at k2; exact lv_astore C.1 C.2.1 hd hL hl rfl k2
theorem prs_set2 {i : Nat} {v : AV} (hok : okS ls i = true) {q : Nat × Value} (hq : q ∈ prs Θ ((ls.set i (some v)).set (i + 1) none)) :
    q ∈ (i, cv Θ v) :: (prs Θ ls).filter (fun q => !(q.1 == i) && (!(q.1 == i + 1) && !(q.1 + 1 == i && q.2.category == 2))) := by
  obtain ⟨w, h1, h2⟩ := prs_of hq
  have hne : q.1 ≠ i + 1 := by
    intro e9
    rw [e9] at h1
    by_cases hl : i + 1 < (ls.set i (some v)).length
    · rw [List.getElem?_set_self hl] at h1
      cases h1
    · rw [List.getElem?_eq_none (by simpa using hl)] at h1
      cases h1
  rw [List.getElem?_set_ne (fun e => hne e.symm)] at h1
  have h3 : q ∈ prs Θ (ls.set i (some v)) := by
    obtain ⟨a, b⟩ := q
    simp only at h1 h2
    subst h2
    exact prs_mem h1
  rcases List.mem_cons.mp (prs_set1 hok h3) with h4 | h4
  · rw [h4]
    exact List.mem_cons_self
  · obtain ⟨h5, h6⟩ := List.mem_filter.mp h4
    refine List.mem_cons_of_mem _ (List.mem_filter.mpr ⟨h5, ?_⟩)
    simp only [Bool.and_eq_true] at h6 ⊢
    refine ⟨h6.1, ?_, h6.2⟩
    simp [hne]
theorem j_lstore_n {z : Fin 4} {i : Nat} {x : Int64} {ls' : List (Option AV)} (n : Nat) (hd : decode M.2.1 pc = .ok (.lstore_n z, 1)) (hn : pc + 1 = n) (hz : (z : Nat) = i) (hl : i + 1 < M.2.2.1) (hok : okS ls i = true) (hs : (ls.set i (some (vL x))).set (i + 1) none = ls') (k : Jg Θ l M h G T N ρ ce sl n ls' st s o) : Jg Θ l M h G T N ρ ce sl pc ls (vL x :: st) s o := by
  subst hn; subst hs
  intro r s' ho p e S m args below meth c H locs lr C hS hR hL
  exact lv_lstore_n C.1 C.2.1 hd hz hL hl rfl (fun lr' h' => k r s' ho p e S m args below meth c H locs lr' C hS hR (lr_has_sub h' (fun q hq => prs_set2 hok hq)))
theorem j_lstore {i : Nat} {x : Int64} {ls' : List (Option AV)} (n : Nat) (hd : decode M.2.1 pc = .ok (.lstore i, 2)) (hn : pc + 2 = n) (hl : i + 1 < M.2.2.1) (hok : okS ls i = true) (hs : (ls.set i (some (vL x))).set (i + 1) none = ls') (k : Jg Θ l M h G T N ρ ce sl n ls' st s o) : Jg Θ l M h G T N ρ ce sl pc ls (vL x :: st) s o := by
  subst hn; subst hs
  intro r s' ho p e S m args below meth c H locs lr C hS hR hL
  exact lv_lstore C.1 C.2.1 hd hL hl rfl (fun lr' h' => k r s' ho p e S m args below meth c H locs lr' C hS hR (lr_has_sub h' (fun q hq => prs_set2 hok hq)))
theorem j_iinc {i : Nat} {z : Int} {x v : Int32} {ls' : List (Option AV)} (n : Nat) (hd : decode M.2.1 pc = .ok (.iinc i z, 3)) (hn : pc + 3 = n) (hi : ls[i]? = some (some (vI x))) (hv : x + Int32.ofInt z = v) (hl : i < M.2.2.1) (hok : okS ls i = true) (hs : ls.set i (some (vI v)) = ls') (k : Jg Θ l M h G T N ρ ce sl n ls' st s o) : Jg Θ l M h G T N ρ ce sl pc ls st s o := by
  subst hn; subst hs
  intro r s' ho p e S m args below meth c H locs lr C hS hR hL
  obtain ⟨kk, hkk⟩ := List.getElem?_of_mem (prs_mem (Θ := Θ) hi)
  exact lv_iinc C.1 C.2.1 hd hL hkk hv hl rfl (fun lr' h' => k r s' ho p e S m args below meth c H locs lr' C hS hR (lr_store1 (v := vI v) hok h'))
theorem j_iadd {x y : Int32} (n : Nat) (hd : decode M.2.1 pc = .ok (.iadd, 1)) (hn : pc + 1 = n) (k : Jg Θ l M h G T N ρ ce sl n ls (vI (x + y) :: st) s o) : Jg Θ l M h G T N ρ ce sl pc ls (vI y :: vI x :: st) s o := by
  subst hn
  intro r s' ho p e S m args below meth c H locs lr C hS hR hL
  exact lv_iadd C.1 C.2.1 hd (k r s' ho p e S m args below meth c H locs lr C hS hR hL)
theorem j_isub {x y : Int32} (n : Nat) (hd : decode M.2.1 pc = .ok (.isub, 1)) (hn : pc + 1 = n) (k : Jg Θ l M h G T N ρ ce sl n ls (vI (x - y) :: st) s o) : Jg Θ l M h G T N ρ ce sl pc ls (vI y :: vI x :: st) s o := by
  subst hn
  intro r s' ho p e S m args below meth c H locs lr C hS hR hL
  exact lv_isub C.1 C.2.1 hd (k r s' ho p e S m args below meth c H locs lr C hS hR hL)
theorem j_imul {x y : Int32} (n : Nat) (hd : decode M.2.1 pc = .ok (.imul, 1)) (hn : pc + 1 = n) (k : Jg Θ l M h G T N ρ ce sl n ls (vI (x * y) :: st) s o) : Jg Θ l M h G T N ρ ce sl pc ls (vI y :: vI x :: st) s o := by
  subst hn
  intro r s' ho p e S m args below meth c H locs lr C hS hR hL
  exact lv_imul C.1 C.2.1 hd (k r s' ho p e S m args below meth c H locs lr C hS hR hL)
theorem j_iand {x y : Int32} (n : Nat) (hd : decode M.2.1 pc = .ok (.iand, 1)) (hn : pc + 1 = n) (k : Jg Θ l M h G T N ρ ce sl n ls (vI (x &&& y) :: st) s o) : Jg Θ l M h G T N ρ ce sl pc ls (vI y :: vI x :: st) s o := by
  subst hn
  intro r s' ho p e S m args below meth c H locs lr C hS hR hL
  exact lv_iand C.1 C.2.1 hd (k r s' ho p e S m args below meth c H locs lr C hS hR hL)
theorem j_ior {x y : Int32} (n : Nat) (hd : decode M.2.1 pc = .ok (.ior, 1)) (hn : pc + 1 = n) (k : Jg Θ l M h G T N ρ ce sl n ls (vI (x ||| y) :: st) s o) : Jg Θ l M h G T N ρ ce sl pc ls (vI y :: vI x :: st) s o := by
  subst hn
  intro r s' ho p e S m args below meth c H locs lr C hS hR hL
  exact lv_ior C.1 C.2.1 hd (k r s' ho p e S m args below meth c H locs lr C hS hR hL)
theorem j_ixor {x y : Int32} (n : Nat) (hd : decode M.2.1 pc = .ok (.ixor, 1)) (hn : pc + 1 = n) (k : Jg Θ l M h G T N ρ ce sl n ls (vI (x ^^^ y) :: st) s o) : Jg Θ l M h G T N ρ ce sl pc ls (vI y :: vI x :: st) s o := by
  subst hn
  intro r s' ho p e S m args below meth c H locs lr C hS hR hL
  exact lv_ixor C.1 C.2.1 hd (k r s' ho p e S m args below meth c H locs lr C hS hR hL)
theorem j_ineg {x : Int32} (n : Nat) (hd : decode M.2.1 pc = .ok (.ineg, 1)) (hn : pc + 1 = n) (k : Jg Θ l M h G T N ρ ce sl n ls (vI (0 - x) :: st) s o) : Jg Θ l M h G T N ρ ce sl pc ls (vI x :: st) s o := by
  subst hn
  intro r s' ho p e S m args below meth c H locs lr C hS hR hL
  exact lv_ineg C.1 C.2.1 hd (k r s' ho p e S m args below meth c H locs lr C hS hR hL)
theorem j_ishl {x y : Int32} (n : Nat) (hd : decode M.2.1 pc = .ok (.ishl, 1)) (hn : pc + 1 = n) (k : Jg Θ l M h G T N ρ ce sl n ls (vI (x <<< (y &&& 31)) :: st) s o) : Jg Θ l M h G T N ρ ce sl pc ls (vI y :: vI x :: st) s o := by
  subst hn
  intro r s' ho p e S m args below meth c H locs lr C hS hR hL
  exact lv_ishl C.1 C.2.1 hd (k r s' ho p e S m args below meth c H locs lr C hS hR hL)
theorem j_ishr {x y : Int32} (n : Nat) (hd : decode M.2.1 pc = .ok (.ishr, 1)) (hn : pc + 1 = n) (k : Jg Θ l M h G T N ρ ce sl n ls (vI (x >>> (y &&& 31)) :: st) s o) : Jg Θ l M h G T N ρ ce sl pc ls (vI y :: vI x :: st) s o := by
  subst hn
  intro r s' ho p e S m args below meth c H locs lr C hS hR hL
  exact lv_ishr C.1 C.2.1 hd (k r s' ho p e S m args below meth c H locs lr C hS hR hL)
theorem j_iushr {x y v : Int32} (n : Nat) (hd : decode M.2.1 pc = .ok (.iushr, 1)) (hn : pc + 1 = n) (hv : (x.toUInt32 >>> (y.toUInt32 &&& Int32.toUInt32 31)).toInt32 = v) (k : Jg Θ l M h G T N ρ ce sl n ls (vI v :: st) s o) : Jg Θ l M h G T N ρ ce sl pc ls (vI y :: vI x :: st) s o := by
  subst hn
  intro r s' ho p e S m args below meth c H locs lr C hS hR hL
  exact lv_iushr C.1 C.2.1 hd hv (k r s' ho p e S m args below meth c H locs lr C hS hR hL)
theorem j_ladd {x y : Int64} (n : Nat) (hd : decode M.2.1 pc = .ok (.ladd, 1)) (hn : pc + 1 = n) (k : Jg Θ l M h G T N ρ ce sl n ls (vL (x + y) :: st) s o) : Jg Θ l M h G T N ρ ce sl pc ls (vL y :: vL x :: st) s o := by
  subst hn
  intro r s' ho p e S m args below meth c H locs lr C hS hR hL
  exact lv_ladd C.1 C.2.1 hd (k r s' ho p e S m args below meth c H locs lr C hS hR hL)
theorem j_lmul {x y : Int64} (n : Nat) (hd : decode M.2.1 pc = .ok (.lmul, 1)) (hn : pc + 1 = n) (k : Jg Θ l M h G T N ρ ce sl n ls (vL (x * y) :: st) s o) : Jg Θ l M h G T N ρ ce sl pc ls (vL y :: vL x :: st) s o := by
  subst hn
  intro r s' ho p e S m args below meth c H locs lr C hS hR hL
  exact lv_lmul C.1 C.2.1 hd (k r s' ho p e S m args below meth c H locs lr C hS hR hL)
theorem j_i2l {x : Int32} (n : Nat) (hd : decode M.2.1 pc = .ok (.i2l, 1)) (hn : pc + 1 = n) (k : Jg Θ l M h G T N ρ ce sl n ls (vL x.toInt64 :: st) s o) : Jg Θ l M h G T N ρ ce sl pc ls (vI x :: st) s o := by
  subst hn
  intro r s' ho p e S m args below meth c H locs lr C hS hR hL
  exact lv_i2l C.1 C.2.1 hd rfl (k r s' ho p e S m args below meth c H locs lr C hS hR hL)
theorem j_l2i {x : Int64} (n : Nat) (hd : decode M.2.1 pc = .ok (.l2i, 1)) (hn : pc + 1 = n) (k : Jg Θ l M h G T N ρ ce sl n ls (vI x.toInt32 :: st) s o) : Jg Θ l M h G T N ρ ce sl pc ls (vL x :: st) s o := by
  subst hn
  intro r s' ho p e S m args below meth c H locs lr C hS hR hL
  exact lv_l2i C.1 C.2.1 hd rfl (k r s' ho p e S m args below meth c H locs lr C hS hR hL)
theorem j_i2b {x : Int32} (n : Nat) (hd : decode M.2.1 pc = .ok (.i2b, 1)) (hn : pc + 1 = n) (k : Jg Θ l M h G T N ρ ce sl n ls (vI x.toInt8.toInt32 :: st) s o) : Jg Θ l M h G T N ρ ce sl pc ls (vI x :: st) s o := by
  subst hn
  intro r s' ho p e S m args below meth c H locs lr C hS hR hL
  exact lv_i2b C.1 C.2.1 hd rfl (k r s' ho p e S m args below meth c H locs lr C hS hR hL)
theorem j_lcmp {x y : Int64} (n : Nat) (hd : decode M.2.1 pc = .ok (.lcmp, 1)) (hn : pc + 1 = n) (k : Jg Θ l M h G T N ρ ce sl n ls (vI (lg_cmp x y) :: st) s o) : Jg Θ l M h G T N ρ ce sl pc ls (vL y :: vL x :: st) s o := by
  subst hn
  intro r s' ho p e S m args below meth c H locs lr C hS hR hL
  exact W.lcmp C.1 C.2.1 hd (k r s' ho p e S m args below meth c H locs lr C hS hR hL)
theorem j_dup {v : AV} (n : Nat) (hd : decode M.2.1 pc = .ok (.dup, 1)) (hn : pc + 1 = n) (hv : isLg v = false) (k : Jg Θ l M h G T N ρ ce sl n ls (v :: v :: st) s o) : Jg Θ l M h G T N ρ ce sl pc ls (v :: st) s o := by
  subst hn
  intro r s' ho p e S m args below meth c H locs lr C hS hR hL
  exact lv_dup C.1 C.2.1 hd (by rw [cv_cat, hv]; rfl) (k r s' ho p e S m args below meth c H locs lr C hS hR hL)
theorem j_dup2 {v w : AV} (n : Nat) (hd : decode M.2.1 pc = .ok (.dup2, 1)) (hn : pc + 1 = n) (hv : isLg v = false) (hw : isLg w = false) (k : Jg Θ l M h G T N ρ ce sl n ls (v :: w :: v :: w :: st) s o) : Jg Θ l M h G T N ρ ce sl pc ls (v :: w :: st) s o := by
  subst hn
  intro r s' ho p e S m args below meth c H locs lr C hS hR hL
  exact lv_dup2_11 C.1 C.2.1 hd (by rw [cv_cat, hv]; rfl) (by rw [cv_cat, hw]; rfl) (k r s' ho p e S m args below meth c H locs lr C hS hR hL)
theorem j_idiv {x y : Int32} (n : Nat) (hd : decode M.2.1 pc = .ok (.idiv, 1)) (hn : pc + 1 = n) (k : ¬ y = 0 → Jg Θ l M h G T N ρ ce sl n ls (vI (x / y) :: st) s o) : Jg Θ l M h G T N ρ ce sl pc ls (vI y :: vI x :: st) s (if y = 0 then none else o) := by
  subst hn
  intro r s' ho p e S m args below meth c H locs lr C hS hR hL
  by_cases hy : y = 0
  · rw [if_pos hy] at ho; cases ho
  · rw [if_neg hy] at ho
    exact lv_idiv C.1 C.2.1 hd hy (k hy r s' ho p e S m args below meth c H locs lr C hS hR hL)
theorem j_idivC {x y : Int32} (n : Nat) (hd : decode M.2.1 pc = .ok (.idiv, 1)) (hn : pc + 1 = n) (hy : ¬ y = 0) (k : Jg Θ l M h G T N ρ ce sl n ls (vI (x / y) :: st) s o) : Jg Θ l M h G T N ρ ce sl pc ls (vI y :: vI x :: st) s o := by
  subst hn
  intro r s' ho p e S m args below meth c H locs lr C hS hR hL
  exact lv_idiv C.1 C.2.1 hd hy (k r s' ho p e S m args below meth c H locs lr C hS hR hL)
theorem j_irem {x y : Int32} (n : Nat) (hd : decode M.2.1 pc = .ok (.irem, 1)) (hn : pc + 1 = n) (k : ¬ y = 0 → Jg Θ l M h G T N ρ ce sl n ls (vI (x - x / y * y) :: st) s o) : Jg Θ l M h G T N ρ ce sl pc ls (vI y :: vI x :: st) s (if y = 0 then none else o) := by
  subst hn
  intro r s' ho p e S m args below meth c H locs lr C hS hR hL
  by_cases hy : y = 0
  · rw [if_pos hy] at ho; cases ho
  · rw [if_neg hy] at ho
    exact lv_irem C.1 C.2.1 hd hy (k hy r s' ho p e S m args below meth c H locs lr C hS hR hL)
theorem j_iremC {x y : Int32} (n : Nat) (hd : decode M.2.1 pc = .ok (.irem, 1)) (hn : pc + 1 = n) (hy : ¬ y = 0) (k : Jg Θ l M h G T N ρ ce sl n ls (vI (x - x / y * y) :: st) s o) : Jg Θ l M h G T N ρ ce sl pc ls (vI y :: vI x :: st) s o := by
  subst hn
  intro r s' ho p e S m args below meth c H locs lr C hS hR hL
  exact lv_irem C.1 C.2.1 hd hy (k r s' ho p e S m args below meth c H locs lr C hS hR hL)
theorem j_ldiv {x y : Int64} (n : Nat) (hd : decode M.2.1 pc = .ok (.ldiv, 1)) (hn : pc + 1 = n) (k : ¬ y = 0 → Jg Θ l M h G T N ρ ce sl n ls (vL (x / y) :: st) s o) : Jg Θ l M h G T N ρ ce sl pc ls (vL y :: vL x :: st) s (if y = 0 then none else o) := by
  subst hn
  intro r s' ho p e S m args below meth c H locs lr C hS hR hL
  by_cases hy : y = 0
  · rw [if_pos hy] at ho; cases ho
  · rw [if_neg hy] at ho
    exact lv_ldiv C.1 C.2.1 hd hy (k hy r s' ho p e S m args below meth c H locs lr C hS hR hL)
theorem j_ldivC {x y : Int64} (n : Nat) (hd : decode M.2.1 pc = .ok (.ldiv, 1)) (hn : pc + 1 = n) (hy : ¬ y = 0) (k : Jg Θ l M h G T N ρ ce sl n ls (vL (x / y) :: st) s o) : Jg Θ l M h G T N ρ ce sl pc ls (vL y :: vL x :: st) s o := by
  subst hn
  intro r s' ho p e S m args below meth c H locs lr C hS hR hL
  exact lv_ldiv C.1 C.2.1 hd hy (k r s' ho p e S m args below meth c H locs lr C hS hR hL)
theorem j_lrem {x y : Int64} (n : Nat) (hd : decode M.2.1 pc = .ok (.lrem, 1)) (hn : pc + 1 = n) (k : ¬ y = 0 → Jg Θ l M h G T N ρ ce sl n ls (vL (x - x / y * y) :: st) s o) : Jg Θ l M h G T N ρ ce sl pc ls (vL y :: vL x :: st) s (if y = 0 then none else o) := by
  subst hn
  intro r s' ho p e S m args below meth c H locs lr C hS hR hL
  by_cases hy : y = 0
  · rw [if_pos hy] at ho; cases ho
  · rw [if_neg hy] at ho
    exact lv_lrem C.1 C.2.1 hd hy (k hy r s' ho p e S m args below meth c H locs lr C hS hR hL)
theorem j_lremC {x y : Int64} (n : Nat) (hd : decode M.2.1 pc = .ok (.lrem, 1)) (hn : pc + 1 = n) (hy : ¬ y = 0) (k : Jg Θ l M h G T N ρ ce sl n ls (vL (x - x / y * y) :: st) s o) : Jg Θ l M h G T N ρ ce sl pc ls (vL y :: vL x :: st) s o := by
  subst hn
  intro r s' ho p e S m args below meth c H locs lr C hS hR hL
  exact lv_lrem C.1 C.2.1 hd hy (k r s' ho p e S m args below meth c H locs lr C hS hR hL)
theorem j_icmp_eq {x y : Int32} {off : Int} (tgt n : Nat) (hd : decode M.2.1 pc = .ok (.if_icmp .eq off, 3)) (ht : (pc : Int) + off = (tgt : Int)) (hn : pc + 3 = n) (k1 : x = y → Jg Θ l M h G T N ρ ce sl tgt ls st s o1) (k2 : ¬ x = y → Jg Θ l M h G T N ρ ce sl n ls st s o2) : Jg Θ l M h G T N ρ ce sl pc ls (vI y :: vI x :: st) s (if x = y then o1 else o2) := by
  subst hn
  intro r s' ho p e S m args below meth c H locs lr C hS hR hL
  exact lv_icmp_eq C.1 C.2.1 hd ht (fun hc => by rw [if_pos hc] at ho; exact k1 hc r s' ho p e S m args below meth c H locs lr C hS hR hL) (fun hc => by rw [if_neg hc] at ho; exact k2 hc r s' ho p e S m args below meth c H locs lr C hS hR hL)
theorem j_icmp_eq_T {x y : Int32} {off : Int} (tgt n : Nat) (hd : decode M.2.1 pc = .ok (.if_icmp .eq off, 3)) (ht : (pc : Int) + off = (tgt : Int)) (hn : pc + 3 = n) (hc : x = y) (k : Jg Θ l M h G T N ρ ce sl tgt ls st s o) : Jg Θ l M h G T N ρ ce sl pc ls (vI y :: vI x :: st) s o := by
  have h1 := j_icmp_eq (o1 := o) (o2 := none) tgt n hd ht hn (fun _ => k) (fun h => absurd hc h)
  rw [if_pos hc] at h1
  exact h1
theorem j_icmp_eq_F {x y : Int32} {off : Int} (tgt n : Nat) (hd : decode M.2.1 pc = .ok (.if_icmp .eq off, 3)) (ht : (pc : Int) + off = (tgt : Int)) (hn : pc + 3 = n) (hc : ¬ x = y) (k : Jg Θ l M h G T N ρ ce sl n ls st s o) : Jg Θ l M h G T N ρ ce sl pc ls (vI y :: vI x :: st) s o := by
  have h1 := j_icmp_eq (o1 := none) (o2 := o) tgt n hd ht hn (fun h => absurd h hc) (fun _ => k)
  rw [if_neg hc] at h1
  exact h1
theorem j_if_eq {x : Int32} {off : Int} (tgt n : Nat) (hd : decode M.2.1 pc = .ok (.ifCond .eq off, 3)) (ht : (pc : Int) + off = (tgt : Int)) (hn : pc + 3 = n) (k1 : x = 0 → Jg Θ l M h G T N ρ ce sl tgt ls st s o1) (k2 : ¬ x = 0 → Jg Θ l M h G T N ρ ce sl n ls st s o2) : Jg Θ l M h G T N ρ ce sl pc ls (vI x :: st) s (if x = 0 then o1 else o2) := by
  subst hn
  intro r s' ho p e S m args below meth c H locs lr C hS hR hL
  exact lv_if_eq C.1 C.2.1 hd ht (fun hc => by rw [if_pos hc] at ho; exact k1 hc r s' ho p e S m args below meth c H locs lr C hS hR hL) (fun hc => by rw [if_neg hc] at ho; exact k2 hc r s' ho p e S m args below meth c H locs lr C hS hR hL)
theorem j_if_eq_T {x : Int32} {off : Int} (tgt n : Nat) (hd : decode M.2.1 pc = .ok (.ifCond .eq off, 3)) (ht : (pc : Int) + off = (tgt : Int)) (hn : pc + 3 = n) (hc : x = 0) (k : Jg Θ l M h G T N ρ ce sl tgt ls st s o) : Jg Θ l M h G T N ρ ce sl pc ls (vI x :: st) s o := by
  have h1 := j_if_eq (o1 := o) (o2 := none) tgt n hd ht hn (fun _ => k) (fun h => absurd hc h)
  rw [if_pos hc] at h1
  exact h1
theorem j_if_eq_F {x : Int32} {off : Int} (tgt n : Nat) (hd : decode M.2.1 pc = .ok (.ifCond .eq off, 3)) (ht : (pc : Int) + off = (tgt : Int)) (hn : pc + 3 = n) (hc : ¬ x = 0) (k : Jg Θ l M h G T N ρ ce sl n ls st s o) : Jg Θ l M h G T N ρ ce sl pc ls (vI x :: st) s o := by
  have h1 := j_if_eq (o1 := none) (o2 := o) tgt n hd ht hn (fun h => absurd h hc) (fun _ => k)
  rw [if_neg hc] at h1
  exact h1
theorem j_icmp_ne {x y : Int32} {off : Int} (tgt n : Nat) (hd : decode M.2.1 pc = .ok (.if_icmp .ne off, 3)) (ht : (pc : Int) + off = (tgt : Int)) (hn : pc + 3 = n) (k1 : x = y → Jg Θ l M h G T N ρ ce sl n ls st s o1) (k2 : ¬ x = y → Jg Θ l M h G T N ρ ce sl tgt ls st s o2) : Jg Θ l M h G T N ρ ce sl pc ls (vI y :: vI x :: st) s (if x = y then o1 else o2) := by
  subst hn
  intro r s' ho p e S m args below meth c H locs lr C hS hR hL
  exact lv_icmp_ne C.1 C.2.1 hd ht (fun hc => by rw [if_neg hc] at ho; exact k2 hc r s' ho p e S m args below meth c H locs lr C hS hR hL) (fun hc => by rw [if_pos hc] at ho; exact k1 hc r s' ho p e S m args below meth c H locs lr C hS hR hL)
theorem j_icmp_ne_T {x y : Int32} {off : Int} (tgt n : Nat) (hd : decode M.2.1 pc = .ok (.if_icmp .ne off, 3)) (ht : (pc : Int) + off = (tgt : Int)) (hn : pc + 3 = n) (hc : x = y) (k : Jg Θ l M h G T N ρ ce sl n ls st s o) : Jg Θ l M h G T N ρ ce sl pc ls (vI y :: vI x :: st) s o := by
  have h1 := j_icmp_ne (o1 := o) (o2 := none) tgt n hd ht hn (fun _ => k) (fun h => absurd hc h)
  rw [if_pos hc] at h1
  exact h1
theorem j_icmp_ne_F {x y : Int32} {off : Int} (tgt n : Nat) (hd : decode M.2.1 pc = .ok (.if_icmp .ne off, 3)) (ht : (pc : Int) + off = (tgt : Int)) (hn : pc + 3 = n) (hc : ¬ x = y) (k : Jg Θ l M h G T N ρ ce sl tgt ls st s o) : Jg Θ l M h G T N ρ ce sl pc ls (vI y :: vI x :: st) s o := by
  have h1 := j_icmp_ne (o1 := none) (o2 := o) tgt n hd ht hn (fun h => absurd h hc) (fun _ => k)
  rw [if_neg hc] at h1
  exact h1
theorem j_if_ne {x : Int32} {off : Int} (tgt n : Nat) (hd : decode M.2.1 pc = .ok (.ifCond .ne off, 3)) (ht : (pc : Int) + off = (tgt : Int)) (hn : pc + 3 = n) (k1 : x = 0 → Jg Θ l M h G T N ρ ce sl n ls st s o1) (k2 : ¬ x = 0 → Jg Θ l M h G T N ρ ce sl tgt ls st s o2) : Jg Θ l M h G T N ρ ce sl pc ls (vI x :: st) s (if x = 0 then o1 else o2) := by
  subst hn
  intro r s' ho p e S m args below meth c H locs lr C hS hR hL
  exact lv_if_ne C.1 C.2.1 hd ht (fun hc => by rw [if_neg hc] at ho; exact k2 hc r s' ho p e S m args below meth c H locs lr C hS hR hL) (fun hc => by rw [if_pos hc] at ho; exact k1 hc r s' ho p e S m args below meth c H locs lr C hS hR hL)
theorem j_if_ne_T {x : Int32} {off : Int} (tgt n : Nat) (hd : decode M.2.1 pc = .ok (.ifCond .ne off, 3)) (ht : (pc : Int) + off = (tgt : Int)) (hn : pc + 3 = n) (hc : x = 0) (k : Jg Θ l M h G T N ρ ce sl n ls st s o) : Jg Θ l M h G T N ρ ce sl pc ls (vI x :: st) s o := by
  have h1 := j_if_ne (o1 := o) (o2 := none) tgt n hd ht hn (fun _ => k) (fun h => absurd hc h)
  rw [if_pos hc] at h1
  exact h1
theorem j_if_ne_F {x : Int32} {off : Int} (tgt n : Nat) (hd : decode M.2.1 pc = .ok (.ifCond .ne off, 3)) (ht : (pc : Int) + off = (tgt : Int)) (hn : pc + 3 = n) (hc : ¬ x = 0) (k : Jg Θ l M h G T N ρ ce sl tgt ls st s o) : Jg Θ l M h G T N ρ ce sl pc ls (vI x :: st) s o := by
  have h1 := j_if_ne (o1 := none) (o2 := o) tgt n hd ht hn (fun h => absurd h hc) (fun _ => k)
  rw [if_neg hc] at h1
  exact h1
theorem j_icmp_lt {x y : Int32} {off : Int} (tgt n : Nat) (hd : decode M.2.1 pc = .ok (.if_icmp .lt off, 3)) (ht : (pc : Int) + off = (tgt : Int)) (hn : pc + 3 = n) (k1 : x < y → Jg Θ l M h G T N ρ ce sl tgt ls st s o1) (k2 : ¬ x < y → Jg Θ l M h G T N ρ ce sl n ls st s o2) : Jg Θ l M h G T N ρ ce sl pc ls (vI y :: vI x :: st) s (if x < y then o1 else o2) := by
  subst hn
  intro r s' ho p e S m args below meth c H locs lr C hS hR hL
  exact lv_icmp_lt C.1 C.2.1 hd ht (fun hc => by rw [if_pos hc] at ho; exact k1 hc r s' ho p e S m args below meth c H locs lr C hS hR hL) (fun hc => by rw [if_neg hc] at ho; exact k2 hc r s' ho p e S m args below meth c H locs lr C hS hR hL)
theorem j_icmp_lt_T {x y : Int32} {off : Int} (tgt n : Nat) (hd : decode M.2.1 pc = .ok (.if_icmp .lt off, 3)) (ht : (pc : Int) + off = (tgt : Int)) (hn : pc + 3 = n) (hc : x < y) (k : Jg Θ l M h G T N ρ ce sl tgt ls st s o) : Jg Θ l M h G T N ρ ce sl pc ls (vI y :: vI x :: st) s o := by
  have h1 := j_icmp_lt (o1 := o) (o2 := none) tgt n hd ht hn (fun _ => k) (fun h => absurd hc h)
  rw [if_pos hc] at h1
  exact h1
theorem j_icmp_lt_F {x y : Int32} {off : Int} (tgt n : Nat) (hd : decode M.2.1 pc = .ok (.if_icmp .lt off, 3)) (ht : (pc : Int) + off = (tgt : Int)) (hn : pc + 3 = n) (hc : ¬ x < y) (k : Jg Θ l M h G T N ρ ce sl n ls st s o) : Jg Θ l M h G T N ρ ce sl pc ls (vI y :: vI x :: st) s o := by
  have h1 := j_icmp_lt (o1 := none) (o2 := o) tgt n hd ht hn (fun h => absurd h hc) (fun _ => k)
  rw [if_neg hc] at h1
  exact h1
theorem j_if_lt {x : Int32} {off : Int} (tgt n : Nat) (hd : decode M.2.1 pc = .ok (.ifCond .lt off, 3)) (ht : (pc : Int) + off = (tgt : Int)) (hn : pc + 3 = n) (k1 : x < 0 → Jg Θ l M h G T N ρ ce sl tgt ls st s o1) (k2 : ¬ x < 0 → Jg Θ l M h G T N ρ ce sl n ls st s o2) : Jg Θ l M h G T N ρ ce sl pc ls (vI x :: st) s (if x < 0 then o1 else o2) := by
  subst hn
  intro r s' ho p e S m args below meth c H locs lr C hS hR hL
  exact lv_if_lt C.1 C.2.1 hd ht (fun hc => by rw [if_pos hc] at ho; exact k1 hc r s' ho p e S m args below meth c H locs lr C hS hR hL) (fun hc => by rw [if_neg hc] at ho; exact k2 hc r s' ho p e S m args below meth c H locs lr C hS hR hL)
theorem j_if_lt_T {x : Int32} {off : Int} (tgt n : Nat) (hd : decode M.2.1 pc = .ok (.ifCond .lt off, 3)) (ht : (pc : Int) + off = (tgt : Int)) (hn : pc + 3 = n) (hc : x < 0) (k : Jg Θ l M h G T N ρ ce sl tgt ls st s o) : Jg Θ l M h G T N ρ ce sl pc ls (vI x :: st) s o := by
  have h1 := j_if_lt (o1 := o) (o2 := none) tgt n hd ht hn (fun _ => k) (fun h => absurd hc h)
  rw [if_pos hc] at h1
  exact h1
theorem j_if_lt_F {x : Int32} {off : Int} (tgt n : Nat) (hd : decode M.2.1 pc = .ok (.ifCond .lt off, 3)) (ht : (pc : Int) + off = (tgt : Int)) (hn : pc + 3 = n) (hc : ¬ x < 0) (k : Jg Θ l M h G T N ρ ce sl n ls st s o) : Jg Θ l M h G T N ρ ce sl pc ls (vI x :: st) s o := by
  have h1 := j_if_lt (o1 := none) (o2 := o) tgt n hd ht hn (fun h => absurd h hc) (fun _ => k)
  rw [if_neg hc] at h1
  exact h1
theorem j_icmp_ge {x y : Int32} {off : Int} (tgt n : Nat) (hd : decode M.2.1 pc = .ok (.if_icmp .ge off, 3)) (ht : (pc : Int) + off = (tgt : Int)) (hn : pc + 3 = n) (k1 : x < y → Jg Θ l M h G T N ρ ce sl n ls st s o1) (k2 : ¬ x < y → Jg Θ l M h G T N ρ ce sl tgt ls st s o2) : Jg Θ l M h G T N ρ ce sl pc ls (vI y :: vI x :: st) s (if x < y then o1 else o2) := by
  subst hn
  intro r s' ho p e S m args below meth c H locs lr C hS hR hL
  exact lv_icmp_ge C.1 C.2.1 hd ht (fun hc => by have hc := Int32.not_lt.mpr hc; rw [if_neg hc] at ho; exact k2 hc r s' ho p e S m args below meth c H locs lr C hS hR hL) (fun hc => by have hc := Int32.not_le.mp hc; rw [if_pos hc] at ho; exact k1 hc r s' ho p e S m args below meth c H locs lr C hS hR hL)
theorem j_icmp_ge_T {x y : Int32} {off : Int} (tgt n : Nat) (hd : decode M.2.1 pc = .ok (.if_icmp .ge off, 3)) (ht : (pc : Int) + off = (tgt : Int)) (hn : pc + 3 = n) (hc : x < y) (k : Jg Θ l M h G T N ρ ce sl n ls st s o) : Jg Θ l M h G T N ρ ce sl pc ls (vI y :: vI x :: st) s o := by
  have h1 := j_icmp_ge (o1 := o) (o2 := none) tgt n hd ht hn (fun _ => k) (fun h => absurd hc h)
  rw [if_pos hc] at h1
  exact h1
theorem j_icmp_ge_F {x y : Int32} {off : Int} (tgt n : Nat) (hd : decode M.2.1 pc = .ok (.if_icmp .ge off, 3)) (ht : (pc : Int) + off = (tgt : Int)) (hn : pc + 3 = n) (hc : ¬ x < y) (k : Jg Θ l M h G T N ρ ce sl tgt ls st s o) : Jg Θ l M h G T N ρ ce sl pc ls (vI y :: vI x :: st) s o := by
  have h1 := j_icmp_ge (o1 := none) (o2 := o) tgt n hd ht hn (fun h => absurd h hc) (fun _ => k)
  rw [if_neg hc] at h1
  exact h1
theorem j_if_ge {x : Int32} {off : Int} (tgt n : Nat) (hd : decode M.2.1 pc = .ok (.ifCond .ge off, 3)) (ht : (pc : Int) + off = (tgt : Int)) (hn : pc + 3 = n) (k1 : x < 0 → Jg Θ l M h G T N ρ ce sl n ls st s o1) (k2 : ¬ x < 0 → Jg Θ l M h G T N ρ ce sl tgt ls st s o2) : Jg Θ l M h G T N ρ ce sl pc ls (vI x :: st) s (if x < 0 then o1 else o2) := by
  subst hn
  intro r s' ho p e S m args below meth c H locs lr C hS hR hL
  exact lv_if_ge C.1 C.2.1 hd ht (fun hc => by have hc := Int32.not_lt.mpr hc; rw [if_neg hc] at ho; exact k2 hc r s' ho p e S m args below meth c H locs lr C hS hR hL) (fun hc => by have hc := Int32.not_le.mp hc; rw [if_pos hc] at ho; exact k1 hc r s' ho p e S m args below meth c H locs lr C hS hR hL)
theorem j_if_ge_T {x : Int32} {off : Int} (tgt n : Nat) (hd : decode M.2.1 pc = .ok (.ifCond .ge off, 3)) (ht : (pc : Int) + off = (tgt : Int)) (hn : pc + 3 = n) (hc : x < 0) (k : Jg Θ l M h G T N ρ ce sl n ls st s o) : Jg Θ l M h G T N ρ ce sl pc ls (vI x :: st) s o := by
  have h1 := j_if_ge (o1 := o) (o2 := none) tgt n hd ht hn (fun _ => k) (fun h => absurd hc h)
  rw [if_pos hc] at h1
  exact h1
theorem j_if_ge_F {x : Int32} {off : Int} (tgt n : Nat) (hd : decode M.2.1 pc = .ok (.ifCond .ge off, 3)) (ht : (pc : Int) + off = (tgt : Int)) (hn : pc + 3 = n) (hc : ¬ x < 0) (k : Jg Θ l M h G T N ρ ce sl tgt ls st s o) : Jg Θ l M h G T N ρ ce sl pc ls (vI x :: st) s o := by
  have h1 := j_if_ge (o1 := none) (o2 := o) tgt n hd ht hn (fun h => absurd h hc) (fun _ => k)
  rw [if_neg hc] at h1
  exact h1
theorem j_icmp_gt {x y : Int32} {off : Int} (tgt n : Nat) (hd : decode M.2.1 pc = .ok (.if_icmp .gt off, 3)) (ht : (pc : Int) + off = (tgt : Int)) (hn : pc + 3 = n) (k1 : y < x → Jg Θ l M h G T N ρ ce sl tgt ls st s o1) (k2 : ¬ y < x → Jg Θ l M h G T N ρ ce sl n ls st s o2) : Jg Θ l M h G T N ρ ce sl pc ls (vI y :: vI x :: st) s (if y < x then o1 else o2) := by
  subst hn
  intro r s' ho p e S m args below meth c H locs lr C hS hR hL
  exact lv_icmp_gt C.1 C.2.1 hd ht (fun hc => by rw [if_pos hc] at ho; exact k1 hc r s' ho p e S m args below meth c H locs lr C hS hR hL) (fun hc => by rw [if_neg hc] at ho; exact k2 hc r s' ho p e S m args below meth c H locs lr C hS hR hL)
theorem j_icmp_gt_T {x y : Int32} {off : Int} (tgt n : Nat) (hd : decode M.2.1 pc = .ok (.if_icmp .gt off, 3)) (ht : (pc : Int) + off = (tgt : Int)) (hn : pc + 3 = n) (hc : y < x) (k : Jg Θ l M h G T N ρ ce sl tgt ls st s o) : Jg Θ l M h G T N ρ ce sl pc ls (vI y :: vI x :: st) s o := by
  have h1 := j_icmp_gt (o1 := o) (o2 := none) tgt n hd ht hn (fun _ => k) (fun h => absurd hc h)
  rw [if_pos hc] at h1
  exact h1
theorem j_icmp_gt_F {x y : Int32} {off : Int} (tgt n : Nat) (hd : decode M.2.1 pc = .ok (.if_icmp .gt off, 3)) (ht : (pc : Int) + off = (tgt : Int)) (hn : pc + 3 = n) (hc : ¬ y < x) (k : Jg Θ l M h G T N ρ ce sl n ls st s o) : Jg Θ l M h G T N ρ ce sl pc ls (vI y :: vI x :: st) s o := by
  have h1 := j_icmp_gt (o1 := none) (o2 := o) tgt n hd ht hn (fun h => absurd h hc) (fun _ => k)
  rw [if_neg hc] at h1
  exact h1
theorem j_if_gt {x : Int32} {off : Int} (tgt n : Nat) (hd : decode M.2.1 pc = .ok (.ifCond .gt off, 3)) (ht : (pc : Int) + off = (tgt : Int)) (hn : pc + 3 = n) (k1 : 0 < x → Jg Θ l M h G T N ρ ce sl tgt ls st s o1) (k2 : ¬ 0 < x → Jg Θ l M h G T N ρ ce sl n ls st s o2) : Jg Θ l M h G T N ρ ce sl pc ls (vI x :: st) s (if 0 < x then o1 else o2) := by
  subst hn
  intro r s' ho p e S m args below meth c H locs lr C hS hR hL
  exact lv_if_gt C.1 C.2.1 hd ht (fun hc => by rw [if_pos hc] at ho; exact k1 hc r s' ho p e S m args below meth c H locs lr C hS hR hL) (fun hc => by rw [if_neg hc] at ho; exact k2 hc r s' ho p e S m args below meth c H locs lr C hS hR hL)
theorem j_if_gt_T {x : Int32} {off : Int} (tgt n : Nat) (hd : decode M.2.1 pc = .ok (.ifCond .gt off, 3)) (ht : (pc : Int) + off = (tgt : Int)) (hn : pc + 3 = n) (hc : 0 < x) (k : Jg Θ l M h G T N ρ ce sl tgt ls st s o) : Jg Θ l M h G T N ρ ce sl pc ls (vI x :: st) s o := by
  have h1 := j_if_gt (o1 := o) (o2 := none) tgt n hd ht hn (fun _ => k) (fun h => absurd hc h)
  rw [if_pos hc] at h1
  exact h1
theorem j_if_gt_F {x : Int32} {off : Int} (tgt n : Nat) (hd : decode M.2.1 pc = .ok (.ifCond .gt off, 3)) (ht : (pc : Int) + off = (tgt : Int)) (hn : pc + 3 = n) (hc : ¬ 0 < x) (k : Jg Θ l M h G T N ρ ce sl n ls st s o) : Jg Θ l M h G T N ρ ce sl pc ls (vI x :: st) s o := by
  have h1 := j_if_gt (o1 := none) (o2 := o) tgt n hd ht hn (fun h => absurd h hc) (fun _ => k)
  rw [if_neg hc] at h1
  exact h1
theorem j_icmp_le {x y : Int32} {off : Int} (tgt n : Nat) (hd : decode M.2.1 pc = .ok (.if_icmp .le off, 3)) (ht : (pc : Int) + off = (tgt : Int)) (hn : pc + 3 = n) (k1 : y < x → Jg Θ l M h G T N ρ ce sl n ls st s o1) (k2 : ¬ y < x → Jg Θ l M h G T N ρ ce sl tgt ls st s o2) : Jg Θ l M h G T N ρ ce sl pc ls (vI y :: vI x :: st) s (if y < x then o1 else o2) := by
  subst hn
  intro r s' ho p e S m args below meth c H locs lr C hS hR hL
  exact lv_icmp_le C.1 C.2.1 hd ht (fun hc => by have hc := Int32.not_lt.mpr hc; rw [if_neg hc] at ho; exact k2 hc r s' ho p e S m args below meth c H locs lr C hS hR hL) (fun hc => by have hc := Int32.not_le.mp hc; rw [if_pos hc] at ho; exact k1 hc r s' ho p e S m args below meth c H locs lr C hS hR hL)
theorem j_icmp_le_T {x y : Int32} {off : Int} (tgt n : Nat) (hd : decode M.2.1 pc = .ok (.if_icmp .le off, 3)) (ht : (pc : Int) + off = (tgt : Int)) (hn : pc + 3 = n) (hc : y < x) (k : Jg Θ l M h G T N ρ ce sl n ls st s o) : Jg Θ l M h G T N ρ ce sl pc ls (vI y :: vI x :: st) s o := by
  have h1 := j_icmp_le (o1 := o) (o2 := none) tgt n hd ht hn (fun _ => k) (fun h => absurd hc h)
  rw [if_pos hc] at h1
  exact h1
theorem j_icmp_le_F {x y : Int32} {off : Int} (tgt n : Nat) (hd : decode M.2.1 pc = .ok (.if_icmp .le off, 3)) (ht : (pc : Int) + off = (tgt : Int)) (hn : pc + 3 = n) (hc : ¬ y < x) (k : Jg Θ l M h G T N ρ ce sl tgt ls st s o) : Jg Θ l M h G T N ρ ce sl pc ls (vI y :: vI x :: st) s o := by
  have h1 := j_icmp_le (o1 := none) (o2 := o) tgt n hd ht hn (fun h => absurd h hc) (fun _ => k)
  rw [if_neg hc] at h1
  exact h1
theorem j_if_le {x : Int32} {off : Int} (tgt n : Nat) (hd : decode M.2.1 pc = .ok (.ifCond .le off, 3)) (ht : (pc : Int) + off = (tgt : Int)) (hn : pc + 3 = n) (k1 : 0 < x → Jg Θ l M h G T N ρ ce sl n ls st s o1) (k2 : ¬ 0 < x → Jg Θ l M h G T N ρ ce sl tgt ls st s o2) : Jg Θ l M h G T N ρ ce sl pc ls (vI x :: st) s (if 0 < x then o1 else o2) := by
  subst hn
  intro r s' ho p e S m args below meth c H locs lr C hS hR hL
  exact lv_if_le C.1 C.2.1 hd ht (fun hc => by have hc := Int32.not_lt.mpr hc; rw [if_neg hc] at ho; exact k2 hc r s' ho p e S m args below meth c H locs lr C hS hR hL) (fun hc => by have hc := Int32.not_le.mp hc; rw [if_pos hc] at ho; exact k1 hc r s' ho p e S m args below meth c H locs lr C hS hR hL)
theorem j_if_le_T {x : Int32} {off : Int} (tgt n : Nat) (hd : decode M.2.1 pc = .ok (.ifCond .le off, 3)) (ht : (pc : Int) + off = (tgt : Int)) (hn : pc + 3 = n) (hc : 0 < x) (k : Jg Θ l M h G T N ρ ce sl n ls st s o) : Jg Θ l M h G T N ρ ce sl pc ls (vI x :: st) s o := by
  have h1 := j_if_le (o1 := o) (o2 := none) tgt n hd ht hn (fun _ => k) (fun h => absurd hc h)
  rw [if_pos hc] at h1
  exact h1
theorem j_if_le_F {x : Int32} {off : Int} (tgt n : Nat) (hd : decode M.2.1 pc = .ok (.ifCond .le off, 3)) (ht : (pc : Int) + off = (tgt : Int)) (hn : pc + 3 = n) (hc : ¬ 0 < x) (k : Jg Θ l M h G T N ρ ce sl tgt ls st s o) : Jg Θ l M h G T N ρ ce sl pc ls (vI x :: st) s o := by
  have h1 := j_if_le (o1 := none) (o2 := o) tgt n hd ht hn (fun h => absurd h hc) (fun _ => k)
  rw [if_neg hc] at h1
  exact h1
theorem j_goto {off : Int} (tgt : Nat) (hd : decode M.2.1 pc = .ok (.goto off, 3)) (ht : (pc : Int) + off = (tgt : Int)) (k : Jg Θ l M h G T N ρ ce sl tgt ls st s o) : Jg Θ l M h G T N ρ ce sl pc ls st s o := by
  intro r s' ho p e S m args below meth c H locs lr C hS hR hL
  exact lv_goto C.1 C.2.1 hd ht (k r s' ho p e S m args below meth c H locs lr C hS hR hL)
theorem j_ifnull {q : Nat} {off : Int} (tgt n : Nat) (hd : decode M.2.1 pc = .ok (.ifnull off, 3)) (ht : (pc : Int) + off = (tgt : Int)) (hn : pc + 3 = n) (k1 : q = 0 → Jg Θ l M h G T N ρ ce sl tgt ls st s o1) (k2 : ¬ q = 0 → Jg Θ l M h G T N ρ ce sl n ls st s o2) : Jg Θ l M h G T N ρ ce sl pc ls (vR q :: st) s (if q = 0 then o1 else o2) := by
  subst hn
  intro r s' ho p e S m args below meth c H locs lr C hS hR hL
  have e9 : cv Θ (vR q) = va_rf (adO Θ q) := rfl
  simp only [List.map_cons]
  rw [e9]
  by_cases hq : q = 0
  · rw [if_pos hq] at ho
    have e2 : adO Θ q = none := by rw [adO, if_pos hq]
    rw [e2]
    exact lv_ifnullN C.1 C.2.1 hd ht (k1 hq r s' ho p e S m args below meth c H locs lr C hS hR hL)
  · rw [if_neg hq] at ho
    have e2 : adO Θ q = some (adr Θ q) := by rw [adO, if_neg hq]
    rw [e2]
    exact lv_ifnull C.1 C.2.1 hd (k2 hq r s' ho p e S m args below meth c H locs lr C hS hR hL)
theorem j_ifnull_T {q : Nat} {off : Int} (tgt n : Nat) (hd : decode M.2.1 pc = .ok (.ifnull off, 3)) (ht : (pc : Int) + off = (tgt : Int)) (hn : pc + 3 = n) (hc : q = 0) (k : Jg Θ l M h G T N ρ ce sl tgt ls st s o) : Jg Θ l M h G T N ρ ce sl pc ls (vR q :: st) s o := by
  have h1 := j_ifnull (o1 := o) (o2 := none) tgt n hd ht hn (fun _ => k) (fun h => absurd hc h)
  rw [if_pos hc] at h1
  exact h1
theorem j_ifnull_F {q : Nat} {off : Int} (tgt n : Nat) (hd : decode M.2.1 pc = .ok (.ifnull off, 3)) (ht : (pc : Int) + off = (tgt : Int)) (hn : pc + 3 = n) (hc : ¬ q = 0) (k : Jg Θ l M h G T N ρ ce sl n ls st s o) : Jg Θ l M h G T N ρ ce sl pc ls (vR q :: st) s o := by
  have h1 := j_ifnull (o1 := none) (o2 := o) tgt n hd ht hn (fun h => absurd h hc) (fun _ => k)
  rw [if_neg hc] at h1
  exact h1
theorem j_ifnonnull {q : Nat} {off : Int} (tgt n : Nat) (hd : decode M.2.1 pc = .ok (.ifnonnull off, 3)) (ht : (pc : Int) + off = (tgt : Int)) (hn : pc + 3 = n) (k1 : q = 0 → Jg Θ l M h G T N ρ ce sl n ls st s o1) (k2 : ¬ q = 0 → Jg Θ l M h G T N ρ ce sl tgt ls st s o2) : Jg Θ l M h G T N ρ ce sl pc ls (vR q :: st) s (if q = 0 then o1 else o2) := by
  subst hn
  intro r s' ho p e S m args below meth c H locs lr C hS hR hL
  have e9 : cv Θ (vR q) = va_rf (adO Θ q) := rfl
  simp only [List.map_cons]
  rw [e9]
  by_cases hq : q = 0
  · rw [if_pos hq] at ho
    have e2 : adO Θ q = none := by rw [adO, if_pos hq]
    rw [e2]
    exact lv_ifnonnullN C.1 C.2.1 hd (k1 hq r s' ho p e S m args below meth c H locs lr C hS hR hL)
  · rw [if_neg hq] at ho
    have e2 : adO Θ q = some (adr Θ q) := by rw [adO, if_neg hq]
    rw [e2]
    exact lv_ifnonnull C.1 C.2.1 hd ht (k2 hq r s' ho p e S m args below meth c H locs lr C hS hR hL)
theorem j_ifnonnull_T {q : Nat} {off : Int} (tgt n : Nat) (hd : decode M.2.1 pc = .ok (.ifnonnull off, 3)) (ht : (pc : Int) + off = (tgt : Int)) (hn : pc + 3 = n) (hc : q = 0) (k : Jg Θ l M h G T N ρ ce sl n ls st s o) : Jg Θ l M h G T N ρ ce sl pc ls (vR q :: st) s o := by
  have h1 := j_ifnonnull (o1 := o) (o2 := none) tgt n hd ht hn (fun _ => k) (fun h => absurd hc h)
  rw [if_pos hc] at h1
  exact h1
theorem j_ifnonnull_F {q : Nat} {off : Int} (tgt n : Nat) (hd : decode M.2.1 pc = .ok (.ifnonnull off, 3)) (ht : (pc : Int) + off = (tgt : Int)) (hn : pc + 3 = n) (hc : ¬ q = 0) (k : Jg Θ l M h G T N ρ ce sl tgt ls st s o) : Jg Θ l M h G T N ρ ce sl pc ls (vR q :: st) s o := by
  have h1 := j_ifnonnull (o1 := none) (o2 := o) tgt n hd ht hn (fun h => absurd h hc) (fun _ => k)
  rw [if_neg hc] at h1
  exact h1
theorem j_none : Jg Θ l M h G T N ρ ce sl pc ls st s (none : Option (α × Mem)) := by
  intro r s' ho
  cases ho
theorem j_sub {ls' : List (Option AV)} (hs : subL ls' ls) (k : Jg Θ l M h G T N ρ ce sl pc ls' st s o) : Jg Θ l M h G T N ρ ce sl pc ls st s o := by
  intro r s' ho p e S m args below meth c H locs lr C hS hR hL
  exact k r s' ho p e S m args below meth c H locs lr C hS hR (lr_sub hL hs)
theorem j_ite {c : Prop} [Decidable c] (k1 : c → Jg Θ l M h G T N ρ ce sl pc ls st s o1) (k2 : ¬ c → Jg Θ l M h G T N ρ ce sl pc ls st s o2) : Jg Θ l M h G T N ρ ce sl pc ls st s (if c then o1 else o2) := by
  by_cases hc : c
  · rw [if_pos hc]; exact k1 hc
  · rw [if_neg hc]; exact k2 hc
theorem j_eq (he : o = o1) (k : Jg Θ l M h G T N ρ ce sl pc ls st s o1) : Jg Θ l M h G T N ρ ce sl pc ls st s o := by
  subst he
  exact k
end JR
end
section
-- the world of numbered cells: reading and writing it
theorem wsN_at {Θ : Th} {N : Nat} {ρ : Rf} {s : Mem} {q : Nat} (h1 : 0 < q) (h2 : q ≤ N) : (wsN Θ N ρ s)[q - 1]? = some (Θ.2.1 + q, cellOf Θ ρ s q) := by
  unfold wsN
  rw [List.getElem?_map, List.getElem?_range (by omega)]
  have e : q - 1 + 1 = q := by omega
  simp only [Option.map_some, e]
theorem wsN_D (Θ : Th) (N : Nat) (ρ : Rf) (s : Mem) : va_D (Ar Θ) (wsN Θ N ρ s) := by
  have key : ∀ (k : Nat) (p : Nat × va_E), (wsN Θ N ρ s)[k]? = some p → p.1 = Θ.2.1 + (k + 1) := by
    intro k p hk
    unfold wsN at hk
    rw [List.getElem?_map] at hk
    by_cases hl : k < N
    · rw [List.getElem?_range hl] at hk
      cases hk
      rfl
    · rw [List.getElem?_eq_none (by simpa using hl)] at hk
      cases hk
  refine ⟨fun i j p q hi hj hpq => ?_, fun k q hk => ?_⟩
  · have h1 := key i p hi
    have h2 := key j q hj
    omega
  · have h1 := key k q hk
    show Θ.2.1 + 1 ≤ q.1
    omega
theorem wsN_get {Θ : Th} {N : Nat} {ρ : Rf} {s : Mem} (k : Nat) : (wsN Θ N ρ s)[k]? = if k < N then some (Θ.2.1 + (k + 1), cellOf Θ ρ s (k + 1)) else none := by
  by_cases hl : k < N
  · rw [if_pos hl]
    exact wsN_at (q := k + 1) (by omega) (by omega)
  · rw [if_neg hl]
    have h1 : (wsN Θ N ρ s).length = N := by unfold wsN; rw [List.length_map, List.length_range]
    exact List.getElem?_eq_none (by omega)
theorem wsN_len {Θ : Th} {N : Nat} {ρ : Rf} {s : Mem} : (wsN Θ N ρ s).length = N := by unfold wsN; rw [List.length_map, List.length_range]
theorem wsN_set {Θ : Th} {N : Nat} {ρ ρ' : Rf} {s s' : Mem} {q : Nat} {e : va_E} (h1 : 0 < q) (h2 : q ≤ N) (he : cellOf Θ ρ' s' q = e) (ho : ∀ a, a ≠ q → cellOf Θ ρ' s' a = cellOf Θ ρ s a) :
    (wsN Θ N ρ s).set (q - 1) (Θ.2.1 + q, e) = wsN Θ N ρ' s' := by
  apply List.ext_getElem?
  intro k
  have hlen : q - 1 < (wsN Θ N ρ s).length := by rw [wsN_len]; omega
  by_cases hk : k = q - 1
  · subst hk
    rw [List.getElem?_set_self hlen]
    have h3 := wsN_at (Θ := Θ) (ρ := ρ') (s := s') h1 h2
    rw [he] at h3
    exact h3.symm
  · rw [List.getElem?_set_ne (fun z => hk z.symm), wsN_get, wsN_get]
    by_cases hl : k < N
    · rw [if_pos hl, if_pos hl]
      have h4 : k + 1 ≠ q := by omega
      rw [ho (k + 1) h4]
    · rw [if_neg hl, if_neg hl]
theorem wsN_push {Θ : Th} {N : Nat} {ρ : Rf} {s : Mem} {a : Nat} {e : va_E} (ha : a = Θ.2.1 + (N + 1)) (he : cellOf Θ ρ s (N + 1) = e) : wsN Θ N ρ s ++ [(a, e)] = wsN Θ (N + 1) ρ s := by
  unfold wsN
  rw [List.range_succ, List.map_append]
  simp [ha, he]
theorem cell_obj {Θ : Th} {ρ : Rf} {s : Mem} {q c : Nat} (hk : kd q = c) (hc : c < 20) : cellOf Θ ρ s q = .inr (c, (List.range (nf c)).map (fcont Θ ρ s q)) := by
  subst hk
  unfold cellOf
  rw [if_pos hc]
theorem cell_int {Θ : Th} {ρ : Rf} {s : Mem} {q c : Nat} (hk : kd q = c) (h1 : 20 ≤ c) (h2 : c < 23) : cellOf Θ ρ s q = .inl (Θ.2.2.2 c, ln q, .inl (s.1 q)) := by
  subst hk
  unfold cellOf
  rw [if_neg (by omega), if_pos h2]
theorem cell_ref {Θ : Th} {ρ : Rf} {s : Mem} {q c : Nat} (hk : kd q = c) (h1 : 23 ≤ c) : cellOf Θ ρ s q = .inl (Θ.2.2.2 c, ln q, .inr (.inr (.inr (.inr (fun k => adO Θ (ρ q k)))))) := by
  subst hk
  unfold cellOf
  rw [if_neg (by omega), if_neg (by omega)]
theorem cell_congr {Θ : Th} {ρ ρ' : Rf} {s s' : Mem} {q : Nat} (h1 : s'.1 q = s.1 q) (h2 : s'.2 q = s.2 q) (h3 : ρ' q = ρ q) : cellOf Θ ρ' s' q = cellOf Θ ρ s q := by
  have e : fcont Θ ρ' s' q = fcont Θ ρ s q := by
    funext j
    unfold fcont
    rw [h1, h2, h3]
  unfold cellOf
  rw [e, h1, h3]
theorem wI_ne {s : Mem} {q j a : Nat} {v : Int32} (h : a ≠ q) : (wI s q j v).1 a = s.1 a := by
  funext b
  simp [wI, h]
theorem wL_ne {s : Mem} {q j a : Nat} {v : Int64} (h : a ≠ q) : (wL s q j v).2 a = s.2 a := by
  funext b
  simp [wL, h]
theorem wF_ne {s : Mem} {q a : Nat} {f : Nat → Int32} (h : a ≠ q) : (wF s q f).1 a = s.1 a := by simp [wF, h]
theorem wR_ne {ρ : Rf} {q j v a : Nat} (h : a ≠ q) : wR ρ q j v a = ρ a := by
  funext b
  simp [wR, h]
theorem wI_eq {s : Mem} {q j : Nat} {v : Int32} : (wI s q j v).1 q = upd (s.1 q) j v := by
  funext b
  simp [wI, upd]
theorem list_set_map {f g : Nat → Value} {n j : Nat} {v : Value} (hv : g j = v) (ho : ∀ b, b ≠ j → g b = f b) : ((List.range n).map f).set j v = (List.range n).map g := by
  apply List.ext_getElem?
  intro k
  by_cases hk : k = j
  · subst hk
    by_cases hl : k < n
    · rw [List.getElem?_set_self (by simpa using hl), List.getElem?_map, List.getElem?_range hl]
      simp [hv]
    · rw [List.getElem?_eq_none (by simpa using hl), List.getElem?_eq_none (by simpa using hl)]
  · rw [List.getElem?_set_ne (fun e => hk e.symm), List.getElem?_map, List.getElem?_map]
    by_cases hl : k < n
    · rw [List.getElem?_range hl]
      simp [ho k hk]
    · rw [List.getElem?_eq_none (by simpa using hl)]
      rfl
theorem adr_lo {Θ : Th} {q : Nat} (h : q < 900) : adr Θ q = Θ.2.1 + q := by rw [adr, if_pos h]
theorem cv_ref {Θ : Th} {q : Nat} (h : 0 < q) (h2 : q < 900) : cv Θ (vR q) = .ref (Θ.2.1 + q) := by
  show va_rf (adO Θ q) = _
  rw [adO, if_neg (by omega), adr_lo h2]
  rfl
/-- what the tables say of class c: its words, types, names apart -/
def Cls (c : Nat) (C : String) (Tb : u_T) (ty : Nat → FieldType) : Prop :=
  c < 13 ∧ vwCl[c]? = some (C, Tb, nf c) ∧ (∀ w ∈ u_ws C Tb (nf c), w ∈ gtb) ∧ (∀ k, k < nf c → parseFieldDescriptor (Tb k).2.2.1 = some (ty k)) ∧ ∀ a, a < nf c → ∀ b, b < nf c → a ≠ b → (Tb a).2.1 ≠ (Tb b).2.1
section JH
variable {α : Type} {Θ : Th} {l : Launch} {M : Mi} {h : Nat} {G : α → Option AV} {T : Tg} {N : Nat} {ρ : Rf} {ce sl pc : Nat} {ls : List (Option AV)} {st : List AV} {s : Mem} {o o1 o2 : Option (α × Mem)}
theorem cx_word {p : Program} {S : State} {m : MethodId} {args : Array Value} {meth : Method} {c : Code} (C : Cx Θ M p S m args meth c) {w : Cond} (hw : w ∈ gtb) : w.before args S = true := C.2.2.2.2.2.1 _ (List.mem_cons_of_mem _ hw)
theorem cx_tbl {p : Program} {S : State} {m : MethodId} {args : Array Value} {meth : Method} {c : Code} (C : Cx Θ M p S m args meth c) : ∀ w ∈ gtb, w.before args S = true := fun _ hw => cx_word C hw
/-- getfield, any type -/
theorem j_get {q c j i : Nat} {CN nm ds : String} {Tb : u_T} {ty : Nat → FieldType} {v : AV} (n : Nat) (hC : Cls c CN Tb ty) (hd : decode M.2.1 pc = .ok (.getfield i, 3)) (hn : pc + 3 = n) (hq1 : 0 < q) (hq2 : q ≤ N) (hN : N < 900) (hk : kd q = c) (hj : j < nf c) (hT : Tb j = (CN, nm, ds, (Tb j).2.2.2)) (hw : Cond.fieldLink M.1.cls i CN nm ds ∈ gtb) (hv : ∀ Θ : Th, fcont Θ ρ s q j = cv Θ v)
    (k : Jg Θ l M h G T N ρ ce sl n ls (v :: st) s o) : Jg Θ l M h G T N ρ ce sl pc ls (vR q :: st) s o := by
  subst hn
  intro r s' ho p e S m args below meth cd H locs lr C hS hR hL
  have k2 := k r s' ho p e S m args below meth cd H locs lr C hS hR hL
  simp only [List.map_cons] at k2 ⊢
  rw [cv_ref hq1 (by omega)]
  obtain ⟨hc1, hcl, hin, hty, hnm⟩ := hC
  have hcell := wsN_at (Θ := Θ) (ρ := ρ) (s := s) hq1 hq2
  rw [cell_obj hk (by omega)] at hcell
  have e1 : (Tb j).1 = CN := by rw [hT]
  have e2 : (Tb j).2.1 = nm := by rw [hT]
  have e3 : (Tb j).2.2.1 = ds := by rw [hT]
  refine va_get (D := Θ.1) (ci := c) (v := cv Θ v) (C := CN) (T := Tb) (N := nf c) (ref := CN) C.1 C.2.1 (cx_tbl C) hin C.2.2.2.2.1 C.2.2.2.2.2.2.2.2.1.1 hR.1 (q - 1) hcell hcl j hj (by rw [e2, e3]; exact cx_word C hw) (by rw [e1]; exact fun _ h9 => h9) ?_ hd k2
  rw [List.getElem?_map, List.getElem?_range hj]
  simp [hv Θ]
end JH
end
section
section JM
variable {α : Type} {Θ : Th} {l : Launch} {M : Mi} {h : Nat} {G : α → Option AV} {T : Tg} {N : Nat} {ρ : Rf} {ce sl pc : Nat} {ls : List (Option AV)} {st : List AV} {s : Mem} {o o1 o2 : Option (α × Mem)}
theorem Rel_lift {H H1 : Heap} {ws : va_W} {ρ' : Rf} {s' : Mem} (hP : va_P Θ.1 vwCl ws H1) (he : ws = wsN Θ N ρ' s') (hz : H1.size = H.size) (h0 : N < NNc → H.size = Θ.2.1 + 1 + N) : Rel Θ N ρ' s' H1 := ⟨he ▸ hP, fun hn => hz.trans (h0 hn)⟩
theorem P_size {H : Heap} (hN : 0 < N) (hP : va_P Θ.1 vwCl (wsN Θ N ρ s) H) : Θ.2.1 + N < H.size := (hP _ _ (wsN_at (q := N) hN (Nat.le_refl N))).lt
/-- a store's frame: the size stays -/
theorem S_size {A : Nat → Prop} {H0 H : Heap} {locs : List Loc} (h : va_S A H0 H locs) : H0.size ≤ H.size := h.1
/-- what a final or a plain field asks of the method -/
def pOk (M : Mi) (CN : String) (fin : Bool) : Prop := fin = false ∨ (fin = true ∧ M.1.name = "<init>" ∧ CN = M.1.cls)
theorem j_putG {q c j i : Nat} {CN nm ds : String} {Tb : u_T} {ty : Nat → FieldType} {v : AV} {ρ' : Rf} {s2 : Mem} (n : Nat) (hC : Cls c CN Tb ty) (hd : decode M.2.1 pc = .ok (.putfield i, 3)) (hn : pc + 3 = n) (hq1 : 0 < q) (hq2 : q ≤ N) (hN : N < 900) (hk : kd q = c) (hj : j < nf c) {fin : Bool} (hT : Tb j = (CN, nm, ds, fin)) (hf : pOk M CN fin) (hw : Cond.fieldLink M.1.cls i CN nm ds ∈ gtb)
    {fty : FieldType} (hds : parseFieldDescriptor ds = some fty) (hnar : narrow fty (cv Θ v) = cv Θ v) (hfit : fits fty (cv Θ v) = true)
    (hv : fcont Θ ρ' s2 q j = cv Θ v) (ho1 : ∀ b, b ≠ j → fcont Θ ρ' s2 q b = fcont Θ ρ s q b) (ho2 : ∀ a, a ≠ q → cellOf Θ ρ' s2 a = cellOf Θ ρ s a)
    (k : Jg Θ l M h G T N ρ' ce sl n ls st s2 o) : Jg Θ l M h G T N ρ ce sl pc ls (v :: vR q :: st) s o := by
  subst hn
  intro r s' ho p e S m args below meth cd H locs lr C hS hR hL
  simp only [List.map_cons]
  rw [cv_ref hq1 (by omega)]
  obtain ⟨hc1, hcl, hin, hty, hnm⟩ := hC
  have hcell := wsN_at (Θ := Θ) (ρ := ρ) (s := s) hq1 hq2
  rw [cell_obj hk (by omega)] at hcell
  have e1 : (Tb j).1 = CN := by rw [hT]
  have e2 : (Tb j).2.1 = nm := by rw [hT]
  have e3 : (Tb j).2.2.1 = ds := by rw [hT]
  have e4 : (Tb j).2.2.2 = fin := by rw [hT]
  have hset : (wsN Θ N ρ s).set (q - 1) (Θ.2.1 + q, .inr (c, ((List.range (nf c)).map (fcont Θ ρ s q)).set j (cv Θ v))) = wsN Θ N ρ' s2 := by
    refine wsN_set hq1 hq2 ?_ ho2
    rw [cell_obj hk (by omega), list_set_map hv ho1]
  have fin' : ∀ (H1 : Heap) (locs1 : List Loc), va_P Θ.1 vwCl ((wsN Θ N ρ s).set (q - 1) (Θ.2.1 + q, .inr (c, ((List.range (nf c)).map (fcont Θ ρ s q)).set j (cv Θ v)))) H1 → va_S (Ar Θ) S.heap H1 locs1 → H1.size = H.size → W p l e (rmH h T.2.2.1 T.2.2.2) S m args below meth cd H1 locs1 ce sl (MQ below (Qo Θ G T r s') args S T.2.2.1 T.2.2.2 (Ar Θ)) (F0 m (pc + 3) lr (st.map (cv Θ))) := by
    intro H1 locs1 hP1 hS1 hz
    exact k r s' ho p e S m args below meth cd H1 locs1 lr C hS1 (Rel_lift hP1 hset hz hR.2) hL
  have hK := C.2.2.2.2.2.2.2.2.1.1
  obtain ⟨r0, h1, cell, q1, q2, q3, q4⟩ := hR.1 (q - 1) _ hcell
  have hr0 : r0 = (CN, Tb, nf c) := Option.some.inj (h1.symm.trans hcl)
  subst hr0
  have hap := va_apart (own := M.1.cls) (cx_tbl C) hin ty hty hnm hK hcl
  obtain ⟨hSl, hfc, kC, hkC, hkind⟩ := hK.1 c _ hcl
  obtain ⟨cf, kf, fi, f, hi, hsl⟩ := hSl j hj
  have hlay := cx_word C (hin _ (u_in_lay hj))
  have hD := wsN_D Θ N ρ s
  have hlen : j < ((List.range (nf c)).map (fcont Θ ρ s q)).length := by rw [List.length_map, List.length_range]; exact hj
  have hlk : (Cond.fieldLink M.1.cls i CN nm ds).before args S = true := cx_word C hw
  have hi' : S.fieldFound? CN nm ds = some (cf, kf, fi, f) := by rw [← e1, ← e2, ← e3]; exact hi
  unfold u_lay at hlay
  rcases hf with hf | ⟨hf, hini, hown⟩
  · rw [e4, hf] at hlay
    rw [if_neg (by decide)] at hlay
    have hst := (u_facts hfc hkC (u_lays (cx_tbl C) hin hj) hi).1
    have h6 := u_store hfc hkC hkind hlay hi (by rw [e3]; exact hds) hnar hfit
    refine W.putK C.1 C.2.1 (f := f) ⟨C.2.2.2.2.1, hlk, ⟨_, _, _, hi'⟩, hst⟩ (by rw [q2]; exact h6) q1 q3 (by rw [hsl]; exact k2_hasslot (q4 j hj)) rfl rfl hd fun H' z1 z2 z3 => ?_
    rw [hsl] at z1 ⊢
    exact fin' H' _ (hR.1.set hD hcell ⟨_, hcl, t_OB.to (V := updV (vp_V ((List.range (nf c)).map (fcont Θ ρ s q))) j (cv Θ v)) ⟨_, z1, q2, q3, t_set q4 hap hj (cv Θ v)⟩ (fun b _ => vp_updV_set hlen (cv Θ v) b)⟩ z3) (hS.put z2 z3 (hD.2 (q - 1) _ hcell)) z2
  · rw [e4, hf] at hlay
    rw [if_pos rfl] at hlay
    have hst := (u_facts hfc hkC (u_lays (cx_tbl C) hin hj) hi).1
    have hcf : m.cls = cf := by
      obtain ⟨_, _, c', _, _, _, -, -, hf', -, -, -, hown2, -⟩ := Cond.laysFinal_spec hlay
      have z1 : c' = cf := by have := hi.symm.trans hf'; simp at this; exact this.1.symm
      rw [e1, hown] at hown2
      rw [← z1]; exact Option.some.inj (C.2.2.2.2.1.symm.trans hown2)
    have h6 := u_fits hfc hkC hkind (Or.inr hlay) hi (by rw [e3]; exact hds) hnar hfit
    refine W.putFinK C.1 C.2.1 C.2.2.2.2.1 hlk hi' hst hcf (C.2.2.2.2.2.2.2.1.trans hini) (by rw [q2]; exact h6) q1 q3 (by rw [hsl]; exact k2_hasslot (q4 j hj)) rfl rfl hd fun H' z1 z2 z3 => ?_
    rw [hsl] at z1 ⊢
    exact fin' H' _ (hR.1.set hD hcell ⟨_, hcl, t_OB.to (V := updV (vp_V ((List.range (nf c)).map (fcont Θ ρ s q))) j (cv Θ v)) ⟨_, z1, q2, q3, t_set q4 hap hj (cv Θ v)⟩ (fun b _ => vp_updV_set hlen (cv Θ v) b)⟩ z3) (hS.put z2 z3 (hD.2 (q - 1) _ hcell)) z2
/-- putfield of an int -/
theorem j_putI {q c j i : Nat} {CN nm : String} {Tb : u_T} {ty : Nat → FieldType} {x : Int32} (n : Nat) (hC : Cls c CN Tb ty) (hd : decode M.2.1 pc = .ok (.putfield i, 3)) (hn : pc + 3 = n) (hq1 : 0 < q) (hq2 : q ≤ N) (hN : N < 900) (hk : kd q = c) (hj : j < nf c) {fin : Bool} (hT : Tb j = (CN, nm, "I", fin)) (hf : pOk M CN fin) (hw : Cond.fieldLink M.1.cls i CN nm "I" ∈ gtb) (h0 : fk c j = 0)
    (k : Jg Θ l M h G T N ρ ce sl n ls st (wI s q j x) o) : Jg Θ l M h G T N ρ ce sl pc ls (vI x :: vR q :: st) s o := by
  refine j_putG (v := vI x) (fty := .int) n hC hd hn hq1 hq2 hN hk hj hT hf hw (by decide +kernel) rfl rfl ?_ ?_ ?_ k
  · unfold fcont
    rw [hk, h0, if_pos rfl]
    simp [wI, cv]
  · intro b hb
    unfold fcont
    simp [wI, hb]
  · intro a ha
    exact cell_congr (wI_ne ha) rfl rfl
theorem j_putL {q c j i : Nat} {CN nm : String} {Tb : u_T} {ty : Nat → FieldType} {x : Int64} (n : Nat) (hC : Cls c CN Tb ty) (hd : decode M.2.1 pc = .ok (.putfield i, 3)) (hn : pc + 3 = n) (hq1 : 0 < q) (hq2 : q ≤ N) (hN : N < 900) (hk : kd q = c) (hj : j < nf c) {fin : Bool} (hT : Tb j = (CN, nm, "J", fin)) (hf : pOk M CN fin) (hw : Cond.fieldLink M.1.cls i CN nm "J" ∈ gtb) (h0 : fk c j = 1)
    (k : Jg Θ l M h G T N ρ ce sl n ls st (wL s q j x) o) : Jg Θ l M h G T N ρ ce sl pc ls (vL x :: vR q :: st) s o := by
  refine j_putG (v := vL x) (fty := .long) n hC hd hn hq1 hq2 hN hk hj hT hf hw (by decide +kernel) rfl rfl ?_ ?_ ?_ k
  · unfold fcont
    rw [hk, h0, if_neg (by decide), if_pos rfl]
    simp [wL, cv]
  · intro b hb
    unfold fcont
    simp [wL, hb]
  · intro a ha
    exact cell_congr rfl (wL_ne ha) rfl
theorem j_putR {q c j i x : Nat} {CN nm ds : String} {Tb : u_T} {ty : Nat → FieldType} (n : Nat) (hC : Cls c CN Tb ty) (hd : decode M.2.1 pc = .ok (.putfield i, 3)) (hn : pc + 3 = n) (hq1 : 0 < q) (hq2 : q ≤ N) (hN : N < 900) (hk : kd q = c) (hj : j < nf c) {fin : Bool} (hT : Tb j = (CN, nm, ds, fin)) (hf : pOk M CN fin) (hw : Cond.fieldLink M.1.cls i CN nm ds ∈ gtb) (h0 : fk c j = 2) {fty : FieldType} (hds : parseFieldDescriptor ds = some fty) (hr : (∃ z, fty = .object z) ∨ ∃ z, fty = .array z)
    (k : Jg Θ l M h G T N (wR ρ q j x) ce sl n ls st s o) : Jg Θ l M h G T N ρ ce sl pc ls (vR x :: vR q :: st) s o := by
  have e9 : cv Θ (vR x) = va_rf (adO Θ x) := rfl
  refine j_putG (v := vR x) (fty := fty) n hC hd hn hq1 hq2 hN hk hj hT hf hw hds ?_ ?_ ?_ ?_ ?_ k
  · rw [e9]
    rcases hr with ⟨z, rfl⟩ | ⟨z, rfl⟩ <;> cases adO Θ x <;> rfl
  · rw [e9]
    rcases hr with ⟨z, rfl⟩ | ⟨z, rfl⟩ <;> cases adO Θ x <;> rfl
  · unfold fcont
    rw [hk, h0, if_neg (by decide), if_neg (by decide)]
    simp [wR, cv]
  · intro b hb
    unfold fcont
    simp [wR, hb]
  · intro a ha
    exact cell_congr rfl rfl (wR_ne ha)
theorem inb_in {i : Int32} {n : Nat} (h : inb i n = true) : vp_in i n := by
  unfold inb at h
  rw [Bool.and_eq_true, decide_eq_true_eq, decide_eq_true_eq] at h
  rintro (h1 | h1)
  · exact absurd h1 (Int32.not_lt.mpr h.1)
  · omega
end JM
end
section
section JA
variable {α : Type} {Θ : Th} {l : Launch} {M : Mi} {h : Nat} {G : α → Option AV} {T : Tg} {N : Nat} {ρ : Rf} {ce sl pc : Nat} {ls : List (Option AV)} {st : List AV} {s : Mem} {o o1 o2 : Option (α × Mem)}
theorem ty_at {Θ : Th} : (tysT Θ)[0]? = some (Θ.2.2.2 20, .int) ∧ (tysT Θ)[1]? = some (Θ.2.2.2 21, .byte) ∧ (tysT Θ)[2]? = some (Θ.2.2.2 22, .boolean) ∧ (tysT Θ)[3]? = some (Θ.2.2.2 23, .object "HeavierSide$Row") ∧ (tysT Θ)[4]? = some (Θ.2.2.2 24, .object "HeavierSide$Text") := ⟨rfl, rfl, rfl, rfl, rfl⟩
theorem at_int {q c : Nat} (hq1 : 0 < q) (hq2 : q ≤ N) (hk : kd q = c) (h1 : 20 ≤ c) (h2 : c < 23) : (wsN Θ N ρ s)[q - 1]? = some (Θ.2.1 + q, .inl (Θ.2.2.2 c, ln q, .inl (s.1 q))) := by
  rw [wsN_at hq1 hq2, cell_int hk h1 h2]
theorem set_int {q c j : Nat} {x : Int32} (hq1 : 0 < q) (hq2 : q ≤ N) (hk : kd q = c) (h1 : 20 ≤ c) (h2 : c < 23) : (wsN Θ N ρ s).set (q - 1) (Θ.2.1 + q, .inl (Θ.2.2.2 c, ln q, .inl (upd (s.1 q) j x))) = wsN Θ N ρ (wI s q j x) := by
  refine wsN_set hq1 hq2 ?_ (fun a ha => cell_congr (wI_ne ha) rfl rfl)
  rw [cell_int hk h1 h2, wI_eq]
theorem arr_upd {cA : ClassId} {n i : Nat} {f : Nat → Int32} {x : Int32} : (vp_cell cA (n, .inl f)).setSlot i (.int x) = vp_cell cA (n, .inl (upd f i x)) := by
  rw [vp_cell_i, vp_cell_i, arrV_store]
  congr 2
  funext q
  by_cases hq : q = i
  · subst hq
    simp [updV, upd]
  · simp [updV, upd, hq]
theorem j_iaload {q : Nat} {i : Int32} (n : Nat) (hd : decode M.2.1 pc = .ok (.iaload, 1)) (hn : pc + 1 = n) (hq1 : 0 < q) (hq2 : q ≤ N) (hN : N < 900) (hk : kd q = 20) {z : Nat} (hz : ln q = z) (k : inb i z = true → Jg Θ l M h G T N ρ ce sl n ls (vI (s.1 q (ix i)) :: st) s o) : Jg Θ l M h G T N ρ ce sl pc ls (vI i :: vR q :: st) s (if inb i z = true then o else none) := by
  subst hn; subst hz
  intro r s' ho p e S m args below meth c H locs lr C hS hR hL
  by_cases hb : inb i (ln q) = true
  · rw [if_pos hb] at ho
    simp only [List.map_cons]
    rw [cv_ref hq1 (by omega)]
    exact va_iald C.1 C.2.1 C.2.2.2.2.2.2.2.2.1.1 hR.1 (q - 1) 0 (at_int hq1 hq2 hk (by omega) (by omega)) ty_at.1 (inb_in hb) hd (k hb r s' ho p e S m args below meth c H locs lr C hS hR hL)
  · rw [if_neg hb] at ho
    cases ho
theorem j_baload {q : Nat} {i : Int32} (n : Nat) (hd : decode M.2.1 pc = .ok (.baload, 1)) (hn : pc + 1 = n) (hq1 : 0 < q) (hq2 : q ≤ N) (hN : N < 900) (hk : kd q = 21 ∨ kd q = 22) {z : Nat} (hz : ln q = z) (k : inb i z = true → Jg Θ l M h G T N ρ ce sl n ls (vI (s.1 q (ix i)) :: st) s o) : Jg Θ l M h G T N ρ ce sl pc ls (vI i :: vR q :: st) s (if inb i z = true then o else none) := by
  subst hn; subst hz
  intro r s' ho p e S m args below meth c H locs lr C hS hR hL
  by_cases hb : inb i (ln q) = true
  · rw [if_pos hb] at ho
    simp only [List.map_cons]
    rw [cv_ref hq1 (by omega)]
    rcases hk with hk | hk
    · exact va_bald C.1 C.2.1 C.2.2.2.2.2.2.2.2.1.1 hR.1 (q - 1) 1 (at_int hq1 hq2 hk (by omega) (by omega)) ty_at.2.1 (inb_in hb) hd (k hb r s' ho p e S m args below meth c H locs lr C hS hR hL)
    · exact va_zald C.1 C.2.1 C.2.2.2.2.2.2.2.2.1.1 hR.1 (q - 1) 2 (at_int hq1 hq2 hk (by omega) (by omega)) ty_at.2.2.1 (inb_in hb) hd (k hb r s' ho p e S m args below meth c H locs lr C hS hR hL)
  · rw [if_neg hb] at ho
    cases ho
theorem j_alen {q c : Nat} {v : Int32} (n : Nat) (hd : decode M.2.1 pc = .ok (.arraylength, 1)) (hn : pc + 1 = n) (hq1 : 0 < q) (hq2 : q ≤ N) (hN : N < 900) (hk : kd q = c) (h1 : 20 ≤ c) (h2 : c < 25) (hv : Int32.ofNat (ln q) = v) (k : Jg Θ l M h G T N ρ ce sl n ls (vI v :: st) s o) : Jg Θ l M h G T N ρ ce sl pc ls (vR q :: st) s o := by
  subst hn
  intro r s' ho p e S m args below meth cd H locs lr C hS hR hL
  have k2 := k r s' ho p e S m args below meth cd H locs lr C hS hR hL
  simp only [List.map_cons] at k2 ⊢
  rw [cv_ref hq1 (by omega)]
  have hK := C.2.2.2.2.2.2.2.2.1.1
  have hcell := wsN_at (Θ := Θ) (ρ := ρ) (s := s) hq1 hq2
  rcases (show c = 20 ∨ c = 21 ∨ c = 22 ∨ c = 23 ∨ c = 24 by omega) with e1 | e1 | e1 | e1 | e1 <;> subst e1
  · rw [cell_int hk (by omega) (by omega)] at hcell
    exact va_alen C.1 C.2.1 hK hR.1 (q - 1) 0 hcell ty_at.1 hv hd k2
  · rw [cell_int hk (by omega) (by omega)] at hcell
    exact va_alen C.1 C.2.1 hK hR.1 (q - 1) 1 hcell ty_at.2.1 hv hd k2
  · rw [cell_int hk (by omega) (by omega)] at hcell
    exact va_alen C.1 C.2.1 hK hR.1 (q - 1) 2 hcell ty_at.2.2.1 hv hd k2
  · rw [cell_ref hk (by omega)] at hcell
    exact va_alen C.1 C.2.1 hK hR.1 (q - 1) 3 hcell ty_at.2.2.2.1 hv hd k2
  · rw [cell_ref hk (by omega)] at hcell
    exact va_alen C.1 C.2.1 hK hR.1 (q - 1) 4 hcell ty_at.2.2.2.2 hv hd k2
theorem j_iastore {q : Nat} {i x : Int32} (n : Nat) (hd : decode M.2.1 pc = .ok (.iastore, 1)) (hn : pc + 1 = n) (hq1 : 0 < q) (hq2 : q ≤ N) (hN : N < 900) (hk : kd q = 20) {z : Nat} (hz : ln q = z) (k : inb i z = true → Jg Θ l M h G T N ρ ce sl n ls st (wI s q (ix i) x) o) : Jg Θ l M h G T N ρ ce sl pc ls (vI x :: vI i :: vR q :: st) s (if inb i z = true then o else none) := by
  subst hn; subst hz
  intro r s' ho p e S m args below meth c H locs lr C hS hR hL
  by_cases hb : inb i (ln q) = true
  · rw [if_pos hb] at ho
    simp only [List.map_cons]
    rw [cv_ref hq1 (by omega)]
    have hat := at_int (Θ := Θ) (ρ := ρ) (s := s) hq1 hq2 hk (by omega) (by omega)
    have hD := wsN_D Θ N ρ s
    refine W.iast C.1 C.2.1 (hR.1 (q - 1) _ hat) ((C.2.2.2.2.2.2.2.2.1.1.2 0 _ ty_at.1).1 (ln q) (fun j => .int (s.1 q j))) (fun z => by cases z) (by show ¬ (i < 0 ∨ (arrV _ _ _).slots.size ≤ _); rw [arrV_size]; exact inb_in hb) rfl rfl hd fun H1 e1 z oq => ?_
    have hP1 : va_P Θ.1 vwCl ((wsN Θ N ρ s).set (q - 1) (Θ.2.1 + q, .inl (Θ.2.2.2 20, ln q, .inl (upd (s.1 q) (ix i) x)))) H1 := by
      refine hR.1.set hD hat ?_ oq
      show H1[Θ.2.1 + q]? = some (vp_cell _ _)
      rw [e1]
      exact congrArg some arr_upd
    exact k hb r s' ho p e S m args below meth c H1 _ lr C (hS.put z oq (hD.2 _ _ hat)) (Rel_lift hP1 (set_int hq1 hq2 hk (by omega) (by omega)) z hR.2) hL
  · rw [if_neg hb] at ho
    cases ho
theorem j_bastore {q : Nat} {i x : Int32} (n : Nat) (hd : decode M.2.1 pc = .ok (.bastore, 1)) (hn : pc + 1 = n) (hq1 : 0 < q) (hq2 : q ≤ N) (hN : N < 900) (hk : kd q = 21) {z : Nat} (hz : ln q = z) (k : inb i z = true → Jg Θ l M h G T N ρ ce sl n ls st (wI s q (ix i) x.toInt8.toInt32) o) : Jg Θ l M h G T N ρ ce sl pc ls (vI x :: vI i :: vR q :: st) s (if inb i z = true then o else none) := by
  subst hn; subst hz
  intro r s' ho p e S m args below meth c H locs lr C hS hR hL
  by_cases hb : inb i (ln q) = true
  · rw [if_pos hb] at ho
    simp only [List.map_cons]
    rw [cv_ref hq1 (by omega)]
    have hat := at_int (Θ := Θ) (ρ := ρ) (s := s) hq1 hq2 hk (by omega) (by omega)
    have hD := wsN_D Θ N ρ s
    refine W.bast C.1 C.2.1 (hR.1 (q - 1) _ hat) ((C.2.2.2.2.2.2.2.2.1.1.2 1 _ ty_at.2.1).1 (ln q) (fun j => .int (s.1 q j))) (fun z => by cases z) (by show ¬ (i < 0 ∨ (arrV _ _ _).slots.size ≤ _); rw [arrV_size]; exact inb_in hb) rfl rfl hd fun H1 e1 z oq => ?_
    have hP1 : va_P Θ.1 vwCl ((wsN Θ N ρ s).set (q - 1) (Θ.2.1 + q, .inl (Θ.2.2.2 21, ln q, .inl (upd (s.1 q) (ix i) x.toInt8.toInt32)))) H1 := by
      refine hR.1.set hD hat ?_ oq
      show H1[Θ.2.1 + q]? = some (vp_cell _ _)
      rw [e1]
      exact congrArg some arr_upd
    exact k hb r s' ho p e S m args below meth c H1 _ lr C (hS.put z oq (hD.2 _ _ hat)) (Rel_lift hP1 (set_int hq1 hq2 hk (by omega) (by omega)) z hR.2) hL
  · rw [if_neg hb] at ho
    cases ho
/-- into a row of booleans -/
theorem j_zastore {q : Nat} {i x : Int32} (n : Nat) (hd : decode M.2.1 pc = .ok (.bastore, 1)) (hn : pc + 1 = n) (hq1 : 0 < q) (hq2 : q ≤ N) (hN : N < 900) (hk : kd q = 22) {z : Nat} (hz : ln q = z) (k : inb i z = true → Jg Θ l M h G T N ρ ce sl n ls st (wI s q (ix i) (vp_nar .boolean x)) o) : Jg Θ l M h G T N ρ ce sl pc ls (vI x :: vI i :: vR q :: st) s (if inb i z = true then o else none) := by
  subst hn; subst hz
  intro r s' ho p e S m args below meth c H locs lr C hS hR hL
  by_cases hb : inb i (ln q) = true
  · rw [if_pos hb] at ho
    simp only [List.map_cons]
    rw [cv_ref hq1 (by omega)]
    have hat := at_int (Θ := Θ) (ρ := ρ) (s := s) hq1 hq2 hk (by omega) (by omega)
    have hD := wsN_D Θ N ρ s
    refine W.zast C.1 C.2.1 (hR.1 (q - 1) _ hat) ((C.2.2.2.2.2.2.2.2.1.1.2 2 _ ty_at.2.2.1).1 (ln q) (fun j => .int (s.1 q j))) (fun z => by cases z) (by show ¬ (i < 0 ∨ (arrV _ _ _).slots.size ≤ _); rw [arrV_size]; exact inb_in hb) rfl rfl hd fun H1 e1 z oq => ?_
    have hP1 : va_P Θ.1 vwCl ((wsN Θ N ρ s).set (q - 1) (Θ.2.1 + q, .inl (Θ.2.2.2 22, ln q, .inl (upd (s.1 q) (ix i) (vp_nar .boolean x))))) H1 := by
      refine hR.1.set hD hat ?_ oq
      show H1[Θ.2.1 + q]? = some (vp_cell _ _)
      rw [e1]
      exact congrArg some arr_upd
    exact k hb r s' ho p e S m args below meth c H1 _ lr C (hS.put z oq (hD.2 _ _ hat)) (Rel_lift hP1 (set_int hq1 hq2 hk (by omega) (by omega)) z hR.2) hL
  · rw [if_neg hb] at ho
    cases ho
/-- a row of references -/
theorem j_aaload {q c : Nat} {i : Int32} (n : Nat) (hd : decode M.2.1 pc = .ok (.aaload, 1)) (hn : pc + 1 = n) (hq1 : 0 < q) (hq2 : q ≤ N) (hN : N < 900) (hk : kd q = c) (h1 : c = 23 ∨ c = 24) {z : Nat} (hz : ln q = z) (k : inb i z = true → Jg Θ l M h G T N ρ ce sl n ls (vR (ρ q (ix i)) :: st) s o) : Jg Θ l M h G T N ρ ce sl pc ls (vI i :: vR q :: st) s (if inb i z = true then o else none) := by
  subst hn; subst hz
  intro r s' ho p e S m args below meth cd H locs lr C hS hR hL
  by_cases hb : inb i (ln q) = true
  · rw [if_pos hb] at ho
    simp only [List.map_cons]
    rw [cv_ref hq1 (by omega)]
    have hcell := wsN_at (Θ := Θ) (ρ := ρ) (s := s) hq1 hq2
    rw [cell_ref hk (by omega)] at hcell
    rcases h1 with h1 | h1 <;> subst h1
    · exact va_aldq C.1 C.2.1 C.2.2.2.2.2.2.2.2.1.1 hR.1 (q - 1) 3 hcell ty_at.2.2.2.1 (inb_in hb) hd (k hb r s' ho p e S m args below meth cd H locs lr C hS hR hL)
    · exact va_aldq C.1 C.2.1 C.2.2.2.2.2.2.2.2.1.1 hR.1 (q - 1) 4 hcell ty_at.2.2.2.2 (inb_in hb) hd (k hb r s' ho p e S m args below meth cd H locs lr C hS hR hL)
  · rw [if_neg hb] at ho
    cases ho
/-- the static rows -/
theorem j_getstatic {t i : Nat} (n : Nat) (hd : decode M.2.1 pc = .ok (.getstatic i, 3)) (hn : pc + 3 = n) (ht : t < 4) (hw : Cond.fieldLink M.1.cls i "HeavierSide$Barge" (stN t) "[I" ∈ gtb) (k : Jg Θ l M h G T N ρ ce sl n ls (vR (901 + t) :: st) s o) : Jg Θ l M h G T N ρ ce sl pc ls st s o := by
  subst hn
  intro r s' ho p e S m args below meth c H locs lr C hS hR hL
  have k2 := k r s' ho p e S m args below meth c H locs lr C hS hR hL
  simp only [List.map_cons] at k2
  have e9 : cv Θ (vR (901 + t)) = .ref (Θ.2.2.1 t) := by
    show va_rf (adO Θ (901 + t)) = _
    rw [adO, if_neg (by omega), adr, if_neg (by omega)]
    have : 901 + t - 901 = t := by omega
    rw [this]
    rfl
  rw [e9] at k2
  exact va_gets C.1 C.2.1 (C.2.2.2.2.2.2.2.2.1.2.1 t ht).1 hS C.2.2.2.2.1 (cx_word C hw) (fun _ h9 => h9) hd k2
theorem cv_st {t : Nat} : cv Θ (vR (901 + t)) = .ref (Θ.2.2.1 t) := by
  show va_rf (adO Θ (901 + t)) = _
  rw [adO, if_neg (by omega), adr, if_neg (by omega)]
  have : 901 + t - 901 = t := by omega
  rw [this]
  rfl
theorem j_ialoadS {t : Nat} {i : Int32} (n : Nat) (hd : decode M.2.1 pc = .ok (.iaload, 1)) (hn : pc + 1 = n) (ht : t < 4) (k : inb i 6 = true → Jg Θ l M h G T N ρ ce sl n ls (vI (stc t (ix i)) :: st) s o) : Jg Θ l M h G T N ρ ce sl pc ls (vI i :: vR (901 + t) :: st) s (if inb i 6 = true then o else none) := by
  subst hn
  intro r s' ho p e S m args below meth c H locs lr C hS hR hL
  by_cases hb : inb i 6 = true
  · rw [if_pos hb] at ho
    simp only [List.map_cons]
    rw [cv_st]
    exact va_ti C.1 C.2.1 (C.2.2.2.2.2.2.2.2.1.2.1 t ht).2 hS (inb_in hb) rfl hd (k hb r s' ho p e S m args below meth c H locs lr C hS hR hL)
  · rw [if_neg hb] at ho
    cases ho
theorem j_alenS {t : Nat} (n : Nat) (hd : decode M.2.1 pc = .ok (.arraylength, 1)) (hn : pc + 1 = n) (ht : t < 4) (k : Jg Θ l M h G T N ρ ce sl n ls (vI 6 :: st) s o) : Jg Θ l M h G T N ρ ce sl pc ls (vR (901 + t) :: st) s o := by
  subst hn
  intro r s' ho p e S m args below meth c H locs lr C hS hR hL
  simp only [List.map_cons]
  rw [cv_st]
  exact va_tlen C.1 C.2.1 (C.2.2.2.2.2.2.2.2.1.2.1 t ht).2 hS (v := 6) rfl hd (k r s' ho p e S m args below meth c H locs lr C hS hR hL)
end JA
end
section
theorem lw_good : ∀ w ∈ gtb, goodWord w = true := fun w h => (List.mem_filter.mp h).2
theorem nw_is {w : Cond} (h : w ∈ nwL) : ∃ a i x b, w = Cond.methodLinkNest a i x b := by
  have h1 := (List.mem_filter.mp h).2
  cases w <;> first | (exact ⟨_, _, _, _, rfl⟩) | (simp [isNst] at h1)
theorem good_sub {M : Mi} {ws : List Cond} (h : ∀ w ∈ ws, w ∈ gtb) : GoodIn (wsOf M) ws := fun w hw => ⟨List.mem_cons_of_mem _ (h w hw), good_of_word (lw_good w (h w hw))⟩
def gI : Int32 → Option AV := fun x => some (vI x)
def gL : Int64 → Option AV := fun x => some (vL x)
def gR : Nat → Option AV := fun q => some (vR q)
def gU : Unit → Option AV := fun _ => none
def catS : List AV → Nat
  | [] => 0
  | v :: t => (if isLg v then 2 else 1) + catS t
theorem catS_eq (Θ : Th) : ∀ st : List AV, ((st.map (cv Θ)).map fun v => v.category).sum = catS st
  | [] => rfl
  | v :: t => by
    simp only [List.map_cons, List.sum_cons, catS]
    rw [cv_cat]
    exact congrArg _ (catS_eq Θ t)
-- the entry
def enL : List AV → List (Option AV)
  | [] => []
  | v :: t => if isLg v then some v :: none :: enL t else some v :: enL t
theorem enL_at (Θ : Th) : ∀ (as : List AV) (off i : Nat) (v : AV), (enL as)[i]? = some (some v) → (off + i, cv Θ v) ∈ lv_args off (as.map (cv Θ))
  | [], off, i, v, h => by simp [enL] at h
  | w :: t, off, i, v, h => by
    simp only [List.map_cons, lv_args]
    rw [cv_cat]
    cases hw : isLg w with
    | true =>
      simp only [enL, hw, if_true] at h
      match i, h with
      | 0, h =>
        simp only [List.getElem?_cons_zero, Option.some.injEq] at h
        subst h
        exact List.mem_cons_self
      | 1, h => simp at h
      | j + 2, h =>
        simp only [List.getElem?_cons_succ] at h
        have h2 := enL_at Θ t (off + 2) j v h
        refine List.mem_cons_of_mem _ ?_
        simp only [if_true]
        have e : off + (j + 2) = off + 2 + j := by omega
        rw [e]
        exact h2
    | false =>
      simp only [enL, hw] at h
      match i, h with
      | 0, h =>
        simp at h
        subst h
        exact List.mem_cons_self
      | j + 1, h =>
        simp at h
        have h2 := enL_at Θ t (off + 1) j v h
        refine List.mem_cons_of_mem _ ?_
        have e : off + (j + 1) = off + 1 + j := by omega
        rw [e]
        simpa using h2
theorem enL_len (Θ : Th) : ∀ as : List AV, (lg_sl (as.map (cv Θ))).length = (enL as).length
  | [] => rfl
  | v :: t => by
    have ih := enL_len Θ t
    simp only [lg_sl, List.map_cons, List.flatMap_cons, List.length_append] at ih ⊢
    rw [ih, cv_cat]
    cases hv : isLg v <;> simp [enL, hv] <;> omega
theorem Frz_moved {Θ : Th} {S U : State} {H : Heap} {locs : List Loc} (hF : Frz Θ S) (hS : va_S (Ar Θ) S.heap H locs) (hU : U.heap = H) (hW : S.WarmedH U.vm) : Frz Θ U := by
  refine ⟨hF.1.moved hW.alike, fun k hk => ⟨?_, ?_⟩, fun w hw => ?_, hF.2.2.2.1.moved hW.alike, hF.2.2.2.2.moved hW.alike⟩
  · rw [hU]
    exact ((hF.2.1 k hk).1.kept (fun a ha hna => hS.2.1 a ha hna)).moved hW.alike
  · rw [hU]
    exact ((hF.2.1 k hk).2.kept (fun a ha hna => hS.2.1 a ha hna)).moved hW.alike
  · have h1 := hF.2.2.1 w hw
    obtain ⟨a, i, x, b, rfl⟩ := nw_is hw
    exact va_Nw.warmM hW h1
theorem Pq_blind {Θ : Th} {N : Nat} {ρ : Rf} {as : List AV} {s : Mem} : FrameBlind (Pq Θ N ρ as s) := by
  intro a U g mk ⟨h1, h2, h3, h4⟩
  refine ⟨h1, ⟨va_K.moved (u := U) (U := U.calling g mk a) (Vm.Alike.refl U.vm) h2.1, fun k hk => ⟨va_Z.moved (u := U) (U := U.calling g mk a) (Vm.Alike.refl U.vm) (h2.2.1 k hk).1, va_T.moved (u := U) (U := U.calling g mk a) (Vm.Alike.refl U.vm) (h2.2.1 k hk).2⟩, fun w hw => ?_, va_AO.moved (u := U) (U := U.calling g mk a) (Vm.Alike.refl U.vm) h2.2.2.2.1, va_AO.moved (u := U) (U := U.calling g mk a) (Vm.Alike.refl U.vm) h2.2.2.2.2⟩, h3, h4⟩
  have h5 := h2.2.2.1 w hw
  obtain ⟨a1, i, x, b, rfl⟩ := nw_is hw
  exact va_Nw.same rfl (rfl : U.vm = (U.calling g mk a).vm) h5
theorem Pq_at {Θ : Th} {N : Nat} {ρ : Rf} {as : List AV} {s : Mem} {S U : State} {H : Heap} {locs : List Loc} (hF : Frz Θ S) (hB : Θ.2.1 + 1 ≤ S.heap.size) (hS : va_S (Ar Θ) S.heap H locs) (hR : Rel Θ N ρ s H) (hU : U.heap = H) (hW : S.WarmedH U.vm) : Pq Θ N ρ as s (as.map (cv Θ)).toArray U :=
  ⟨rfl, Frz_moved hF hS hU hW, by rw [hU]; exact hR, by rw [hU]; exact Nat.le_trans hB hS.1⟩
section JC
variable {α β : Type} {Θ : Th} {l : Launch} {M M2 : Mi} {h h2 : Nat} {G : α → Option AV} {G2 : β → Option AV} {T T2 : Tg} {N : Nat} {ρ : Rf} {ce sl pc : Nat} {ls : List (Option AV)} {st : List AV} {s : Mem} {o : Option (α × Mem)} {o2 : Option (β × Mem)} {g : β → Mem → Option (α × Mem)}
/-- a contract out of the judgement at the method's entry -/
theorem ct_of {as : List AV} (hy : plainName M.1.cls = true) (ls : List (Option AV)) (hls : enL as ++ List.replicate (M.2.2.1 - (enL as).length) none = ls) (hlen : (enL as).length ≤ M.2.2.1) (k : Jg Θ l M h G T N ρ 0 0 0 ls [] s o) : Ct Θ l M h G T N ρ as s o := by
  intro r s' ho
  refine Met.ofW (cc := M.2.1) (maxL := M.2.2.1) (ret := M.2.2.2) hy rfl ?_
  intro p e S m args below meth c s₁ B hml hv
  obtain ⟨rfl, hF, hR, hB⟩ := hv
  have hl := lv_entry (as.map (cv Θ)) (n := M.2.2.1) (by rw [enL_len]; exact hlen)
  rw [lg_entry_eq]
  refine k r s' ho p e S m _ below meth c S.heap [] _ ⟨B.exec, B.bytes, B.returns, hml, findClass_of_methodNamed B.named, atoms_spec (ws := wsOf M) B.pre, B.notSynchronized, (name_of_methodNamed B.named B.method).1, hF, hB⟩ va_S.rf hR (lr_has_sub hl ?_)
  intro q hq
  obtain ⟨v, h1, h2⟩ := prs_of hq
  rw [← hls] at h1
  have h3 : (enL as)[q.1]? = some (some v) := by
    by_cases hl2 : q.1 < (enL as).length
    · rwa [List.getElem?_append_left hl2] at h1
    · rw [List.getElem?_append_right (by omega)] at h1
      rw [List.getElem?_replicate] at h1
      split at h1 <;> simp at h1
  have h4 := enL_at Θ as 0 q.1 v h3
  obtain ⟨a, b⟩ := q
  simp only [Nat.zero_add] at h4 h2
  rw [h2]
  exact h4
theorem call_core {p : Program} {e : Env} {R : Room} {S : State} {m : MethodId} {args arr : Array Value} {below : List Frame} {meth : Method} {c : Code} {H : Heap} {locs : List Loc} {mc ms : Nat} {lr : Array Slot} {stk rest : List Value} {Q : State → Prop} {r2 : β} {s2 : Mem}
    (hr : va_Run p l e R S m args below meth c H locs ce sl mc ms (F0 m pc lr stk) rest (Qo Θ G2 T2 r2 s2 arr) (Ar Θ)) (hS : va_S (Ar Θ) S.heap H locs)
    (kk : ∀ (H1 : Heap) (locs1 : List Loc), va_S (Ar Θ) S.heap H1 locs1 → Rel Θ T2.1 T2.2.1 s2 H1 → W p l e R S m args below meth c H1 locs1 (ce + mc) (sl + ms) Q (F0 m (pc + 3) lr (((G2 r2).map (cv Θ)).toList ++ rest))) : W p l e R S m args below meth c H locs ce sl Q (F0 m pc lr stk) := by
  intro X0 hT X
  obtain ⟨v, st₀, t, T', L, h0, X', hL, e1, e2, ⟨hv, hRel, hz, hk⟩, st⟩ := hr X0 hT X
  cases hv
  rw [h0] at hz hk
  obtain ⟨t2, a1, b1⟩ := kk T'.heap (locs ++ L) ⟨Nat.le_trans hS.1 (by rw [e1]; exact hz), fun q g1 g2 => by rw [e1, hk q (Nat.lt_of_lt_of_le g1 hS.1) g2]; exact hS.2.1 q g1 g2, fun q hq => by
      rcases List.mem_append.mp hq with z | z
      · exact hS.2.2 q z
      · exact hL q z⟩ (by rw [e1]; exact hRel) T' rfl X'
  exact ⟨t2, st t2 a1, b1⟩
def MkD (M2 : Mi) (n : Nat) : Prop := Cond.initialized M2.1.cls ∈ gtb ∧ Cond.code M2.1 M2.2.1 M2.2.2.1 M2.2.2.2 ∈ gtb ∧ M2.1.cls ≠ "java/lang/invoke/MethodHandle" ∧ M2.1.cls ≠ "java/lang/invoke/VarHandle" ∧ (parseMethodDescriptor M2.1.desc).map (fun d => d.parameters.length) = some n
def MkV (M2 : Mi) (n : Nat) : Prop := MkD M2 n ∧ Cond.instanceMethod M2.1 ∈ gtb ∧ Cond.selects M2.1.cls M2.1 M2.1 ∈ gtb
def MkS (M2 : Mi) (n : Nat) : Prop := MkD M2 n ∧ Cond.static M2.1 ∈ gtb
def MkI (M2 : Mi) (n : Nat) : Prop := MkD M2 n ∧ Cond.instanceMethod M2.1 ∈ gtb ∧ M2.1.name = "<init>" ∧ M2.2.2.2 = none
theorem ws_sub {M2 : Mi} {n : Nat} (hM : MkD M2 n) : ∀ w ∈ wsOf M2, w ∈ gtb := fun w hw => (List.mem_cons.mp hw).elim (fun e => e ▸ hM.2.1) id
/-- invokevirtual of a method of the class itself -/
theorem j_callV {q c i : Nat} {Tb : u_T} {ty : Nat → FieldType} {stk : List AV} (as : List AV) (n : Nat) (hC : Cls c M2.1.cls Tb ty) (hM : MkV M2 as.length) (hw : Cond.methodLink M.1.cls i M2.1 ∈ gtb) (hd : decode M.2.1 pc = .ok (.invokevirtual i, 3)) (hn : pc + 3 = n) (hst : stk = as.reverse ++ vR q :: st) (hq1 : 0 < q) (hq2 : q ≤ N) (hN : N < 900) (hk : kd q = c) (hct : Ct Θ l M2 h2 G2 T2 N ρ (vR q :: as) s o2)
    (hh : h2 + 1 ≤ h) (hL9 : M2.2.2.1 ≤ 60) (hcat : catS st ≤ 8) (hf1 : ce + T2.2.2.1 ≤ T.2.2.1) (hf2 : sl + T2.2.2.2 ≤ T.2.2.2)
    (k : ∀ (r : β) (s1 : Mem), Jg Θ l M h G T T2.1 T2.2.1 (ce + T2.2.2.1) (sl + T2.2.2.2) n ls ((G2 r).toList ++ st) s1 (g r s1)) : Jg Θ l M h G T N ρ ce sl pc ls stk s (bnd o2 g) := by
  subst hn; subst hst
  intro r s' ho p e S m args below meth cd H locs lr C hS hR hL
  cases ho2 : o2 with
  | none => rw [ho2] at ho; cases ho
  | some x =>
    obtain ⟨r2, s2⟩ := x
    rw [ho2, bnd_some] at ho
    have hMet := hct r2 s2 ho2
    obtain ⟨hc1, hcl, hin, hty, hnm⟩ := hC
    have hcell := wsN_at (Θ := Θ) (ρ := ρ) (s := s) hq1 hq2
    rw [cell_obj hk (by omega)] at hcell
    have hK := C.2.2.2.2.2.2.2.2.1.1
    have e1 : (as.reverse ++ vR q :: st).map (cv Θ) = (as.map (cv Θ)).reverse ++ .ref (Θ.2.1 + q) :: st.map (cv Θ) := by
      rw [List.map_append, List.map_reverse, List.map_cons, cv_ref hq1 (by omega)]
    rw [e1]
    have hpre : PreV S H M2.1.cls (Θ.2.1 + q) (Pq Θ N ρ (vR q :: as) s) (as.map (cv Θ)) := by
      refine ⟨Pq_blind, va_recv hK hR.1 hcl hcell, fun U hU hW => ?_⟩
      have z := Pq_at (as := vR q :: as) C.2.2.2.2.2.2.2.2.1 C.2.2.2.2.2.2.2.2.2 hS hR hU hW
      rw [List.map_cons, cv_ref hq1 (by omega)] at z
      exact z
    have hcw : CallW (rmH h T.2.2.1 T.2.2.2) S args M.1.cls M2.1.cls i M2.1 M2.2.1 M2.2.2.1 M2.2.2.2 (wsOf M2) (rmH h2 T2.2.2.1 T2.2.2.2) T2.2.2.1 T2.2.2.2 as.length := by
      refine cwV as.length (Ts := wsOf M) C.2.2.2.2.2.1 ?_ rfl rfl rfl ⟨rfl, hM.1.2.2⟩ ⟨hh, ?_⟩
      · refine good_sub (fun w hw2 => ?_)
        unfold wsV at hw2
        rcases List.mem_append.mp hw2 with z | z
        · simp only [List.mem_cons, List.not_mem_nil, or_false] at z
          rcases z with rfl | rfl | rfl | rfl
          · exact hw
          · exact hM.2.1
          · exact hM.2.2
          · exact hM.1.1
        · exact ws_sub hM.1 w z
      · show 8 + (M2.2.2.1 + 11) + 100 * h2 ≤ 100 * h
        omega
    refine call_core (va_runV (g := F0 m pc lr _) ⟨C.1, C.2.1, C.2.2.2.1, C.2.2.2.2.1, C.2.2.2.2.2.1⟩ hMet hcw hpre rfl (by rw [List.length_map]) hL.1 rfl (lv_room (by rw [catS_eq]; exact hcat)) hd ⟨hf1, hf2⟩) hS (fun H1 locs1 hS1 hR1 => ?_)
    have k2 := k r2 s2 r s' ho p e S m args below meth cd H1 locs1 lr C hS1 hR1 hL
    rw [List.map_append] at k2
    have e2 : (G2 r2).toList.map (cv Θ) = ((G2 r2).map (cv Θ)).toList := by cases G2 r2 <;> rfl
    rw [e2] at k2
    exact k2
/-- invokestatic, within a class or of a nest mate -/
theorem j_callS {i : Nat} {stk : List AV} (as : List AV) (n : Nat) (hM : MkS M2 as.length) (hw : Cond.methodLink M.1.cls i M2.1 ∈ gtb ∨ ∃ host, Cond.methodLinkNest M.1.cls i M2.1 host ∈ nwL) (hd : decode M.2.1 pc = .ok (.invokestatic i, 3)) (hn : pc + 3 = n) (hst : stk = as.reverse ++ st) (hct : Ct Θ l M2 h2 G2 T2 N ρ as s o2)
    (hh : h2 + 1 ≤ h) (hL9 : M2.2.2.1 ≤ 60) (hcat : catS st ≤ 8) (hf1 : ce + T2.2.2.1 ≤ T.2.2.1) (hf2 : sl + T2.2.2.2 ≤ T.2.2.2)
    (k : ∀ (r : β) (s1 : Mem), Jg Θ l M h G T T2.1 T2.2.1 (ce + T2.2.2.1) (sl + T2.2.2.2) n ls ((G2 r).toList ++ st) s1 (g r s1)) : Jg Θ l M h G T N ρ ce sl pc ls stk s (bnd o2 g) := by
  subst hn; subst hst
  intro r s' ho p e S m args below meth cd H locs lr C hS hR hL
  cases ho2 : o2 with
  | none => rw [ho2] at ho; cases ho
  | some x =>
    obtain ⟨r2, s2⟩ := x
    rw [ho2, bnd_some] at ho
    have hMet := hct r2 s2 ho2
    have e1 : (as.reverse ++ st).map (cv Θ) = (as.map (cv Θ)).reverse ++ st.map (cv Θ) := by
      rw [List.map_append, List.map_reverse]
    rw [e1]
    have hpre : PreS S H (Pq Θ N ρ as s) (as.map (cv Θ)) := ⟨Pq_blind, fun U hU hW => Pq_at C.2.2.2.2.2.2.2.2.1 C.2.2.2.2.2.2.2.2.2 hS hR hU hW⟩
    have hroom : (rmH h2 T2.2.2.1 T2.2.2.2).frames + 1 ≤ (rmH h T.2.2.1 T.2.2.2).frames ∧ 8 + (M2.2.2.1 + 11) + (rmH h2 T2.2.2.1 T2.2.2.2).locals ≤ (rmH h T.2.2.1 T.2.2.2).locals := by
      refine ⟨hh, ?_⟩
      show 8 + (M2.2.2.1 + 11) + 100 * h2 ≤ 100 * h
      omega
    have kk : ∀ (H1 : Heap) (locs1 : List Loc), va_S (Ar Θ) S.heap H1 locs1 → Rel Θ T2.1 T2.2.1 s2 H1 → W p l e (rmH h T.2.2.1 T.2.2.2) S m args below meth cd H1 locs1 (ce + T2.2.2.1) (sl + T2.2.2.2) (MQ below (Qo Θ G T r s') args S T.2.2.1 T.2.2.2 (Ar Θ)) (F0 m (pc + 3) lr (((G2 r2).map (cv Θ)).toList ++ st.map (cv Θ))) := by
      intro H1 locs1 hS1 hR1
      have k2 := k r2 s2 r s' ho p e S m args below meth cd H1 locs1 lr C hS1 hR1 hL
      rw [List.map_append] at k2
      have e2 : (G2 r2).toList.map (cv Θ) = ((G2 r2).map (cv Θ)).toList := by cases G2 r2 <;> rfl
      rw [e2] at k2
      exact k2
    have hgood : GoodIn (wsOf M) (wsOf M2) := good_sub (ws_sub hM.1)
    rcases hw with hw | ⟨host, hw⟩
    · have hcw : CallB (rmH h T.2.2.1 T.2.2.2) S args M.1.cls i M2.1 M2.2.1 M2.2.2.1 M2.2.2.2 (wsOf M2) (rmH h2 T2.2.2.1 T2.2.2.2) T2.2.2.1 T2.2.2.2 as.length ∧ (Cond.static M2.1).before args S = true :=
        ⟨callB_of as.length C.2.2.2.2.2.1 hgood rfl rfl rfl (cx_word C hM.1.1) (cx_word C hw) hM.1.2.2 hroom, cx_word C hM.2⟩
      exact call_core (va_runS (g := F0 m pc lr _) ⟨C.1, C.2.1, C.2.2.2.1, C.2.2.2.2.1, C.2.2.2.2.2.1⟩ hMet hcw hpre rfl (by rw [List.length_map]) hL.1 rfl (lv_room (by rw [catS_eq]; exact hcat)) hd ⟨hf1, hf2⟩) hS kk
    · have hcw : va_CN (rmH h T.2.2.1 T.2.2.2) S args M.1.cls i M2.1 host M2.2.1 M2.2.2.1 M2.2.2.2 (wsOf M2) (rmH h2 T2.2.2.1 T2.2.2.2) T2.2.2.1 T2.2.2.2 as.length ∧ (Cond.static M2.1).before args S = true ∧ True :=
        ⟨va_cnB as.length C.2.2.2.2.2.1 hgood rfl rfl rfl (C.2.2.2.2.2.2.2.2.1.2.2.1 _ hw) (cx_word C hM.1.1) hM.1.2.2 hroom, cx_word C hM.2, trivial⟩
      exact call_core (va_runSN (g := F0 m pc lr _) ⟨C.1, C.2.1, C.2.2.2.1, C.2.2.2.2.1, C.2.2.2.2.2.1⟩ hMet hcw hpre rfl (by rw [List.length_map]) hL.1 rfl (lv_room (by rw [catS_eq]; exact hcat)) hd ⟨hf1, hf2⟩) hS kk
end JC
end
section
section JE
variable {α β : Type} {Θ : Th} {l : Launch} {M M2 : Mi} {h h2 : Nat} {G : α → Option AV} {G2 : β → Option AV} {T T2 : Tg} {N : Nat} {ρ : Rf} {ce sl pc : Nat} {ls : List (Option AV)} {st : List AV} {s : Mem} {o : Option (α × Mem)} {o2 : Option (β × Mem)} {g : β → Mem → Option (α × Mem)}
-- returns
theorem end_ok {p : Program} {S : State} {m : MethodId} {args : Array Value} {meth : Method} {c : Code} {H : Heap} {locs : List Loc} {r : α} (hS : va_S (Ar Θ) S.heap H locs) (hR : Rel Θ N ρ s H) (hT1 : T.1 = N) (hT2 : T.2.1 = ρ) {ov : Option Value} (hov : (G r).map (cv Θ) = ov) (t : State) (ht : t.heap = H) : Qo Θ G T r s args S (.returned ov) t := by
  subst hT1; subst hT2; subst hov
  exact ⟨rfl, by rw [ht]; exact hR, hS.F ht⟩
theorem j_iret {x : Int32} (hd : decode M.2.1 pc = .ok (.ireturn, 1)) (hr : M.2.2.2 = some .int) (hT1 : T.1 = N) (hT2 : T.2.1 = ρ) (hc : ce ≤ T.2.2.1) (hs : sl ≤ T.2.2.2) : Jg Θ l M h gI T N ρ ce sl pc ls [vI x] s (some (x, s)) := by
  intro r s' ho p e S m args below meth c H locs lr C hS hR hL
  cases ho
  refine W.widen hc hs ?_
  have hlocks := C.2.2.2.2.2.2.1
  exact W.iret (v := x) C.1 C.2.1 (C.2.2.1.trans hr) (fun t ht hW => end_ok (p := p) (m := m) (meth := meth) (c := c) hS hR hT1 hT2 rfl t ht) hS.2.2 hd
/-- a boolean: 0 or 1 -/
theorem j_zret {x : Int32} (hd : decode M.2.1 pc = .ok (.ireturn, 1)) (hr : M.2.2.2 = some .boolean) (hx : x = 0 ∨ x = 1) (hT1 : T.1 = N) (hT2 : T.2.1 = ρ) (hc : ce ≤ T.2.2.1) (hs : sl ≤ T.2.2.2) : Jg Θ l M h gI T N ρ ce sl pc ls [vI x] s (some (x, s)) := by
  intro r s' ho p e S m args below meth c H locs lr C hS hR hL
  cases ho
  refine W.widen hc hs ?_
  have hlocks := C.2.2.2.2.2.2.1
  have hn : narrow .boolean (.int x) = .int x := by rcases hx with rfl | rfl <;> rfl
  exact W.zret (v := x) C.1 C.2.1 (C.2.2.1.trans hr) hn (fun t ht hW => end_ok (p := p) (m := m) (meth := meth) (c := c) hS hR hT1 hT2 rfl t ht) hS.2.2 hd
/-- a boolean that was reckoned -/
theorem j_zretG {x : Int32} (hd : decode M.2.1 pc = .ok (.ireturn, 1)) (hr : M.2.2.2 = some .boolean) (hT1 : T.1 = N) (hT2 : T.2.1 = ρ) (hc : ce ≤ T.2.2.1) (hs : sl ≤ T.2.2.2) : Jg Θ l M h gI T N ρ ce sl pc ls [vI x] s (if x = 0 ∨ x = 1 then some (x, s) else none) := by
  by_cases hx : x = 0 ∨ x = 1
  · rw [if_pos hx]
    exact j_zret hd hr hx hT1 hT2 hc hs
  · rw [if_neg hx]
    exact j_none
theorem j_lret {x : Int64} (hd : decode M.2.1 pc = .ok (.lreturn, 1)) (hr : M.2.2.2 = some .long) (hT1 : T.1 = N) (hT2 : T.2.1 = ρ) (hc : ce ≤ T.2.2.1) (hs : sl ≤ T.2.2.2) : Jg Θ l M h gL T N ρ ce sl pc ls [vL x] s (some (x, s)) := by
  intro r s' ho p e S m args below meth c H locs lr C hS hR hL
  cases ho
  refine W.widen hc hs ?_
  have hlocks := C.2.2.2.2.2.2.1
  exact W.lret (v := x) C.1 C.2.1 (C.2.2.1.trans hr) (fun t ht hW => end_ok (p := p) (m := m) (meth := meth) (c := c) hS hR hT1 hT2 rfl t ht) hS.2.2 hd
theorem j_aret {q : Nat} {rt : FieldType} (hd : decode M.2.1 pc = .ok (.areturn, 1)) (hr : M.2.2.2 = some rt) (hrt : (∃ n, rt = .object n) ∨ ∃ t, rt = .array t) (hT1 : T.1 = N) (hT2 : T.2.1 = ρ) (hc : ce ≤ T.2.2.1) (hs : sl ≤ T.2.2.2) : Jg Θ l M h gR T N ρ ce sl pc ls [vR q] s (some (q, s)) := by
  intro r s' ho p e S m args below meth c H locs lr C hS hR hL
  cases ho
  refine W.widen hc hs ?_
  have hlocks := C.2.2.2.2.2.2.1
  have hv : cv Θ (vR q) = .null ∨ ∃ a, cv Θ (vR q) = .ref a := by
    show va_rf (adO Θ q) = .null ∨ ∃ a, va_rf (adO Θ q) = .ref a
    cases adO Θ q with
    | none => exact Or.inl rfl
    | some a => exact Or.inr ⟨a, rfl⟩
  exact W.aret (v := cv Θ (vR q)) C.1 C.2.1 (C.2.2.1.trans hr) hrt hv (fun t ht hW => end_ok (p := p) (m := m) (meth := meth) (c := c) hS hR hT1 hT2 rfl t ht) hS.2.2 hd
theorem j_ret (hd : decode M.2.1 pc = .ok (.return_, 1)) (hr : M.2.2.2 = none) (hT1 : T.1 = N) (hT2 : T.2.1 = ρ) (hc : ce ≤ T.2.2.1) (hs : sl ≤ T.2.2.2) : Jg Θ l M h gU T N ρ ce sl pc ls [] s (some ((), s)) := by
  intro r s' ho p e S m args below meth c H locs lr C hS hR hL
  cases ho
  refine W.widen hc hs ?_
  have hlocks := C.2.2.2.2.2.2.1
  exact W.vret C.1 C.2.1 (C.2.2.1.trans hr) (fun t ht hW => end_ok (p := p) (m := m) (meth := meth) (c := c) hS hR hT1 hT2 rfl t ht) hS.2.2 hd
-- System.arraycopy between rows of ints
theorem j_copy {q0 q1 i : Nat} {sp dp z : Int32} (n : Nat) (hd : decode M.2.1 pc = .ok (.invokestatic i, 3)) (hn : pc + 3 = n) (hw1 : Cond.methodLink M.1.cls i arraycopyName ∈ gtb) (hw2 : Cond.native arraycopyName ∈ gtb) (hw3 : Cond.static arraycopyName ∈ gtb) (hw4 : Cond.initialized "java/lang/System" ∈ gtb)
    (ha1 : 0 < q0) (ha2 : q0 ≤ N) (hb1 : 0 < q1) (hb2 : q1 ≤ N) (hN : N < 900) (hNN : NNc ≤ N) (hka : kd q0 = 20) (hkb : kd q1 = 20) {n0 n1 : Nat} (hl0 : ln q0 = n0) (hl1 : ln q1 = n1) (hh : 1 ≤ h) (hcat : catS st ≤ 8)
    (k : Jg Θ l M h G T N ρ ce sl n ls st (wF s q1 (va_cpy (s.1 q0) (s.1 q1) (ix sp) (ix dp) (ix z))) o) : Jg Θ l M h G T N ρ ce sl pc ls (vI z :: vI dp :: vR q1 :: vI sp :: vR q0 :: st) s (if ¬ sp < 0 ∧ ¬ dp < 0 ∧ ¬ z < 0 ∧ ix sp + ix z ≤ n0 ∧ ix dp + ix z ≤ n1 then o else none) := by
  subst hn; subst hl0; subst hl1
  intro r s' ho p e S m args below meth c H locs lr C hS hR hL
  by_cases hb : ¬ sp < 0 ∧ ¬ dp < 0 ∧ ¬ z < 0 ∧ ix sp + ix z ≤ ln q0 ∧ ix dp + ix z ≤ ln q1
  · rw [if_pos hb] at ho
    obtain ⟨c1, c2, c3, c4, c5⟩ := hb
    simp only [List.map_cons]
    rw [cv_ref ha1 (by omega), cv_ref hb1 (by omega)]
    have hat0 := at_int (Θ := Θ) (ρ := ρ) (s := s) ha1 ha2 hka (by omega) (by omega)
    have hat1 := at_int (Θ := Θ) (ρ := ρ) (s := s) hb1 hb2 hkb (by omega) (by omega)
    refine va_copyi C.1 C.2.1 (C.2.2.2.1.trans hL.1.symm) C.2.2.2.2.1 (cx_word C hw1) (cx_word C hw2) (cx_word C hw3) (cx_word C hw4) C.2.2.2.2.2.2.2.2.1.1 hR.1 (wsN_D Θ N ρ s) hS (q0 - 1) (q1 - 1) 0 0 hat0 hat1 ty_at.1 ty_at.1 rfl c1 c2 c3 c4 c5 (fun _ _ => rfl) hh ?_ hd (fun H1 locs1 hP1 hD1 hS1 => ?_)
    · rw [catS_eq]
      have e5 : nativeFrameWords "java/lang/System" "arraycopy" 5 = 7 := by decide +kernel
      rw [e5]
      show catS st + (7 + 11) ≤ 100 * h
      omega
    · refine k r s' ho p e S m args below meth c H1 locs1 lr C hS1 ⟨?_, fun hlt => absurd hNN (by omega)⟩ hL
      have e6 : (wsN Θ N ρ s).set (q1 - 1) (Θ.2.1 + q1, .inl (Θ.2.2.2 20, ln q1, .inl (va_cpy (s.1 q0) (s.1 q1) (ix sp) (ix dp) (ix z)))) = wsN Θ N ρ (wF s q1 (va_cpy (s.1 q0) (s.1 q1) (ix sp) (ix dp) (ix z))) := by
        refine wsN_set hb1 hb2 ?_ (fun a ha => cell_congr (wF_ne ha) rfl rfl)
        rw [cell_int hkb (by omega) (by omega)]
        simp [wF]
      rw [← e6]
      exact hP1
  · rw [if_neg hb] at ho
    cases ho
-- Object.<init>
theorem j_objInit {q i : Nat} (n : Nat) (hd : decode M.2.1 pc = .ok (.invokespecial i, 3)) (hn : pc + 3 = n) (hw1 : Cond.methodLink M.1.cls i objectInit ∈ gtb) (hw2 : Cond.instanceMethod objectInit ∈ gtb) (hw3 : Cond.code objectInit ⟨#[0xb1]⟩ 1 none ∈ gtb) (hq1 : 0 < q) (hq2 : q < 900) (hh : 1 ≤ h) (hcat : catS st ≤ 8) (k : Jg Θ l M h G T N ρ ce sl n ls st s o) : Jg Θ l M h G T N ρ ce sl pc ls (vR q :: st) s o := by
  subst hn
  intro r s' ho p e S m args below meth c H locs lr C hS hR hL
  simp only [List.map_cons]
  rw [cv_ref hq1 hq2]
  refine W.objInit C.1 C.2.1 C.2.2.2.2.1 (cx_word C hw1) (cx_word C hw2) (cx_word C hw3) rfl (hL.1.trans C.2.2.2.1.symm) rfl hd hh ?_ (W.eq rfl (k r s' ho p e S m args below meth c H locs lr C hS hR hL))
  show 2 * 0 + ((st.map (cv Θ)).map fun v => v.category).sum + 12 ≤ 100 * h
  rw [catS_eq]
  omega
-- invokespecial of a constructor
theorem j_callI {q i : Nat} {stk : List AV} (as : List AV) (n : Nat) (hM : MkI M2 as.length) (hw : Cond.methodLink M.1.cls i M2.1 ∈ gtb ∨ ∃ host, Cond.methodLinkNest M.1.cls i M2.1 host ∈ nwL) (hd : decode M.2.1 pc = .ok (.invokespecial i, 3)) (hn : pc + 3 = n) (hst : stk = as.reverse ++ vR q :: st) (hq1 : 0 < q) (hq2 : q < 900) {s2 : Mem} (hct : Ct Θ l M2 h2 gU T2 N ρ (vR q :: as) s (some ((), s2)))
    (hh : h2 + 1 ≤ h) (hL9 : M2.2.2.1 ≤ 60) (hcat : catS st ≤ 8) (hf1 : ce + T2.2.2.1 ≤ T.2.2.1) (hf2 : sl + T2.2.2.2 ≤ T.2.2.2)
    (k : Jg Θ l M h G T T2.1 T2.2.1 (ce + T2.2.2.1) (sl + T2.2.2.2) n ls st s2 o) : Jg Θ l M h G T N ρ ce sl pc ls stk s o := by
  subst hn; subst hst
  intro r s' ho p e S m args below meth cd H locs lr C hS hR hL
  have hMet := hct () s2 rfl
  have e1 : (as.reverse ++ vR q :: st).map (cv Θ) = (as.map (cv Θ)).reverse ++ .ref (Θ.2.1 + q) :: st.map (cv Θ) := by
    rw [List.map_append, List.map_reverse, List.map_cons, cv_ref hq1 hq2]
  rw [e1]
  have hpre : PreS S H (Pq Θ N ρ (vR q :: as) s) (.ref (Θ.2.1 + q) :: as.map (cv Θ)) := by
    refine ⟨Pq_blind, fun U hU hW => ?_⟩
    have z := Pq_at (as := vR q :: as) C.2.2.2.2.2.2.2.2.1 C.2.2.2.2.2.2.2.2.2 hS hR hU hW
    rw [List.map_cons, cv_ref hq1 hq2] at z
    exact z
  have hroom : (rmH h2 T2.2.2.1 T2.2.2.2).frames + 1 ≤ (rmH h T.2.2.1 T.2.2.2).frames ∧ 8 + (M2.2.2.1 + 11) + (rmH h2 T2.2.2.1 T2.2.2.2).locals ≤ (rmH h T.2.2.1 T.2.2.2).locals := by
    refine ⟨hh, ?_⟩
    show 8 + (M2.2.2.1 + 11) + 100 * h2 ≤ 100 * h
    omega
  have kk : ∀ (H1 : Heap) (locs1 : List Loc), va_S (Ar Θ) S.heap H1 locs1 → Rel Θ T2.1 T2.2.1 s2 H1 → W p l e (rmH h T.2.2.1 T.2.2.2) S m args below meth cd H1 locs1 (ce + T2.2.2.1) (sl + T2.2.2.2) (MQ below (Qo Θ G T r s') args S T.2.2.1 T.2.2.2 (Ar Θ)) (F0 m (pc + 3) lr (((gU ()).map (cv Θ)).toList ++ st.map (cv Θ))) := by
    intro H1 locs1 hS1 hR1
    exact k r s' ho p e S m args below meth cd H1 locs1 lr C hS1 hR1 hL
  have hgood : GoodIn (wsOf M) (wsOf M2) := good_sub (ws_sub hM.1)
  have hret := hM.2.2.2
  rcases hw with hw | ⟨host, hw⟩
  · have hcw : CallB (rmH h T.2.2.1 T.2.2.2) S args M.1.cls i M2.1 M2.2.1 M2.2.2.1 none (wsOf M2) (rmH h2 T2.2.2.1 T2.2.2.2) T2.2.2.1 T2.2.2.2 as.length ∧ M2.1.name = "<init>" ∧ (Cond.instanceMethod M2.1).before args S = true := by
      refine ⟨?_, hM.2.2.1, cx_word C hM.2.1⟩
      rw [← hret]
      exact callB_of as.length C.2.2.2.2.2.1 hgood rfl rfl rfl (cx_word C hM.1.1) (cx_word C hw) hM.1.2.2 hroom
    exact call_core (va_runI (g := F0 m pc lr _) ⟨C.1, C.2.1, C.2.2.2.1, C.2.2.2.2.1, C.2.2.2.2.2.1⟩ hMet hcw hpre rfl (by rw [List.length_map]) hL.1 rfl (lv_room (by rw [catS_eq]; exact hcat)) hd ⟨hf1, hf2⟩) hS kk
  · have hcw : va_CN (rmH h T.2.2.1 T.2.2.2) S args M.1.cls i M2.1 host M2.2.1 M2.2.2.1 none (wsOf M2) (rmH h2 T2.2.2.1 T2.2.2.2) T2.2.2.1 T2.2.2.2 as.length ∧ M2.1.name = "<init>" ∧ (Cond.instanceMethod M2.1).before args S = true := by
      refine ⟨?_, hM.2.2.1, cx_word C hM.2.1⟩
      rw [← hret]
      exact va_cnB as.length C.2.2.2.2.2.1 hgood rfl rfl rfl (C.2.2.2.2.2.2.2.2.1.2.2.1 _ hw) (cx_word C hM.1.1) hM.1.2.2 hroom
    exact call_core (va_runIN (g := F0 m pc lr _) ⟨C.1, C.2.1, C.2.2.2.1, C.2.2.2.2.1, C.2.2.2.2.2.1⟩ hMet hcw hpre rfl (by rw [List.length_map]) hL.1 rfl (lv_room (by rw [catS_eq]; exact hcat)) hd ⟨hf1, hf2⟩) hS kk
end JE
end
section
/-- a class's fresh fields -/
def Dfl (c : Nat) (ty : Nat → FieldType) : Prop := ∀ k, k < nf c → defaultValue (ty k) = if fk c k = 0 then .int 0 else if fk c k = 1 then .long 0 else .null
/-- a cell that is still blank -/
def Blk (s : Mem) (ρ : Rf) (q : Nat) : Prop := (∀ j, s.1 q j = 0) ∧ (∀ j, s.2 q j = 0) ∧ ∀ j, ρ q j = 0
section JN
variable {α : Type} {Θ : Th} {l : Launch} {M : Mi} {h : Nat} {G : α → Option AV} {T : Tg} {N : Nat} {ρ : Rf} {ce sl pc : Nat} {ls : List (Option AV)} {st : List AV} {s : Mem} {o o1 o2 : Option (α × Mem)}
theorem Rel_push {H H1 : Heap} {e : va_E} (hR : Rel Θ N ρ s H) (hN : N < NNc) (he : cellOf Θ ρ s (N + 1) = e) (hat : va_at Θ.1 vwCl (Θ.2.1 + (N + 1), e) H1) (hz : H1.size = H.size + 1) (ho : ∀ q, q < H.size → H1[q]? = H[q]?) : Rel Θ (N + 1) ρ s H1 := by
  refine ⟨?_, fun _ => by rw [hz, hR.2 hN]; omega⟩
  rw [← wsN_push (a := Θ.2.1 + (N + 1)) rfl he]
  refine (hR.1.kept (fun k x hx => ho x.1 ((hR.1 k x hx).lt))).app (fun k x hx => ?_)
  have hk : k < 1 := (List.getElem?_eq_some_iff.mp hx).1
  rw [show k = 0 by omega] at hx
  cases hx
  exact hat
theorem S_push {H0 H H1 : Heap} {locs : List Loc} (hS : va_S (Ar Θ) H0 H locs) (hz : H1.size = H.size + 1) (ho : ∀ q, q < H.size → H1[q]? = H[q]?) : va_S (Ar Θ) H0 H1 locs :=
  ⟨Nat.le_trans hS.1 (by omega), fun x h1 h2 => (ho x (Nat.lt_of_lt_of_le h1 hS.1)).trans (hS.2.1 x h1 h2), hS.2.2⟩
theorem j_new {c i : Nat} {CN : String} {Tb : u_T} {ty : Nat → FieldType} (n : Nat) (hC : Cls c CN Tb ty) (hdf : Dfl c ty) (hd : decode M.2.1 pc = .ok (.new i, 3)) (hn : pc + 3 = n) (hw1 : Cond.classLink M.1.cls i CN ∈ gtb) (hw2 : Cond.instantiable CN (nf c) ∈ gtb) (hw3 : Cond.initialized CN ∈ gtb) (hN : N < NNc) (hN2 : N + 1 < 900) (hk : kd (N + 1) = c) (hb : Blk s ρ (N + 1)) (hce : ce + 1 ≤ T.2.2.1) (hsl : sl + nf c ≤ T.2.2.2)
    (k : Jg Θ l M h G T (N + 1) ρ (ce + 1) (sl + nf c) n ls (vR (N + 1) :: st) s o) : Jg Θ l M h G T N ρ ce sl pc ls st s o := by
  subst hn
  intro r s' ho p e S m args below meth cd H locs lr C hS hR hL
  obtain ⟨hc1, hcl, hin, hty, hnm⟩ := hC
  have hK := C.2.2.2.2.2.2.2.2.1.1
  have hKn := hK.1 c _ hcl
  have hsz : H.size = Θ.2.1 + (N + 1) := by rw [hR.2 hN]; omega
  refine W.newcK C.1 C.2.1 C.2.2.2.2.1 (cx_word C hw1) (cx_word C hw2) (cx_word C hw3) rfl hd hce hsl hKn.2.1 hsz fun H1 kC hkC e1 z1 o1 => ?_
  have hat : va_at Θ.1 vwCl (Θ.2.1 + (N + 1), .inr (c, (List.range (nf c)).map (fcont Θ ρ s (N + 1)))) H1 := by
    refine ⟨_, hcl, (u_born ty (cx_tbl C) hin hKn hkC e1 hty).to (fun j hj => ?_)⟩
    rw [hdf j hj]
    unfold vp_V
    rw [List.getD_eq_getElem?_getD, List.getElem?_map, List.getElem?_range hj]
    simp only [Option.map_some, Option.getD_some]
    unfold fcont
    rw [hk, hb.1 j, hb.2.1 j, hb.2.2 j]
    rfl
  have k2 := k r s' ho p e S m args below meth cd H1 locs lr C (S_push hS (by omega) (fun q hq => o1 q (by omega))) (Rel_push hR hN (cell_obj hk (by omega)) hat (by omega) (fun q hq => o1 q (by omega))) hL
  simp only [List.map_cons] at k2
  rw [cv_ref (by omega) hN2] at k2
  exact k2
theorem j_newarray {c : Nat} {at_ : ArrayType} {ty : FieldType} {z : Int32} {n0 : Nat} (n : Nat) (hc : c = 20 ∨ c = 21 ∨ c = 22) (hty : newarray.typeOf at_ = ty) (htc : (tysT Θ)[c - 20]? = some (Θ.2.2.2 c, ty)) (hp : ty = .int ∨ ty = .byte ∨ ty = .boolean) (hd : decode M.2.1 pc = .ok (.newarray at_, 2)) (hn : pc + 2 = n) (hw : Cond.arrayClass ty ∈ gtb) (hN : N < NNc) (hN2 : N + 1 < 900) (hk : kd (N + 1) = c) (hln : ln (N + 1) = n0) (hz : ¬ z < 0) (hz2 : z.toNatClampNeg = n0) (hz3 : n0 ≤ 1000) (hb : Blk s ρ (N + 1)) (hce : ce + 1 ≤ T.2.2.1) (hsl : sl + n0 ≤ T.2.2.2)
    (k : Jg Θ l M h G T (N + 1) ρ (ce + 1) (sl + n0) n ls (vR (N + 1) :: st) s o) : Jg Θ l M h G T N ρ ce sl pc ls (vI z :: st) s o := by
  subst hn; subst hty
  intro r s' ho p e S m args below meth cd H locs lr C hS hR hL
  have hK := C.2.2.2.2.2.2.2.2.1.1
  have hsz : H.size = Θ.2.1 + (N + 1) := by rw [hR.2 hN]; omega
  have hbytes : n0 * componentBytes (newarray.typeOf at_) ≤ 536870912 := by
    have : componentBytes (newarray.typeOf at_) ≤ 8 := by cases at_ <;> decide
    calc n0 * componentBytes (newarray.typeOf at_) ≤ 1000 * 8 := Nat.mul_le_mul hz3 this
      _ ≤ 536870912 := by decide
  refine va_newaK (g := F0 m pc lr _) C.1 C.2.1 (cx_word C hw) rfl hd rfl hz hz2 hbytes hce hsl hsz fun H1 cA e1 z1 o1 hAr hNm => ?_
  have hcA : cA = Θ.2.2.2 c := by
    have h1 := (hK.2 _ _ htc).2
    have h2 : S.vm.findClass ("[" ++ (newarray.typeOf at_).toString) = some (Θ.2.2.2 c) := by
      rcases hp with hp | hp | hp <;> (rw [hp] at h1 ⊢; exact h1)
    exact Option.some.inj (hNm.symm.trans h2)
  subst hcA
  have hat : va_at Θ.1 vwCl (Θ.2.1 + (N + 1), .inl (Θ.2.2.2 c, ln (N + 1), .inl (s.1 (N + 1)))) H1 := by
    show H1[Θ.2.1 + (N + 1)]? = some (vp_cell _ _)
    rw [e1, vp_cell_i, hln]
    have e2 : (fun _ : Nat => defaultValue (newarray.typeOf at_)) = fun j => Value.int (s.1 (N + 1) j) := by
      funext j
      rw [hb.1 j]
      rcases hp with hp | hp | hp <;> (rw [hp]; rfl)
    rw [e2]
  have k2 := k r s' ho p e S m args below meth cd H1 locs lr C (S_push hS (by omega) (fun q hq => o1 q (by omega))) (Rel_push hR hN (cell_int hk (by omega) (by omega)) hat (by omega) (fun q hq => o1 q (by omega))) hL
  simp only [List.map_cons] at k2
  rw [cv_ref (by omega) hN2] at k2
  exact k2
theorem j_anewarray {c i : Nat} {CN : String} {z : Int32} {n0 : Nat} (n : Nat) (hc : (c = 23 ∧ CN = "HeavierSide$Row") ∨ (c = 24 ∧ CN = "HeavierSide$Text")) (hd : decode M.2.1 pc = .ok (.anewarray i, 3)) (hn : pc + 3 = n) (hw : Cond.classLink M.1.cls i CN ∈ gtb) (hN : N < NNc) (hN2 : N + 1 < 900) (hk : kd (N + 1) = c) (hln : ln (N + 1) = n0) (hz : ¬ z < 0) (hz2 : z.toNatClampNeg = n0) (hz3 : n0 ≤ 1000) (hb : Blk s ρ (N + 1)) (hce : ce + 1 ≤ T.2.2.1) (hsl : sl + n0 ≤ T.2.2.2)
    (k : Jg Θ l M h G T (N + 1) ρ (ce + 1) (sl + n0) n ls (vR (N + 1) :: st) s o) : Jg Θ l M h G T N ρ ce sl pc ls (vI z :: st) s o := by
  subst hn; subst hz2
  intro r s' ho p e S m args below meth cd H locs lr C hS hR hL
  have hF := C.2.2.2.2.2.2.2.2.1
  have hK := hF.1
  have hsz : H.size = Θ.2.1 + (N + 1) := by rw [hR.2 hN]; omega
  have hAO : va_AO CN S ∧ S.vm.findClass ("[" ++ (FieldType.object CN).toString) = some (Θ.2.2.2 c) := by
    rcases hc with ⟨rfl, rfl⟩ | ⟨rfl, rfl⟩
    · obtain ⟨_, _, _, _, _, h5⟩ := (hK.2 3 _ ty_at.2.2.2.1).2
      exact ⟨hF.2.2.2.1, h5⟩
    · obtain ⟨_, _, _, _, _, h5⟩ := (hK.2 4 _ ty_at.2.2.2.2).2
      exact ⟨hF.2.2.2.2, h5⟩
  refine W.anew (g := F0 m pc lr _) C.1 C.2.1 C.2.2.2.2.1 (cx_word C hw) (va_AO.use hAO.1) rfl hd rfl hz (by omega) hce hsl fun cA kA comp f1 f2 f3 f4 => ?_
  have hcA : cA = Θ.2.2.2 c := Option.some.inj (f1.symm.trans hAO.2)
  subst hcA
  generalize hH1 : H.push ({ cls := Θ.2.2.2 c, slots := Array.replicate z.toNatClampNeg .null, vm := .none } : Cell) = H1
  have z1 : H1.size = H.size + 1 := by rw [← hH1, Array.size_push]
  have e1 : H1[H.size]? = some (arrV (Θ.2.2.2 c) z.toNatClampNeg (fun _ => .null)) := by rw [← hH1, Array.getElem?_push_size, ← arrV_new]
  have o1 : ∀ q : Nat, q < H.size → H1[q]? = H[q]? := fun q hq => by rw [← hH1, Array.getElem?_push, if_neg (Nat.ne_of_lt hq)]
  have hat : va_at Θ.1 vwCl (Θ.2.1 + (N + 1), .inl (Θ.2.2.2 c, ln (N + 1), .inr (.inr (.inr (.inr (fun k => adO Θ (ρ (N + 1) k))))))) H1 := by
    show H1[Θ.2.1 + (N + 1)]? = some (vp_cell _ _)
    rw [← hsz, e1, vp_cell_q, hln]
    have e2 : (fun _ : Nat => Value.null) = fun j => va_rf (adO Θ (ρ (N + 1) j)) := by
      funext j
      rw [hb.2.2 j]
      rfl
    rw [e2]
  have k2 := k r s' ho p e S m args below meth cd H1 locs lr C (S_push hS z1 o1) (Rel_push hR hN (cell_ref hk (by omega)) hat z1 o1) hL
  simp only [List.map_cons] at k2
  rw [cv_ref (by omega) hN2, ← hsz] at k2
  exact k2
theorem j_aastore {q c cv_ x : Nat} {CN : String} {Tb : u_T} {ty : Nat → FieldType} {i : Int32} (n : Nat) (hc : (c = 23 ∧ CN = "HeavierSide$Row") ∨ (c = 24 ∧ CN = "HeavierSide$Text")) (hC : Cls cv_ CN Tb ty) (hd : decode M.2.1 pc = .ok (.aastore, 1)) (hn : pc + 1 = n) (hq1 : 0 < q) (hq2 : q ≤ N) (hN : N < 900) (hk : kd q = c) (hx1 : 0 < x) (hx2 : x ≤ N) (hkx : kd x = cv_) {z : Nat} (hz : ln q = z) (hb : inb i z = true)
    (k : Jg Θ l M h G T N (wR ρ q (ix i) x) ce sl n ls st s o) : Jg Θ l M h G T N ρ ce sl pc ls (vR x :: vI i :: vR q :: st) s o := by
  subst hn; subst hz
  intro r s' ho p e S m args below meth cd H locs lr C hS hR hL
  simp only [List.map_cons]
  rw [cv_ref hq1 (by omega), cv_ref hx1 (by omega)]
  obtain ⟨hc1, hcl, hin, hty, hnm⟩ := hC
  have hK := C.2.2.2.2.2.2.2.2.1.1
  have hcell := wsN_at (Θ := Θ) (ρ := ρ) (s := s) hq1 hq2
  rw [cell_ref hk (by omega)] at hcell
  have hcx := wsN_at (Θ := Θ) (ρ := ρ) (s := s) hx1 hx2
  rw [cell_obj hkx (by omega)] at hcx
  have hD := wsN_D Θ N ρ s
  obtain ⟨r', hr', cellV, g1, g2, g3, -⟩ := hR.1 (x - 1) _ hcx
  have hcls := (hK.1 cv_ _ hcl).2
  have hra : ∃ (kA : Class), S.vm.classes[Θ.2.2.2 c]? = some kA ∧ kA.kind = .array (Θ.1.1 cv_) (.object CN) := by
    rcases hc with ⟨rfl, rfl⟩ | ⟨rfl, rfl⟩
    · obtain ⟨kA, comp, k1, k2, k3, -⟩ := (hK.2 3 _ ty_at.2.2.2.1).2
      have hcomp : comp = Θ.1.1 cv_ := Option.some.inj (k3.symm.trans hcls.1)
      exact ⟨kA, k1, hcomp ▸ k2⟩
    · obtain ⟨kA, comp, k1, k2, k3, -⟩ := (hK.2 4 _ ty_at.2.2.2.2).2
      have hcomp : comp = Θ.1.1 cv_ := Option.some.inj (k3.symm.trans hcls.1)
      exact ⟨kA, k1, hcomp ▸ k2⟩
  obtain ⟨kA, k1, k2⟩ := hra
  obtain ⟨kC, hkC, -⟩ := hcls.2
  have hin2 := inb_in hb
  refine W.aast C.1 C.2.1 (hR.1 (q - 1) _ hcell) (fun q h => by cases h) (fun h => by cases h) k1 k2 rfl hkC ⟨fun z => hin2 (Or.inl z), by show _ < (arrV _ _ _).slots.size; rw [arrV_size]; exact Nat.not_le.mp (fun z => hin2 (Or.inr z))⟩ g1 (fun q h => by rw [g3] at h; cases h) (by rw [g2]; exact hkC) (by rw [g2]; exact va_assign hcls) rfl rfl hd fun H1 e1 z oq => ?_
  have hat : va_at Θ.1 vwCl (Θ.2.1 + q, .inl (Θ.2.2.2 c, ln q, .inr (.inr (.inr (.inr (fun k => adO Θ (wR ρ q (ix i) x q k))))))) H1 := by
    show H1[Θ.2.1 + q]? = some (vp_cell _ _)
    rw [e1, vp_cell_q, vp_cell_q, arrV_store]
    congr 2
    funext b
    by_cases hb2 : b = ix i
    · subst hb2
      have e3 : adO Θ x = some (Θ.2.1 + x) := by rw [adO, if_neg (by omega), adr_lo (by omega)]
      simp [updV, wR, e3, ix, va_rf]
    · have hb3 : ¬ b = i.toNatClampNeg := hb2
      simp [updV, wR, hb2, hb3]
  have hset : (wsN Θ N ρ s).set (q - 1) (Θ.2.1 + q, .inl (Θ.2.2.2 c, ln q, .inr (.inr (.inr (.inr (fun k => adO Θ (wR ρ q (ix i) x q k))))))) = wsN Θ N (wR ρ q (ix i) x) s :=
    wsN_set hq1 hq2 (cell_ref hk (by omega)) (fun a ha => cell_congr rfl rfl (wR_ne ha))
  exact k r s' ho p e S m args below meth cd H1 _ lr C (hS.put z oq (hD.2 _ _ hcell)) (Rel_lift (hR.1.set hD hcell hat oq) hset z hR.2) hL
-- switches
theorem j_tabIn {dflt lo hi off : Int} {offs : Array Int} {len : Nat} {x v : Int32} (tgt : Nat) (hd : decode M.2.1 pc = .ok (.tableswitch dflt lo hi offs, len)) (hx : x = v) (h1 : ¬ v.toInt < lo) (h2 : ¬ hi < v.toInt) (ho : offs[(v.toInt - lo).toNat]? = some off) (ht : (pc : Int) + off = (tgt : Int)) (k : Jg Θ l M h G T N ρ ce sl tgt ls st s o) : Jg Θ l M h G T N ρ ce sl pc ls (vI x :: st) s o := by
  subst hx
  intro r s' ho2 p e S m args below meth cd H locs lr C hS hR hL
  exact lv_tableIn C.1 C.2.1 hd h1 h2 ho ht (k r s' ho2 p e S m args below meth cd H locs lr C hS hR hL)
theorem j_tabOut {dflt lo hi : Int} {offs : Array Int} {len : Nat} {x : Int32} (tgt : Nat) (hd : decode M.2.1 pc = .ok (.tableswitch dflt lo hi offs, len)) (hx : x.toInt < lo ∨ hi < x.toInt) (ht : (pc : Int) + dflt = (tgt : Int)) (k : Jg Θ l M h G T N ρ ce sl tgt ls st s o) : Jg Θ l M h G T N ρ ce sl pc ls (vI x :: st) s o := by
  intro r s' ho2 p e S m args below meth cd H locs lr C hS hR hL
  exact lv_tableOut C.1 C.2.1 hd hx ht (k r s' ho2 p e S m args below meth cd H locs lr C hS hR hL)
theorem j_lookup {dflt off : Int} {ps : Array (Int × Int)} {len : Nat} {x : Int32} (tgt : Nat) (hd : decode M.2.1 pc = .ok (.lookupswitch dflt ps, len)) (hp : (ps.toList.zip (ps.toList.drop 1)).all (fun (a, next) => a.1 < next.1) = true) (ho : Op.lookupswitch.offset ps.toList dflt x.toInt = off) (ht : (pc : Int) + off = (tgt : Int)) (k : Jg Θ l M h G T N ρ ce sl tgt ls st s o) : Jg Θ l M h G T N ρ ce sl pc ls (vI x :: st) s o := by
  intro r s' ho2 p e S m args below meth cd H locs lr C hS hR hL
  exact lv_lookup C.1 C.2.1 hd hp ho ht (k r s' ho2 p e S m args below meth cd H locs lr C hS hR hL)
end JN
end
section
-- the steady state: all 98 cells made; short forms of the rows; the classes; the cells
def Tn : Tg := (NNc, RT, 0, 0)
abbrev Js {α : Type} (Θ : Th) (l : Launch) (M : Mi) (h : Nat) (G : α → Option AV) (pc : Nat) (ls : List (Option AV)) (st : List AV) (s : Mem) (o : Option (α × Mem)) : Prop := Jg Θ l M h G Tn NNc RT 0 0 pc ls st s o
abbrev Cs {α : Type} (Θ : Th) (l : Launch) (M : Mi) (h : Nat) (G : α → Option AV) (as : List AV) (s : Mem) (o : Option (α × Mem)) : Prop := Ct Θ l M h G Tn NNc RT as s o
/-- a value by name -/
def nm {α β : Type} (a : α) (f : α → β) : β := f a
def gC (q : Nat) : Unit → Option AV := fun _ => some (vR q)
def OA (q c : Nat) : Prop := 0 < q ∧ q ≤ NNc ∧ kd q = c
def AA (q k n : Nat) : Prop := 0 < q ∧ q ≤ NNc ∧ kd q = k ∧ ln q = n
def FA (q j : Nat) (CN fn ds : String) (fin : Bool) (kf : Nat) : Prop := ∃ (c : Nat) (Tb : u_T) (ty : Nat → FieldType), Cls c CN Tb ty ∧ 0 < q ∧ q ≤ NNc ∧ kd q = c ∧ j < nf c ∧ Tb j = (CN, fn, ds, fin) ∧ fk c j = kf
theorem nn9 : NNc < 900 := by decide
section JS
variable {α β : Type} {Θ : Th} {l : Launch} {M M2 : Mi} {h h2 : Nat} {G : α → Option AV} {G2 : β → Option AV} {pc : Nat} {ls : List (Option AV)} {st : List AV} {s : Mem} {o : Option (α × Mem)} {o2 : Option (β × Mem)} {g : β → Mem → Option (α × Mem)}
theorem s_getI {q j i : Nat} {CN fn : String} {fin : Bool} (n : Nat) (hF : FA q j CN fn "I" fin 0) (hw : Cond.fieldLink M.1.cls i CN fn "I" ∈ gtb) (hd : decode M.2.1 pc = .ok (.getfield i, 3)) (hn : pc + 3 = n) (k : Js Θ l M h G n ls (vI (s.1 q j) :: st) s o) : Js Θ l M h G pc ls (vR q :: st) s o := by
  obtain ⟨c, Tb, ty, hC, q1, q2, hk, hj, hT, h0⟩ := hF
  refine j_get n hC hd hn q1 q2 nn9 hk hj (by rw [hT]) hw (fun Θ => ?_) k
  unfold fcont
  rw [hk, h0]
  skip
  rfl
theorem s_getL {q j i : Nat} {CN fn : String} {fin : Bool} (n : Nat) (hF : FA q j CN fn "J" fin 1) (hw : Cond.fieldLink M.1.cls i CN fn "J" ∈ gtb) (hd : decode M.2.1 pc = .ok (.getfield i, 3)) (hn : pc + 3 = n) (k : Js Θ l M h G n ls (vL (s.2 q j) :: st) s o) : Js Θ l M h G pc ls (vR q :: st) s o := by
  obtain ⟨c, Tb, ty, hC, q1, q2, hk, hj, hT, h0⟩ := hF
  refine j_get n hC hd hn q1 q2 nn9 hk hj (by rw [hT]) hw (fun Θ => ?_) k
  unfold fcont
  rw [hk, h0]
  skip
  rfl
theorem s_getR {q j i : Nat} {CN fn ds : String} {fin : Bool} {x : Nat} (n : Nat) (hF : FA q j CN fn ds fin 2) (hw : Cond.fieldLink M.1.cls i CN fn ds ∈ gtb) (hd : decode M.2.1 pc = .ok (.getfield i, 3)) (hn : pc + 3 = n) (hx : RT q j = x) (k : Js Θ l M h G n ls (vR x :: st) s o) : Js Θ l M h G pc ls (vR q :: st) s o := by
  obtain ⟨c, Tb, ty, hC, q1, q2, hk, hj, hT, h0⟩ := hF
  refine j_get n hC hd hn q1 q2 nn9 hk hj (by rw [hT]) hw (fun Θ => ?_) k
  unfold fcont
  rw [hk, h0]
  rw [hx]
  rfl
theorem s_putI {q j i : Nat} {CN fn : String} {x : Int32} (n : Nat) (hF : FA q j CN fn "I" false 0) (hw : Cond.fieldLink M.1.cls i CN fn "I" ∈ gtb) (hd : decode M.2.1 pc = .ok (.putfield i, 3)) (hn : pc + 3 = n) (k : Js Θ l M h G n ls st (wI s q j x) o) : Js Θ l M h G pc ls (vI x :: vR q :: st) s o := by
  obtain ⟨c, Tb, ty, hC, q1, q2, hk, hj, hT, h0⟩ := hF
  exact j_putI n hC hd hn q1 q2 nn9 hk hj hT (Or.inl rfl) hw h0 k
theorem s_putL {q j i : Nat} {CN fn : String} {x : Int64} (n : Nat) (hF : FA q j CN fn "J" false 1) (hw : Cond.fieldLink M.1.cls i CN fn "J" ∈ gtb) (hd : decode M.2.1 pc = .ok (.putfield i, 3)) (hn : pc + 3 = n) (k : Js Θ l M h G n ls st (wL s q j x) o) : Js Θ l M h G pc ls (vL x :: vR q :: st) s o := by
  obtain ⟨c, Tb, ty, hC, q1, q2, hk, hj, hT, h0⟩ := hF
  exact j_putL n hC hd hn q1 q2 nn9 hk hj hT (Or.inl rfl) hw h0 k
theorem s_iaload {q z : Nat} {i : Int32} (n : Nat) (hA : AA q 20 z) (hd : decode M.2.1 pc = .ok (.iaload, 1)) (hn : pc + 1 = n) (k : inb i z = true → Js Θ l M h G n ls (vI (s.1 q (ix i)) :: st) s o) : Js Θ l M h G pc ls (vI i :: vR q :: st) s (if inb i z = true then o else none) := j_iaload n hd hn hA.1 hA.2.1 nn9 hA.2.2.1 hA.2.2.2 k
theorem s_baload {q z : Nat} {i : Int32} (n : Nat) (hA : AA q 21 z ∨ AA q 22 z) (hd : decode M.2.1 pc = .ok (.baload, 1)) (hn : pc + 1 = n) (k : inb i z = true → Js Θ l M h G n ls (vI (s.1 q (ix i)) :: st) s o) : Js Θ l M h G pc ls (vI i :: vR q :: st) s (if inb i z = true then o else none) := by
  rcases hA with hA | hA
  · exact j_baload n hd hn hA.1 hA.2.1 nn9 (Or.inl hA.2.2.1) hA.2.2.2 k
  · exact j_baload n hd hn hA.1 hA.2.1 nn9 (Or.inr hA.2.2.1) hA.2.2.2 k
theorem s_iastore {q z : Nat} {i x : Int32} (n : Nat) (hA : AA q 20 z) (hd : decode M.2.1 pc = .ok (.iastore, 1)) (hn : pc + 1 = n) (k : inb i z = true → Js Θ l M h G n ls st (wI s q (ix i) x) o) : Js Θ l M h G pc ls (vI x :: vI i :: vR q :: st) s (if inb i z = true then o else none) := j_iastore n hd hn hA.1 hA.2.1 nn9 hA.2.2.1 hA.2.2.2 k
theorem s_bastore {q z : Nat} {i x : Int32} (n : Nat) (hA : AA q 21 z) (hd : decode M.2.1 pc = .ok (.bastore, 1)) (hn : pc + 1 = n) (k : inb i z = true → Js Θ l M h G n ls st (wI s q (ix i) x.toInt8.toInt32) o) : Js Θ l M h G pc ls (vI x :: vI i :: vR q :: st) s (if inb i z = true then o else none) := j_bastore n hd hn hA.1 hA.2.1 nn9 hA.2.2.1 hA.2.2.2 k
theorem s_zastore {q z : Nat} {i x : Int32} (n : Nat) (hA : AA q 22 z) (hd : decode M.2.1 pc = .ok (.bastore, 1)) (hn : pc + 1 = n) (k : inb i z = true → Js Θ l M h G n ls st (wI s q (ix i) (vp_nar .boolean x)) o) : Js Θ l M h G pc ls (vI x :: vI i :: vR q :: st) s (if inb i z = true then o else none) := j_zastore n hd hn hA.1 hA.2.1 nn9 hA.2.2.1 hA.2.2.2 k
theorem s_alen {q c z : Nat} {v : Int32} (n : Nat) (hA : AA q c z) (h1 : 20 ≤ c) (h2 : c < 25) (hv : Int32.ofNat z = v) (hd : decode M.2.1 pc = .ok (.arraylength, 1)) (hn : pc + 1 = n) (k : Js Θ l M h G n ls (vI v :: st) s o) : Js Θ l M h G pc ls (vR q :: st) s o := j_alen n hd hn hA.1 hA.2.1 nn9 hA.2.2.1 h1 h2 (by rw [hA.2.2.2]; exact hv) k
theorem s_aaload {q c z : Nat} {i : Int32} (n : Nat) (hA : AA q c z) (h1 : c = 23 ∨ c = 24) (hd : decode M.2.1 pc = .ok (.aaload, 1)) (hn : pc + 1 = n) (k : inb i z = true → Js Θ l M h G n ls (vR (RT q (ix i)) :: st) s o) : Js Θ l M h G pc ls (vI i :: vR q :: st) s (if inb i z = true then o else none) := j_aaload n hd hn hA.1 hA.2.1 nn9 hA.2.2.1 h1 hA.2.2.2 k
theorem s_copy {q0 q1 n0 n1 i : Nat} {sp dp z : Int32} (n : Nat) (hA : AA q0 20 n0) (hB : AA q1 20 n1) (hd : decode M.2.1 pc = .ok (.invokestatic i, 3)) (hn : pc + 3 = n) (hw1 : Cond.methodLink M.1.cls i arraycopyName ∈ gtb) (hw2 : Cond.native arraycopyName ∈ gtb) (hw3 : Cond.static arraycopyName ∈ gtb) (hw4 : Cond.initialized "java/lang/System" ∈ gtb) (hh : 1 ≤ h) (hcat : catS st ≤ 8) (k : Js Θ l M h G n ls st (wF s q1 (va_cpy (s.1 q0) (s.1 q1) (ix sp) (ix dp) (ix z))) o) : Js Θ l M h G pc ls (vI z :: vI dp :: vR q1 :: vI sp :: vR q0 :: st) s (if ¬ sp < 0 ∧ ¬ dp < 0 ∧ ¬ z < 0 ∧ ix sp + ix z ≤ n0 ∧ ix dp + ix z ≤ n1 then o else none) := j_copy n hd hn hw1 hw2 hw3 hw4 hA.1 hA.2.1 hB.1 hB.2.1 nn9 (Nat.le_refl _) hA.2.2.1 hB.2.2.1 hA.2.2.2 hB.2.2.2 hh hcat k
theorem s_iret {x : Int32} (hd : decode M.2.1 pc = .ok (.ireturn, 1)) (hr : M.2.2.2 = some .int) : Js Θ l M h gI pc ls [vI x] s (some (x, s)) := j_iret hd hr rfl rfl (Nat.le_refl _) (Nat.le_refl _)
theorem s_zret {x : Int32} (hd : decode M.2.1 pc = .ok (.ireturn, 1)) (hr : M.2.2.2 = some .boolean) (hx : x = 0 ∨ x = 1) : Js Θ l M h gI pc ls [vI x] s (some (x, s)) := j_zret hd hr hx rfl rfl (Nat.le_refl _) (Nat.le_refl _)
theorem s_zretG {x : Int32} (hd : decode M.2.1 pc = .ok (.ireturn, 1)) (hr : M.2.2.2 = some .boolean) : Js Θ l M h gI pc ls [vI x] s (if x = 0 ∨ x = 1 then some (x, s) else none) := j_zretG hd hr rfl rfl (Nat.le_refl _) (Nat.le_refl _)
theorem s_lret {x : Int64} (hd : decode M.2.1 pc = .ok (.lreturn, 1)) (hr : M.2.2.2 = some .long) : Js Θ l M h gL pc ls [vL x] s (some (x, s)) := j_lret hd hr rfl rfl (Nat.le_refl _) (Nat.le_refl _)
theorem s_aret {q : Nat} {rt : FieldType} (hd : decode M.2.1 pc = .ok (.areturn, 1)) (hr : M.2.2.2 = some rt) (hrt : (∃ n, rt = .object n) ∨ ∃ t, rt = .array t) : Js Θ l M h gR pc ls [vR q] s (some (q, s)) := j_aret hd hr hrt rfl rfl (Nat.le_refl _) (Nat.le_refl _)
theorem s_aretC {q : Nat} {rt : FieldType} (hd : decode M.2.1 pc = .ok (.areturn, 1)) (hr : M.2.2.2 = some rt) (hrt : (∃ n, rt = .object n) ∨ ∃ t, rt = .array t) : Js Θ l M h (gC q) pc ls [vR q] s (some ((), s)) := by
  intro r s' ho
  cases ho
  exact s_aret (Θ := Θ) (l := l) (M := M) (h := h) (pc := pc) (ls := ls) (s := s) hd hr hrt q s rfl
theorem s_ret (hd : decode M.2.1 pc = .ok (.return_, 1)) (hr : M.2.2.2 = none) : Js Θ l M h gU pc ls [] s (some ((), s)) := j_ret hd hr rfl rfl (Nat.le_refl _) (Nat.le_refl _)
theorem s_nmI {i : Nat} {x : Int32} {f : Int32 → Option (α × Mem)} (k : ∀ y : Int32, Js Θ l M h G pc ls (vI y :: st) s (f y)) : Js Θ l M h G pc ls (vI x :: st) s (nm x f) := k x
theorem s_nmL {i : Nat} {x : Int64} {f : Int64 → Option (α × Mem)} (k : ∀ y : Int64, Js Θ l M h G pc ls (vL y :: st) s (f y)) : Js Θ l M h G pc ls (vL x :: st) s (nm x f) := k x
theorem s_callVi {q c i : Nat} {Tb : u_T} {ty : Nat → FieldType} {stk : List AV} {o2 : Option (Int32 × Mem)} {g : Int32 → Mem → Option (α × Mem)} (as : List AV) (n : Nat) (hO : OA q c) (hC : Cls c M2.1.cls Tb ty) (hM : MkV M2 as.length) (hw : Cond.methodLink M.1.cls i M2.1 ∈ gtb) (hd : decode M.2.1 pc = .ok (.invokevirtual i, 3)) (hn : pc + 3 = n) (hst : stk = as.reverse ++ vR q :: st) (hct : Cs Θ l M2 h2 gI (vR q :: as) s o2) (hh : h2 + 1 ≤ h) (hL9 : M2.2.2.1 ≤ 60) (hcat : catS st ≤ 8) (k : ∀ (r : Int32) (s1 : Mem), Js Θ l M h G n ls (vI r :: st) s1 (g r s1)) : Js Θ l M h G pc ls stk s (bnd o2 g) := j_callV as n hC hM hw hd hn hst hO.1 hO.2.1 nn9 hO.2.2 hct hh hL9 hcat (Nat.le_refl _) (Nat.le_refl _) k
theorem s_callSi {i : Nat} {stk : List AV} {o2 : Option (Int32 × Mem)} {g : Int32 → Mem → Option (α × Mem)} (as : List AV) (n : Nat) (hM : MkS M2 as.length) (hw : Cond.methodLink M.1.cls i M2.1 ∈ gtb ∨ ∃ host, Cond.methodLinkNest M.1.cls i M2.1 host ∈ nwL) (hd : decode M.2.1 pc = .ok (.invokestatic i, 3)) (hn : pc + 3 = n) (hst : stk = as.reverse ++ st) (hct : Cs Θ l M2 h2 gI as s o2) (hh : h2 + 1 ≤ h) (hL9 : M2.2.2.1 ≤ 60) (hcat : catS st ≤ 8) (k : ∀ (r : Int32) (s1 : Mem), Js Θ l M h G n ls (vI r :: st) s1 (g r s1)) : Js Θ l M h G pc ls stk s (bnd o2 g) := j_callS as n hM hw hd hn hst hct hh hL9 hcat (Nat.le_refl _) (Nat.le_refl _) k
theorem s_callVl {q c i : Nat} {Tb : u_T} {ty : Nat → FieldType} {stk : List AV} {o2 : Option (Int64 × Mem)} {g : Int64 → Mem → Option (α × Mem)} (as : List AV) (n : Nat) (hO : OA q c) (hC : Cls c M2.1.cls Tb ty) (hM : MkV M2 as.length) (hw : Cond.methodLink M.1.cls i M2.1 ∈ gtb) (hd : decode M.2.1 pc = .ok (.invokevirtual i, 3)) (hn : pc + 3 = n) (hst : stk = as.reverse ++ vR q :: st) (hct : Cs Θ l M2 h2 gL (vR q :: as) s o2) (hh : h2 + 1 ≤ h) (hL9 : M2.2.2.1 ≤ 60) (hcat : catS st ≤ 8) (k : ∀ (r : Int64) (s1 : Mem), Js Θ l M h G n ls (vL r :: st) s1 (g r s1)) : Js Θ l M h G pc ls stk s (bnd o2 g) := j_callV as n hC hM hw hd hn hst hO.1 hO.2.1 nn9 hO.2.2 hct hh hL9 hcat (Nat.le_refl _) (Nat.le_refl _) k
theorem s_callSl {i : Nat} {stk : List AV} {o2 : Option (Int64 × Mem)} {g : Int64 → Mem → Option (α × Mem)} (as : List AV) (n : Nat) (hM : MkS M2 as.length) (hw : Cond.methodLink M.1.cls i M2.1 ∈ gtb ∨ ∃ host, Cond.methodLinkNest M.1.cls i M2.1 host ∈ nwL) (hd : decode M.2.1 pc = .ok (.invokestatic i, 3)) (hn : pc + 3 = n) (hst : stk = as.reverse ++ st) (hct : Cs Θ l M2 h2 gL as s o2) (hh : h2 + 1 ≤ h) (hL9 : M2.2.2.1 ≤ 60) (hcat : catS st ≤ 8) (k : ∀ (r : Int64) (s1 : Mem), Js Θ l M h G n ls (vL r :: st) s1 (g r s1)) : Js Θ l M h G pc ls stk s (bnd o2 g) := j_callS as n hM hw hd hn hst hct hh hL9 hcat (Nat.le_refl _) (Nat.le_refl _) k
theorem s_callVr {q c i : Nat} {Tb : u_T} {ty : Nat → FieldType} {stk : List AV} {o2 : Option (Nat × Mem)} {g : Nat → Mem → Option (α × Mem)} (as : List AV) (n : Nat) (hO : OA q c) (hC : Cls c M2.1.cls Tb ty) (hM : MkV M2 as.length) (hw : Cond.methodLink M.1.cls i M2.1 ∈ gtb) (hd : decode M.2.1 pc = .ok (.invokevirtual i, 3)) (hn : pc + 3 = n) (hst : stk = as.reverse ++ vR q :: st) (hct : Cs Θ l M2 h2 gR (vR q :: as) s o2) (hh : h2 + 1 ≤ h) (hL9 : M2.2.2.1 ≤ 60) (hcat : catS st ≤ 8) (k : ∀ (r : Nat) (s1 : Mem), Js Θ l M h G n ls (vR r :: st) s1 (g r s1)) : Js Θ l M h G pc ls stk s (bnd o2 g) := j_callV as n hC hM hw hd hn hst hO.1 hO.2.1 nn9 hO.2.2 hct hh hL9 hcat (Nat.le_refl _) (Nat.le_refl _) k
theorem s_callSr {i : Nat} {stk : List AV} {o2 : Option (Nat × Mem)} {g : Nat → Mem → Option (α × Mem)} (as : List AV) (n : Nat) (hM : MkS M2 as.length) (hw : Cond.methodLink M.1.cls i M2.1 ∈ gtb ∨ ∃ host, Cond.methodLinkNest M.1.cls i M2.1 host ∈ nwL) (hd : decode M.2.1 pc = .ok (.invokestatic i, 3)) (hn : pc + 3 = n) (hst : stk = as.reverse ++ st) (hct : Cs Θ l M2 h2 gR as s o2) (hh : h2 + 1 ≤ h) (hL9 : M2.2.2.1 ≤ 60) (hcat : catS st ≤ 8) (k : ∀ (r : Nat) (s1 : Mem), Js Θ l M h G n ls (vR r :: st) s1 (g r s1)) : Js Θ l M h G pc ls stk s (bnd o2 g) := j_callS as n hM hw hd hn hst hct hh hL9 hcat (Nat.le_refl _) (Nat.le_refl _) k
theorem s_callVu {q c i : Nat} {Tb : u_T} {ty : Nat → FieldType} {stk : List AV} {o2 : Option (Unit × Mem)} {g : Unit → Mem → Option (α × Mem)} (as : List AV) (n : Nat) (hO : OA q c) (hC : Cls c M2.1.cls Tb ty) (hM : MkV M2 as.length) (hw : Cond.methodLink M.1.cls i M2.1 ∈ gtb) (hd : decode M.2.1 pc = .ok (.invokevirtual i, 3)) (hn : pc + 3 = n) (hst : stk = as.reverse ++ vR q :: st) (hct : Cs Θ l M2 h2 gU (vR q :: as) s o2) (hh : h2 + 1 ≤ h) (hL9 : M2.2.2.1 ≤ 60) (hcat : catS st ≤ 8) (k : ∀ (r : Unit) (s1 : Mem), Js Θ l M h G n ls (st) s1 (g r s1)) : Js Θ l M h G pc ls stk s (bnd o2 g) := j_callV as n hC hM hw hd hn hst hO.1 hO.2.1 nn9 hO.2.2 hct hh hL9 hcat (Nat.le_refl _) (Nat.le_refl _) k
theorem s_callSu {i : Nat} {stk : List AV} {o2 : Option (Unit × Mem)} {g : Unit → Mem → Option (α × Mem)} (as : List AV) (n : Nat) (hM : MkS M2 as.length) (hw : Cond.methodLink M.1.cls i M2.1 ∈ gtb ∨ ∃ host, Cond.methodLinkNest M.1.cls i M2.1 host ∈ nwL) (hd : decode M.2.1 pc = .ok (.invokestatic i, 3)) (hn : pc + 3 = n) (hst : stk = as.reverse ++ st) (hct : Cs Θ l M2 h2 gU as s o2) (hh : h2 + 1 ≤ h) (hL9 : M2.2.2.1 ≤ 60) (hcat : catS st ≤ 8) (k : ∀ (r : Unit) (s1 : Mem), Js Θ l M h G n ls (st) s1 (g r s1)) : Js Θ l M h G pc ls stk s (bnd o2 g) := j_callS as n hM hw hd hn hst hct hh hL9 hcat (Nat.le_refl _) (Nat.le_refl _) k
theorem s_callVc {q c i z : Nat} {Tb : u_T} {ty : Nat → FieldType} {stk : List AV} {o2 : Option (Unit × Mem)} {g : Unit → Mem → Option (α × Mem)} (as : List AV) (n : Nat) (hO : OA q c) (hC : Cls c M2.1.cls Tb ty) (hM : MkV M2 as.length) (hw : Cond.methodLink M.1.cls i M2.1 ∈ gtb) (hd : decode M.2.1 pc = .ok (.invokevirtual i, 3)) (hn : pc + 3 = n) (hst : stk = as.reverse ++ vR q :: st) (hct : Cs Θ l M2 h2 (gC z) (vR q :: as) s o2) (hh : h2 + 1 ≤ h) (hL9 : M2.2.2.1 ≤ 60) (hcat : catS st ≤ 8) (k : ∀ (r : Unit) (s1 : Mem), Js Θ l M h G n ls (vR z :: st) s1 (g r s1)) : Js Θ l M h G pc ls stk s (bnd o2 g) := j_callV as n hC hM hw hd hn hst hO.1 hO.2.1 nn9 hO.2.2 hct hh hL9 hcat (Nat.le_refl _) (Nat.le_refl _) k
end JS
theorem cc0 : Cls 0 RX0 TX0 tyX0 := ⟨by decide, rfl, by decide +kernel, tyX0_ok, nmX0⟩
theorem df0 : Dfl 0 tyX0 := by
  intro k hk
  have hk : k < 13 := hk
  rcases (show k = 0 ∨ k = 1 ∨ k = 2 ∨ k = 3 ∨ k = 4 ∨ k = 5 ∨ k = 6 ∨ k = 7 ∨ k = 8 ∨ k = 9 ∨ k = 10 ∨ k = 11 ∨ k = 12 by omega) with rfl | rfl | rfl | rfl | rfl | rfl | rfl | rfl | rfl | rfl | rfl | rfl | rfl <;> rfl
theorem cc1 : Cls 1 RX1 TX1 tyX1 := ⟨by decide, rfl, by decide +kernel, tyX1_ok, nmX1⟩
theorem df1 : Dfl 1 tyX1 := by
  intro k hk
  have hk : k < 4 := hk
  rcases (show k = 0 ∨ k = 1 ∨ k = 2 ∨ k = 3 by omega) with rfl | rfl | rfl | rfl <;> rfl
theorem cc2 : Cls 2 RX2 TX2 tyX2 := ⟨by decide, rfl, by decide +kernel, tyX2_ok, nmX2⟩
theorem df2 : Dfl 2 tyX2 := by
  intro k hk
  have hk : k < 8 := hk
  rcases (show k = 0 ∨ k = 1 ∨ k = 2 ∨ k = 3 ∨ k = 4 ∨ k = 5 ∨ k = 6 ∨ k = 7 by omega) with rfl | rfl | rfl | rfl | rfl | rfl | rfl | rfl <;> rfl
theorem cc3 : Cls 3 RX3 TX3 tyX3 := ⟨by decide, rfl, by decide +kernel, tyX3_ok, nmX3⟩
theorem df3 : Dfl 3 tyX3 := by
  intro k hk
  have hk : k < 2 := hk
  rcases (show k = 0 ∨ k = 1 by omega) with rfl | rfl <;> rfl
theorem cc4 : Cls 4 RX4 TX4 tyX4 := ⟨by decide, rfl, by decide +kernel, tyX4_ok, nmX4⟩
theorem df4 : Dfl 4 tyX4 := by
  intro k hk
  have hk : k < 6 := hk
  rcases (show k = 0 ∨ k = 1 ∨ k = 2 ∨ k = 3 ∨ k = 4 ∨ k = 5 by omega) with rfl | rfl | rfl | rfl | rfl | rfl <;> rfl
theorem cc5 : Cls 5 RX5 TX5 tyX5 := ⟨by decide, rfl, by decide +kernel, tyX5_ok, nmX5⟩
theorem df5 : Dfl 5 tyX5 := by
  intro k hk
  have hk : k < 4 := hk
  rcases (show k = 0 ∨ k = 1 ∨ k = 2 ∨ k = 3 by omega) with rfl | rfl | rfl | rfl <;> rfl
theorem cc6 : Cls 6 RX6 TX6 tyX6 := ⟨by decide, rfl, by decide +kernel, tyX6_ok, nmX6⟩
theorem df6 : Dfl 6 tyX6 := by
  intro k hk
  have hk : k < 3 := hk
  rcases (show k = 0 ∨ k = 1 ∨ k = 2 by omega) with rfl | rfl | rfl <;> rfl
theorem cc7 : Cls 7 RX7 TX7 tyX7 := ⟨by decide, rfl, by decide +kernel, tyX7_ok, nmX7⟩
theorem df7 : Dfl 7 tyX7 := by
  intro k hk
  have hk : k < 2 := hk
  rcases (show k = 0 ∨ k = 1 by omega) with rfl | rfl <;> rfl
theorem cc8 : Cls 8 RX8 TX8 tyX8 := ⟨by decide, rfl, by decide +kernel, tyX8_ok, nmX8⟩
theorem df8 : Dfl 8 tyX8 := by
  intro k hk
  have hk : k < 15 := hk
  rcases (show k = 0 ∨ k = 1 ∨ k = 2 ∨ k = 3 ∨ k = 4 ∨ k = 5 ∨ k = 6 ∨ k = 7 ∨ k = 8 ∨ k = 9 ∨ k = 10 ∨ k = 11 ∨ k = 12 ∨ k = 13 ∨ k = 14 by omega) with rfl | rfl | rfl | rfl | rfl | rfl | rfl | rfl | rfl | rfl | rfl | rfl | rfl | rfl | rfl <;> rfl
theorem cc9 : Cls 9 RX9 TX9 tyX9 := ⟨by decide, rfl, by decide +kernel, tyX9_ok, nmX9⟩
theorem df9 : Dfl 9 tyX9 := by
  intro k hk
  have hk : k < 2 := hk
  rcases (show k = 0 ∨ k = 1 by omega) with rfl | rfl <;> rfl
theorem cc10 : Cls 10 RX10 TX10 tyX10 := ⟨by decide, rfl, by decide +kernel, tyX10_ok, nmX10⟩
theorem df10 : Dfl 10 tyX10 := by
  intro k hk
  have hk : k < 5 := hk
  rcases (show k = 0 ∨ k = 1 ∨ k = 2 ∨ k = 3 ∨ k = 4 by omega) with rfl | rfl | rfl | rfl | rfl <;> rfl
theorem cc11 : Cls 11 RX11 TX11 tyX11 := ⟨by decide, rfl, by decide +kernel, tyX11_ok, nmX11⟩
theorem df11 : Dfl 11 tyX11 := by
  intro k hk
  have hk : k < 11 := hk
  rcases (show k = 0 ∨ k = 1 ∨ k = 2 ∨ k = 3 ∨ k = 4 ∨ k = 5 ∨ k = 6 ∨ k = 7 ∨ k = 8 ∨ k = 9 ∨ k = 10 by omega) with rfl | rfl | rfl | rfl | rfl | rfl | rfl | rfl | rfl | rfl | rfl <;> rfl
theorem cc12 : Cls 12 RX12 TX12 tyX12 := ⟨by decide, rfl, by decide +kernel, tyX12_ok, nmX12⟩
theorem df12 : Dfl 12 tyX12 := by
  intro k hk
  have hk : k < 55 := hk
  rcases (show k = 0 ∨ k = 1 ∨ k = 2 ∨ k = 3 ∨ k = 4 ∨ k = 5 ∨ k = 6 ∨ k = 7 ∨ k = 8 ∨ k = 9 ∨ k = 10 ∨ k = 11 ∨ k = 12 ∨ k = 13 ∨ k = 14 ∨ k = 15 ∨ k = 16 ∨ k = 17 ∨ k = 18 ∨ k = 19 ∨ k = 20 ∨ k = 21 ∨ k = 22 ∨ k = 23 ∨ k = 24 ∨ k = 25 ∨ k = 26 ∨ k = 27 ∨ k = 28 ∨ k = 29 ∨ k = 30 ∨ k = 31 ∨ k = 32 ∨ k = 33 ∨ k = 34 ∨ k = 35 ∨ k = 36 ∨ k = 37 ∨ k = 38 ∨ k = 39 ∨ k = 40 ∨ k = 41 ∨ k = 42 ∨ k = 43 ∨ k = 44 ∨ k = 45 ∨ k = 46 ∨ k = 47 ∨ k = 48 ∨ k = 49 ∨ k = 50 ∨ k = 51 ∨ k = 52 ∨ k = 53 ∨ k = 54 by omega) with rfl | rfl | rfl | rfl | rfl | rfl | rfl | rfl | rfl | rfl | rfl | rfl | rfl | rfl | rfl | rfl | rfl | rfl | rfl | rfl | rfl | rfl | rfl | rfl | rfl | rfl | rfl | rfl | rfl | rfl | rfl | rfl | rfl | rfl | rfl | rfl | rfl | rfl | rfl | rfl | rfl | rfl | rfl | rfl | rfl | rfl | rfl | rfl | rfl | rfl | rfl | rfl | rfl | rfl | rfl <;> rfl
theorem oa1 : OA 1 11 := ⟨by decide, by decide, by decide +kernel⟩
theorem fa1_0 : FA 1 0 RX11 "told" "LHeavierSide$Told;" true 2 := ⟨11, TX11, tyX11, cc11, by decide, by decide, by decide +kernel, by decide +kernel, rfl, by decide +kernel⟩
theorem fa1_1 : FA 1 1 RX11 "rows" "[LHeavierSide$Row;" true 2 := ⟨11, TX11, tyX11, cc11, by decide, by decide, by decide +kernel, by decide +kernel, rfl, by decide +kernel⟩
theorem fa1_2 : FA 1 2 RX11 "texts" "[LHeavierSide$Text;" true 2 := ⟨11, TX11, tyX11, cc11, by decide, by decide, by decide +kernel, by decide +kernel, rfl, by decide +kernel⟩
theorem fa1_3 : FA 1 3 RX11 "barge" "LHeavierSide$Barge;" true 2 := ⟨11, TX11, tyX11, cc11, by decide, by decide, by decide +kernel, by decide +kernel, rfl, by decide +kernel⟩
theorem fa1_4 : FA 1 4 RX11 "quarrels" "LHeavierSide$Quarrels;" true 2 := ⟨11, TX11, tyX11, cc11, by decide, by decide, by decide +kernel, by decide +kernel, rfl, by decide +kernel⟩
theorem fa1_5 : FA 1 5 RX11 "rite" "LHeavierSide$Rite;" true 2 := ⟨11, TX11, tyX11, cc11, by decide, by decide, by decide +kernel, by decide +kernel, rfl, by decide +kernel⟩
theorem fa1_6 : FA 1 6 RX11 "deeds" "LHeavierSide$Deeds;" true 2 := ⟨11, TX11, tyX11, cc11, by decide, by decide, by decide +kernel, by decide +kernel, rfl, by decide +kernel⟩
theorem fa1_7 : FA 1 7 RX11 "kept" "LHeavierSide$Kept;" true 2 := ⟨11, TX11, tyX11, cc11, by decide, by decide, by decide +kernel, by decide +kernel, rfl, by decide +kernel⟩
theorem fa1_8 : FA 1 8 RX11 "seatings" "LHeavierSide$Seatings;" true 2 := ⟨11, TX11, tyX11, cc11, by decide, by decide, by decide +kernel, by decide +kernel, rfl, by decide +kernel⟩
theorem fa1_9 : FA 1 9 RX11 "leaving" "LHeavierSide$Leaving;" true 2 := ⟨11, TX11, tyX11, cc11, by decide, by decide, by decide +kernel, by decide +kernel, rfl, by decide +kernel⟩
theorem fa1_10 : FA 1 10 RX11 "invitation" "LHeavierSide$Invitation;" true 2 := ⟨11, TX11, tyX11, cc11, by decide, by decide, by decide +kernel, by decide +kernel, rfl, by decide +kernel⟩
theorem oa2 : OA 2 10 := ⟨by decide, by decide, by decide +kernel⟩
theorem fa2_0 : FA 2 0 RX10 "asked" "I" false 0 := ⟨10, TX10, tyX10, cc10, by decide, by decide, by decide +kernel, by decide +kernel, rfl, by decide +kernel⟩
theorem fa2_1 : FA 2 1 RX10 "upper" "J" false 1 := ⟨10, TX10, tyX10, cc10, by decide, by decide, by decide +kernel, by decide +kernel, rfl, by decide +kernel⟩
theorem fa2_2 : FA 2 2 RX10 "lower" "J" false 1 := ⟨10, TX10, tyX10, cc10, by decide, by decide, by decide +kernel, by decide +kernel, rfl, by decide +kernel⟩
theorem fa2_3 : FA 2 3 RX10 "finding" "I" false 0 := ⟨10, TX10, tyX10, cc10, by decide, by decide, by decide +kernel, by decide +kernel, rfl, by decide +kernel⟩
theorem fa2_4 : FA 2 4 RX10 "times" "[I" true 2 := ⟨10, TX10, tyX10, cc10, by decide, by decide, by decide +kernel, by decide +kernel, rfl, by decide +kernel⟩
theorem aa3 : AA 3 20 6 := ⟨by decide, by decide, by decide +kernel, by decide +kernel⟩
theorem aa4 : AA 4 23 6 := ⟨by decide, by decide, by decide +kernel, by decide +kernel⟩
theorem aa5 : AA 5 24 4 := ⟨by decide, by decide, by decide +kernel, by decide +kernel⟩
theorem oa6 : OA 6 0 := ⟨by decide, by decide, by decide +kernel⟩
theorem fa6_0 : FA 6 0 RX0 "benches" "I" false 0 := ⟨0, TX0, tyX0, cc0, by decide, by decide, by decide +kernel, by decide +kernel, rfl, by decide +kernel⟩
theorem fa6_1 : FA 6 1 RX0 "guests" "I" false 0 := ⟨0, TX0, tyX0, cc0, by decide, by decide, by decide +kernel, by decide +kernel, rfl, by decide +kernel⟩
theorem fa6_2 : FA 6 2 RX0 "limit" "I" false 0 := ⟨0, TX0, tyX0, cc0, by decide, by decide, by decide +kernel, by decide +kernel, rfl, by decide +kernel⟩
theorem fa6_3 : FA 6 3 RX0 "rain" "I" false 0 := ⟨0, TX0, tyX0, cc0, by decide, by decide, by decide +kernel, by decide +kernel, rfl, by decide +kernel⟩
theorem fa6_4 : FA 6 4 RX0 "quarrels" "LHeavierSide$Quarrels;" true 2 := ⟨0, TX0, tyX0, cc0, by decide, by decide, by decide +kernel, by decide +kernel, rfl, by decide +kernel⟩
theorem fa6_5 : FA 6 5 RX0 "xs" "[I" true 2 := ⟨0, TX0, tyX0, cc0, by decide, by decide, by decide +kernel, by decide +kernel, rfl, by decide +kernel⟩
theorem fa6_6 : FA 6 6 RX0 "whoSits" "[I" true 2 := ⟨0, TX0, tyX0, cc0, by decide, by decide, by decide +kernel, by decide +kernel, rfl, by decide +kernel⟩
theorem fa6_7 : FA 6 7 RX0 "kinds" "[I" true 2 := ⟨0, TX0, tyX0, cc0, by decide, by decide, by decide +kernel, by decide +kernel, rfl, by decide +kernel⟩
theorem fa6_8 : FA 6 8 RX0 "weights" "[I" true 2 := ⟨0, TX0, tyX0, cc0, by decide, by decide, by decide +kernel, by decide +kernel, rfl, by decide +kernel⟩
theorem fa6_9 : FA 6 9 RX0 "kins" "[I" true 2 := ⟨0, TX0, tyX0, cc0, by decide, by decide, by decide +kernel, by decide +kernel, rfl, by decide +kernel⟩
theorem fa6_10 : FA 6 10 RX0 "sitsOn" "[I" true 2 := ⟨0, TX0, tyX0, cc0, by decide, by decide, by decide +kernel, by decide +kernel, rfl, by decide +kernel⟩
theorem fa6_11 : FA 6 11 RX0 "moments" "[I" true 2 := ⟨0, TX0, tyX0, cc0, by decide, by decide, by decide +kernel, by decide +kernel, rfl, by decide +kernel⟩
theorem fa6_12 : FA 6 12 RX0 "seatTakers" "I" false 0 := ⟨0, TX0, tyX0, cc0, by decide, by decide, by decide +kernel, by decide +kernel, rfl, by decide +kernel⟩
theorem oa7 : OA 7 5 := ⟨by decide, by decide, by decide +kernel⟩
theorem fa7_0 : FA 7 0 RX5 "size" "I" false 0 := ⟨5, TX5, tyX5, cc5, by decide, by decide, by decide +kernel, by decide +kernel, rfl, by decide +kernel⟩
theorem fa7_1 : FA 7 1 RX5 "ones" "[I" true 2 := ⟨5, TX5, tyX5, cc5, by decide, by decide, by decide +kernel, by decide +kernel, rfl, by decide +kernel⟩
theorem fa7_2 : FA 7 2 RX5 "others" "[I" true 2 := ⟨5, TX5, tyX5, cc5, by decide, by decide, by decide +kernel, by decide +kernel, rfl, by decide +kernel⟩
theorem fa7_3 : FA 7 3 RX5 "foes" "[I" true 2 := ⟨5, TX5, tyX5, cc5, by decide, by decide, by decide +kernel, by decide +kernel, rfl, by decide +kernel⟩
theorem aa8 : AA 8 20 8 := ⟨by decide, by decide, by decide +kernel, by decide +kernel⟩
theorem aa9 : AA 9 20 8 := ⟨by decide, by decide, by decide +kernel, by decide +kernel⟩
theorem aa10 : AA 10 20 7 := ⟨by decide, by decide, by decide +kernel, by decide +kernel⟩
theorem aa11 : AA 11 20 8 := ⟨by decide, by decide, by decide +kernel, by decide +kernel⟩
theorem aa12 : AA 12 20 8 := ⟨by decide, by decide, by decide +kernel, by decide +kernel⟩
theorem aa13 : AA 13 20 7 := ⟨by decide, by decide, by decide +kernel, by decide +kernel⟩
theorem aa14 : AA 14 20 7 := ⟨by decide, by decide, by decide +kernel, by decide +kernel⟩
theorem aa15 : AA 15 20 7 := ⟨by decide, by decide, by decide +kernel, by decide +kernel⟩
theorem aa16 : AA 16 20 7 := ⟨by decide, by decide, by decide +kernel, by decide +kernel⟩
theorem aa17 : AA 17 20 168 := ⟨by decide, by decide, by decide +kernel, by decide +kernel⟩
theorem oa18 : OA 18 6 := ⟨by decide, by decide, by decide +kernel⟩
theorem fa18_0 : FA 18 0 RX6 "minutes" "I" false 0 := ⟨6, TX6, tyX6, cc6, by decide, by decide, by decide +kernel, by decide +kernel, rfl, by decide +kernel⟩
theorem fa18_1 : FA 18 1 RX6 "postures" "[I" true 2 := ⟨6, TX6, tyX6, cc6, by decide, by decide, by decide +kernel, by decide +kernel, rfl, by decide +kernel⟩
theorem fa18_2 : FA 18 2 RX6 "postureSet" "I" false 0 := ⟨6, TX6, tyX6, cc6, by decide, by decide, by decide +kernel, by decide +kernel, rfl, by decide +kernel⟩
theorem aa19 : AA 19 20 40 := ⟨by decide, by decide, by decide +kernel, by decide +kernel⟩
theorem oa20 : OA 20 1 := ⟨by decide, by decide, by decide +kernel⟩
theorem fa20_0 : FA 20 0 RX1 "size" "I" false 0 := ⟨1, TX1, tyX1, cc1, by decide, by decide, by decide +kernel, by decide +kernel, rfl, by decide +kernel⟩
theorem fa20_1 : FA 20 1 RX1 "sorts" "[I" true 2 := ⟨1, TX1, tyX1, cc1, by decide, by decide, by decide +kernel, by decide +kernel, rfl, by decide +kernel⟩
theorem fa20_2 : FA 20 2 RX1 "guests" "[I" true 2 := ⟨1, TX1, tyX1, cc1, by decide, by decide, by decide +kernel, by decide +kernel, rfl, by decide +kernel⟩
theorem fa20_3 : FA 20 3 RX1 "others" "[I" true 2 := ⟨1, TX1, tyX1, cc1, by decide, by decide, by decide +kernel, by decide +kernel, rfl, by decide +kernel⟩
theorem aa21 : AA 21 20 60 := ⟨by decide, by decide, by decide +kernel, by decide +kernel⟩
theorem aa22 : AA 22 20 60 := ⟨by decide, by decide, by decide +kernel, by decide +kernel⟩
theorem aa23 : AA 23 20 60 := ⟨by decide, by decide, by decide +kernel, by decide +kernel⟩
theorem oa24 : OA 24 3 := ⟨by decide, by decide, by decide +kernel⟩
theorem fa24_0 : FA 24 0 RX3 "there" "[Z" true 2 := ⟨3, TX3, tyX3, cc3, by decide, by decide, by decide +kernel, by decide +kernel, rfl, by decide +kernel⟩
theorem fa24_1 : FA 24 1 RX3 "sitsOn" "[I" true 2 := ⟨3, TX3, tyX3, cc3, by decide, by decide, by decide +kernel, by decide +kernel, rfl, by decide +kernel⟩
theorem aa25 : AA 25 22 3 := ⟨by decide, by decide, by decide +kernel, by decide +kernel⟩
theorem aa26 : AA 26 20 21 := ⟨by decide, by decide, by decide +kernel, by decide +kernel⟩
theorem oa27 : OA 27 8 := ⟨by decide, by decide, by decide +kernel⟩
theorem fa27_0 : FA 27 0 RX8 "leastWorst" "I" false 0 := ⟨8, TX8, tyX8, cc8, by decide, by decide, by decide +kernel, by decide +kernel, rfl, by decide +kernel⟩
theorem fa27_1 : FA 27 1 RX8 "leastSits" "[I" true 2 := ⟨8, TX8, tyX8, cc8, by decide, by decide, by decide +kernel, by decide +kernel, rfl, by decide +kernel⟩
theorem fa27_2 : FA 27 2 RX8 "all" "I" false 0 := ⟨8, TX8, tyX8, cc8, by decide, by decide, by decide +kernel, by decide +kernel, rfl, by decide +kernel⟩
theorem fa27_3 : FA 27 3 RX8 "level" "I" false 0 := ⟨8, TX8, tyX8, cc8, by decide, by decide, by decide +kernel, by decide +kernel, rfl, by decide +kernel⟩
theorem fa27_4 : FA 27 4 RX8 "barge" "LHeavierSide$Barge;" true 2 := ⟨8, TX8, tyX8, cc8, by decide, by decide, by decide +kernel, by decide +kernel, rfl, by decide +kernel⟩
theorem fa27_5 : FA 27 5 RX8 "rite" "LHeavierSide$Rite;" true 2 := ⟨8, TX8, tyX8, cc8, by decide, by decide, by decide +kernel, by decide +kernel, rfl, by decide +kernel⟩
theorem fa27_6 : FA 27 6 RX8 "coming" "[I" true 2 := ⟨8, TX8, tyX8, cc8, by decide, by decide, by decide +kernel, by decide +kernel, rfl, by decide +kernel⟩
theorem fa27_7 : FA 27 7 RX8 "comers" "I" false 0 := ⟨8, TX8, tyX8, cc8, by decide, by decide, by decide +kernel, by decide +kernel, rfl, by decide +kernel⟩
theorem fa27_8 : FA 27 8 RX8 "sitsOn" "[I" true 2 := ⟨8, TX8, tyX8, cc8, by decide, by decide, by decide +kernel, by decide +kernel, rfl, by decide +kernel⟩
theorem fa27_9 : FA 27 9 RX8 "levelOn" "[I" true 2 := ⟨8, TX8, tyX8, cc8, by decide, by decide, by decide +kernel, by decide +kernel, rfl, by decide +kernel⟩
theorem fa27_10 : FA 27 10 RX8 "freeSeats" "[I" true 2 := ⟨8, TX8, tyX8, cc8, by decide, by decide, by decide +kernel, by decide +kernel, rfl, by decide +kernel⟩
theorem fa27_11 : FA 27 11 RX8 "whoSits" "[I" true 2 := ⟨8, TX8, tyX8, cc8, by decide, by decide, by decide +kernel, by decide +kernel, rfl, by decide +kernel⟩
theorem fa27_12 : FA 27 12 RX8 "sittingMoments" "[I" true 2 := ⟨8, TX8, tyX8, cc8, by decide, by decide, by decide +kernel, by decide +kernel, rfl, by decide +kernel⟩
theorem fa27_13 : FA 27 13 RX8 "standingMoments" "[I" true 2 := ⟨8, TX8, tyX8, cc8, by decide, by decide, by decide +kernel, by decide +kernel, rfl, by decide +kernel⟩
theorem fa27_14 : FA 27 14 RX8 "kneelingMoments" "[I" true 2 := ⟨8, TX8, tyX8, cc8, by decide, by decide, by decide +kernel, by decide +kernel, rfl, by decide +kernel⟩
theorem aa28 : AA 28 20 7 := ⟨by decide, by decide, by decide +kernel, by decide +kernel⟩
theorem aa29 : AA 29 20 7 := ⟨by decide, by decide, by decide +kernel, by decide +kernel⟩
theorem aa30 : AA 30 20 7 := ⟨by decide, by decide, by decide +kernel, by decide +kernel⟩
theorem aa31 : AA 31 20 7 := ⟨by decide, by decide, by decide +kernel, by decide +kernel⟩
theorem aa32 : AA 32 20 8 := ⟨by decide, by decide, by decide +kernel, by decide +kernel⟩
theorem aa33 : AA 33 20 10 := ⟨by decide, by decide, by decide +kernel, by decide +kernel⟩
theorem aa34 : AA 34 20 56 := ⟨by decide, by decide, by decide +kernel, by decide +kernel⟩
theorem aa35 : AA 35 20 56 := ⟨by decide, by decide, by decide +kernel, by decide +kernel⟩
theorem aa36 : AA 36 20 56 := ⟨by decide, by decide, by decide +kernel, by decide +kernel⟩
theorem oa37 : OA 37 4 := ⟨by decide, by decide, by decide +kernel⟩
theorem fa37_0 : FA 37 0 RX4 "barge" "LHeavierSide$Barge;" true 2 := ⟨4, TX4, tyX4, cc4, by decide, by decide, by decide +kernel, by decide +kernel, rfl, by decide +kernel⟩
theorem fa37_1 : FA 37 1 RX4 "isLevelSet" "[Z" true 2 := ⟨4, TX4, tyX4, cc4, by decide, by decide, by decide +kernel, by decide +kernel, rfl, by decide +kernel⟩
theorem fa37_2 : FA 37 2 RX4 "canEmpty" "[Z" true 2 := ⟨4, TX4, tyX4, cc4, by decide, by decide, by decide +kernel, by decide +kernel, rfl, by decide +kernel⟩
theorem fa37_3 : FA 37 3 RX4 "reached" "[Z" true 2 := ⟨4, TX4, tyX4, cc4, by decide, by decide, by decide +kernel, by decide +kernel, rfl, by decide +kernel⟩
theorem fa37_4 : FA 37 4 RX4 "order" "[I" true 2 := ⟨4, TX4, tyX4, cc4, by decide, by decide, by decide +kernel, by decide +kernel, rfl, by decide +kernel⟩
theorem fa37_5 : FA 37 5 RX4 "crew" "I" false 0 := ⟨4, TX4, tyX4, cc4, by decide, by decide, by decide +kernel, by decide +kernel, rfl, by decide +kernel⟩
theorem aa38 : AA 38 22 128 := ⟨by decide, by decide, by decide +kernel, by decide +kernel⟩
theorem aa39 : AA 39 22 128 := ⟨by decide, by decide, by decide +kernel, by decide +kernel⟩
theorem aa40 : AA 40 22 128 := ⟨by decide, by decide, by decide +kernel, by decide +kernel⟩
theorem aa41 : AA 41 20 7 := ⟨by decide, by decide, by decide +kernel, by decide +kernel⟩
theorem oa42 : OA 42 2 := ⟨by decide, by decide, by decide +kernel⟩
theorem fa42_0 : FA 42 0 RX2 "invited" "I" false 0 := ⟨2, TX2, tyX2, cc2, by decide, by decide, by decide +kernel, by decide +kernel, rfl, by decide +kernel⟩
theorem fa42_1 : FA 42 1 RX2 "least" "I" false 0 := ⟨2, TX2, tyX2, cc2, by decide, by decide, by decide +kernel, by decide +kernel, rfl, by decide +kernel⟩
theorem fa42_2 : FA 42 2 RX2 "cheapest" "[I" true 2 := ⟨2, TX2, tyX2, cc2, by decide, by decide, by decide +kernel, by decide +kernel, rfl, by decide +kernel⟩
theorem fa42_3 : FA 42 3 RX2 "barge" "LHeavierSide$Barge;" true 2 := ⟨2, TX2, tyX2, cc2, by decide, by decide, by decide +kernel, by decide +kernel, rfl, by decide +kernel⟩
theorem fa42_4 : FA 42 4 RX2 "tried" "[I" true 2 := ⟨2, TX2, tyX2, cc2, by decide, by decide, by decide +kernel, by decide +kernel, rfl, by decide +kernel⟩
theorem fa42_5 : FA 42 5 RX2 "newcomers" "[I" true 2 := ⟨2, TX2, tyX2, cc2, by decide, by decide, by decide +kernel, by decide +kernel, rfl, by decide +kernel⟩
theorem fa42_6 : FA 42 6 RX2 "weights" "[I" true 2 := ⟨2, TX2, tyX2, cc2, by decide, by decide, by decide +kernel, by decide +kernel, rfl, by decide +kernel⟩
theorem fa42_7 : FA 42 7 RX2 "costs" "[I" true 2 := ⟨2, TX2, tyX2, cc2, by decide, by decide, by decide +kernel, by decide +kernel, rfl, by decide +kernel⟩
theorem aa43 : AA 43 20 4 := ⟨by decide, by decide, by decide +kernel, by decide +kernel⟩
theorem aa44 : AA 44 20 4 := ⟨by decide, by decide, by decide +kernel, by decide +kernel⟩
theorem aa45 : AA 45 20 8 := ⟨by decide, by decide, by decide +kernel, by decide +kernel⟩
theorem aa46 : AA 46 20 4 := ⟨by decide, by decide, by decide +kernel, by decide +kernel⟩
theorem aa47 : AA 47 20 4 := ⟨by decide, by decide, by decide +kernel, by decide +kernel⟩
theorem oa48 : OA 48 7 := ⟨by decide, by decide, by decide +kernel⟩
theorem aa49 : AA 49 20 60 := ⟨by decide, by decide, by decide +kernel, by decide +kernel⟩
theorem oa50 : OA 50 7 := ⟨by decide, by decide, by decide +kernel⟩
theorem aa51 : AA 51 20 60 := ⟨by decide, by decide, by decide +kernel, by decide +kernel⟩
theorem oa52 : OA 52 7 := ⟨by decide, by decide, by decide +kernel⟩
theorem aa53 : AA 53 20 60 := ⟨by decide, by decide, by decide +kernel, by decide +kernel⟩
theorem oa54 : OA 54 7 := ⟨by decide, by decide, by decide +kernel⟩
theorem aa55 : AA 55 20 60 := ⟨by decide, by decide, by decide +kernel, by decide +kernel⟩
theorem oa56 : OA 56 7 := ⟨by decide, by decide, by decide +kernel⟩
theorem aa57 : AA 57 20 60 := ⟨by decide, by decide, by decide +kernel, by decide +kernel⟩
theorem oa58 : OA 58 7 := ⟨by decide, by decide, by decide +kernel⟩
theorem aa59 : AA 59 20 60 := ⟨by decide, by decide, by decide +kernel, by decide +kernel⟩
theorem oa60 : OA 60 9 := ⟨by decide, by decide, by decide +kernel⟩
theorem aa61 : AA 61 21 60 := ⟨by decide, by decide, by decide +kernel, by decide +kernel⟩
theorem oa62 : OA 62 9 := ⟨by decide, by decide, by decide +kernel⟩
theorem aa63 : AA 63 21 60 := ⟨by decide, by decide, by decide +kernel, by decide +kernel⟩
theorem oa64 : OA 64 9 := ⟨by decide, by decide, by decide +kernel⟩
theorem aa65 : AA 65 21 60 := ⟨by decide, by decide, by decide +kernel, by decide +kernel⟩
theorem oa66 : OA 66 9 := ⟨by decide, by decide, by decide +kernel⟩
theorem aa67 : AA 67 21 60 := ⟨by decide, by decide, by decide +kernel, by decide +kernel⟩
theorem oa68 : OA 68 12 := ⟨by decide, by decide, by decide +kernel⟩
theorem fa68_0 : FA 68 0 RX12 "latest" "I" false 0 := ⟨12, TX12, tyX12, cc12, by decide, by decide, by decide +kernel, by decide +kernel, rfl, by decide +kernel⟩
theorem fa68_1 : FA 68 1 RX12 "came" "[I" true 2 := ⟨12, TX12, tyX12, cc12, by decide, by decide, by decide +kernel, by decide +kernel, rfl, by decide +kernel⟩
theorem fa68_2 : FA 68 2 RX12 "asked" "I" false 0 := ⟨12, TX12, tyX12, cc12, by decide, by decide, by decide +kernel, by decide +kernel, rfl, by decide +kernel⟩
theorem fa68_3 : FA 68 3 RX12 "upper" "J" false 1 := ⟨12, TX12, tyX12, cc12, by decide, by decide, by decide +kernel, by decide +kernel, rfl, by decide +kernel⟩
theorem fa68_4 : FA 68 4 RX12 "lower" "J" false 1 := ⟨12, TX12, tyX12, cc12, by decide, by decide, by decide +kernel, by decide +kernel, rfl, by decide +kernel⟩
theorem fa68_5 : FA 68 5 RX12 "sizes" "[I" true 2 := ⟨12, TX12, tyX12, cc12, by decide, by decide, by decide +kernel, by decide +kernel, rfl, by decide +kernel⟩
theorem fa68_6 : FA 68 6 RX12 "rows" "[I" true 2 := ⟨12, TX12, tyX12, cc12, by decide, by decide, by decide +kernel, by decide +kernel, rfl, by decide +kernel⟩
theorem fa68_7 : FA 68 7 RX12 "copied" "[I" true 2 := ⟨12, TX12, tyX12, cc12, by decide, by decide, by decide +kernel, by decide +kernel, rfl, by decide +kernel⟩
theorem fa68_8 : FA 68 8 RX12 "textSizes" "[I" true 2 := ⟨12, TX12, tyX12, cc12, by decide, by decide, by decide +kernel, by decide +kernel, rfl, by decide +kernel⟩
theorem fa68_9 : FA 68 9 RX12 "bytes" "[B" true 2 := ⟨12, TX12, tyX12, cc12, by decide, by decide, by decide +kernel, by decide +kernel, rfl, by decide +kernel⟩
theorem fa68_10 : FA 68 10 RX12 "benchMany" "I" false 0 := ⟨12, TX12, tyX12, cc12, by decide, by decide, by decide +kernel, by decide +kernel, rfl, by decide +kernel⟩
theorem fa68_11 : FA 68 11 RX12 "xs" "[I" true 2 := ⟨12, TX12, tyX12, cc12, by decide, by decide, by decide +kernel, by decide +kernel, rfl, by decide +kernel⟩
theorem fa68_12 : FA 68 12 RX12 "n" "I" false 0 := ⟨12, TX12, tyX12, cc12, by decide, by decide, by decide +kernel, by decide +kernel, rfl, by decide +kernel⟩
theorem fa68_13 : FA 68 13 RX12 "kinds" "[I" true 2 := ⟨12, TX12, tyX12, cc12, by decide, by decide, by decide +kernel, by decide +kernel, rfl, by decide +kernel⟩
theorem fa68_14 : FA 68 14 RX12 "weights" "[I" true 2 := ⟨12, TX12, tyX12, cc12, by decide, by decide, by decide +kernel, by decide +kernel, rfl, by decide +kernel⟩
theorem fa68_15 : FA 68 15 RX12 "kins" "[I" true 2 := ⟨12, TX12, tyX12, cc12, by decide, by decide, by decide +kernel, by decide +kernel, rfl, by decide +kernel⟩
theorem fa68_16 : FA 68 16 RX12 "sits" "[I" true 2 := ⟨12, TX12, tyX12, cc12, by decide, by decide, by decide +kernel, by decide +kernel, rfl, by decide +kernel⟩
theorem fa68_17 : FA 68 17 RX12 "limitNow" "I" false 0 := ⟨12, TX12, tyX12, cc12, by decide, by decide, by decide +kernel, by decide +kernel, rfl, by decide +kernel⟩
theorem fa68_18 : FA 68 18 RX12 "rainNow" "I" false 0 := ⟨12, TX12, tyX12, cc12, by decide, by decide, by decide +kernel, by decide +kernel, rfl, by decide +kernel⟩
theorem fa68_19 : FA 68 19 RX12 "minuteMany" "I" false 0 := ⟨12, TX12, tyX12, cc12, by decide, by decide, by decide +kernel, by decide +kernel, rfl, by decide +kernel⟩
theorem fa68_20 : FA 68 20 RX12 "minutes" "[I" true 2 := ⟨12, TX12, tyX12, cc12, by decide, by decide, by decide +kernel, by decide +kernel, rfl, by decide +kernel⟩
theorem fa68_21 : FA 68 21 RX12 "readAt" "I" false 0 := ⟨12, TX12, tyX12, cc12, by decide, by decide, by decide +kernel, by decide +kernel, rfl, by decide +kernel⟩
theorem fa68_22 : FA 68 22 RX12 "readNumber" "I" false 0 := ⟨12, TX12, tyX12, cc12, by decide, by decide, by decide +kernel, by decide +kernel, rfl, by decide +kernel⟩
theorem fa68_23 : FA 68 23 RX12 "readBenches" "I" false 0 := ⟨12, TX12, tyX12, cc12, by decide, by decide, by decide +kernel, by decide +kernel, rfl, by decide +kernel⟩
theorem fa68_24 : FA 68 24 RX12 "readGuests" "I" false 0 := ⟨12, TX12, tyX12, cc12, by decide, by decide, by decide +kernel, by decide +kernel, rfl, by decide +kernel⟩
theorem fa68_25 : FA 68 25 RX12 "readXs" "[I" true 2 := ⟨12, TX12, tyX12, cc12, by decide, by decide, by decide +kernel, by decide +kernel, rfl, by decide +kernel⟩
theorem fa68_26 : FA 68 26 RX12 "readKinds" "[I" true 2 := ⟨12, TX12, tyX12, cc12, by decide, by decide, by decide +kernel, by decide +kernel, rfl, by decide +kernel⟩
theorem fa68_27 : FA 68 27 RX12 "readWeights" "[I" true 2 := ⟨12, TX12, tyX12, cc12, by decide, by decide, by decide +kernel, by decide +kernel, rfl, by decide +kernel⟩
theorem fa68_28 : FA 68 28 RX12 "readKins" "[I" true 2 := ⟨12, TX12, tyX12, cc12, by decide, by decide, by decide +kernel, by decide +kernel, rfl, by decide +kernel⟩
theorem fa68_29 : FA 68 29 RX12 "quarrelMany" "I" false 0 := ⟨12, TX12, tyX12, cc12, by decide, by decide, by decide +kernel, by decide +kernel, rfl, by decide +kernel⟩
theorem fa68_30 : FA 68 30 RX12 "quarrelOne" "[I" true 2 := ⟨12, TX12, tyX12, cc12, by decide, by decide, by decide +kernel, by decide +kernel, rfl, by decide +kernel⟩
theorem fa68_31 : FA 68 31 RX12 "quarrelOther" "[I" true 2 := ⟨12, TX12, tyX12, cc12, by decide, by decide, by decide +kernel, by decide +kernel, rfl, by decide +kernel⟩
theorem fa68_32 : FA 68 32 RX12 "deedMany" "I" false 0 := ⟨12, TX12, tyX12, cc12, by decide, by decide, by decide +kernel, by decide +kernel, rfl, by decide +kernel⟩
theorem fa68_33 : FA 68 33 RX12 "deeds" "[I" true 2 := ⟨12, TX12, tyX12, cc12, by decide, by decide, by decide +kernel, by decide +kernel, rfl, by decide +kernel⟩
theorem fa68_34 : FA 68 34 RX12 "isKept" "[Z" true 2 := ⟨12, TX12, tyX12, cc12, by decide, by decide, by decide +kernel, by decide +kernel, rfl, by decide +kernel⟩
theorem fa68_35 : FA 68 35 RX12 "kept" "[I" true 2 := ⟨12, TX12, tyX12, cc12, by decide, by decide, by decide +kernel, by decide +kernel, rfl, by decide +kernel⟩
theorem fa68_36 : FA 68 36 RX12 "worstMinute" "I" false 0 := ⟨12, TX12, tyX12, cc12, by decide, by decide, by decide +kernel, by decide +kernel, rfl, by decide +kernel⟩
theorem fa68_37 : FA 68 37 RX12 "seatings" "I" false 0 := ⟨12, TX12, tyX12, cc12, by decide, by decide, by decide +kernel, by decide +kernel, rfl, by decide +kernel⟩
theorem fa68_38 : FA 68 38 RX12 "through" "I" false 0 := ⟨12, TX12, tyX12, cc12, by decide, by decide, by decide +kernel, by decide +kernel, rfl, by decide +kernel⟩
theorem fa68_39 : FA 68 39 RX12 "bestWorst" "I" false 0 := ⟨12, TX12, tyX12, cc12, by decide, by decide, by decide +kernel, by decide +kernel, rfl, by decide +kernel⟩
theorem fa68_40 : FA 68 40 RX12 "bestSits" "[I" true 2 := ⟨12, TX12, tyX12, cc12, by decide, by decide, by decide +kernel, by decide +kernel, rfl, by decide +kernel⟩
theorem fa68_41 : FA 68 41 RX12 "benchesOf" "[I" true 2 := ⟨12, TX12, tyX12, cc12, by decide, by decide, by decide +kernel, by decide +kernel, rfl, by decide +kernel⟩
theorem fa68_42 : FA 68 42 RX12 "orders" "I" false 0 := ⟨12, TX12, tyX12, cc12, by decide, by decide, by decide +kernel, by decide +kernel, rfl, by decide +kernel⟩
theorem fa68_43 : FA 68 43 RX12 "firstSet" "I" false 0 := ⟨12, TX12, tyX12, cc12, by decide, by decide, by decide +kernel, by decide +kernel, rfl, by decide +kernel⟩
theorem fa68_44 : FA 68 44 RX12 "lastSet" "I" false 0 := ⟨12, TX12, tyX12, cc12, by decide, by decide, by decide +kernel, by decide +kernel, rfl, by decide +kernel⟩
theorem fa68_45 : FA 68 45 RX12 "leaving" "[I" true 2 := ⟨12, TX12, tyX12, cc12, by decide, by decide, by decide +kernel, by decide +kernel, rfl, by decide +kernel⟩
theorem fa68_46 : FA 68 46 RX12 "firstLeaving" "[I" true 2 := ⟨12, TX12, tyX12, cc12, by decide, by decide, by decide +kernel, by decide +kernel, rfl, by decide +kernel⟩
theorem fa68_47 : FA 68 47 RX12 "invitedMany" "I" false 0 := ⟨12, TX12, tyX12, cc12, by decide, by decide, by decide +kernel, by decide +kernel, rfl, by decide +kernel⟩
theorem fa68_48 : FA 68 48 RX12 "invitedWeight" "[I" true 2 := ⟨12, TX12, tyX12, cc12, by decide, by decide, by decide +kernel, by decide +kernel, rfl, by decide +kernel⟩
theorem fa68_49 : FA 68 49 RX12 "invitedCost" "[I" true 2 := ⟨12, TX12, tyX12, cc12, by decide, by decide, by decide +kernel, by decide +kernel, rfl, by decide +kernel⟩
theorem fa68_50 : FA 68 50 RX12 "invitedOn" "[I" true 2 := ⟨12, TX12, tyX12, cc12, by decide, by decide, by decide +kernel, by decide +kernel, rfl, by decide +kernel⟩
theorem fa68_51 : FA 68 51 RX12 "bestOn" "[I" true 2 := ⟨12, TX12, tyX12, cc12, by decide, by decide, by decide +kernel, by decide +kernel, rfl, by decide +kernel⟩
theorem fa68_52 : FA 68 52 RX12 "freeOn" "[I" true 2 := ⟨12, TX12, tyX12, cc12, by decide, by decide, by decide +kernel, by decide +kernel, rfl, by decide +kernel⟩
theorem fa68_53 : FA 68 53 RX12 "cheapest" "I" false 0 := ⟨12, TX12, tyX12, cc12, by decide, by decide, by decide +kernel, by decide +kernel, rfl, by decide +kernel⟩
theorem fa68_54 : FA 68 54 RX12 "hash" "J" false 1 := ⟨12, TX12, tyX12, cc12, by decide, by decide, by decide +kernel, by decide +kernel, rfl, by decide +kernel⟩
theorem aa69 : AA 69 20 6 := ⟨by decide, by decide, by decide +kernel, by decide +kernel⟩
theorem aa70 : AA 70 20 6 := ⟨by decide, by decide, by decide +kernel, by decide +kernel⟩
theorem aa71 : AA 71 20 360 := ⟨by decide, by decide, by decide +kernel, by decide +kernel⟩
theorem aa72 : AA 72 20 60 := ⟨by decide, by decide, by decide +kernel, by decide +kernel⟩
theorem aa73 : AA 73 20 4 := ⟨by decide, by decide, by decide +kernel, by decide +kernel⟩
theorem aa74 : AA 74 21 240 := ⟨by decide, by decide, by decide +kernel, by decide +kernel⟩
theorem aa75 : AA 75 20 8 := ⟨by decide, by decide, by decide +kernel, by decide +kernel⟩
theorem aa76 : AA 76 20 7 := ⟨by decide, by decide, by decide +kernel, by decide +kernel⟩
theorem aa77 : AA 77 20 7 := ⟨by decide, by decide, by decide +kernel, by decide +kernel⟩
theorem aa78 : AA 78 20 7 := ⟨by decide, by decide, by decide +kernel, by decide +kernel⟩
theorem aa79 : AA 79 20 8 := ⟨by decide, by decide, by decide +kernel, by decide +kernel⟩
theorem aa80 : AA 80 20 40 := ⟨by decide, by decide, by decide +kernel, by decide +kernel⟩
theorem aa81 : AA 81 20 8 := ⟨by decide, by decide, by decide +kernel, by decide +kernel⟩
theorem aa82 : AA 82 20 7 := ⟨by decide, by decide, by decide +kernel, by decide +kernel⟩
theorem aa83 : AA 83 20 7 := ⟨by decide, by decide, by decide +kernel, by decide +kernel⟩
theorem aa84 : AA 84 20 7 := ⟨by decide, by decide, by decide +kernel, by decide +kernel⟩
theorem aa85 : AA 85 20 8 := ⟨by decide, by decide, by decide +kernel, by decide +kernel⟩
theorem aa86 : AA 86 20 8 := ⟨by decide, by decide, by decide +kernel, by decide +kernel⟩
theorem aa87 : AA 87 20 480 := ⟨by decide, by decide, by decide +kernel, by decide +kernel⟩
theorem aa88 : AA 88 22 3 := ⟨by decide, by decide, by decide +kernel, by decide +kernel⟩
theorem aa89 : AA 89 20 21 := ⟨by decide, by decide, by decide +kernel, by decide +kernel⟩
theorem aa90 : AA 90 20 7 := ⟨by decide, by decide, by decide +kernel, by decide +kernel⟩
theorem aa91 : AA 91 20 7 := ⟨by decide, by decide, by decide +kernel, by decide +kernel⟩
theorem aa92 : AA 92 20 7 := ⟨by decide, by decide, by decide +kernel, by decide +kernel⟩
theorem aa93 : AA 93 20 7 := ⟨by decide, by decide, by decide +kernel, by decide +kernel⟩
theorem aa94 : AA 94 20 4 := ⟨by decide, by decide, by decide +kernel, by decide +kernel⟩
theorem aa95 : AA 95 20 4 := ⟨by decide, by decide, by decide +kernel, by decide +kernel⟩
theorem aa96 : AA 96 20 4 := ⟨by decide, by decide, by decide +kernel, by decide +kernel⟩
theorem aa97 : AA 97 20 4 := ⟨by decide, by decide, by decide +kernel, by decide +kernel⟩
theorem aa98 : AA 98 20 8 := ⟨by decide, by decide, by decide +kernel, by decide +kernel⟩
theorem row_all : ∀ q, q < 99 → kd q = 7 → 0 < q ∧ q + 1 ≤ NNc ∧ RT q 1 = q + 1 ∧ kd (q + 1) = 20 ∧ ln (q + 1) = 60 := by decide +kernel
theorem row_lt {q : Nat} (hq : kd q = 7) : q < 99 := by
  rcases Nat.lt_or_ge q 99 with h | h
  · exact h
  · exfalso
    have h1 : kd q = 99 := by unfold kd; rw [List.getD_eq_getElem?_getD, List.getElem?_eq_none (by exact h)]; rfl
    rw [h1] at hq
    exact absurd hq (by decide)
theorem row_pl {q : Nat} (hq : kd q = 7) : RT q 1 = q + 1 := (row_all q (row_lt hq) hq).2.2.1
theorem row_oa {q : Nat} (hq : kd q = 7) : OA q 7 := by
  have h := row_all q (row_lt hq) hq
  exact ⟨h.1, by omega, hq⟩
theorem row_aa {q : Nat} (hq : kd q = 7) : AA (q + 1) 20 60 := by
  have h := row_all q (row_lt hq) hq
  exact ⟨by omega, h.2.1, h.2.2.2.1, h.2.2.2.2⟩
theorem row_fa0 {q : Nat} (hq : kd q = 7) : FA q 0 RX7 "size" "I" false 0 := ⟨7, TX7, tyX7, cc7, (row_oa hq).1, (row_oa hq).2.1, hq, by decide +kernel, rfl, by decide +kernel⟩
theorem row_fa1 {q : Nat} (hq : kd q = 7) : FA q 1 RX7 "places" "[I" true 2 := ⟨7, TX7, tyX7, cc7, (row_oa hq).1, (row_oa hq).2.1, hq, by decide +kernel, rfl, by decide +kernel⟩
theorem txt_all : ∀ q, q < 99 → kd q = 9 → 0 < q ∧ q + 1 ≤ NNc ∧ RT q 1 = q + 1 ∧ kd (q + 1) = 21 ∧ ln (q + 1) = 60 := by decide +kernel
theorem txt_lt {q : Nat} (hq : kd q = 9) : q < 99 := by
  rcases Nat.lt_or_ge q 99 with h | h
  · exact h
  · exfalso
    have h1 : kd q = 99 := by unfold kd; rw [List.getD_eq_getElem?_getD, List.getElem?_eq_none (by exact h)]; rfl
    rw [h1] at hq
    exact absurd hq (by decide)
theorem txt_pl {q : Nat} (hq : kd q = 9) : RT q 1 = q + 1 := (txt_all q (txt_lt hq) hq).2.2.1
theorem txt_oa {q : Nat} (hq : kd q = 9) : OA q 9 := by
  have h := txt_all q (txt_lt hq) hq
  exact ⟨h.1, by omega, hq⟩
theorem txt_aa {q : Nat} (hq : kd q = 9) : AA (q + 1) 21 60 := by
  have h := txt_all q (txt_lt hq) hq
  exact ⟨by omega, h.2.1, h.2.2.2.1, h.2.2.2.2⟩
theorem txt_fa0 {q : Nat} (hq : kd q = 9) : FA q 0 RX9 "size" "I" false 0 := ⟨9, TX9, tyX9, cc9, (txt_oa hq).1, (txt_oa hq).2.1, hq, by decide +kernel, rfl, by decide +kernel⟩
theorem txt_fa1 {q : Nat} (hq : kd q = 9) : FA q 1 RX9 "bytes" "[B" true 2 := ⟨9, TX9, tyX9, cc9, (txt_oa hq).1, (txt_oa hq).2.1, hq, by decide +kernel, rfl, by decide +kernel⟩
end
