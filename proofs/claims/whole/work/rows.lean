section
-- ===== PART A: goes FIRST, ahead of the names: the tables' words, and 'selects' of the private methods out of them =====
/-- a private method of a class that the tables say can be made, by its rows of tables_1 -/
def lw_okq (q : MethodName × Nat) : Prop := (q.1.cls ≠ "java/lang/invoke/MethodHandle" ∧ q.1.cls ≠ "java/lang/invoke/VarHandle") ∧ Cond.instantiable q.1.cls q.2 ∈ tables_1 ∧ Cond.privateMethod q.1 ∈ tables_1 ∧ Cond.instanceMethod q.1 ∈ tables_1
theorem lw_p0 : lw_okq (⟨"EnginesAsleep$Rule", "readLevel", "(II)Z"⟩, 10) := ⟨⟨by decide +kernel, by decide +kernel⟩, List.mem_of_getElem? (i := 127) (by decide +kernel), List.mem_of_getElem? (i := 653) (by decide +kernel), List.mem_of_getElem? (i := 654) (by decide +kernel)⟩
theorem lw_p1 : lw_okq (⟨"EnginesAsleep$Rule", "readThing", "(I)Z"⟩, 10) := ⟨⟨by decide +kernel, by decide +kernel⟩, List.mem_of_getElem? (i := 127) (by decide +kernel), List.mem_of_getElem? (i := 657) (by decide +kernel), List.mem_of_getElem? (i := 658) (by decide +kernel)⟩
theorem lw_p2 : lw_okq (⟨"EnginesAsleep$Rule", "readCore", "(I)Z"⟩, 10) := ⟨⟨by decide +kernel, by decide +kernel⟩, List.mem_of_getElem? (i := 127) (by decide +kernel), List.mem_of_getElem? (i := 661) (by decide +kernel), List.mem_of_getElem? (i := 662) (by decide +kernel)⟩
theorem lw_p3 : lw_okq (⟨"EnginesAsleep$Rule", "readNumber", "()V"⟩, 10) := ⟨⟨by decide +kernel, by decide +kernel⟩, List.mem_of_getElem? (i := 127) (by decide +kernel), List.mem_of_getElem? (i := 668) (by decide +kernel), List.mem_of_getElem? (i := 669) (by decide +kernel)⟩
theorem lw_p4 : lw_okq (⟨"EnginesAsleep$Rule", "write", "(I)V"⟩, 10) := ⟨⟨by decide +kernel, by decide +kernel⟩, List.mem_of_getElem? (i := 127) (by decide +kernel), List.mem_of_getElem? (i := 672) (by decide +kernel), List.mem_of_getElem? (i := 673) (by decide +kernel)⟩
theorem lw_p5 : lw_okq (⟨"EnginesAsleep$Ways", "tryOrders", "(III)V"⟩, 14) := ⟨⟨by decide +kernel, by decide +kernel⟩, List.mem_of_getElem? (i := 268) (by decide +kernel), List.mem_of_getElem? (i := 929) (by decide +kernel), List.mem_of_getElem? (i := 930) (by decide +kernel)⟩
theorem lw_p6 : lw_okq (⟨"EnginesAsleep$Ways", "tryLastAway", "(LEnginesAsleep$Standing;III)V"⟩, 14) := ⟨⟨by decide +kernel, by decide +kernel⟩, List.mem_of_getElem? (i := 268) (by decide +kernel), List.mem_of_getElem? (i := 952) (by decide +kernel), List.mem_of_getElem? (i := 953) (by decide +kernel)⟩
theorem lw_p7 : lw_okq (⟨"EnginesAsleep$Ways", "tryBothAway", "(LEnginesAsleep$Standing;I)V"⟩, 14) := ⟨⟨by decide +kernel, by decide +kernel⟩, List.mem_of_getElem? (i := 268) (by decide +kernel), List.mem_of_getElem? (i := 959) (by decide +kernel), List.mem_of_getElem? (i := 960) (by decide +kernel)⟩
theorem lw_p8 : lw_okq (⟨"EnginesAsleep$Ways", "tryUnderHood", "(LEnginesAsleep$Standing;IIII)V"⟩, 14) := ⟨⟨by decide +kernel, by decide +kernel⟩, List.mem_of_getElem? (i := 268) (by decide +kernel), List.mem_of_getElem? (i := 973) (by decide +kernel), List.mem_of_getElem? (i := 974) (by decide +kernel)⟩
theorem lw_p9 : lw_okq (⟨"EnginesAsleep$Ways", "tryTwoUnder", "(LEnginesAsleep$Standing;I)V"⟩, 14) := ⟨⟨by decide +kernel, by decide +kernel⟩, List.mem_of_getElem? (i := 268) (by decide +kernel), List.mem_of_getElem? (i := 991) (by decide +kernel), List.mem_of_getElem? (i := 992) (by decide +kernel)⟩
theorem lw_p10 : lw_okq (⟨"EnginesAsleep$Berths", "isComing", "(I)Z"⟩, 15) := ⟨⟨by decide +kernel, by decide +kernel⟩, List.mem_of_getElem? (i := 320) (by decide +kernel), List.mem_of_getElem? (i := 1004) (by decide +kernel), List.mem_of_getElem? (i := 1005) (by decide +kernel)⟩
theorem lw_p11 : lw_okq (⟨"EnginesAsleep$Berths", "offerStall", "(II)V"⟩, 15) := ⟨⟨by decide +kernel, by decide +kernel⟩, List.mem_of_getElem? (i := 320) (by decide +kernel), List.mem_of_getElem? (i := 1037) (by decide +kernel), List.mem_of_getElem? (i := 1038) (by decide +kernel)⟩
theorem lw_p12 : lw_okq (⟨"EnginesAsleep$Berths", "foreLets", "(I)I"⟩, 15) := ⟨⟨by decide +kernel, by decide +kernel⟩, List.mem_of_getElem? (i := 320) (by decide +kernel), List.mem_of_getElem? (i := 1042) (by decide +kernel), List.mem_of_getElem? (i := 1043) (by decide +kernel)⟩
theorem lw_p13 : lw_okq (⟨"EnginesAsleep$Berths", "weight", "(II)J"⟩, 15) := ⟨⟨by decide +kernel, by decide +kernel⟩, List.mem_of_getElem? (i := 320) (by decide +kernel), List.mem_of_getElem? (i := 1047) (by decide +kernel), List.mem_of_getElem? (i := 1048) (by decide +kernel)⟩
theorem lw_p14 : lw_okq (⟨"EnginesAsleep$Berths", "joinTo", "(IJI)V"⟩, 15) := ⟨⟨by decide +kernel, by decide +kernel⟩, List.mem_of_getElem? (i := 320) (by decide +kernel), List.mem_of_getElem? (i := 1055) (by decide +kernel), List.mem_of_getElem? (i := 1056) (by decide +kernel)⟩
theorem lw_p15 : lw_okq (⟨"EnginesAsleep$Berths", "stallsFor", "(I)I"⟩, 15) := ⟨⟨by decide +kernel, by decide +kernel⟩, List.mem_of_getElem? (i := 320) (by decide +kernel), List.mem_of_getElem? (i := 1074) (by decide +kernel), List.mem_of_getElem? (i := 1075) (by decide +kernel)⟩
def lw_privs_1 : List (MethodName × Nat) := [(⟨"EnginesAsleep$Rule", "readLevel", "(II)Z"⟩, 10), (⟨"EnginesAsleep$Rule", "readThing", "(I)Z"⟩, 10), (⟨"EnginesAsleep$Rule", "readCore", "(I)Z"⟩, 10), (⟨"EnginesAsleep$Rule", "readNumber", "()V"⟩, 10), (⟨"EnginesAsleep$Rule", "write", "(I)V"⟩, 10), (⟨"EnginesAsleep$Ways", "tryOrders", "(III)V"⟩, 14), (⟨"EnginesAsleep$Ways", "tryLastAway", "(LEnginesAsleep$Standing;III)V"⟩, 14), (⟨"EnginesAsleep$Ways", "tryBothAway", "(LEnginesAsleep$Standing;I)V"⟩, 14), (⟨"EnginesAsleep$Ways", "tryUnderHood", "(LEnginesAsleep$Standing;IIII)V"⟩, 14), (⟨"EnginesAsleep$Ways", "tryTwoUnder", "(LEnginesAsleep$Standing;I)V"⟩, 14), (⟨"EnginesAsleep$Berths", "isComing", "(I)Z"⟩, 15), (⟨"EnginesAsleep$Berths", "offerStall", "(II)V"⟩, 15), (⟨"EnginesAsleep$Berths", "foreLets", "(I)I"⟩, 15), (⟨"EnginesAsleep$Berths", "weight", "(II)J"⟩, 15), (⟨"EnginesAsleep$Berths", "joinTo", "(IJI)V"⟩, 15), (⟨"EnginesAsleep$Berths", "stallsFor", "(I)I"⟩, 15)]
theorem lw_r1 : ∀ q ∈ lw_privs_1, lw_okq q := List.forall_mem_cons.mpr ⟨lw_p0, List.forall_mem_cons.mpr ⟨lw_p1, List.forall_mem_cons.mpr ⟨lw_p2, List.forall_mem_cons.mpr ⟨lw_p3, List.forall_mem_cons.mpr ⟨lw_p4, List.forall_mem_cons.mpr ⟨lw_p5, List.forall_mem_cons.mpr ⟨lw_p6, List.forall_mem_cons.mpr ⟨lw_p7, List.forall_mem_cons.mpr ⟨lw_p8, List.forall_mem_cons.mpr ⟨lw_p9, List.forall_mem_cons.mpr ⟨lw_p10, List.forall_mem_cons.mpr ⟨lw_p11, List.forall_mem_cons.mpr ⟨lw_p12, List.forall_mem_cons.mpr ⟨lw_p13, List.forall_mem_cons.mpr ⟨lw_p14, List.forall_mem_cons.mpr ⟨lw_p15, fun _ h => absurd h List.not_mem_nil⟩⟩⟩⟩⟩⟩⟩⟩⟩⟩⟩⟩⟩⟩⟩⟩
theorem lw_p16 : lw_okq (⟨"EnginesAsleep$Berths", "canSeat", "(II)Z"⟩, 15) := ⟨⟨by decide +kernel, by decide +kernel⟩, List.mem_of_getElem? (i := 320) (by decide +kernel), List.mem_of_getElem? (i := 1079) (by decide +kernel), List.mem_of_getElem? (i := 1080) (by decide +kernel)⟩
theorem lw_p17 : lw_okq (⟨"EnginesAsleep$Berths", "fixLeast", "(I)V"⟩, 15) := ⟨⟨by decide +kernel, by decide +kernel⟩, List.mem_of_getElem? (i := 320) (by decide +kernel), List.mem_of_getElem? (i := 1084) (by decide +kernel), List.mem_of_getElem? (i := 1085) (by decide +kernel)⟩
theorem lw_p18 : lw_okq (⟨"EnginesAsleep$Berths", "canSeatAnother", "()Z"⟩, 15) := ⟨⟨by decide +kernel, by decide +kernel⟩, List.mem_of_getElem? (i := 320) (by decide +kernel), List.mem_of_getElem? (i := 1088) (by decide +kernel), List.mem_of_getElem? (i := 1089) (by decide +kernel)⟩
theorem lw_p19 : lw_okq (⟨"EnginesAsleep$Bunker", "callUp", "(I)V"⟩, 11) := ⟨⟨by decide +kernel, by decide +kernel⟩, List.mem_of_getElem? (i := 376) (by decide +kernel), List.mem_of_getElem? (i := 1114) (by decide +kernel), List.mem_of_getElem? (i := 1115) (by decide +kernel)⟩
theorem lw_p20 : lw_okq (⟨"EnginesAsleep$Bunker", "tryGrades", "(I)V"⟩, 11) := ⟨⟨by decide +kernel, by decide +kernel⟩, List.mem_of_getElem? (i := 376) (by decide +kernel), List.mem_of_getElem? (i := 1119) (by decide +kernel), List.mem_of_getElem? (i := 1120) (by decide +kernel)⟩
theorem lw_p21 : lw_okq (⟨"EnginesAsleep$Bunker", "isBetter", "()Z"⟩, 11) := ⟨⟨by decide +kernel, by decide +kernel⟩, List.mem_of_getElem? (i := 376) (by decide +kernel), List.mem_of_getElem? (i := 1123) (by decide +kernel), List.mem_of_getElem? (i := 1124) (by decide +kernel)⟩
theorem lw_p22 : lw_okq (⟨"EnginesAsleep$Bunker", "canTake", "(II)Z"⟩, 11) := ⟨⟨by decide +kernel, by decide +kernel⟩, List.mem_of_getElem? (i := 376) (by decide +kernel), List.mem_of_getElem? (i := 1128) (by decide +kernel), List.mem_of_getElem? (i := 1129) (by decide +kernel)⟩
theorem lw_p23 : lw_okq (⟨"EnginesAsleep$Bunker", "canCoal", "(II)Z"⟩, 11) := ⟨⟨by decide +kernel, by decide +kernel⟩, List.mem_of_getElem? (i := 376) (by decide +kernel), List.mem_of_getElem? (i := 1146) (by decide +kernel), List.mem_of_getElem? (i := 1147) (by decide +kernel)⟩
theorem lw_p24 : lw_okq (⟨"EnginesAsleep$Trains", "offerEngine", "(IZ)V"⟩, 18) := ⟨⟨by decide +kernel, by decide +kernel⟩, List.mem_of_getElem? (i := 418) (by decide +kernel), List.mem_of_getElem? (i := 1191) (by decide +kernel), List.mem_of_getElem? (i := 1192) (by decide +kernel)⟩
theorem lw_p25 : lw_okq (⟨"EnginesAsleep$Dawn", "lightAll", "()V"⟩, 10) := ⟨⟨by decide +kernel, by decide +kernel⟩, List.mem_of_getElem? (i := 487) (by decide +kernel), List.mem_of_getElem? (i := 1249) (by decide +kernel), List.mem_of_getElem? (i := 1250) (by decide +kernel)⟩
theorem lw_p26 : lw_okq (⟨"EnginesAsleep$Dawn", "lightOne", "(I)V"⟩, 10) := ⟨⟨by decide +kernel, by decide +kernel⟩, List.mem_of_getElem? (i := 487) (by decide +kernel), List.mem_of_getElem? (i := 1253) (by decide +kernel), List.mem_of_getElem? (i := 1254) (by decide +kernel)⟩
theorem lw_p27 : lw_okq (⟨"EnginesAsleep$Dawn", "waitOnRoad", "(II)I"⟩, 10) := ⟨⟨by decide +kernel, by decide +kernel⟩, List.mem_of_getElem? (i := 487) (by decide +kernel), List.mem_of_getElem? (i := 1260) (by decide +kernel), List.mem_of_getElem? (i := 1261) (by decide +kernel)⟩
theorem lw_p28 : lw_okq (⟨"EnginesAsleep$Dawn", "comeFromStall", "(II)I"⟩, 10) := ⟨⟨by decide +kernel, by decide +kernel⟩, List.mem_of_getElem? (i := 487) (by decide +kernel), List.mem_of_getElem? (i := 1269) (by decide +kernel), List.mem_of_getElem? (i := 1270) (by decide +kernel)⟩
theorem lw_p29 : lw_okq (⟨"EnginesAsleep$Dawn", "canExchange", "(II)Z"⟩, 10) := ⟨⟨by decide +kernel, by decide +kernel⟩, List.mem_of_getElem? (i := 487) (by decide +kernel), List.mem_of_getElem? (i := 1275) (by decide +kernel), List.mem_of_getElem? (i := 1276) (by decide +kernel)⟩
theorem lw_p30 : lw_okq (⟨"EnginesAsleep$Dawn", "swap", "(II)V"⟩, 10) := ⟨⟨by decide +kernel, by decide +kernel⟩, List.mem_of_getElem? (i := 487) (by decide +kernel), List.mem_of_getElem? (i := 1280) (by decide +kernel), List.mem_of_getElem? (i := 1281) (by decide +kernel)⟩
theorem lw_p31 : lw_okq (⟨"EnginesAsleep$Trains", "canShare", "(IIII)Z"⟩, 18) := ⟨⟨by decide +kernel, by decide +kernel⟩, List.mem_of_getElem? (i := 418) (by decide +kernel), List.mem_of_getElem? (i := 1294) (by decide +kernel), List.mem_of_getElem? (i := 1295) (by decide +kernel)⟩
def lw_privs_2 : List (MethodName × Nat) := [(⟨"EnginesAsleep$Berths", "canSeat", "(II)Z"⟩, 15), (⟨"EnginesAsleep$Berths", "fixLeast", "(I)V"⟩, 15), (⟨"EnginesAsleep$Berths", "canSeatAnother", "()Z"⟩, 15), (⟨"EnginesAsleep$Bunker", "callUp", "(I)V"⟩, 11), (⟨"EnginesAsleep$Bunker", "tryGrades", "(I)V"⟩, 11), (⟨"EnginesAsleep$Bunker", "isBetter", "()Z"⟩, 11), (⟨"EnginesAsleep$Bunker", "canTake", "(II)Z"⟩, 11), (⟨"EnginesAsleep$Bunker", "canCoal", "(II)Z"⟩, 11), (⟨"EnginesAsleep$Trains", "offerEngine", "(IZ)V"⟩, 18), (⟨"EnginesAsleep$Dawn", "lightAll", "()V"⟩, 10), (⟨"EnginesAsleep$Dawn", "lightOne", "(I)V"⟩, 10), (⟨"EnginesAsleep$Dawn", "waitOnRoad", "(II)I"⟩, 10), (⟨"EnginesAsleep$Dawn", "comeFromStall", "(II)I"⟩, 10), (⟨"EnginesAsleep$Dawn", "canExchange", "(II)Z"⟩, 10), (⟨"EnginesAsleep$Dawn", "swap", "(II)V"⟩, 10), (⟨"EnginesAsleep$Trains", "canShare", "(IIII)Z"⟩, 18)]
theorem lw_r2 : ∀ q ∈ lw_privs_2, lw_okq q := List.forall_mem_cons.mpr ⟨lw_p16, List.forall_mem_cons.mpr ⟨lw_p17, List.forall_mem_cons.mpr ⟨lw_p18, List.forall_mem_cons.mpr ⟨lw_p19, List.forall_mem_cons.mpr ⟨lw_p20, List.forall_mem_cons.mpr ⟨lw_p21, List.forall_mem_cons.mpr ⟨lw_p22, List.forall_mem_cons.mpr ⟨lw_p23, List.forall_mem_cons.mpr ⟨lw_p24, List.forall_mem_cons.mpr ⟨lw_p25, List.forall_mem_cons.mpr ⟨lw_p26, List.forall_mem_cons.mpr ⟨lw_p27, List.forall_mem_cons.mpr ⟨lw_p28, List.forall_mem_cons.mpr ⟨lw_p29, List.forall_mem_cons.mpr ⟨lw_p30, List.forall_mem_cons.mpr ⟨lw_p31, fun _ h => absurd h List.not_mem_nil⟩⟩⟩⟩⟩⟩⟩⟩⟩⟩⟩⟩⟩⟩⟩⟩
theorem lw_p32 : lw_okq (⟨"EnginesAsleep$Trains", "canCrew", "(III)Z"⟩, 18) := ⟨⟨by decide +kernel, by decide +kernel⟩, List.mem_of_getElem? (i := 418) (by decide +kernel), List.mem_of_getElem? (i := 1298) (by decide +kernel), List.mem_of_getElem? (i := 1299) (by decide +kernel)⟩
theorem lw_p33 : lw_okq (⟨"EnginesAsleep$Trains", "latestOf", "(I)I"⟩, 18) := ⟨⟨by decide +kernel, by decide +kernel⟩, List.mem_of_getElem? (i := 418) (by decide +kernel), List.mem_of_getElem? (i := 1312) (by decide +kernel), List.mem_of_getElem? (i := 1313) (by decide +kernel)⟩
theorem lw_p34 : lw_okq (⟨"EnginesAsleep$Trains", "litBy", "(I)I"⟩, 18) := ⟨⟨by decide +kernel, by decide +kernel⟩, List.mem_of_getElem? (i := 418) (by decide +kernel), List.mem_of_getElem? (i := 1316) (by decide +kernel), List.mem_of_getElem? (i := 1317) (by decide +kernel)⟩
theorem lw_p35 : lw_okq (⟨"EnginesAsleep$Ways", "canWarm", "(III)Z"⟩, 14) := ⟨⟨by decide +kernel, by decide +kernel⟩, List.mem_of_getElem? (i := 268) (by decide +kernel), List.mem_of_getElem? (i := 1347) (by decide +kernel), List.mem_of_getElem? (i := 1348) (by decide +kernel)⟩
theorem lw_p36 : lw_okq (⟨"java/lang/Throwable", "fillInStackTrace", "(I)Ljava/lang/Throwable;"⟩, 6) := ⟨⟨by decide +kernel, by decide +kernel⟩, List.mem_of_getElem? (i := 1432) (by decide +kernel), List.mem_of_getElem? (i := 1430) (by decide +kernel), List.mem_of_getElem? (i := 1431) (by decide +kernel)⟩
theorem lw_p37 : lw_okq (⟨"EnginesAsleepModel", "fresh", "()V"⟩, 84) := ⟨⟨by decide +kernel, by decide +kernel⟩, List.mem_of_getElem? (i := 1475) (by decide +kernel), List.mem_of_getElem? (i := 1482) (by decide +kernel), List.mem_of_getElem? (i := 1483) (by decide +kernel)⟩
theorem lw_p38 : lw_okq (⟨"EnginesAsleepModel", "isAnyIn", "()Z"⟩, 84) := ⟨⟨by decide +kernel, by decide +kernel⟩, List.mem_of_getElem? (i := 1475) (by decide +kernel), List.mem_of_getElem? (i := 1750) (by decide +kernel), List.mem_of_getElem? (i := 1751) (by decide +kernel)⟩
theorem lw_p39 : lw_okq (⟨"EnginesAsleepModel", "isStall", "(I)Z"⟩, 84) := ⟨⟨by decide +kernel, by decide +kernel⟩, List.mem_of_getElem? (i := 1475) (by decide +kernel), List.mem_of_getElem? (i := 1758) (by decide +kernel), List.mem_of_getElem? (i := 1759) (by decide +kernel)⟩
theorem lw_p40 : lw_okq (⟨"EnginesAsleepModel", "lengthIn", "(I)I"⟩, 84) := ⟨⟨by decide +kernel, by decide +kernel⟩, List.mem_of_getElem? (i := 1475) (by decide +kernel), List.mem_of_getElem? (i := 1762) (by decide +kernel), List.mem_of_getElem? (i := 1763) (by decide +kernel)⟩
theorem lw_p41 : lw_okq (⟨"EnginesAsleepModel", "isPoint", "(I)Z"⟩, 84) := ⟨⟨by decide +kernel, by decide +kernel⟩, List.mem_of_getElem? (i := 1475) (by decide +kernel), List.mem_of_getElem? (i := 1784) (by decide +kernel), List.mem_of_getElem? (i := 1785) (by decide +kernel)⟩
theorem lw_p42 : lw_okq (⟨"EnginesAsleepModel", "stepsOf", "(II)I"⟩, 84) := ⟨⟨by decide +kernel, by decide +kernel⟩, List.mem_of_getElem? (i := 1475) (by decide +kernel), List.mem_of_getElem? (i := 1788) (by decide +kernel), List.mem_of_getElem? (i := 1789) (by decide +kernel)⟩
theorem lw_p43 : lw_okq (⟨"EnginesAsleepModel", "either", "(I)I"⟩, 84) := ⟨⟨by decide +kernel, by decide +kernel⟩, List.mem_of_getElem? (i := 1475) (by decide +kernel), List.mem_of_getElem? (i := 1807) (by decide +kernel), List.mem_of_getElem? (i := 1808) (by decide +kernel)⟩
theorem lw_p44 : lw_okq (⟨"EnginesAsleepModel", "both", "(I)I"⟩, 84) := ⟨⟨by decide +kernel, by decide +kernel⟩, List.mem_of_getElem? (i := 1475) (by decide +kernel), List.mem_of_getElem? (i := 1811) (by decide +kernel), List.mem_of_getElem? (i := 1812) (by decide +kernel)⟩
theorem lw_p45 : lw_okq (⟨"EnginesAsleepModel", "held", "(I)I"⟩, 84) := ⟨⟨by decide +kernel, by decide +kernel⟩, List.mem_of_getElem? (i := 1475) (by decide +kernel), List.mem_of_getElem? (i := 1815) (by decide +kernel), List.mem_of_getElem? (i := 1816) (by decide +kernel)⟩
theorem lw_p46 : lw_okq (⟨"EnginesAsleepModel", "sum", "(I)I"⟩, 84) := ⟨⟨by decide +kernel, by decide +kernel⟩, List.mem_of_getElem? (i := 1475) (by decide +kernel), List.mem_of_getElem? (i := 1819) (by decide +kernel), List.mem_of_getElem? (i := 1820) (by decide +kernel)⟩
theorem lw_p47 : lw_okq (⟨"EnginesAsleepModel", "thing", "(I)I"⟩, 84) := ⟨⟨by decide +kernel, by decide +kernel⟩, List.mem_of_getElem? (i := 1475) (by decide +kernel), List.mem_of_getElem? (i := 1823) (by decide +kernel), List.mem_of_getElem? (i := 1824) (by decide +kernel)⟩
def lw_privs_3 : List (MethodName × Nat) := [(⟨"EnginesAsleep$Trains", "canCrew", "(III)Z"⟩, 18), (⟨"EnginesAsleep$Trains", "latestOf", "(I)I"⟩, 18), (⟨"EnginesAsleep$Trains", "litBy", "(I)I"⟩, 18), (⟨"EnginesAsleep$Ways", "canWarm", "(III)Z"⟩, 14), (⟨"java/lang/Throwable", "fillInStackTrace", "(I)Ljava/lang/Throwable;"⟩, 6), (⟨"EnginesAsleepModel", "fresh", "()V"⟩, 84), (⟨"EnginesAsleepModel", "isAnyIn", "()Z"⟩, 84), (⟨"EnginesAsleepModel", "isStall", "(I)Z"⟩, 84), (⟨"EnginesAsleepModel", "lengthIn", "(I)I"⟩, 84), (⟨"EnginesAsleepModel", "isPoint", "(I)Z"⟩, 84), (⟨"EnginesAsleepModel", "stepsOf", "(II)I"⟩, 84), (⟨"EnginesAsleepModel", "either", "(I)I"⟩, 84), (⟨"EnginesAsleepModel", "both", "(I)I"⟩, 84), (⟨"EnginesAsleepModel", "held", "(I)I"⟩, 84), (⟨"EnginesAsleepModel", "sum", "(I)I"⟩, 84), (⟨"EnginesAsleepModel", "thing", "(I)I"⟩, 84)]
theorem lw_r3 : ∀ q ∈ lw_privs_3, lw_okq q := List.forall_mem_cons.mpr ⟨lw_p32, List.forall_mem_cons.mpr ⟨lw_p33, List.forall_mem_cons.mpr ⟨lw_p34, List.forall_mem_cons.mpr ⟨lw_p35, List.forall_mem_cons.mpr ⟨lw_p36, List.forall_mem_cons.mpr ⟨lw_p37, List.forall_mem_cons.mpr ⟨lw_p38, List.forall_mem_cons.mpr ⟨lw_p39, List.forall_mem_cons.mpr ⟨lw_p40, List.forall_mem_cons.mpr ⟨lw_p41, List.forall_mem_cons.mpr ⟨lw_p42, List.forall_mem_cons.mpr ⟨lw_p43, List.forall_mem_cons.mpr ⟨lw_p44, List.forall_mem_cons.mpr ⟨lw_p45, List.forall_mem_cons.mpr ⟨lw_p46, List.forall_mem_cons.mpr ⟨lw_p47, fun _ h => absurd h List.not_mem_nil⟩⟩⟩⟩⟩⟩⟩⟩⟩⟩⟩⟩⟩⟩⟩⟩
theorem lw_p48 : lw_okq (⟨"EnginesAsleepModel", "passes", "(C)Z"⟩, 84) := ⟨⟨by decide +kernel, by decide +kernel⟩, List.mem_of_getElem? (i := 1475) (by decide +kernel), List.mem_of_getElem? (i := 1827) (by decide +kernel), List.mem_of_getElem? (i := 1828) (by decide +kernel)⟩
theorem lw_p49 : lw_okq (⟨"EnginesAsleepModel", "fine", "()Z"⟩, 84) := ⟨⟨by decide +kernel, by decide +kernel⟩, List.mem_of_getElem? (i := 1475) (by decide +kernel), List.mem_of_getElem? (i := 1831) (by decide +kernel), List.mem_of_getElem? (i := 1832) (by decide +kernel)⟩
theorem lw_p50 : lw_okq (⟨"EnginesAsleepModel", "here", "()I"⟩, 84) := ⟨⟨by decide +kernel, by decide +kernel⟩, List.mem_of_getElem? (i := 1475) (by decide +kernel), List.mem_of_getElem? (i := 1835) (by decide +kernel), List.mem_of_getElem? (i := 1836) (by decide +kernel)⟩
theorem lw_p51 : lw_okq (⟨"EnginesAsleepModel", "isWrong", "()V"⟩, 84) := ⟨⟨by decide +kernel, by decide +kernel⟩, List.mem_of_getElem? (i := 1475) (by decide +kernel), List.mem_of_getElem? (i := 1839) (by decide +kernel), List.mem_of_getElem? (i := 1840) (by decide +kernel)⟩
theorem lw_p52 : lw_okq (⟨"EnginesAsleepModel", "letter", "(C)I"⟩, 84) := ⟨⟨by decide +kernel, by decide +kernel⟩, List.mem_of_getElem? (i := 1475) (by decide +kernel), List.mem_of_getElem? (i := 1843) (by decide +kernel), List.mem_of_getElem? (i := 1844) (by decide +kernel)⟩
theorem lw_p53 : lw_okq (⟨"EnginesAsleepModel", "isSteaming", "(I)Z"⟩, 84) := ⟨⟨by decide +kernel, by decide +kernel⟩, List.mem_of_getElem? (i := 1475) (by decide +kernel), List.mem_of_getElem? (i := 1847) (by decide +kernel), List.mem_of_getElem? (i := 1848) (by decide +kernel)⟩
theorem lw_p54 : lw_okq (⟨"EnginesAsleepModel", "isEngine", "(I)Z"⟩, 84) := ⟨⟨by decide +kernel, by decide +kernel⟩, List.mem_of_getElem? (i := 1475) (by decide +kernel), List.mem_of_getElem? (i := 1859) (by decide +kernel), List.mem_of_getElem? (i := 1860) (by decide +kernel)⟩
theorem lw_p55 : lw_okq (⟨"EnginesAsleepModel", "lost", "()I"⟩, 84) := ⟨⟨by decide +kernel, by decide +kernel⟩, List.mem_of_getElem? (i := 1475) (by decide +kernel), List.mem_of_getElem? (i := 1875) (by decide +kernel), List.mem_of_getElem? (i := 1876) (by decide +kernel)⟩
theorem lw_p56 : lw_okq (⟨"EnginesAsleepModel", "pointOf", "(I)I"⟩, 84) := ⟨⟨by decide +kernel, by decide +kernel⟩, List.mem_of_getElem? (i := 1475) (by decide +kernel), List.mem_of_getElem? (i := 1879) (by decide +kernel), List.mem_of_getElem? (i := 1880) (by decide +kernel)⟩
theorem lw_p57 : lw_okq (⟨"EnginesAsleepModel", "isAtBack", "(I)Z"⟩, 84) := ⟨⟨by decide +kernel, by decide +kernel⟩, List.mem_of_getElem? (i := 1475) (by decide +kernel), List.mem_of_getElem? (i := 1883) (by decide +kernel), List.mem_of_getElem? (i := 1884) (by decide +kernel)⟩
theorem lw_p58 : lw_okq (⟨"EnginesAsleepModel", "ahead", "(I)I"⟩, 84) := ⟨⟨by decide +kernel, by decide +kernel⟩, List.mem_of_getElem? (i := 1475) (by decide +kernel), List.mem_of_getElem? (i := 1887) (by decide +kernel), List.mem_of_getElem? (i := 1888) (by decide +kernel)⟩
theorem lw_p59 : lw_okq (⟨"EnginesAsleepModel", "isHooded", "(I)Z"⟩, 84) := ⟨⟨by decide +kernel, by decide +kernel⟩, List.mem_of_getElem? (i := 1475) (by decide +kernel), List.mem_of_getElem? (i := 1891) (by decide +kernel), List.mem_of_getElem? (i := 1892) (by decide +kernel)⟩
theorem lw_p60 : lw_okq (⟨"EnginesAsleepModel", "isTaking", "(II)Z"⟩, 84) := ⟨⟨by decide +kernel, by decide +kernel⟩, List.mem_of_getElem? (i := 1475) (by decide +kernel), List.mem_of_getElem? (i := 1899) (by decide +kernel), List.mem_of_getElem? (i := 1900) (by decide +kernel)⟩
theorem lw_p61 : lw_okq (⟨"EnginesAsleepModel", "isLet", "(IIZ)Z"⟩, 84) := ⟨⟨by decide +kernel, by decide +kernel⟩, List.mem_of_getElem? (i := 1475) (by decide +kernel), List.mem_of_getElem? (i := 1903) (by decide +kernel), List.mem_of_getElem? (i := 1904) (by decide +kernel)⟩
theorem lw_p62 : lw_okq (⟨"EnginesAsleepModel", "smoking", "()I"⟩, 84) := ⟨⟨by decide +kernel, by decide +kernel⟩, List.mem_of_getElem? (i := 1475) (by decide +kernel), List.mem_of_getElem? (i := 1911) (by decide +kernel), List.mem_of_getElem? (i := 1912) (by decide +kernel)⟩
theorem lw_p63 : lw_okq (⟨"EnginesAsleepModel", "mayGo", "(I)Z"⟩, 84) := ⟨⟨by decide +kernel, by decide +kernel⟩, List.mem_of_getElem? (i := 1475) (by decide +kernel), List.mem_of_getElem? (i := 1923) (by decide +kernel), List.mem_of_getElem? (i := 1924) (by decide +kernel)⟩
def lw_privs_4 : List (MethodName × Nat) := [(⟨"EnginesAsleepModel", "passes", "(C)Z"⟩, 84), (⟨"EnginesAsleepModel", "fine", "()Z"⟩, 84), (⟨"EnginesAsleepModel", "here", "()I"⟩, 84), (⟨"EnginesAsleepModel", "isWrong", "()V"⟩, 84), (⟨"EnginesAsleepModel", "letter", "(C)I"⟩, 84), (⟨"EnginesAsleepModel", "isSteaming", "(I)Z"⟩, 84), (⟨"EnginesAsleepModel", "isEngine", "(I)Z"⟩, 84), (⟨"EnginesAsleepModel", "lost", "()I"⟩, 84), (⟨"EnginesAsleepModel", "pointOf", "(I)I"⟩, 84), (⟨"EnginesAsleepModel", "isAtBack", "(I)Z"⟩, 84), (⟨"EnginesAsleepModel", "ahead", "(I)I"⟩, 84), (⟨"EnginesAsleepModel", "isHooded", "(I)Z"⟩, 84), (⟨"EnginesAsleepModel", "isTaking", "(II)Z"⟩, 84), (⟨"EnginesAsleepModel", "isLet", "(IIZ)Z"⟩, 84), (⟨"EnginesAsleepModel", "smoking", "()I"⟩, 84), (⟨"EnginesAsleepModel", "mayGo", "(I)Z"⟩, 84)]
theorem lw_r4 : ∀ q ∈ lw_privs_4, lw_okq q := List.forall_mem_cons.mpr ⟨lw_p48, List.forall_mem_cons.mpr ⟨lw_p49, List.forall_mem_cons.mpr ⟨lw_p50, List.forall_mem_cons.mpr ⟨lw_p51, List.forall_mem_cons.mpr ⟨lw_p52, List.forall_mem_cons.mpr ⟨lw_p53, List.forall_mem_cons.mpr ⟨lw_p54, List.forall_mem_cons.mpr ⟨lw_p55, List.forall_mem_cons.mpr ⟨lw_p56, List.forall_mem_cons.mpr ⟨lw_p57, List.forall_mem_cons.mpr ⟨lw_p58, List.forall_mem_cons.mpr ⟨lw_p59, List.forall_mem_cons.mpr ⟨lw_p60, List.forall_mem_cons.mpr ⟨lw_p61, List.forall_mem_cons.mpr ⟨lw_p62, List.forall_mem_cons.mpr ⟨lw_p63, fun _ h => absurd h List.not_mem_nil⟩⟩⟩⟩⟩⟩⟩⟩⟩⟩⟩⟩⟩⟩⟩⟩
theorem lw_p64 : lw_okq (⟨"EnginesAsleepModel", "canBe", "(II)Z"⟩, 84) := ⟨⟨by decide +kernel, by decide +kernel⟩, List.mem_of_getElem? (i := 1475) (by decide +kernel), List.mem_of_getElem? (i := 1927) (by decide +kernel), List.mem_of_getElem? (i := 1928) (by decide +kernel)⟩
theorem lw_p65 : lw_okq (⟨"EnginesAsleepModel", "cost", "(II)I"⟩, 84) := ⟨⟨by decide +kernel, by decide +kernel⟩, List.mem_of_getElem? (i := 1475) (by decide +kernel), List.mem_of_getElem? (i := 1931) (by decide +kernel), List.mem_of_getElem? (i := 1932) (by decide +kernel)⟩
theorem lw_p66 : lw_okq (⟨"EnginesAsleepModel", "bring", "(III)V"⟩, 84) := ⟨⟨by decide +kernel, by decide +kernel⟩, List.mem_of_getElem? (i := 1475) (by decide +kernel), List.mem_of_getElem? (i := 1935) (by decide +kernel), List.mem_of_getElem? (i := 1936) (by decide +kernel)⟩
theorem lw_p67 : lw_okq (⟨"EnginesAsleepModel", "takeOut", "(I)V"⟩, 84) := ⟨⟨by decide +kernel, by decide +kernel⟩, List.mem_of_getElem? (i := 1475) (by decide +kernel), List.mem_of_getElem? (i := 1939) (by decide +kernel), List.mem_of_getElem? (i := 1940) (by decide +kernel)⟩
theorem lw_p68 : lw_okq (⟨"EnginesAsleepModel", "putIn", "(II)V"⟩, 84) := ⟨⟨by decide +kernel, by decide +kernel⟩, List.mem_of_getElem? (i := 1475) (by decide +kernel), List.mem_of_getElem? (i := 1943) (by decide +kernel), List.mem_of_getElem? (i := 1944) (by decide +kernel)⟩
theorem lw_p69 : lw_okq (⟨"EnginesAsleepModel", "freeNow", "(I)Z"⟩, 84) := ⟨⟨by decide +kernel, by decide +kernel⟩, List.mem_of_getElem? (i := 1475) (by decide +kernel), List.mem_of_getElem? (i := 1955) (by decide +kernel), List.mem_of_getElem? (i := 1956) (by decide +kernel)⟩
theorem lw_p70 : lw_okq (⟨"EnginesAsleepModel", "undo", "(I)V"⟩, 84) := ⟨⟨by decide +kernel, by decide +kernel⟩, List.mem_of_getElem? (i := 1475) (by decide +kernel), List.mem_of_getElem? (i := 1959) (by decide +kernel), List.mem_of_getElem? (i := 1960) (by decide +kernel)⟩
theorem lw_p71 : lw_okq (⟨"EnginesAsleepModel", "tell", "(I)V"⟩, 84) := ⟨⟨by decide +kernel, by decide +kernel⟩, List.mem_of_getElem? (i := 1475) (by decide +kernel), List.mem_of_getElem? (i := 1963) (by decide +kernel), List.mem_of_getElem? (i := 1964) (by decide +kernel)⟩
theorem lw_p72 : lw_okq (⟨"EnginesAsleepModel", "inStalls", "()I"⟩, 84) := ⟨⟨by decide +kernel, by decide +kernel⟩, List.mem_of_getElem? (i := 1475) (by decide +kernel), List.mem_of_getElem? (i := 1971) (by decide +kernel), List.mem_of_getElem? (i := 1972) (by decide +kernel)⟩
theorem lw_p73 : lw_okq (⟨"EnginesAsleepModel", "orderFrom", "(III)V"⟩, 84) := ⟨⟨by decide +kernel, by decide +kernel⟩, List.mem_of_getElem? (i := 1475) (by decide +kernel), List.mem_of_getElem? (i := 1976) (by decide +kernel), List.mem_of_getElem? (i := 1977) (by decide +kernel)⟩
theorem lw_p74 : lw_okq (⟨"EnginesAsleepModel", "offer", "(II)V"⟩, 84) := ⟨⟨by decide +kernel, by decide +kernel⟩, List.mem_of_getElem? (i := 1475) (by decide +kernel), List.mem_of_getElem? (i := 1980) (by decide +kernel), List.mem_of_getElem? (i := 1981) (by decide +kernel)⟩
theorem lw_p75 : lw_okq (⟨"EnginesAsleepModel", "tellBest", "()V"⟩, 84) := ⟨⟨by decide +kernel, by decide +kernel⟩, List.mem_of_getElem? (i := 1475) (by decide +kernel), List.mem_of_getElem? (i := 1984) (by decide +kernel), List.mem_of_getElem? (i := 1985) (by decide +kernel)⟩
theorem lw_p76 : lw_okq (⟨"EnginesAsleepModel", "clearFrom", "(III)V"⟩, 84) := ⟨⟨by decide +kernel, by decide +kernel⟩, List.mem_of_getElem? (i := 1475) (by decide +kernel), List.mem_of_getElem? (i := 1992) (by decide +kernel), List.mem_of_getElem? (i := 1993) (by decide +kernel)⟩
theorem lw_p77 : lw_okq (⟨"EnginesAsleepModel", "underFrom", "(III)V"⟩, 84) := ⟨⟨by decide +kernel, by decide +kernel⟩, List.mem_of_getElem? (i := 1475) (by decide +kernel), List.mem_of_getElem? (i := 2000) (by decide +kernel), List.mem_of_getElem? (i := 2001) (by decide +kernel)⟩
theorem lw_p78 : lw_okq (⟨"EnginesAsleepModel", "leaveOf", "(I)I"⟩, 84) := ⟨⟨by decide +kernel, by decide +kernel⟩, List.mem_of_getElem? (i := 1475) (by decide +kernel), List.mem_of_getElem? (i := 2012) (by decide +kernel), List.mem_of_getElem? (i := 2013) (by decide +kernel)⟩
theorem lw_p79 : lw_okq (⟨"EnginesAsleepModel", "findSum", "(II)V"⟩, 84) := ⟨⟨by decide +kernel, by decide +kernel⟩, List.mem_of_getElem? (i := 1475) (by decide +kernel), List.mem_of_getElem? (i := 2025) (by decide +kernel), List.mem_of_getElem? (i := 2026) (by decide +kernel)⟩
def lw_privs_5 : List (MethodName × Nat) := [(⟨"EnginesAsleepModel", "canBe", "(II)Z"⟩, 84), (⟨"EnginesAsleepModel", "cost", "(II)I"⟩, 84), (⟨"EnginesAsleepModel", "bring", "(III)V"⟩, 84), (⟨"EnginesAsleepModel", "takeOut", "(I)V"⟩, 84), (⟨"EnginesAsleepModel", "putIn", "(II)V"⟩, 84), (⟨"EnginesAsleepModel", "freeNow", "(I)Z"⟩, 84), (⟨"EnginesAsleepModel", "undo", "(I)V"⟩, 84), (⟨"EnginesAsleepModel", "tell", "(I)V"⟩, 84), (⟨"EnginesAsleepModel", "inStalls", "()I"⟩, 84), (⟨"EnginesAsleepModel", "orderFrom", "(III)V"⟩, 84), (⟨"EnginesAsleepModel", "offer", "(II)V"⟩, 84), (⟨"EnginesAsleepModel", "tellBest", "()V"⟩, 84), (⟨"EnginesAsleepModel", "clearFrom", "(III)V"⟩, 84), (⟨"EnginesAsleepModel", "underFrom", "(III)V"⟩, 84), (⟨"EnginesAsleepModel", "leaveOf", "(I)I"⟩, 84), (⟨"EnginesAsleepModel", "findSum", "(II)V"⟩, 84)]
theorem lw_r5 : ∀ q ∈ lw_privs_5, lw_okq q := List.forall_mem_cons.mpr ⟨lw_p64, List.forall_mem_cons.mpr ⟨lw_p65, List.forall_mem_cons.mpr ⟨lw_p66, List.forall_mem_cons.mpr ⟨lw_p67, List.forall_mem_cons.mpr ⟨lw_p68, List.forall_mem_cons.mpr ⟨lw_p69, List.forall_mem_cons.mpr ⟨lw_p70, List.forall_mem_cons.mpr ⟨lw_p71, List.forall_mem_cons.mpr ⟨lw_p72, List.forall_mem_cons.mpr ⟨lw_p73, List.forall_mem_cons.mpr ⟨lw_p74, List.forall_mem_cons.mpr ⟨lw_p75, List.forall_mem_cons.mpr ⟨lw_p76, List.forall_mem_cons.mpr ⟨lw_p77, List.forall_mem_cons.mpr ⟨lw_p78, List.forall_mem_cons.mpr ⟨lw_p79, fun _ h => absurd h List.not_mem_nil⟩⟩⟩⟩⟩⟩⟩⟩⟩⟩⟩⟩⟩⟩⟩⟩
theorem lw_p80 : lw_okq (⟨"EnginesAsleepModel", "cheapest", "(I)I"⟩, 84) := ⟨⟨by decide +kernel, by decide +kernel⟩, List.mem_of_getElem? (i := 1475) (by decide +kernel), List.mem_of_getElem? (i := 2029) (by decide +kernel), List.mem_of_getElem? (i := 2030) (by decide +kernel)⟩
theorem lw_p81 : lw_okq (⟨"EnginesAsleepModel", "canStand", "(II)Z"⟩, 84) := ⟨⟨by decide +kernel, by decide +kernel⟩, List.mem_of_getElem? (i := 1475) (by decide +kernel), List.mem_of_getElem? (i := 2033) (by decide +kernel), List.mem_of_getElem? (i := 2034) (by decide +kernel)⟩
theorem lw_p82 : lw_okq (⟨"EnginesAsleepModel", "stand", "(IIZ)V"⟩, 84) := ⟨⟨by decide +kernel, by decide +kernel⟩, List.mem_of_getElem? (i := 1475) (by decide +kernel), List.mem_of_getElem? (i := 2037) (by decide +kernel), List.mem_of_getElem? (i := 2038) (by decide +kernel)⟩
theorem lw_p83 : lw_okq (⟨"EnginesAsleepModel", "findRow", "(II)Z"⟩, 84) := ⟨⟨by decide +kernel, by decide +kernel⟩, List.mem_of_getElem? (i := 1475) (by decide +kernel), List.mem_of_getElem? (i := 2041) (by decide +kernel), List.mem_of_getElem? (i := 2042) (by decide +kernel)⟩
theorem lw_p84 : lw_okq (⟨"EnginesAsleepModel", "mostIn", "(II)I"⟩, 84) := ⟨⟨by decide +kernel, by decide +kernel⟩, List.mem_of_getElem? (i := 1475) (by decide +kernel), List.mem_of_getElem? (i := 2049) (by decide +kernel), List.mem_of_getElem? (i := 2050) (by decide +kernel)⟩
theorem lw_p85 : lw_okq (⟨"EnginesAsleepModel", "findsStall", "(II)Z"⟩, 84) := ⟨⟨by decide +kernel, by decide +kernel⟩, List.mem_of_getElem? (i := 1475) (by decide +kernel), List.mem_of_getElem? (i := 2053) (by decide +kernel), List.mem_of_getElem? (i := 2054) (by decide +kernel)⟩
theorem lw_p86 : lw_okq (⟨"EnginesAsleepModel", "areEngines", "(I)Z"⟩, 84) := ⟨⟨by decide +kernel, by decide +kernel⟩, List.mem_of_getElem? (i := 1475) (by decide +kernel), List.mem_of_getElem? (i := 2069) (by decide +kernel), List.mem_of_getElem? (i := 2070) (by decide +kernel)⟩
theorem lw_p87 : lw_okq (⟨"EnginesAsleepModel", "coalBy", "(IZ)I"⟩, 84) := ⟨⟨by decide +kernel, by decide +kernel⟩, List.mem_of_getElem? (i := 1475) (by decide +kernel), List.mem_of_getElem? (i := 2073) (by decide +kernel), List.mem_of_getElem? (i := 2074) (by decide +kernel)⟩
theorem lw_p88 : lw_okq (⟨"EnginesAsleepModel", "canCoal", "(I)Z"⟩, 84) := ⟨⟨by decide +kernel, by decide +kernel⟩, List.mem_of_getElem? (i := 1475) (by decide +kernel), List.mem_of_getElem? (i := 2077) (by decide +kernel), List.mem_of_getElem? (i := 2078) (by decide +kernel)⟩
theorem lw_p89 : lw_okq (⟨"EnginesAsleepModel", "coalFrom", "(III)V"⟩, 84) := ⟨⟨by decide +kernel, by decide +kernel⟩, List.mem_of_getElem? (i := 1475) (by decide +kernel), List.mem_of_getElem? (i := 2081) (by decide +kernel), List.mem_of_getElem? (i := 2082) (by decide +kernel)⟩
theorem lw_p90 : lw_okq (⟨"EnginesAsleepModel", "isTrain", "(I)Z"⟩, 84) := ⟨⟨by decide +kernel, by decide +kernel⟩, List.mem_of_getElem? (i := 1475) (by decide +kernel), List.mem_of_getElem? (i := 2101) (by decide +kernel), List.mem_of_getElem? (i := 2102) (by decide +kernel)⟩
theorem lw_p91 : lw_okq (⟨"EnginesAsleepModel", "trainOf", "(I)I"⟩, 84) := ⟨⟨by decide +kernel, by decide +kernel⟩, List.mem_of_getElem? (i := 1475) (by decide +kernel), List.mem_of_getElem? (i := 2105) (by decide +kernel), List.mem_of_getElem? (i := 2106) (by decide +kernel)⟩
theorem lw_p92 : lw_okq (⟨"EnginesAsleepModel", "isFit", "(II)Z"⟩, 84) := ⟨⟨by decide +kernel, by decide +kernel⟩, List.mem_of_getElem? (i := 1475) (by decide +kernel), List.mem_of_getElem? (i := 2113) (by decide +kernel), List.mem_of_getElem? (i := 2114) (by decide +kernel)⟩
theorem lw_p93 : lw_okq (⟨"EnginesAsleepModel", "findRows", "(IZ)I"⟩, 84) := ⟨⟨by decide +kernel, by decide +kernel⟩, List.mem_of_getElem? (i := 1475) (by decide +kernel), List.mem_of_getElem? (i := 2121) (by decide +kernel), List.mem_of_getElem? (i := 2122) (by decide +kernel)⟩
theorem lw_p94 : lw_okq (⟨"EnginesAsleepModel", "worthOf", "(IIZ)I"⟩, 84) := ⟨⟨by decide +kernel, by decide +kernel⟩, List.mem_of_getElem? (i := 1475) (by decide +kernel), List.mem_of_getElem? (i := 2125) (by decide +kernel), List.mem_of_getElem? (i := 2126) (by decide +kernel)⟩
theorem lw_p95 : lw_okq (⟨"EnginesAsleepModel", "tellRow", "(IZ)V"⟩, 84) := ⟨⟨by decide +kernel, by decide +kernel⟩, List.mem_of_getElem? (i := 1475) (by decide +kernel), List.mem_of_getElem? (i := 2129) (by decide +kernel), List.mem_of_getElem? (i := 2130) (by decide +kernel)⟩
def lw_privs_6 : List (MethodName × Nat) := [(⟨"EnginesAsleepModel", "cheapest", "(I)I"⟩, 84), (⟨"EnginesAsleepModel", "canStand", "(II)Z"⟩, 84), (⟨"EnginesAsleepModel", "stand", "(IIZ)V"⟩, 84), (⟨"EnginesAsleepModel", "findRow", "(II)Z"⟩, 84), (⟨"EnginesAsleepModel", "mostIn", "(II)I"⟩, 84), (⟨"EnginesAsleepModel", "findsStall", "(II)Z"⟩, 84), (⟨"EnginesAsleepModel", "areEngines", "(I)Z"⟩, 84), (⟨"EnginesAsleepModel", "coalBy", "(IZ)I"⟩, 84), (⟨"EnginesAsleepModel", "canCoal", "(I)Z"⟩, 84), (⟨"EnginesAsleepModel", "coalFrom", "(III)V"⟩, 84), (⟨"EnginesAsleepModel", "isTrain", "(I)Z"⟩, 84), (⟨"EnginesAsleepModel", "trainOf", "(I)I"⟩, 84), (⟨"EnginesAsleepModel", "isFit", "(II)Z"⟩, 84), (⟨"EnginesAsleepModel", "findRows", "(IZ)I"⟩, 84), (⟨"EnginesAsleepModel", "worthOf", "(IIZ)I"⟩, 84), (⟨"EnginesAsleepModel", "tellRow", "(IZ)V"⟩, 84)]
theorem lw_r6 : ∀ q ∈ lw_privs_6, lw_okq q := List.forall_mem_cons.mpr ⟨lw_p80, List.forall_mem_cons.mpr ⟨lw_p81, List.forall_mem_cons.mpr ⟨lw_p82, List.forall_mem_cons.mpr ⟨lw_p83, List.forall_mem_cons.mpr ⟨lw_p84, List.forall_mem_cons.mpr ⟨lw_p85, List.forall_mem_cons.mpr ⟨lw_p86, List.forall_mem_cons.mpr ⟨lw_p87, List.forall_mem_cons.mpr ⟨lw_p88, List.forall_mem_cons.mpr ⟨lw_p89, List.forall_mem_cons.mpr ⟨lw_p90, List.forall_mem_cons.mpr ⟨lw_p91, List.forall_mem_cons.mpr ⟨lw_p92, List.forall_mem_cons.mpr ⟨lw_p93, List.forall_mem_cons.mpr ⟨lw_p94, List.forall_mem_cons.mpr ⟨lw_p95, fun _ h => absurd h List.not_mem_nil⟩⟩⟩⟩⟩⟩⟩⟩⟩⟩⟩⟩⟩⟩⟩⟩
theorem lw_p96 : lw_okq (⟨"EnginesAsleepModel", "goThrough", "()I"⟩, 84) := ⟨⟨by decide +kernel, by decide +kernel⟩, List.mem_of_getElem? (i := 1475) (by decide +kernel), List.mem_of_getElem? (i := 2149) (by decide +kernel), List.mem_of_getElem? (i := 2150) (by decide +kernel)⟩
theorem lw_p97 : lw_okq (⟨"EnginesAsleepModel", "lightNow", "(I)V"⟩, 84) := ⟨⟨by decide +kernel, by decide +kernel⟩, List.mem_of_getElem? (i := 1475) (by decide +kernel), List.mem_of_getElem? (i := 2153) (by decide +kernel), List.mem_of_getElem? (i := 2154) (by decide +kernel)⟩
theorem lw_p98 : lw_okq (⟨"EnginesAsleepModel", "goTrain", "(III)I"⟩, 84) := ⟨⟨by decide +kernel, by decide +kernel⟩, List.mem_of_getElem? (i := 1475) (by decide +kernel), List.mem_of_getElem? (i := 2157) (by decide +kernel), List.mem_of_getElem? (i := 2158) (by decide +kernel)⟩
theorem lw_p99 : lw_okq (⟨"EnginesAsleepModel", "swap", "(II)V"⟩, 84) := ⟨⟨by decide +kernel, by decide +kernel⟩, List.mem_of_getElem? (i := 1475) (by decide +kernel), List.mem_of_getElem? (i := 2161) (by decide +kernel), List.mem_of_getElem? (i := 2162) (by decide +kernel)⟩
theorem lw_p100 : lw_okq (⟨"EnginesAsleepModel", "findMen", "(IIIII)Z"⟩, 84) := ⟨⟨by decide +kernel, by decide +kernel⟩, List.mem_of_getElem? (i := 1475) (by decide +kernel), List.mem_of_getElem? (i := 2169) (by decide +kernel), List.mem_of_getElem? (i := 2170) (by decide +kernel)⟩
theorem lw_p101 : lw_okq (⟨"EnginesAsleepModel", "areOnes", "(IIII)Z"⟩, 84) := ⟨⟨by decide +kernel, by decide +kernel⟩, List.mem_of_getElem? (i := 1475) (by decide +kernel), List.mem_of_getElem? (i := 2173) (by decide +kernel), List.mem_of_getElem? (i := 2174) (by decide +kernel)⟩
theorem lw_p102 : lw_okq (⟨"EnginesAsleepModel", "lightFires", "(II)I"⟩, 84) := ⟨⟨by decide +kernel, by decide +kernel⟩, List.mem_of_getElem? (i := 1475) (by decide +kernel), List.mem_of_getElem? (i := 2181) (by decide +kernel), List.mem_of_getElem? (i := 2182) (by decide +kernel)⟩
theorem lw_p103 : lw_okq (⟨"EnginesAsleepModel", "endOf", "(I)I"⟩, 84) := ⟨⟨by decide +kernel, by decide +kernel⟩, List.mem_of_getElem? (i := 1475) (by decide +kernel), List.mem_of_getElem? (i := 2186) (by decide +kernel), List.mem_of_getElem? (i := 2187) (by decide +kernel)⟩
theorem lw_p104 : lw_okq (⟨"EnginesAsleepModel", "isWarm", "(III)Z"⟩, 84) := ⟨⟨by decide +kernel, by decide +kernel⟩, List.mem_of_getElem? (i := 1475) (by decide +kernel), List.mem_of_getElem? (i := 2198) (by decide +kernel), List.mem_of_getElem? (i := 2199) (by decide +kernel)⟩
def lw_privs_7 : List (MethodName × Nat) := [(⟨"EnginesAsleepModel", "goThrough", "()I"⟩, 84), (⟨"EnginesAsleepModel", "lightNow", "(I)V"⟩, 84), (⟨"EnginesAsleepModel", "goTrain", "(III)I"⟩, 84), (⟨"EnginesAsleepModel", "swap", "(II)V"⟩, 84), (⟨"EnginesAsleepModel", "findMen", "(IIIII)Z"⟩, 84), (⟨"EnginesAsleepModel", "areOnes", "(IIII)Z"⟩, 84), (⟨"EnginesAsleepModel", "lightFires", "(II)I"⟩, 84), (⟨"EnginesAsleepModel", "endOf", "(I)I"⟩, 84), (⟨"EnginesAsleepModel", "isWarm", "(III)Z"⟩, 84)]
theorem lw_r7 : ∀ q ∈ lw_privs_7, lw_okq q := List.forall_mem_cons.mpr ⟨lw_p96, List.forall_mem_cons.mpr ⟨lw_p97, List.forall_mem_cons.mpr ⟨lw_p98, List.forall_mem_cons.mpr ⟨lw_p99, List.forall_mem_cons.mpr ⟨lw_p100, List.forall_mem_cons.mpr ⟨lw_p101, List.forall_mem_cons.mpr ⟨lw_p102, List.forall_mem_cons.mpr ⟨lw_p103, List.forall_mem_cons.mpr ⟨lw_p104, fun _ h => absurd h List.not_mem_nil⟩⟩⟩⟩⟩⟩⟩⟩⟩
def lw_privs : List (MethodName × Nat) := lw_privs_1 ++ (lw_privs_2 ++ (lw_privs_3 ++ (lw_privs_4 ++ (lw_privs_5 ++ (lw_privs_6 ++ (lw_privs_7))))))
def lw_tbl : List Cond := k2_sels lw_privs ++ tables_1
theorem lw_privs_ok : ∀ q ∈ lw_privs, lw_okq q := by
  show ∀ q ∈ lw_privs_1 ++ (lw_privs_2 ++ (lw_privs_3 ++ (lw_privs_4 ++ (lw_privs_5 ++ (lw_privs_6 ++ (lw_privs_7)))))), lw_okq q
  exact List.forall_mem_append.mpr ⟨lw_r1, List.forall_mem_append.mpr ⟨lw_r2, List.forall_mem_append.mpr ⟨lw_r3, List.forall_mem_append.mpr ⟨lw_r4, List.forall_mem_append.mpr ⟨lw_r5, List.forall_mem_append.mpr ⟨lw_r6, lw_r7⟩⟩⟩⟩⟩⟩
-- ===== end of PART A; then your names; then what follows =====
end
section
def RX0 : String := "EnginesAsleep$Berths"
def TX0 : u_T := fun k => match k with
  | 0 => ("EnginesAsleep$Berths", "yard", "LEnginesAsleep$Yard;", true)
  | 1 => ("EnginesAsleep$Berths", "live", "LEnginesAsleep$Standing;", true)
  | 2 => ("EnginesAsleep$Berths", "told", "LEnginesAsleep$Rows;", true)
  | 3 => ("EnginesAsleep$Berths", "comer", "[I", true)
  | 4 => ("EnginesAsleep$Berths", "coming", "I", false)
  | 5 => ("EnginesAsleep$Berths", "leavesAs", "[I", true)
  | 6 => ("EnginesAsleep$Berths", "leaving", "I", false)
  | 7 => ("EnginesAsleep$Berths", "best", "[J", true)
  | 8 => ("EnginesAsleep$Berths", "before", "[J", true)
  | 9 => ("EnginesAsleep$Berths", "lets", "[I", true)
  | 10 => ("EnginesAsleep$Berths", "given", "[I", true)
  | 11 => ("EnginesAsleep$Berths", "holder", "[I", true)
  | 12 => ("EnginesAsleep$Berths", "seen", "I", false)
  | 13 => ("EnginesAsleep$Berths", "fixedStalls", "I", false)
  | _ => ("EnginesAsleep$Berths", "unfixed", "I", false)
def tyX0 : Nat → FieldType := fun k => match k with
  | 0 => .object "EnginesAsleep$Yard"
  | 1 => .object "EnginesAsleep$Standing"
  | 2 => .object "EnginesAsleep$Rows"
  | 3 => .array .int
  | 4 => .int
  | 5 => .array .int
  | 6 => .int
  | 7 => .array .long
  | 8 => .array .long
  | 9 => .array .int
  | 10 => .array .int
  | 11 => .array .int
  | 12 => .int
  | 13 => .int
  | _ => .int
abbrev wsX00 : List Cond := u_ws RX0 TX0 15
theorem nmX0 : ∀ a, a < 15 → ∀ b, b < 15 → a ≠ b → (TX0 a).2.1 ≠ (TX0 b).2.1 := by decide +kernel
theorem tyX0_ok : ∀ k, k < 15 → parseFieldDescriptor (TX0 k).2.2.1 = some (tyX0 k) := by decide +kernel
abbrev cX0_init : ByteArray := prog_2_method_1_code
def yX0_init : MethodName := ⟨RX0, "<init>", "(LEnginesAsleep$Yard;LEnginesAsleep$Standing;LEnginesAsleep$Rows;)V"⟩
abbrev cX0_isComing : ByteArray := prog_2_method_2_code
def yX0_isComing : MethodName := ⟨RX0, "isComing", "(I)Z"⟩
abbrev cX0_tellComing : ByteArray := prog_2_method_3_code
def yX0_tellComing : MethodName := ⟨RX0, "tellComing", "(I)I"⟩
abbrev cX0_tellLeaving : ByteArray := prog_2_method_4_code
def yX0_tellLeaving : MethodName := ⟨RX0, "tellLeaving", "(I)I"⟩
abbrev cX0_forget : ByteArray := prog_2_method_5_code
def yX0_forget : MethodName := ⟨RX0, "forget", "()I"⟩
abbrev cX0_bestPut : ByteArray := prog_2_method_6_code
def yX0_bestPut : MethodName := ⟨RX0, "bestPut", "()I"⟩
abbrev cX0_offerStall : ByteArray := prog_2_method_7_code
def yX0_offerStall : MethodName := ⟨RX0, "offerStall", "(II)V"⟩
abbrev cX0_foreLets : ByteArray := prog_2_method_8_code
def yX0_foreLets : MethodName := ⟨RX0, "foreLets", "(I)I"⟩
abbrev cX0_weight : ByteArray := prog_2_method_9_code
def yX0_weight : MethodName := ⟨RX0, "weight", "(II)J"⟩
abbrev cX0_joinTo : ByteArray := prog_2_method_10_code
def yX0_joinTo : MethodName := ⟨RX0, "joinTo", "(IJI)V"⟩
abbrev cX0_mostSeated : ByteArray := prog_2_method_11_code
def yX0_mostSeated : MethodName := ⟨RX0, "mostSeated", "(I)I"⟩
abbrev cX0_stallsFor : ByteArray := prog_2_method_12_code
def yX0_stallsFor : MethodName := ⟨RX0, "stallsFor", "(I)I"⟩
abbrev cX0_canSeat : ByteArray := prog_2_method_13_code
def yX0_canSeat : MethodName := ⟨RX0, "canSeat", "(II)Z"⟩
abbrev cX0_canSeatAnother : ByteArray := prog_2_method_14_code
def yX0_canSeatAnother : MethodName := ⟨RX0, "canSeatAnother", "()Z"⟩
abbrev cX0_fixLeast : ByteArray := prog_2_method_15_code
def yX0_fixLeast : MethodName := ⟨RX0, "fixLeast", "(I)V"⟩
def RX1 : String := "EnginesAsleep$Bunker"
def TX1 : u_T := fun k => match k with
  | 0 => ("EnginesAsleep$Bunker", "fleet", "LEnginesAsleep$Fleet;", true)
  | 1 => ("EnginesAsleep$Bunker", "told", "LEnginesAsleep$Rows;", true)
  | 2 => ("EnginesAsleep$Bunker", "there", "[I", true)
  | 3 => ("EnginesAsleep$Bunker", "stays", "[I", true)
  | 4 => ("EnginesAsleep$Bunker", "taken", "[I", true)
  | 5 => ("EnginesAsleep$Bunker", "bestTaken", "[I", true)
  | 6 => ("EnginesAsleep$Bunker", "wanter", "[I", true)
  | 7 => ("EnginesAsleep$Bunker", "many", "I", false)
  | 8 => ("EnginesAsleep$Bunker", "gets", "[I", true)
  | 9 => ("EnginesAsleep$Bunker", "bestGets", "[I", true)
  | _ => ("EnginesAsleep$Bunker", "found", "Z", false)
def tyX1 : Nat → FieldType := fun k => match k with
  | 0 => .object "EnginesAsleep$Fleet"
  | 1 => .object "EnginesAsleep$Rows"
  | 2 => .array .int
  | 3 => .array .int
  | 4 => .array .int
  | 5 => .array .int
  | 6 => .array .int
  | 7 => .int
  | 8 => .array .int
  | 9 => .array .int
  | _ => .boolean
abbrev wsX10 : List Cond := u_ws RX1 TX1 11
theorem nmX1 : ∀ a, a < 11 → ∀ b, b < 11 → a ≠ b → (TX1 a).2.1 ≠ (TX1 b).2.1 := by decide +kernel
theorem tyX1_ok : ∀ k, k < 11 → parseFieldDescriptor (TX1 k).2.2.1 = some (tyX1 k) := by decide +kernel
abbrev cX1_init : ByteArray := prog_3_method_1_code
def yX1_init : MethodName := ⟨RX1, "<init>", "(LEnginesAsleep$Fleet;LEnginesAsleep$Rows;)V"⟩
abbrev cX1_canCount : ByteArray := prog_3_method_2_code
def yX1_canCount : MethodName := ⟨RX1, "canCount", "(I)Z"⟩
abbrev cX1_callUp : ByteArray := prog_3_method_3_code
def yX1_callUp : MethodName := ⟨RX1, "callUp", "(I)V"⟩
abbrev cX1_canTake : ByteArray := prog_3_method_4_code
def yX1_canTake : MethodName := ⟨RX1, "canTake", "(II)Z"⟩
abbrev cX1_share : ByteArray := prog_3_method_5_code
def yX1_share : MethodName := ⟨RX1, "share", "(IZ)I"⟩
abbrev cX1_tryGrades : ByteArray := prog_3_method_6_code
def yX1_tryGrades : MethodName := ⟨RX1, "tryGrades", "(I)V"⟩
abbrev cX1_isBetter : ByteArray := prog_3_method_7_code
def yX1_isBetter : MethodName := ⟨RX1, "isBetter", "()Z"⟩
abbrev cX1_mostTogether : ByteArray := prog_3_method_8_code
def yX1_mostTogether : MethodName := ⟨RX1, "mostTogether", "(I)I"⟩
abbrev cX1_canCoal : ByteArray := prog_3_method_9_code
def yX1_canCoal : MethodName := ⟨RX1, "canCoal", "(II)Z"⟩
def RX2 : String := "EnginesAsleep$Dawn"
def TX2 : u_T := fun k => match k with
  | 0 => ("EnginesAsleep$Dawn", "yard", "LEnginesAsleep$Yard;", true)
  | 1 => ("EnginesAsleep$Dawn", "trains", "LEnginesAsleep$Trains;", true)
  | 2 => ("EnginesAsleep$Dawn", "live", "LEnginesAsleep$Standing;", true)
  | 3 => ("EnginesAsleep$Dawn", "told", "LEnginesAsleep$Rows;", true)
  | 4 => ("EnginesAsleep$Dawn", "here", "LEnginesAsleep$Standing;", true)
  | 5 => ("EnginesAsleep$Dawn", "late", "[I", true)
  | 6 => ("EnginesAsleep$Dawn", "byTable", "[I", true)
  | 7 => ("EnginesAsleep$Dawn", "bySteam", "[I", true)
  | 8 => ("EnginesAsleep$Dawn", "byFront", "[I", true)
  | _ => ("EnginesAsleep$Dawn", "tableFree", "I", false)
def tyX2 : Nat → FieldType := fun k => match k with
  | 0 => .object "EnginesAsleep$Yard"
  | 1 => .object "EnginesAsleep$Trains"
  | 2 => .object "EnginesAsleep$Standing"
  | 3 => .object "EnginesAsleep$Rows"
  | 4 => .object "EnginesAsleep$Standing"
  | 5 => .array .int
  | 6 => .array .int
  | 7 => .array .int
  | 8 => .array .int
  | _ => .int
abbrev wsX20 : List Cond := u_ws RX2 TX2 10
theorem nmX2 : ∀ a, a < 10 → ∀ b, b < 10 → a ≠ b → (TX2 a).2.1 ≠ (TX2 b).2.1 := by decide +kernel
theorem tyX2_ok : ∀ k, k < 10 → parseFieldDescriptor (TX2 k).2.2.1 = some (tyX2 k) := by decide +kernel
abbrev cX2_init : ByteArray := prog_4_method_1_code
def yX2_init : MethodName := ⟨RX2, "<init>", "(LEnginesAsleep$Yard;LEnginesAsleep$Trains;LEnginesAsleep$Standing;LEnginesAsleep$Rows;)V"⟩
abbrev cX2_goThrough : ByteArray := prog_4_method_2_code
def yX2_goThrough : MethodName := ⟨RX2, "goThrough", "()I"⟩
abbrev cX2_lightAll : ByteArray := prog_4_method_3_code
def yX2_lightAll : MethodName := ⟨RX2, "lightAll", "()V"⟩
abbrev cX2_lightOne : ByteArray := prog_4_method_4_code
def yX2_lightOne : MethodName := ⟨RX2, "lightOne", "(I)V"⟩
abbrev cX2_waitOnRoad : ByteArray := prog_4_method_5_code
def yX2_waitOnRoad : MethodName := ⟨RX2, "waitOnRoad", "(II)I"⟩
abbrev cX2_comeFromStall : ByteArray := prog_4_method_6_code
def yX2_comeFromStall : MethodName := ⟨RX2, "comeFromStall", "(II)I"⟩
abbrev cX2_causeOf : ByteArray := prog_4_method_7_code
def yX2_causeOf : MethodName := ⟨RX2, "causeOf", "(I)I"⟩
abbrev cX2_bestExchange : ByteArray := prog_4_method_8_code
def yX2_bestExchange : MethodName := ⟨RX2, "bestExchange", "()I"⟩
abbrev cX2_canExchange : ByteArray := prog_4_method_9_code
def yX2_canExchange : MethodName := ⟨RX2, "canExchange", "(II)Z"⟩
abbrev cX2_swap : ByteArray := prog_4_method_10_code
def yX2_swap : MethodName := ⟨RX2, "swap", "(II)V"⟩
def RX3 : String := "EnginesAsleep$Fleet"
def TX3 : u_T := fun k => match k with
  | 0 => ("EnginesAsleep$Fleet", "many", "I", false)
  | 1 => ("EnginesAsleep$Fleet", "length", "[I", true)
  | 2 => ("EnginesAsleep$Fleet", "kind", "[I", true)
  | 3 => ("EnginesAsleep$Fleet", "raise", "[I", true)
  | 4 => ("EnginesAsleep$Fleet", "visitor", "[Z", true)
  | 5 => ("EnginesAsleep$Fleet", "tons", "[I", true)
  | _ => ("EnginesAsleep$Fleet", "grade", "[I", true)
def tyX3 : Nat → FieldType := fun k => match k with
  | 0 => .int
  | 1 => .array .int
  | 2 => .array .int
  | 3 => .array .int
  | 4 => .array .boolean
  | 5 => .array .int
  | _ => .array .int
abbrev wsX30 : List Cond := u_ws RX3 TX3 7
theorem nmX3 : ∀ a, a < 7 → ∀ b, b < 7 → a ≠ b → (TX3 a).2.1 ≠ (TX3 b).2.1 := by decide +kernel
theorem tyX3_ok : ∀ k, k < 7 → parseFieldDescriptor (TX3 k).2.2.1 = some (tyX3 k) := by decide +kernel
abbrev cX3_init : ByteArray := prog_5_method_1_code
def yX3_init : MethodName := ⟨RX3, "<init>", "()V"⟩
abbrev cX3_has : ByteArray := prog_5_method_2_code
def yX3_has : MethodName := ⟨RX3, "has", "(I)Z"⟩
abbrev cX3_hasOthers : ByteArray := prog_5_method_3_code
def yX3_hasOthers : MethodName := ⟨RX3, "hasOthers", "(I)Z"⟩
abbrev cX3_enlist : ByteArray := prog_5_method_4_code
def yX3_enlist : MethodName := ⟨RX3, "enlist", "(IIIZ)I"⟩
def RX4 : String := "EnginesAsleep$Ring"
def TX4 : u_T := fun k => match k with
  | 0 => ("EnginesAsleep$Ring", "stalls", "I", false)
  | 1 => ("EnginesAsleep$Ring", "turn", "I", false)
  | 2 => ("EnginesAsleep$Ring", "go", "I", false)
  | 3 => ("EnginesAsleep$Ring", "length", "[I", true)
  | 4 => ("EnginesAsleep$Ring", "hoods", "[I", true)
  | _ => ("EnginesAsleep$Ring", "closed", "[Z", true)
def tyX4 : Nat → FieldType := fun k => match k with
  | 0 => .int
  | 1 => .int
  | 2 => .int
  | 3 => .array .int
  | 4 => .array .int
  | _ => .array .boolean
abbrev wsX40 : List Cond := u_ws RX4 TX4 6
theorem nmX4 : ∀ a, a < 6 → ∀ b, b < 6 → a ≠ b → (TX4 a).2.1 ≠ (TX4 b).2.1 := by decide +kernel
theorem tyX4_ok : ∀ k, k < 6 → parseFieldDescriptor (TX4 k).2.2.1 = some (tyX4 k) := by decide +kernel
abbrev cX4_init : ByteArray := prog_6_method_1_code
def yX4_init : MethodName := ⟨RX4, "<init>", "()V"⟩
abbrev cX4_renew : ByteArray := prog_6_method_2_code
def yX4_renew : MethodName := ⟨RX4, "renew", "(I)V"⟩
abbrev cX4_hasStall : ByteArray := prog_6_method_3_code
def yX4_hasStall : MethodName := ⟨RX4, "hasStall", "(I)Z"⟩
abbrev cX4_hasPoint : ByteArray := prog_6_method_4_code
def yX4_hasPoint : MethodName := ⟨RX4, "hasPoint", "(I)Z"⟩
abbrev cX4_stepsBetween : ByteArray := prog_6_method_5_code
def yX4_stepsBetween : MethodName := ⟨RX4, "stepsBetween", "(II)I"⟩
abbrev cX4_stallsBetween : ByteArray := prog_6_method_6_code
def yX4_stallsBetween : MethodName := ⟨RX4, "stallsBetween", "(II)I"⟩
abbrev cX4_isHood : ByteArray := prog_6_method_7_code
def yX4_isHood : MethodName := ⟨RX4, "isHood", "(IZ)Z"⟩
abbrev cX4_readSheet : ByteArray := prog_6_method_8_code
def yX4_readSheet : MethodName := ⟨RX4, "readSheet", "(IIII)I"⟩
abbrev cX4_asLength : ByteArray := prog_6_method_9_code
def yX4_asLength : MethodName := ⟨RX4, "asLength", "(II)I"⟩
def RX5 : String := "EnginesAsleep$Rows"
def TX5 : u_T := fun k => match k with
  | 0 => ("EnginesAsleep$Rows", "numbers", "[I", true)
  | _ => ("EnginesAsleep$Rows", "size", "I", false)
def tyX5 : Nat → FieldType := fun k => match k with
  | 0 => .array .int
  | _ => .int
abbrev wsX50 : List Cond := u_ws RX5 TX5 2
theorem nmX5 : ∀ a, a < 2 → ∀ b, b < 2 → a ≠ b → (TX5 a).2.1 ≠ (TX5 b).2.1 := by decide +kernel
theorem tyX5_ok : ∀ k, k < 2 → parseFieldDescriptor (TX5 k).2.2.1 = some (tyX5 k) := by decide +kernel
abbrev cX5_init : ByteArray := prog_7_method_1_code
def yX5_init : MethodName := ⟨RX5, "<init>", "()V"⟩
abbrev cX5_empty : ByteArray := prog_7_method_2_code
def yX5_empty : MethodName := ⟨RX5, "empty", "()V"⟩
abbrev cX5_tell : ByteArray := prog_7_method_3_code
def yX5_tell : MethodName := ⟨RX5, "tell", "(I)V"⟩
abbrev cX5_tellOne : ByteArray := prog_7_method_4_code
def yX5_tellOne : MethodName := ⟨RX5, "tellOne", "(I)V"⟩
abbrev cX5_tellTwo : ByteArray := prog_7_method_5_code
def yX5_tellTwo : MethodName := ⟨RX5, "tellTwo", "(II)V"⟩
def RX6 : String := "EnginesAsleep$Rule"
def TX6 : u_T := fun k => match k with
  | 0 => ("EnginesAsleep$Rule", "text", "[I", true)
  | 1 => ("EnginesAsleep$Rule", "signs", "I", false)
  | 2 => ("EnginesAsleep$Rule", "code", "[I", false)
  | 3 => ("EnginesAsleep$Rule", "codeLength", "I", false)
  | 4 => ("EnginesAsleep$Rule", "draft", "[I", false)
  | 5 => ("EnginesAsleep$Rule", "draftLength", "I", false)
  | 6 => ("EnginesAsleep$Rule", "at", "I", false)
  | 7 => ("EnginesAsleep$Rule", "limit", "I", false)
  | 8 => ("EnginesAsleep$Rule", "stack", "[I", true)
  | _ => ("EnginesAsleep$Rule", "letters", "[I", true)
def tyX6 : Nat → FieldType := fun k => match k with
  | 0 => .array .int
  | 1 => .int
  | 2 => .array .int
  | 3 => .int
  | 4 => .array .int
  | 5 => .int
  | 6 => .int
  | 7 => .int
  | 8 => .array .int
  | _ => .array .int
abbrev wsX60 : List Cond := u_ws RX6 TX6 10
theorem nmX6 : ∀ a, a < 10 → ∀ b, b < 10 → a ≠ b → (TX6 a).2.1 ≠ (TX6 b).2.1 := by decide +kernel
theorem tyX6_ok : ∀ k, k < 10 → parseFieldDescriptor (TX6 k).2.2.1 = some (tyX6 k) := by decide +kernel
abbrev cX6_init : ByteArray := prog_8_method_1_code
def yX6_init : MethodName := ⟨RX6, "<init>", "()V"⟩
abbrev cX6_append : ByteArray := prog_8_method_2_code
def yX6_append : MethodName := ⟨RX6, "append", "(I)I"⟩
abbrev cX6_cut : ByteArray := prog_8_method_3_code
def yX6_cut : MethodName := ⟨RX6, "cut", "(I)Z"⟩
abbrev cX6_adopt : ByteArray := prog_8_method_4_code
def yX6_adopt : MethodName := ⟨RX6, "adopt", "()I"⟩
abbrev cX6_readLevel : ByteArray := prog_8_method_5_code
def yX6_readLevel : MethodName := ⟨RX6, "readLevel", "(II)Z"⟩
abbrev cX6_readThing : ByteArray := prog_8_method_6_code
def yX6_readThing : MethodName := ⟨RX6, "readThing", "(I)Z"⟩
abbrev cX6_readCore : ByteArray := prog_8_method_7_code
def yX6_readCore : MethodName := ⟨RX6, "readCore", "(I)Z"⟩
abbrev cX6_readNumber : ByteArray := prog_8_method_8_code
def yX6_readNumber : MethodName := ⟨RX6, "readNumber", "()V"⟩
abbrev cX6_isDigit : ByteArray := prog_8_method_9_code
def yX6_isDigit : MethodName := ⟨RX6, "isDigit", "(I)Z"⟩
abbrev cX6_joining : ByteArray := prog_8_method_10_code
def yX6_joining : MethodName := ⟨RX6, "joining", "(II)I"⟩
abbrev cX6_write : ByteArray := prog_8_method_11_code
def yX6_write : MethodName := ⟨RX6, "write", "(I)V"⟩
abbrev cX6_value : ByteArray := prog_8_method_12_code
def yX6_value : MethodName := ⟨RX6, "value", "()I"⟩
def RX7 : String := "EnginesAsleep$Standing"
def TX7 : u_T := fun k => match k with
  | 0 => ("EnginesAsleep$Standing", "table", "I", false)
  | 1 => ("EnginesAsleep$Standing", "now", "I", false)
  | 2 => ("EnginesAsleep$Standing", "dead", "I", false)
  | 3 => ("EnginesAsleep$Standing", "back", "[I", true)
  | 4 => ("EnginesAsleep$Standing", "front", "[I", true)
  | 5 => ("EnginesAsleep$Standing", "stallOf", "[I", true)
  | _ => ("EnginesAsleep$Standing", "litAt", "[I", true)
def tyX7 : Nat → FieldType := fun k => match k with
  | 0 => .int
  | 1 => .int
  | 2 => .int
  | 3 => .array .int
  | 4 => .array .int
  | 5 => .array .int
  | _ => .array .int
abbrev wsX70 : List Cond := u_ws RX7 TX7 7
theorem nmX7 : ∀ a, a < 7 → ∀ b, b < 7 → a ≠ b → (TX7 a).2.1 ≠ (TX7 b).2.1 := by decide +kernel
theorem tyX7_ok : ∀ k, k < 7 → parseFieldDescriptor (TX7 k).2.2.1 = some (tyX7 k) := by decide +kernel
abbrev cX7_init : ByteArray := prog_9_method_1_code
def yX7_init : MethodName := ⟨RX7, "<init>", "()V"⟩
abbrev cX7_takeFrom : ByteArray := prog_9_method_2_code
def yX7_takeFrom : MethodName := ⟨RX7, "takeFrom", "(LEnginesAsleep$Standing;)V"⟩
abbrev cX7_onRoad : ByteArray := prog_9_method_3_code
def yX7_onRoad : MethodName := ⟨RX7, "onRoad", "(I)Z"⟩
abbrev cX7_isDead : ByteArray := prog_9_method_4_code
def yX7_isDead : MethodName := ⟨RX7, "isDead", "(I)Z"⟩
abbrev cX7_atBack : ByteArray := prog_9_method_5_code
def yX7_atBack : MethodName := ⟨RX7, "atBack", "(I)Z"⟩
abbrev cX7_inFrontOf : ByteArray := prog_9_method_6_code
def yX7_inFrontOf : MethodName := ⟨RX7, "inFrontOf", "(I)I"⟩
abbrev cX7_inStalls : ByteArray := prog_9_method_7_code
def yX7_inStalls : MethodName := ⟨RX7, "inStalls", "()I"⟩
abbrev cX7_lit : ByteArray := prog_9_method_8_code
def yX7_lit : MethodName := ⟨RX7, "lit", "()I"⟩
abbrev cX7_bring : ByteArray := prog_9_method_9_code
def yX7_bring : MethodName := ⟨RX7, "bring", "(II)V"⟩
def RX8 : String := "EnginesAsleep$Trains"
def TX8 : u_T := fun k => match k with
  | 0 => ("EnginesAsleep$Trains", "yard", "LEnginesAsleep$Yard;", true)
  | 1 => ("EnginesAsleep$Trains", "live", "LEnginesAsleep$Standing;", true)
  | 2 => ("EnginesAsleep$Trains", "told", "LEnginesAsleep$Rows;", true)
  | 3 => ("EnginesAsleep$Trains", "many", "I", false)
  | 4 => ("EnginesAsleep$Trains", "minute", "[I", true)
  | 5 => ("EnginesAsleep$Trains", "kind", "[I", true)
  | 6 => ("EnginesAsleep$Trains", "away", "[I", true)
  | 7 => ("EnginesAsleep$Trains", "planned", "[I", true)
  | 8 => ("EnginesAsleep$Trains", "turn", "[I", true)
  | 9 => ("EnginesAsleep$Trains", "best", "[J", true)
  | 10 => ("EnginesAsleep$Trains", "weight", "[J", true)
  | 11 => ("EnginesAsleep$Trains", "chosen", "[I", true)
  | 12 => ("EnginesAsleep$Trains", "parted", "I", false)
  | 13 => ("EnginesAsleep$Trains", "man", "[I", true)
  | 14 => ("EnginesAsleep$Trains", "hisTrains", "[I", true)
  | 15 => ("EnginesAsleep$Trains", "clash", "[I", true)
  | 16 => ("EnginesAsleep$Trains", "begun", "[I", true)
  | _ => ("EnginesAsleep$Trains", "freeUntil", "[I", true)
def tyX8 : Nat → FieldType := fun k => match k with
  | 0 => .object "EnginesAsleep$Yard"
  | 1 => .object "EnginesAsleep$Standing"
  | 2 => .object "EnginesAsleep$Rows"
  | 3 => .int
  | 4 => .array .int
  | 5 => .array .int
  | 6 => .array .int
  | 7 => .array .int
  | 8 => .array .int
  | 9 => .array .long
  | 10 => .array .long
  | 11 => .array .int
  | 12 => .int
  | 13 => .array .int
  | 14 => .array .int
  | 15 => .array .int
  | 16 => .array .int
  | _ => .array .int
abbrev wsX80 : List Cond := u_ws RX8 TX8 18
theorem nmX8 : ∀ a, a < 18 → ∀ b, b < 18 → a ≠ b → (TX8 a).2.1 ≠ (TX8 b).2.1 := by decide +kernel
theorem tyX8_ok : ∀ k, k < 18 → parseFieldDescriptor (TX8 k).2.2.1 = some (tyX8 k) := by decide +kernel
abbrev cX8_init : ByteArray := prog_10_method_1_code
def yX8_init : MethodName := ⟨RX8, "<init>", "(LEnginesAsleep$Yard;LEnginesAsleep$Standing;LEnginesAsleep$Rows;)V"⟩
abbrev cX8_has : ByteArray := prog_10_method_2_code
def yX8_has : MethodName := ⟨RX8, "has", "(I)Z"⟩
abbrev cX8_enlist : ByteArray := prog_10_method_3_code
def yX8_enlist : MethodName := ⟨RX8, "enlist", "(III)I"⟩
abbrev cX8_trainOf : ByteArray := prog_10_method_4_code
def yX8_trainOf : MethodName := ⟨RX8, "trainOf", "(I)I"⟩
abbrev cX8_suits : ByteArray := prog_10_method_5_code
def yX8_suits : MethodName := ⟨RX8, "suits", "(II)Z"⟩
abbrev cX8_bestRow : ByteArray := prog_10_method_6_code
def yX8_bestRow : MethodName := ⟨RX8, "bestRow", "(IZ)I"⟩
abbrev cX8_offerEngine : ByteArray := prog_10_method_7_code
def yX8_offerEngine : MethodName := ⟨RX8, "offerEngine", "(IZ)V"⟩
abbrev cX8_tellChosen : ByteArray := prog_10_method_8_code
def yX8_tellChosen : MethodName := ⟨RX8, "tellChosen", "()V"⟩
abbrev cX8_soonestFor : ByteArray := prog_10_method_9_code
def yX8_soonestFor : MethodName := ⟨RX8, "soonestFor", "(I)I"⟩
abbrev cX8_badlyBehind : ByteArray := prog_10_method_10_code
def yX8_badlyBehind : MethodName := ⟨RX8, "badlyBehind", "()I"⟩
abbrev cX8_fewestCrews : ByteArray := prog_10_method_11_code
def yX8_fewestCrews : MethodName := ⟨RX8, "fewestCrews", "(II)I"⟩
abbrev cX8_canShare : ByteArray := prog_10_method_12_code
def yX8_canShare : MethodName := ⟨RX8, "canShare", "(IIII)Z"⟩
abbrev cX8_canCrew : ByteArray := prog_10_method_13_code
def yX8_canCrew : MethodName := ⟨RX8, "canCrew", "(III)Z"⟩
abbrev cX8_beginFires : ByteArray := prog_10_method_14_code
def yX8_beginFires : MethodName := ⟨RX8, "beginFires", "(II)I"⟩
abbrev cX8_litBy : ByteArray := prog_10_method_15_code
def yX8_litBy : MethodName := ⟨RX8, "litBy", "(I)I"⟩
abbrev cX8_latestOf : ByteArray := prog_10_method_16_code
def yX8_latestOf : MethodName := ⟨RX8, "latestOf", "(I)I"⟩
abbrev cX8_tellFires : ByteArray := prog_10_method_17_code
def yX8_tellFires : MethodName := ⟨RX8, "tellFires", "()V"⟩
abbrev cX8_fewestMen : ByteArray := prog_10_method_18_code
def yX8_fewestMen : MethodName := ⟨RX8, "fewestMen", "(I)I"⟩
def RX9 : String := "EnginesAsleep$Ways"
def TX9 : u_T := fun k => match k with
  | 0 => ("EnginesAsleep$Ways", "yard", "LEnginesAsleep$Yard;", true)
  | 1 => ("EnginesAsleep$Ways", "told", "LEnginesAsleep$Rows;", true)
  | 2 => ("EnginesAsleep$Ways", "levels", "[LEnginesAsleep$Standing;", true)
  | 3 => ("EnginesAsleep$Ways", "chosen", "[I", true)
  | 4 => ("EnginesAsleep$Ways", "bestChosen", "[I", true)
  | 5 => ("EnginesAsleep$Ways", "best", "I", false)
  | 6 => ("EnginesAsleep$Ways", "bestFirst", "I", false)
  | 7 => ("EnginesAsleep$Ways", "bestLast", "I", false)
  | 8 => ("EnginesAsleep$Ways", "bestMover", "I", false)
  | 9 => ("EnginesAsleep$Ways", "lastMover", "I", false)
  | 10 => ("EnginesAsleep$Ways", "warms", "[I", true)
  | 11 => ("EnginesAsleep$Ways", "warmsUpTo", "[I", true)
  | 12 => ("EnginesAsleep$Ways", "allInStalls", "I", false)
  | _ => ("EnginesAsleep$Ways", "warmBits", "I", false)
def tyX9 : Nat → FieldType := fun k => match k with
  | 0 => .object "EnginesAsleep$Yard"
  | 1 => .object "EnginesAsleep$Rows"
  | 2 => .array (.object "EnginesAsleep$Standing")
  | 3 => .array .int
  | 4 => .array .int
  | 5 => .int
  | 6 => .int
  | 7 => .int
  | 8 => .int
  | 9 => .int
  | 10 => .array .int
  | 11 => .array .int
  | 12 => .int
  | _ => .int
abbrev wsX90 : List Cond := u_ws RX9 TX9 14
theorem nmX9 : ∀ a, a < 14 → ∀ b, b < 14 → a ≠ b → (TX9 a).2.1 ≠ (TX9 b).2.1 := by decide +kernel
theorem tyX9_ok : ∀ k, k < 14 → parseFieldDescriptor (TX9 k).2.2.1 = some (tyX9 k) := by decide +kernel
abbrev cX9_init : ByteArray := prog_11_method_1_code
def yX9_init : MethodName := ⟨RX9, "<init>", "(LEnginesAsleep$Yard;LEnginesAsleep$Rows;)V"⟩
abbrev cX9_bestOrder : ByteArray := prog_11_method_2_code
def yX9_bestOrder : MethodName := ⟨RX9, "bestOrder", "(LEnginesAsleep$Standing;I)I"⟩
abbrev cX9_tryOrders : ByteArray := prog_11_method_3_code
def yX9_tryOrders : MethodName := ⟨RX9, "tryOrders", "(III)V"⟩
abbrev cX9_emptied : ByteArray := prog_11_method_4_code
def yX9_emptied : MethodName := ⟨RX9, "emptied", "(LEnginesAsleep$Standing;I)I"⟩
abbrev cX9_tryBothAway : ByteArray := prog_11_method_5_code
def yX9_tryBothAway : MethodName := ⟨RX9, "tryBothAway", "(LEnginesAsleep$Standing;I)V"⟩
abbrev cX9_tryLastAway : ByteArray := prog_11_method_6_code
def yX9_tryLastAway : MethodName := ⟨RX9, "tryLastAway", "(LEnginesAsleep$Standing;III)V"⟩
abbrev cX9_underHoods : ByteArray := prog_11_method_7_code
def yX9_underHoods : MethodName := ⟨RX9, "underHoods", "(LEnginesAsleep$Standing;)I"⟩
abbrev cX9_tryTwoUnder : ByteArray := prog_11_method_8_code
def yX9_tryTwoUnder : MethodName := ⟨RX9, "tryTwoUnder", "(LEnginesAsleep$Standing;I)V"⟩
abbrev cX9_tryUnderHood : ByteArray := prog_11_method_9_code
def yX9_tryUnderHood : MethodName := ⟨RX9, "tryUnderHood", "(LEnginesAsleep$Standing;IIII)V"⟩
abbrev cX9_fewestWarm : ByteArray := prog_11_method_10_code
def yX9_fewestWarm : MethodName := ⟨RX9, "fewestWarm", "(LEnginesAsleep$Standing;I)I"⟩
abbrev cX9_canWarm : ByteArray := prog_11_method_11_code
def yX9_canWarm : MethodName := ⟨RX9, "canWarm", "(III)Z"⟩
def RX10 : String := "EnginesAsleep$Yard"
def TX10 : u_T := fun k => match k with
  | 0 => ("EnginesAsleep$Yard", "circle", "LEnginesAsleep$Ring;", true)
  | 1 => ("EnginesAsleep$Yard", "fleet", "LEnginesAsleep$Fleet;", true)
  | 2 => ("EnginesAsleep$Yard", "law", "LEnginesAsleep$Rule;", true)
  | 3 => ("EnginesAsleep$Yard", "asideTo", "I", false)
  | 4 => ("EnginesAsleep$Yard", "asideMinutes", "I", false)
  | _ => ("EnginesAsleep$Yard", "ownMinutes", "I", false)
def tyX10 : Nat → FieldType := fun k => match k with
  | 0 => .object "EnginesAsleep$Ring"
  | 1 => .object "EnginesAsleep$Fleet"
  | 2 => .object "EnginesAsleep$Rule"
  | 3 => .int
  | 4 => .int
  | _ => .int
abbrev wsX100 : List Cond := u_ws RX10 TX10 6
theorem nmX10 : ∀ a, a < 6 → ∀ b, b < 6 → a ≠ b → (TX10 a).2.1 ≠ (TX10 b).2.1 := by decide +kernel
theorem tyX10_ok : ∀ k, k < 6 → parseFieldDescriptor (TX10 k).2.2.1 = some (tyX10 k) := by decide +kernel
abbrev cX10_init : ByteArray := prog_12_method_1_code
def yX10_init : MethodName := ⟨RX10, "<init>", "(LEnginesAsleep$Ring;LEnginesAsleep$Fleet;LEnginesAsleep$Rule;)V"⟩
abbrev cX10_pointOf : ByteArray := prog_12_method_2_code
def yX10_pointOf : MethodName := ⟨RX10, "pointOf", "(LEnginesAsleep$Standing;I)I"⟩
abbrev cX10_lengthIn : ByteArray := prog_12_method_3_code
def yX10_lengthIn : MethodName := ⟨RX10, "lengthIn", "(LEnginesAsleep$Standing;I)I"⟩
abbrev cX10_inSteamFrom : ByteArray := prog_12_method_4_code
def yX10_inSteamFrom : MethodName := ⟨RX10, "inSteamFrom", "(LEnginesAsleep$Standing;I)I"⟩
abbrev cX10_inSteam : ByteArray := prog_12_method_5_code
def yX10_inSteam : MethodName := ⟨RX10, "inSteam", "(LEnginesAsleep$Standing;II)Z"⟩
abbrev cX10_mayGo : ByteArray := prog_12_method_6_code
def yX10_mayGo : MethodName := ⟨RX10, "mayGo", "(LEnginesAsleep$Standing;II)Z"⟩
abbrev cX10_isHooded : ByteArray := prog_12_method_7_code
def yX10_isHooded : MethodName := ⟨RX10, "isHooded", "(LEnginesAsleep$Standing;I)Z"⟩
abbrev cX10_isNextHooded : ByteArray := prog_12_method_8_code
def yX10_isNextHooded : MethodName := ⟨RX10, "isNextHooded", "(LEnginesAsleep$Standing;I)Z"⟩
abbrev cX10_smoking : ByteArray := prog_12_method_9_code
def yX10_smoking : MethodName := ⟨RX10, "smoking", "(LEnginesAsleep$Standing;)I"⟩
abbrev cX10_takesIt : ByteArray := prog_12_method_10_code
def yX10_takesIt : MethodName := ⟨RX10, "takesIt", "(LEnginesAsleep$Standing;II)Z"⟩
abbrev cX10_ruleLets : ByteArray := prog_12_method_11_code
def yX10_ruleLets : MethodName := ⟨RX10, "ruleLets", "(LEnginesAsleep$Standing;IIZ)Z"⟩
abbrev cX10_minutes : ByteArray := prog_12_method_12_code
def yX10_minutes : MethodName := ⟨RX10, "minutes", "(LEnginesAsleep$Standing;II)I"⟩
abbrev cX10_canStandAt : ByteArray := prog_12_method_13_code
def yX10_canStandAt : MethodName := ⟨RX10, "canStandAt", "(LEnginesAsleep$Standing;II)Z"⟩
abbrev cX10_canGoTo : ByteArray := prog_12_method_14_code
def yX10_canGoTo : MethodName := ⟨RX10, "canGoTo", "(LEnginesAsleep$Standing;II)Z"⟩
abbrev cX10_shift : ByteArray := prog_12_method_15_code
def yX10_shift : MethodName := ⟨RX10, "shift", "(LEnginesAsleep$Standing;III)I"⟩
abbrev cX10_freeing : ByteArray := prog_12_method_16_code
def yX10_freeing : MethodName := ⟨RX10, "freeing", "(LEnginesAsleep$Standing;I)I"⟩
abbrev cX10_sendOut : ByteArray := prog_12_method_17_code
def yX10_sendOut : MethodName := ⟨RX10, "sendOut", "(LEnginesAsleep$Standing;I)V"⟩
def RX11 : String := "EnginesAsleep"
def TX11 : u_T := fun k => match k with
  | 0 => ("EnginesAsleep", "circle", "LEnginesAsleep$Ring;", true)
  | 1 => ("EnginesAsleep", "fleet", "LEnginesAsleep$Fleet;", true)
  | 2 => ("EnginesAsleep", "law", "LEnginesAsleep$Rule;", true)
  | 3 => ("EnginesAsleep", "told", "LEnginesAsleep$Rows;", true)
  | 4 => ("EnginesAsleep", "live", "LEnginesAsleep$Standing;", true)
  | 5 => ("EnginesAsleep", "yard", "LEnginesAsleep$Yard;", true)
  | 6 => ("EnginesAsleep", "ways", "LEnginesAsleep$Ways;", true)
  | 7 => ("EnginesAsleep", "berths", "LEnginesAsleep$Berths;", true)
  | 8 => ("EnginesAsleep", "bunker", "LEnginesAsleep$Bunker;", true)
  | 9 => ("EnginesAsleep", "trains", "LEnginesAsleep$Trains;", true)
  | 10 => ("EnginesAsleep", "dawn", "LEnginesAsleep$Dawn;", true)
  | 11 => ("EnginesAsleep", "kept", "[LEnginesAsleep$Standing;", true)
  | 12 => ("EnginesAsleep", "keptVersion", "[I", true)
  | _ => ("EnginesAsleep", "version", "I", false)
def tyX11 : Nat → FieldType := fun k => match k with
  | 0 => .object "EnginesAsleep$Ring"
  | 1 => .object "EnginesAsleep$Fleet"
  | 2 => .object "EnginesAsleep$Rule"
  | 3 => .object "EnginesAsleep$Rows"
  | 4 => .object "EnginesAsleep$Standing"
  | 5 => .object "EnginesAsleep$Yard"
  | 6 => .object "EnginesAsleep$Ways"
  | 7 => .object "EnginesAsleep$Berths"
  | 8 => .object "EnginesAsleep$Bunker"
  | 9 => .object "EnginesAsleep$Trains"
  | 10 => .object "EnginesAsleep$Dawn"
  | 11 => .array (.object "EnginesAsleep$Standing")
  | 12 => .array .int
  | _ => .int
abbrev wsX110 : List Cond := u_ws RX11 TX11 14
theorem nmX11 : ∀ a, a < 14 → ∀ b, b < 14 → a ≠ b → (TX11 a).2.1 ≠ (TX11 b).2.1 := by decide +kernel
theorem tyX11_ok : ∀ k, k < 14 → parseFieldDescriptor (TX11 k).2.2.1 = some (tyX11 k) := by decide +kernel
abbrev cX11_init : ByteArray := prog_1_method_1_code
def yX11_init : MethodName := ⟨RX11, "<init>", "()V"⟩
abbrev cX11_ring : ByteArray := prog_1_method_2_code
def yX11_ring : MethodName := ⟨RX11, "ring", "(I)I"⟩
abbrev cX11_stall : ByteArray := prog_1_method_3_code
def yX11_stall : MethodName := ⟨RX11, "stall", "(III)Z"⟩
abbrev cX11_sheet : ByteArray := prog_1_method_4_code
def yX11_sheet : MethodName := ⟨RX11, "sheet", "(IIII)I"⟩
abbrev cX11_shut : ByteArray := prog_1_method_5_code
def yX11_shut : MethodName := ⟨RX11, "shut", "(IZ)Z"⟩
abbrev cX11_set : ByteArray := prog_1_method_6_code
def yX11_set : MethodName := ⟨RX11, "set", "(II)I"⟩
abbrev cX11_steps : ByteArray := prog_1_method_7_code
def yX11_steps : MethodName := ⟨RX11, "steps", "(II)I"⟩
abbrev cX11_sign : ByteArray := prog_1_method_8_code
def yX11_sign : MethodName := ⟨RX11, "sign", "(I)I"⟩
abbrev cX11_end : ByteArray := prog_1_method_9_code
def yX11_end : MethodName := ⟨RX11, "end", "(I)Z"⟩
abbrev cX11_rule : ByteArray := prog_1_method_10_code
def yX11_rule : MethodName := ⟨RX11, "rule", "()I"⟩
abbrev cX11_engine : ByteArray := prog_1_method_11_code
def yX11_engine : MethodName := ⟨RX11, "engine", "(IIIZ)I"⟩
abbrev cX11_light : ByteArray := prog_1_method_12_code
def yX11_light : MethodName := ⟨RX11, "light", "(I)Z"⟩
abbrev cX11_drop : ByteArray := prog_1_method_13_code
def yX11_drop : MethodName := ⟨RX11, "drop", "(I)I"⟩
abbrev cX11_dead : ByteArray := prog_1_method_14_code
def yX11_dead : MethodName := ⟨RX11, "dead", "(IZ)Z"⟩
abbrev cX11_of : ByteArray := prog_1_method_15_code
def yX11_of : MethodName := ⟨RX11, "of", "(II)I"⟩
abbrev cX11_takes : ByteArray := prog_1_method_16_code
def yX11_takes : MethodName := ⟨RX11, "takes", "(II)I"⟩
abbrev cX11_smoke : ByteArray := prog_1_method_17_code
def yX11_smoke : MethodName := ⟨RX11, "smoke", "()I"⟩
abbrev cX11_pass : ByteArray := prog_1_method_18_code
def yX11_pass : MethodName := ⟨RX11, "pass", "(I)I"⟩
abbrev cX11_move : ByteArray := prog_1_method_19_code
def yX11_move : MethodName := ⟨RX11, "move", "(II)I"⟩
abbrev cX11_drag : ByteArray := prog_1_method_20_code
def yX11_drag : MethodName := ⟨RX11, "drag", "(III)I"⟩
abbrev cX11_free : ByteArray := prog_1_method_21_code
def yX11_free : MethodName := ⟨RX11, "free", "(I)I"⟩
abbrev cX11_order : ByteArray := prog_1_method_22_code
def yX11_order : MethodName := ⟨RX11, "order", "(I)I"⟩
abbrev cX11_clear : ByteArray := prog_1_method_23_code
def yX11_clear : MethodName := ⟨RX11, "clear", "(I)I"⟩
abbrev cX11_under : ByteArray := prog_1_method_24_code
def yX11_under : MethodName := ⟨RX11, "under", "()I"⟩
abbrev cX11_comes : ByteArray := prog_1_method_25_code
def yX11_comes : MethodName := ⟨RX11, "comes", "(I)I"⟩
abbrev cX11_leaves : ByteArray := prog_1_method_26_code
def yX11_leaves : MethodName := ⟨RX11, "leaves", "(I)I"⟩
abbrev cX11_nobody : ByteArray := prog_1_method_27_code
def yX11_nobody : MethodName := ⟨RX11, "nobody", "()I"⟩
abbrev cX11_put : ByteArray := prog_1_method_28_code
def yX11_put : MethodName := ⟨RX11, "put", "()I"⟩
abbrev cX11_room : ByteArray := prog_1_method_29_code
def yX11_room : MethodName := ⟨RX11, "room", "(I)I"⟩
abbrev cX11_coal : ByteArray := prog_1_method_30_code
def yX11_coal : MethodName := ⟨RX11, "coal", "(III)I"⟩
abbrev cX11_wants : ByteArray := prog_1_method_31_code
def yX11_wants : MethodName := ⟨RX11, "wants", "(III)Z"⟩
abbrev cX11_coaled : ByteArray := prog_1_method_32_code
def yX11_coaled : MethodName := ⟨RX11, "coaled", "(I)I"⟩
abbrev cX11_fill : ByteArray := prog_1_method_33_code
def yX11_fill : MethodName := ⟨RX11, "fill", "(I)I"⟩
abbrev cX11_burns : ByteArray := prog_1_method_34_code
def yX11_burns : MethodName := ⟨RX11, "burns", "(I)I"⟩
abbrev cX11_train : ByteArray := prog_1_method_35_code
def yX11_train : MethodName := ⟨RX11, "train", "(III)I"⟩
abbrev cX11_plan : ByteArray := prog_1_method_36_code
def yX11_plan : MethodName := ⟨RX11, "plan", "(II)Z"⟩
abbrev cX11_fits : ByteArray := prog_1_method_37_code
def yX11_fits : MethodName := ⟨RX11, "fits", "(II)I"⟩
abbrev cX11_most : ByteArray := prog_1_method_38_code
def yX11_most : MethodName := ⟨RX11, "most", "()I"⟩
abbrev cX11_fails : ByteArray := prog_1_method_39_code
def yX11_fails : MethodName := ⟨RX11, "fails", "(I)I"⟩
abbrev cX11_soonest : ByteArray := prog_1_method_40_code
def yX11_soonest : MethodName := ⟨RX11, "soonest", "(I)I"⟩
abbrev cX11_wrong : ByteArray := prog_1_method_41_code
def yX11_wrong : MethodName := ⟨RX11, "wrong", "()I"⟩
abbrev cX11_exchange : ByteArray := prog_1_method_42_code
def yX11_exchange : MethodName := ⟨RX11, "exchange", "()I"⟩
abbrev cX11_crews : ByteArray := prog_1_method_43_code
def yX11_crews : MethodName := ⟨RX11, "crews", "(II)I"⟩
abbrev cX11_fires : ByteArray := prog_1_method_44_code
def yX11_fires : MethodName := ⟨RX11, "fires", "(II)I"⟩
abbrev cX11_men : ByteArray := prog_1_method_45_code
def yX11_men : MethodName := ⟨RX11, "men", "(I)I"⟩
abbrev cX11_frost : ByteArray := prog_1_method_46_code
def yX11_frost : MethodName := ⟨RX11, "frost", "(I)I"⟩
abbrev cX11_morning : ByteArray := prog_1_method_47_code
def yX11_morning : MethodName := ⟨RX11, "morning", "()I"⟩
abbrev cX11_why : ByteArray := prog_1_method_48_code
def yX11_why : MethodName := ⟨RX11, "why", "(I)I"⟩
abbrev cX11_keep : ByteArray := prog_1_method_49_code
def yX11_keep : MethodName := ⟨RX11, "keep", "(I)Z"⟩
abbrev cX11_again : ByteArray := prog_1_method_50_code
def yX11_again : MethodName := ⟨RX11, "again", "(I)Z"⟩
abbrev cX11_count : ByteArray := prog_1_method_51_code
def yX11_count : MethodName := ⟨RX11, "count", "(I)I"⟩
abbrev cX11_inside : ByteArray := prog_1_method_52_code
def yX11_inside : MethodName := ⟨RX11, "inside", "(I)I"⟩
abbrev cX11_row : ByteArray := prog_1_method_53_code
def yX11_row : MethodName := ⟨RX11, "row", "(I)I"⟩
def RX12 : String := "EnginesAsleepModel"
def TX12 : u_T := fun k => match k with
  | 0 => ("EnginesAsleepModel", "n", "I", false)
  | 1 => ("EnginesAsleepModel", "length", "[I", true)
  | 2 => ("EnginesAsleepModel", "hoods", "[I", true)
  | 3 => ("EnginesAsleepModel", "isShut", "[Z", true)
  | 4 => ("EnginesAsleepModel", "back", "[I", true)
  | 5 => ("EnginesAsleepModel", "front", "[I", true)
  | 6 => ("EnginesAsleepModel", "engines", "I", false)
  | 7 => ("EnginesAsleepModel", "size", "[I", true)
  | 8 => ("EnginesAsleepModel", "kind", "[I", true)
  | 9 => ("EnginesAsleepModel", "raise", "[I", true)
  | 10 => ("EnginesAsleepModel", "isVisitor", "[Z", true)
  | 11 => ("EnginesAsleepModel", "isDead", "[Z", true)
  | 12 => ("EnginesAsleepModel", "place", "[I", true)
  | 13 => ("EnginesAsleepModel", "lit", "[I", true)
  | 14 => ("EnginesAsleepModel", "table", "I", false)
  | 15 => ("EnginesAsleepModel", "now", "I", false)
  | 16 => ("EnginesAsleepModel", "turn", "I", false)
  | 17 => ("EnginesAsleepModel", "go", "I", false)
  | 18 => ("EnginesAsleepModel", "trains", "I", false)
  | 19 => ("EnginesAsleepModel", "minute", "[I", true)
  | 20 => ("EnginesAsleepModel", "least", "[I", true)
  | 21 => ("EnginesAsleepModel", "away", "[I", true)
  | 22 => ("EnginesAsleepModel", "planned", "[I", true)
  | 23 => ("EnginesAsleepModel", "coming", "I", false)
  | 24 => ("EnginesAsleepModel", "come", "[I", true)
  | 25 => ("EnginesAsleepModel", "leaving", "I", false)
  | 26 => ("EnginesAsleepModel", "leave", "[I", true)
  | 27 => ("EnginesAsleepModel", "rule", "[B", true)
  | 28 => ("EnginesAsleepModel", "ruleSize", "I", false)
  | 29 => ("EnginesAsleepModel", "text", "[B", true)
  | 30 => ("EnginesAsleepModel", "typed", "I", false)
  | 31 => ("EnginesAsleepModel", "row", "[I", true)
  | 32 => ("EnginesAsleepModel", "rowMany", "I", false)
  | 33 => ("EnginesAsleepModel", "thrown", "I", false)
  | 34 => ("EnginesAsleepModel", "read", "[B", false)
  | 35 => ("EnginesAsleepModel", "readSize", "I", false)
  | 36 => ("EnginesAsleepModel", "at", "I", false)
  | 37 => ("EnginesAsleepModel", "wrong", "I", false)
  | 38 => ("EnginesAsleepModel", "askedEngine", "I", false)
  | 39 => ("EnginesAsleepModel", "askedStall", "I", false)
  | 40 => ("EnginesAsleepModel", "askedBack", "Z", false)
  | 41 => ("EnginesAsleepModel", "pile", "[I", true)
  | 42 => ("EnginesAsleepModel", "piled", "I", false)
  | 43 => ("EnginesAsleepModel", "asideTo", "I", false)
  | 44 => ("EnginesAsleepModel", "asideMinutes", "I", false)
  | 45 => ("EnginesAsleepModel", "ownMinutes", "I", false)
  | 46 => ("EnginesAsleepModel", "tried", "[I", true)
  | 47 => ("EnginesAsleepModel", "best", "[I", true)
  | 48 => ("EnginesAsleepModel", "bestMany", "I", false)
  | 49 => ("EnginesAsleepModel", "bestValue", "I", false)
  | 50 => ("EnginesAsleepModel", "mayBack", "[Z", true)
  | 51 => ("EnginesAsleepModel", "mayFront", "[Z", true)
  | 52 => ("EnginesAsleepModel", "nearest", "[I", true)
  | 53 => ("EnginesAsleepModel", "firstIn", "[I", true)
  | 54 => ("EnginesAsleepModel", "secondIn", "[I", true)
  | 55 => ("EnginesAsleepModel", "leastSum", "I", false)
  | 56 => ("EnginesAsleepModel", "takenBy", "[I", true)
  | 57 => ("EnginesAsleepModel", "wasAsked", "[Z", true)
  | 58 => ("EnginesAsleepModel", "heap", "[I", true)
  | 59 => ("EnginesAsleepModel", "stays", "[I", true)
  | 60 => ("EnginesAsleepModel", "tons", "[I", true)
  | 61 => ("EnginesAsleepModel", "grade", "[I", true)
  | 62 => ("EnginesAsleepModel", "takes", "[I", true)
  | 63 => ("EnginesAsleepModel", "worth", "[I", true)
  | 64 => ("EnginesAsleepModel", "manOf", "[I", true)
  | 65 => ("EnginesAsleepModel", "begun", "[I", true)
  | 66 => ("EnginesAsleepModel", "freeOf", "[I", true)
  | 67 => ("EnginesAsleepModel", "late", "[I", true)
  | 68 => ("EnginesAsleepModel", "litThen", "[I", true)
  | 69 => ("EnginesAsleepModel", "tableFree", "[I", true)
  | 70 => ("EnginesAsleepModel", "steamed", "[I", true)
  | 71 => ("EnginesAsleepModel", "owns", "[I", true)
  | 72 => ("EnginesAsleepModel", "asides", "[I", true)
  | 73 => ("EnginesAsleepModel", "isFromStall", "[Z", true)
  | 74 => ("EnginesAsleepModel", "changes", "I", false)
  | 75 => ("EnginesAsleepModel", "isKept", "[Z", true)
  | 76 => ("EnginesAsleepModel", "keptChanges", "[I", true)
  | 77 => ("EnginesAsleepModel", "keptBack", "[I", true)
  | 78 => ("EnginesAsleepModel", "keptFront", "[I", true)
  | 79 => ("EnginesAsleepModel", "keptPlace", "[I", true)
  | 80 => ("EnginesAsleepModel", "keptLit", "[I", true)
  | 81 => ("EnginesAsleepModel", "keptDead", "[Z", true)
  | 82 => ("EnginesAsleepModel", "keptTable", "[I", true)
  | _ => ("EnginesAsleepModel", "keptNow", "[I", true)
def tyX12 : Nat → FieldType := fun k => match k with
  | 0 => .int
  | 1 => .array .int
  | 2 => .array .int
  | 3 => .array .boolean
  | 4 => .array .int
  | 5 => .array .int
  | 6 => .int
  | 7 => .array .int
  | 8 => .array .int
  | 9 => .array .int
  | 10 => .array .boolean
  | 11 => .array .boolean
  | 12 => .array .int
  | 13 => .array .int
  | 14 => .int
  | 15 => .int
  | 16 => .int
  | 17 => .int
  | 18 => .int
  | 19 => .array .int
  | 20 => .array .int
  | 21 => .array .int
  | 22 => .array .int
  | 23 => .int
  | 24 => .array .int
  | 25 => .int
  | 26 => .array .int
  | 27 => .array .byte
  | 28 => .int
  | 29 => .array .byte
  | 30 => .int
  | 31 => .array .int
  | 32 => .int
  | 33 => .int
  | 34 => .array .byte
  | 35 => .int
  | 36 => .int
  | 37 => .int
  | 38 => .int
  | 39 => .int
  | 40 => .boolean
  | 41 => .array .int
  | 42 => .int
  | 43 => .int
  | 44 => .int
  | 45 => .int
  | 46 => .array .int
  | 47 => .array .int
  | 48 => .int
  | 49 => .int
  | 50 => .array .boolean
  | 51 => .array .boolean
  | 52 => .array .int
  | 53 => .array .int
  | 54 => .array .int
  | 55 => .int
  | 56 => .array .int
  | 57 => .array .boolean
  | 58 => .array .int
  | 59 => .array .int
  | 60 => .array .int
  | 61 => .array .int
  | 62 => .array .int
  | 63 => .array .int
  | 64 => .array .int
  | 65 => .array .int
  | 66 => .array .int
  | 67 => .array .int
  | 68 => .array .int
  | 69 => .array .int
  | 70 => .array .int
  | 71 => .array .int
  | 72 => .array .int
  | 73 => .array .boolean
  | 74 => .int
  | 75 => .array .boolean
  | 76 => .array .int
  | 77 => .array .int
  | 78 => .array .int
  | 79 => .array .int
  | 80 => .array .int
  | 81 => .array .boolean
  | 82 => .array .int
  | _ => .array .int
abbrev wsX120 : List Cond := u_ws RX12 TX12 84
theorem nmX12 : ∀ a, a < 84 → ∀ b, b < 84 → a ≠ b → (TX12 a).2.1 ≠ (TX12 b).2.1 := by decide +kernel
theorem tyX12_ok : ∀ k, k < 84 → parseFieldDescriptor (TX12 k).2.2.1 = some (tyX12 k) := by decide +kernel
abbrev cX12_init : ByteArray := prog_14_method_1_code
def yX12_init : MethodName := ⟨RX12, "<init>", "()V"⟩
abbrev cX12_thrown : ByteArray := prog_14_method_2_code
def yX12_thrown : MethodName := ⟨RX12, "thrown", "()I"⟩
abbrev cX12_in : ByteArray := prog_14_method_3_code
def yX12_in : MethodName := ⟨RX12, "in", "(III)Z"⟩
abbrev cX12_lost : ByteArray := prog_14_method_4_code
def yX12_lost : MethodName := ⟨RX12, "lost", "()I"⟩
abbrev cX12_tell : ByteArray := prog_14_method_5_code
def yX12_tell : MethodName := ⟨RX12, "tell", "(I)V"⟩
abbrev cX12_fresh : ByteArray := prog_14_method_6_code
def yX12_fresh : MethodName := ⟨RX12, "fresh", "()V"⟩
abbrev cX12_isStall : ByteArray := prog_14_method_7_code
def yX12_isStall : MethodName := ⟨RX12, "isStall", "(I)Z"⟩
abbrev cX12_isPoint : ByteArray := prog_14_method_8_code
def yX12_isPoint : MethodName := ⟨RX12, "isPoint", "(I)Z"⟩
abbrev cX12_isEngine : ByteArray := prog_14_method_9_code
def yX12_isEngine : MethodName := ⟨RX12, "isEngine", "(I)Z"⟩
abbrev cX12_isTrain : ByteArray := prog_14_method_10_code
def yX12_isTrain : MethodName := ⟨RX12, "isTrain", "(I)Z"⟩
abbrev cX12_isAnyIn : ByteArray := prog_14_method_11_code
def yX12_isAnyIn : MethodName := ⟨RX12, "isAnyIn", "()Z"⟩
abbrev cX12_ring : ByteArray := prog_14_method_12_code
def yX12_ring : MethodName := ⟨RX12, "ring", "(I)I"⟩
abbrev cX12_lengthIn : ByteArray := prog_14_method_13_code
def yX12_lengthIn : MethodName := ⟨RX12, "lengthIn", "(I)I"⟩
abbrev cX12_stall : ByteArray := prog_14_method_14_code
def yX12_stall : MethodName := ⟨RX12, "stall", "(III)Z"⟩
abbrev cX12_sheet : ByteArray := prog_14_method_15_code
def yX12_sheet : MethodName := ⟨RX12, "sheet", "(IIII)I"⟩
abbrev cX12_shut : ByteArray := prog_14_method_16_code
def yX12_shut : MethodName := ⟨RX12, "shut", "(IZ)Z"⟩
abbrev cX12_set : ByteArray := prog_14_method_17_code
def yX12_set : MethodName := ⟨RX12, "set", "(II)I"⟩
abbrev cX12_stepsOf : ByteArray := prog_14_method_18_code
def yX12_stepsOf : MethodName := ⟨RX12, "stepsOf", "(II)I"⟩
abbrev cX12_steps : ByteArray := prog_14_method_19_code
def yX12_steps : MethodName := ⟨RX12, "steps", "(II)I"⟩
abbrev cX12_sign : ByteArray := prog_14_method_20_code
def yX12_sign : MethodName := ⟨RX12, "sign", "(I)I"⟩
abbrev cX12_end : ByteArray := prog_14_method_21_code
def yX12_end : MethodName := ⟨RX12, "end", "(I)Z"⟩
abbrev cX12_here : ByteArray := prog_14_method_22_code
def yX12_here : MethodName := ⟨RX12, "here", "()I"⟩
abbrev cX12_fine : ByteArray := prog_14_method_23_code
def yX12_fine : MethodName := ⟨RX12, "fine", "()Z"⟩
abbrev cX12_isWrong : ByteArray := prog_14_method_24_code
def yX12_isWrong : MethodName := ⟨RX12, "isWrong", "()V"⟩
abbrev cX12_passes : ByteArray := prog_14_method_25_code
def yX12_passes : MethodName := ⟨RX12, "passes", "(C)Z"⟩
abbrev cX12_either : ByteArray := prog_14_method_26_code
def yX12_either : MethodName := ⟨RX12, "either", "(I)I"⟩
abbrev cX12_both : ByteArray := prog_14_method_27_code
def yX12_both : MethodName := ⟨RX12, "both", "(I)I"⟩
abbrev cX12_held : ByteArray := prog_14_method_28_code
def yX12_held : MethodName := ⟨RX12, "held", "(I)I"⟩
abbrev cX12_sum : ByteArray := prog_14_method_29_code
def yX12_sum : MethodName := ⟨RX12, "sum", "(I)I"⟩
abbrev cX12_thing : ByteArray := prog_14_method_30_code
def yX12_thing : MethodName := ⟨RX12, "thing", "(I)I"⟩
abbrev cX12_letter : ByteArray := prog_14_method_31_code
def yX12_letter : MethodName := ⟨RX12, "letter", "(C)I"⟩
abbrev cX12_rule : ByteArray := prog_14_method_32_code
def yX12_rule : MethodName := ⟨RX12, "rule", "()I"⟩
abbrev cX12_isLet : ByteArray := prog_14_method_33_code
def yX12_isLet : MethodName := ⟨RX12, "isLet", "(IIZ)Z"⟩
abbrev cX12_engine : ByteArray := prog_14_method_34_code
def yX12_engine : MethodName := ⟨RX12, "engine", "(IIIZ)I"⟩
abbrev cX12_isSteaming : ByteArray := prog_14_method_35_code
def yX12_isSteaming : MethodName := ⟨RX12, "isSteaming", "(I)Z"⟩
abbrev cX12_mayGo : ByteArray := prog_14_method_36_code
def yX12_mayGo : MethodName := ⟨RX12, "mayGo", "(I)Z"⟩
abbrev cX12_light : ByteArray := prog_14_method_37_code
def yX12_light : MethodName := ⟨RX12, "light", "(I)Z"⟩
abbrev cX12_drop : ByteArray := prog_14_method_38_code
def yX12_drop : MethodName := ⟨RX12, "drop", "(I)I"⟩
abbrev cX12_dead : ByteArray := prog_14_method_39_code
def yX12_dead : MethodName := ⟨RX12, "dead", "(IZ)Z"⟩
abbrev cX12_pointOf : ByteArray := prog_14_method_40_code
def yX12_pointOf : MethodName := ⟨RX12, "pointOf", "(I)I"⟩
abbrev cX12_isAtBack : ByteArray := prog_14_method_41_code
def yX12_isAtBack : MethodName := ⟨RX12, "isAtBack", "(I)Z"⟩
abbrev cX12_ahead : ByteArray := prog_14_method_42_code
def yX12_ahead : MethodName := ⟨RX12, "ahead", "(I)I"⟩
abbrev cX12_isHooded : ByteArray := prog_14_method_43_code
def yX12_isHooded : MethodName := ⟨RX12, "isHooded", "(I)Z"⟩
abbrev cX12_of : ByteArray := prog_14_method_44_code
def yX12_of : MethodName := ⟨RX12, "of", "(II)I"⟩
abbrev cX12_isTaking : ByteArray := prog_14_method_45_code
def yX12_isTaking : MethodName := ⟨RX12, "isTaking", "(II)Z"⟩
abbrev cX12_takes : ByteArray := prog_14_method_46_code
def yX12_takes : MethodName := ⟨RX12, "takes", "(II)I"⟩
abbrev cX12_smoking : ByteArray := prog_14_method_47_code
def yX12_smoking : MethodName := ⟨RX12, "smoking", "()I"⟩
abbrev cX12_smoke : ByteArray := prog_14_method_48_code
def yX12_smoke : MethodName := ⟨RX12, "smoke", "()I"⟩
abbrev cX12_pass : ByteArray := prog_14_method_49_code
def yX12_pass : MethodName := ⟨RX12, "pass", "(I)I"⟩
abbrev cX12_cost : ByteArray := prog_14_method_50_code
def yX12_cost : MethodName := ⟨RX12, "cost", "(II)I"⟩
abbrev cX12_takeOut : ByteArray := prog_14_method_51_code
def yX12_takeOut : MethodName := ⟨RX12, "takeOut", "(I)V"⟩
abbrev cX12_putIn : ByteArray := prog_14_method_52_code
def yX12_putIn : MethodName := ⟨RX12, "putIn", "(II)V"⟩
abbrev cX12_canBe : ByteArray := prog_14_method_53_code
def yX12_canBe : MethodName := ⟨RX12, "canBe", "(II)Z"⟩
abbrev cX12_bring : ByteArray := prog_14_method_54_code
def yX12_bring : MethodName := ⟨RX12, "bring", "(III)V"⟩
abbrev cX12_undo : ByteArray := prog_14_method_55_code
def yX12_undo : MethodName := ⟨RX12, "undo", "(I)V"⟩
abbrev cX12_move : ByteArray := prog_14_method_56_code
def yX12_move : MethodName := ⟨RX12, "move", "(II)I"⟩
abbrev cX12_drag : ByteArray := prog_14_method_57_code
def yX12_drag : MethodName := ⟨RX12, "drag", "(III)I"⟩
abbrev cX12_freeNow : ByteArray := prog_14_method_58_code
def yX12_freeNow : MethodName := ⟨RX12, "freeNow", "(I)Z"⟩
abbrev cX12_free : ByteArray := prog_14_method_59_code
def yX12_free : MethodName := ⟨RX12, "free", "(I)I"⟩
abbrev cX12_offer : ByteArray := prog_14_method_60_code
def yX12_offer : MethodName := ⟨RX12, "offer", "(II)V"⟩
abbrev cX12_tellBest : ByteArray := prog_14_method_61_code
def yX12_tellBest : MethodName := ⟨RX12, "tellBest", "()V"⟩
abbrev cX12_orderFrom : ByteArray := prog_14_method_62_code
def yX12_orderFrom : MethodName := ⟨RX12, "orderFrom", "(III)V"⟩
abbrev cX12_inStalls : ByteArray := prog_14_method_63_code
def yX12_inStalls : MethodName := ⟨RX12, "inStalls", "()I"⟩
abbrev cX12_order : ByteArray := prog_14_method_64_code
def yX12_order : MethodName := ⟨RX12, "order", "(I)I"⟩
abbrev cX12_clearFrom : ByteArray := prog_14_method_65_code
def yX12_clearFrom : MethodName := ⟨RX12, "clearFrom", "(III)V"⟩
abbrev cX12_clear : ByteArray := prog_14_method_66_code
def yX12_clear : MethodName := ⟨RX12, "clear", "(I)I"⟩
abbrev cX12_underFrom : ByteArray := prog_14_method_67_code
def yX12_underFrom : MethodName := ⟨RX12, "underFrom", "(III)V"⟩
abbrev cX12_under : ByteArray := prog_14_method_68_code
def yX12_under : MethodName := ⟨RX12, "under", "()I"⟩
abbrev cX12_comes : ByteArray := prog_14_method_69_code
def yX12_comes : MethodName := ⟨RX12, "comes", "(I)I"⟩
abbrev cX12_leaves : ByteArray := prog_14_method_70_code
def yX12_leaves : MethodName := ⟨RX12, "leaves", "(I)I"⟩
abbrev cX12_leaveOf : ByteArray := prog_14_method_71_code
def yX12_leaveOf : MethodName := ⟨RX12, "leaveOf", "(I)I"⟩
abbrev cX12_nobody : ByteArray := prog_14_method_72_code
def yX12_nobody : MethodName := ⟨RX12, "nobody", "()I"⟩
abbrev cX12_canStand : ByteArray := prog_14_method_73_code
def yX12_canStand : MethodName := ⟨RX12, "canStand", "(II)Z"⟩
abbrev cX12_cheapest : ByteArray := prog_14_method_74_code
def yX12_cheapest : MethodName := ⟨RX12, "cheapest", "(I)I"⟩
abbrev cX12_stand : ByteArray := prog_14_method_75_code
def yX12_stand : MethodName := ⟨RX12, "stand", "(IIZ)V"⟩
abbrev cX12_findSum : ByteArray := prog_14_method_76_code
def yX12_findSum : MethodName := ⟨RX12, "findSum", "(II)V"⟩
abbrev cX12_findRow : ByteArray := prog_14_method_77_code
def yX12_findRow : MethodName := ⟨RX12, "findRow", "(II)Z"⟩
abbrev cX12_put : ByteArray := prog_14_method_78_code
def yX12_put : MethodName := ⟨RX12, "put", "()I"⟩
abbrev cX12_findsStall : ByteArray := prog_14_method_79_code
def yX12_findsStall : MethodName := ⟨RX12, "findsStall", "(II)Z"⟩
abbrev cX12_mostIn : ByteArray := prog_14_method_80_code
def yX12_mostIn : MethodName := ⟨RX12, "mostIn", "(II)I"⟩
abbrev cX12_room : ByteArray := prog_14_method_81_code
def yX12_room : MethodName := ⟨RX12, "room", "(I)I"⟩
abbrev cX12_coal : ByteArray := prog_14_method_82_code
def yX12_coal : MethodName := ⟨RX12, "coal", "(III)I"⟩
abbrev cX12_wants : ByteArray := prog_14_method_83_code
def yX12_wants : MethodName := ⟨RX12, "wants", "(III)Z"⟩
abbrev cX12_areEngines : ByteArray := prog_14_method_84_code
def yX12_areEngines : MethodName := ⟨RX12, "areEngines", "(I)Z"⟩
abbrev cX12_coalFrom : ByteArray := prog_14_method_85_code
def yX12_coalFrom : MethodName := ⟨RX12, "coalFrom", "(III)V"⟩
abbrev cX12_canCoal : ByteArray := prog_14_method_86_code
def yX12_canCoal : MethodName := ⟨RX12, "canCoal", "(I)Z"⟩
abbrev cX12_coaled : ByteArray := prog_14_method_87_code
def yX12_coaled : MethodName := ⟨RX12, "coaled", "(I)I"⟩
abbrev cX12_fill : ByteArray := prog_14_method_88_code
def yX12_fill : MethodName := ⟨RX12, "fill", "(I)I"⟩
abbrev cX12_coalBy : ByteArray := prog_14_method_89_code
def yX12_coalBy : MethodName := ⟨RX12, "coalBy", "(IZ)I"⟩
abbrev cX12_burns : ByteArray := prog_14_method_90_code
def yX12_burns : MethodName := ⟨RX12, "burns", "(I)I"⟩
abbrev cX12_train : ByteArray := prog_14_method_91_code
def yX12_train : MethodName := ⟨RX12, "train", "(III)I"⟩
abbrev cX12_trainOf : ByteArray := prog_14_method_92_code
def yX12_trainOf : MethodName := ⟨RX12, "trainOf", "(I)I"⟩
abbrev cX12_plan : ByteArray := prog_14_method_93_code
def yX12_plan : MethodName := ⟨RX12, "plan", "(II)Z"⟩
abbrev cX12_isFit : ByteArray := prog_14_method_94_code
def yX12_isFit : MethodName := ⟨RX12, "isFit", "(II)Z"⟩
abbrev cX12_fits : ByteArray := prog_14_method_95_code
def yX12_fits : MethodName := ⟨RX12, "fits", "(II)I"⟩
abbrev cX12_worthOf : ByteArray := prog_14_method_96_code
def yX12_worthOf : MethodName := ⟨RX12, "worthOf", "(IIZ)I"⟩
abbrev cX12_findRows : ByteArray := prog_14_method_97_code
def yX12_findRows : MethodName := ⟨RX12, "findRows", "(IZ)I"⟩
abbrev cX12_tellRow : ByteArray := prog_14_method_98_code
def yX12_tellRow : MethodName := ⟨RX12, "tellRow", "(IZ)V"⟩
abbrev cX12_most : ByteArray := prog_14_method_99_code
def yX12_most : MethodName := ⟨RX12, "most", "()I"⟩
abbrev cX12_fails : ByteArray := prog_14_method_100_code
def yX12_fails : MethodName := ⟨RX12, "fails", "(I)I"⟩
abbrev cX12_soonest : ByteArray := prog_14_method_101_code
def yX12_soonest : MethodName := ⟨RX12, "soonest", "(I)I"⟩
abbrev cX12_wrong : ByteArray := prog_14_method_102_code
def yX12_wrong : MethodName := ⟨RX12, "wrong", "()I"⟩
abbrev cX12_swap : ByteArray := prog_14_method_103_code
def yX12_swap : MethodName := ⟨RX12, "swap", "(II)V"⟩
abbrev cX12_exchange : ByteArray := prog_14_method_104_code
def yX12_exchange : MethodName := ⟨RX12, "exchange", "()I"⟩
abbrev cX12_areOnes : ByteArray := prog_14_method_105_code
def yX12_areOnes : MethodName := ⟨RX12, "areOnes", "(IIII)Z"⟩
abbrev cX12_findMen : ByteArray := prog_14_method_106_code
def yX12_findMen : MethodName := ⟨RX12, "findMen", "(IIIII)Z"⟩
abbrev cX12_crews : ByteArray := prog_14_method_107_code
def yX12_crews : MethodName := ⟨RX12, "crews", "(II)I"⟩
abbrev cX12_lightFires : ByteArray := prog_14_method_108_code
def yX12_lightFires : MethodName := ⟨RX12, "lightFires", "(II)I"⟩
abbrev cX12_endOf : ByteArray := prog_14_method_109_code
def yX12_endOf : MethodName := ⟨RX12, "endOf", "(I)I"⟩
abbrev cX12_fires : ByteArray := prog_14_method_110_code
def yX12_fires : MethodName := ⟨RX12, "fires", "(II)I"⟩
abbrev cX12_men : ByteArray := prog_14_method_111_code
def yX12_men : MethodName := ⟨RX12, "men", "(I)I"⟩
abbrev cX12_frost : ByteArray := prog_14_method_112_code
def yX12_frost : MethodName := ⟨RX12, "frost", "(I)I"⟩
abbrev cX12_isWarm : ByteArray := prog_14_method_113_code
def yX12_isWarm : MethodName := ⟨RX12, "isWarm", "(III)Z"⟩
abbrev cX12_lightNow : ByteArray := prog_14_method_114_code
def yX12_lightNow : MethodName := ⟨RX12, "lightNow", "(I)V"⟩
abbrev cX12_goThrough : ByteArray := prog_14_method_115_code
def yX12_goThrough : MethodName := ⟨RX12, "goThrough", "()I"⟩
abbrev cX12_goTrain : ByteArray := prog_14_method_116_code
def yX12_goTrain : MethodName := ⟨RX12, "goTrain", "(III)I"⟩
abbrev cX12_morning : ByteArray := prog_14_method_117_code
def yX12_morning : MethodName := ⟨RX12, "morning", "()I"⟩
abbrev cX12_why : ByteArray := prog_14_method_118_code
def yX12_why : MethodName := ⟨RX12, "why", "(I)I"⟩
abbrev cX12_keep : ByteArray := prog_14_method_119_code
def yX12_keep : MethodName := ⟨RX12, "keep", "(I)Z"⟩
abbrev cX12_again : ByteArray := prog_14_method_120_code
def yX12_again : MethodName := ⟨RX12, "again", "(I)Z"⟩
abbrev cX12_count : ByteArray := prog_14_method_121_code
def yX12_count : MethodName := ⟨RX12, "count", "(I)I"⟩
abbrev cX12_inside : ByteArray := prog_14_method_122_code
def yX12_inside : MethodName := ⟨RX12, "inside", "(I)I"⟩
abbrev cX12_row : ByteArray := prog_14_method_123_code
def yX12_row : MethodName := ⟨RX12, "row", "(I)I"⟩
def RJx145de : String := "java/io/Serializable"
def TJx145de : u_T := fun k => match k with
  | _ => ("", "", "", false)
def tyJx145de : Nat → FieldType := fun k => match k with
  | _ => .int
abbrev wsJx145de0 : List Cond := u_ws RJx145de TJx145de 0
theorem nmJx145de : ∀ a, a < 0 → ∀ b, b < 0 → a ≠ b → (TJx145de a).2.1 ≠ (TJx145de b).2.1 := by decide +kernel
theorem tyJx145de_ok : ∀ k, k < 0 → parseFieldDescriptor (TJx145de k).2.2.1 = some (tyJx145de k) := by decide +kernel
def RJx9f9b0 : String := "java/lang/CharSequence"
def TJx9f9b0 : u_T := fun k => match k with
  | _ => ("", "", "", false)
def tyJx9f9b0 : Nat → FieldType := fun k => match k with
  | _ => .int
abbrev wsJx9f9b00 : List Cond := u_ws RJx9f9b0 TJx9f9b0 0
theorem nmJx9f9b0 : ∀ a, a < 0 → ∀ b, b < 0 → a ≠ b → (TJx9f9b0 a).2.1 ≠ (TJx9f9b0 b).2.1 := by decide +kernel
theorem tyJx9f9b0_ok : ∀ k, k < 0 → parseFieldDescriptor (TJx9f9b0 k).2.2.1 = some (tyJx9f9b0 k) := by decide +kernel
def RJ11 : String := "java/lang/Character"
def TJ11 : u_T := fun k => match k with
  | _ => ("", "", "", false)
def tyJ11 : Nat → FieldType := fun k => match k with
  | _ => .int
abbrev wsJ110 : List Cond := u_ws RJ11 TJ11 0
theorem nmJ11 : ∀ a, a < 0 → ∀ b, b < 0 → a ≠ b → (TJ11 a).2.1 ≠ (TJ11 b).2.1 := by decide +kernel
theorem tyJ11_ok : ∀ k, k < 0 → parseFieldDescriptor (TJ11 k).2.2.1 = some (tyJ11 k) := by decide +kernel
abbrev cJ11_isValidCodePoint_9a6ad : ByteArray := prog_17_method_11_code
def yJ11_isValidCodePoint_9a6ad : MethodName := ⟨RJ11, "isValidCodePoint", "(I)Z"⟩
abbrev cJ11_highSurrogate_5068e : ByteArray := prog_17_method_28_code
def yJ11_highSurrogate_5068e : MethodName := ⟨RJ11, "highSurrogate", "(I)C"⟩
abbrev cJ11_lowSurrogate_5068e : ByteArray := prog_17_method_29_code
def yJ11_lowSurrogate_5068e : MethodName := ⟨RJ11, "lowSurrogate", "(I)C"⟩
def RJxb160c : String := "java/lang/Comparable"
def TJxb160c : u_T := fun k => match k with
  | _ => ("", "", "", false)
def tyJxb160c : Nat → FieldType := fun k => match k with
  | _ => .int
abbrev wsJxb160c0 : List Cond := u_ws RJxb160c TJxb160c 0
theorem nmJxb160c : ∀ a, a < 0 → ∀ b, b < 0 → a ≠ b → (TJxb160c a).2.1 ≠ (TJxb160c b).2.1 := by decide +kernel
theorem tyJxb160c_ok : ∀ k, k < 0 → parseFieldDescriptor (TJxb160c k).2.2.1 = some (tyJxb160c k) := by decide +kernel
def RJ6 : String := "java/lang/Integer"
def TJ6 : u_T := fun k => match k with
  | _ => ("", "", "", false)
def tyJ6 : Nat → FieldType := fun k => match k with
  | _ => .int
abbrev wsJ60 : List Cond := u_ws RJ6 TJ6 0
theorem nmJ6 : ∀ a, a < 0 → ∀ b, b < 0 → a ≠ b → (TJ6 a).2.1 ≠ (TJ6 b).2.1 := by decide +kernel
theorem tyJ6_ok : ∀ k, k < 0 → parseFieldDescriptor (TJ6 k).2.2.1 = some (tyJ6 k) := by decide +kernel
abbrev cJ6_numberOfTrailingZeros_0f7a4 : ByteArray := prog_20_method_48_code
def yJ6_numberOfTrailingZeros_0f7a4 : MethodName := ⟨RJ6, "numberOfTrailingZeros", "(I)I"⟩
abbrev cJ6_bitCount_0f7a4 : ByteArray := prog_20_method_49_code
def yJ6_bitCount_0f7a4 : MethodName := ⟨RJ6, "bitCount", "(I)I"⟩
def RJ9 : String := "java/lang/Math"
def TJ9 : u_T := fun k => match k with
  | _ => ("", "", "", false)
def tyJ9 : Nat → FieldType := fun k => match k with
  | _ => .int
abbrev wsJ90 : List Cond := u_ws RJ9 TJ9 0
theorem nmJ9 : ∀ a, a < 0 → ∀ b, b < 0 → a ≠ b → (TJ9 a).2.1 ≠ (TJ9 b).2.1 := by decide +kernel
theorem tyJ9_ok : ∀ k, k < 0 → parseFieldDescriptor (TJ9 k).2.2.1 = some (tyJ9 k) := by decide +kernel
abbrev cJ9_abs_0f7a4 : ByteArray := prog_21_method_59_code
def yJ9_abs_0f7a4 : MethodName := ⟨RJ9, "abs", "(I)I"⟩
abbrev cJ9_max_7cf53 : ByteArray := prog_21_method_65_code
def yJ9_max_7cf53 : MethodName := ⟨RJ9, "max", "(II)I"⟩
abbrev cJ9_min_7cf53 : ByteArray := prog_21_method_69_code
def yJ9_min_7cf53 : MethodName := ⟨RJ9, "min", "(II)I"⟩
abbrev cJ9_min_f86c9 : ByteArray := prog_21_method_70_code
def yJ9_min_f86c9 : MethodName := ⟨RJ9, "min", "(JJ)J"⟩
def RJ0 : String := "java/lang/String"
def TJ0 : u_T := fun k => match k with
  | _ => ("", "", "", false)
def tyJ0 : Nat → FieldType := fun k => match k with
  | _ => .int
abbrev wsJ00 : List Cond := u_ws RJ0 TJ0 0
theorem nmJ0 : ∀ a, a < 0 → ∀ b, b < 0 → a ≠ b → (TJ0 a).2.1 ≠ (TJ0 b).2.1 := by decide +kernel
theorem tyJ0_ok : ∀ k, k < 0 → parseFieldDescriptor (TJ0 k).2.2.1 = some (tyJ0 k) := by decide +kernel
abbrev cJ0_length_8abf5 : ByteArray := prog_23_method_54_code
def yJ0_length_8abf5 : MethodName := ⟨RJ0, "length", "()I"⟩
abbrev cJ0_indexOf_0f7a4 : ByteArray := prog_23_method_79_code
def yJ0_indexOf_0f7a4 : MethodName := ⟨RJ0, "indexOf", "(I)I"⟩
abbrev cJ0_indexOf_7cf53 : ByteArray := prog_23_method_80_code
def yJ0_indexOf_7cf53 : MethodName := ⟨RJ0, "indexOf", "(II)I"⟩
abbrev cJ0_coder_7d493 : ByteArray := prog_23_method_152_code
def yJ0_coder_7d493 : MethodName := ⟨RJ0, "coder", "()B"⟩
abbrev cJ0_isLatin1_aae02 : ByteArray := prog_23_method_154_code
def yJ0_isLatin1_aae02 : MethodName := ⟨RJ0, "isLatin1", "()Z"⟩
abbrev cJ0_checkBoundsBeginEnd_23922 : ByteArray := prog_23_method_158_code
def yJ0_checkBoundsBeginEnd_23922 : MethodName := ⟨RJ0, "checkBoundsBeginEnd", "(III)V"⟩
def RJ1 : String := "java/lang/StringLatin1"
def TJ1 : u_T := fun k => match k with
  | _ => ("", "", "", false)
def tyJ1 : Nat → FieldType := fun k => match k with
  | _ => .int
abbrev wsJ10 : List Cond := u_ws RJ1 TJ1 0
theorem nmJ1 : ∀ a, a < 0 → ∀ b, b < 0 → a ≠ b → (TJ1 a).2.1 ≠ (TJ1 b).2.1 := by decide +kernel
theorem tyJ1_ok : ∀ k, k < 0 → parseFieldDescriptor (TJ1 k).2.2.1 = some (tyJ1 k) := by decide +kernel
abbrev cJ1_canEncode_9a6ad : ByteArray := prog_24_method_4_code
def yJ1_canEncode_9a6ad : MethodName := ⟨RJ1, "canEncode", "(I)Z"⟩
abbrev cJ1_indexOf_4cfef : ByteArray := prog_24_method_22_code
def yJ1_indexOf_4cfef : MethodName := ⟨RJ1, "indexOf", "([BIII)I"⟩
abbrev cJ1_indexOfChar_4cfef : ByteArray := prog_24_method_23_code
def yJ1_indexOfChar_4cfef : MethodName := ⟨RJ1, "indexOfChar", "([BIII)I"⟩
def RJ2 : String := "java/lang/StringUTF16"
def TJ2 : u_T := fun k => match k with
  | _ => ("", "", "", false)
def tyJ2 : Nat → FieldType := fun k => match k with
  | _ => .int
abbrev wsJ20 : List Cond := u_ws RJ2 TJ2 0
theorem nmJ2 : ∀ a, a < 0 → ∀ b, b < 0 → a ≠ b → (TJ2 a).2.1 ≠ (TJ2 b).2.1 := by decide +kernel
theorem tyJ2_ok : ∀ k, k < 0 → parseFieldDescriptor (TJ2 k).2.2.1 = some (tyJ2 k) := by decide +kernel
abbrev cJ2_getChar_3b067 : ByteArray := prog_25_method_5_code
def yJ2_getChar_3b067 : MethodName := ⟨RJ2, "getChar", "([BI)C"⟩
abbrev cJ2_length_9d52b : ByteArray := prog_25_method_6_code
def yJ2_length_9d52b : MethodName := ⟨RJ2, "length", "([B)I"⟩
abbrev cJ2_indexOf_4cfef : ByteArray := prog_25_method_40_code
def yJ2_indexOf_4cfef : MethodName := ⟨RJ2, "indexOf", "([BIII)I"⟩
abbrev cJ2_indexOfChar_4cfef : ByteArray := prog_25_method_47_code
def yJ2_indexOfChar_4cfef : MethodName := ⟨RJ2, "indexOfChar", "([BIII)I"⟩
abbrev cJ2_indexOfCharUnsafe_4cfef : ByteArray := prog_25_method_48_code
def yJ2_indexOfCharUnsafe_4cfef : MethodName := ⟨RJ2, "indexOfCharUnsafe", "([BIII)I"⟩
abbrev cJ2_indexOfSupplementary_4cfef : ByteArray := prog_25_method_49_code
def yJ2_indexOfSupplementary_4cfef : MethodName := ⟨RJ2, "indexOfSupplementary", "([BIII)I"⟩
abbrev cJ2_checkBoundsBeginEnd_d044e : ByteArray := prog_25_method_93_code
def yJ2_checkBoundsBeginEnd_d044e : MethodName := ⟨RJ2, "checkBoundsBeginEnd", "(II[B)V"⟩
def RJ10 : String := "java/lang/System"
def TJ10 : u_T := fun k => match k with
  | _ => ("", "", "", false)
def tyJ10 : Nat → FieldType := fun k => match k with
  | _ => .int
abbrev wsJ100 : List Cond := u_ws RJ10 TJ10 0
theorem nmJ10 : ∀ a, a < 0 → ∀ b, b < 0 → a ≠ b → (TJ10 a).2.1 ≠ (TJ10 b).2.1 := by decide +kernel
theorem tyJ10_ok : ∀ k, k < 0 → parseFieldDescriptor (TJ10 k).2.2.1 = some (tyJ10 k) := by decide +kernel
def RJxfd54e : String := "java/lang/constant/Constable"
def TJxfd54e : u_T := fun k => match k with
  | _ => ("", "", "", false)
def tyJxfd54e : Nat → FieldType := fun k => match k with
  | _ => .int
abbrev wsJxfd54e0 : List Cond := u_ws RJxfd54e TJxfd54e 0
theorem nmJxfd54e : ∀ a, a < 0 → ∀ b, b < 0 → a ≠ b → (TJxfd54e a).2.1 ≠ (TJxfd54e b).2.1 := by decide +kernel
theorem tyJxfd54e_ok : ∀ k, k < 0 → parseFieldDescriptor (TJxfd54e k).2.2.1 = some (tyJxfd54e k) := by decide +kernel
def RJx3cf43 : String := "java/lang/constant/ConstantDesc"
def TJx3cf43 : u_T := fun k => match k with
  | _ => ("", "", "", false)
def tyJx3cf43 : Nat → FieldType := fun k => match k with
  | _ => .int
abbrev wsJx3cf430 : List Cond := u_ws RJx3cf43 TJx3cf43 0
theorem nmJx3cf43 : ∀ a, a < 0 → ∀ b, b < 0 → a ≠ b → (TJx3cf43 a).2.1 ≠ (TJx3cf43 b).2.1 := by decide +kernel
theorem tyJx3cf43_ok : ∀ k, k < 0 → parseFieldDescriptor (TJx3cf43 k).2.2.1 = some (tyJx3cf43 k) := by decide +kernel
def RJ7 : String := "java/util/Arrays"
def TJ7 : u_T := fun k => match k with
  | _ => ("", "", "", false)
def tyJ7 : Nat → FieldType := fun k => match k with
  | _ => .int
abbrev wsJ70 : List Cond := u_ws RJ7 TJ7 0
theorem nmJ7 : ∀ a, a < 0 → ∀ b, b < 0 → a ≠ b → (TJ7 a).2.1 ≠ (TJ7 b).2.1 := by decide +kernel
theorem tyJ7_ok : ∀ k, k < 0 → parseFieldDescriptor (TJ7 k).2.2.1 = some (tyJ7 k) := by decide +kernel
abbrev cJ7_fill_d0a16 : ByteArray := prog_30_method_101_code
def yJ7_fill_d0a16 : MethodName := ⟨RJ7, "fill", "([JJ)V"⟩
abbrev cJ7_fill_53178 : ByteArray := prog_30_method_103_code
def yJ7_fill_53178 : MethodName := ⟨RJ7, "fill", "([II)V"⟩
def RJ3 : String := "jdk/internal/util/Preconditions"
def TJ3 : u_T := fun k => match k with
  | _ => ("", "", "", false)
def tyJ3 : Nat → FieldType := fun k => match k with
  | _ => .int
abbrev wsJ30 : List Cond := u_ws RJ3 TJ3 0
theorem nmJ3 : ∀ a, a < 0 → ∀ b, b < 0 → a ≠ b → (TJ3 a).2.1 ≠ (TJ3 b).2.1 := by decide +kernel
theorem tyJ3_ok : ∀ k, k < 0 → parseFieldDescriptor (TJ3 k).2.2.1 = some (tyJ3 k) := by decide +kernel
abbrev cJ3_checkFromToIndex_8c36e : ByteArray := prog_32_method_12_code
def yJ3_checkFromToIndex_8c36e : MethodName := ⟨RJ3, "checkFromToIndex", "(IIILjava/util/function/BiFunction;)I"⟩
def RL : String := "EnginesAsleepLaw"
abbrev cL_of : ByteArray := method_3_code
def yL_of : MethodName := ⟨RL, "of", "(LEnginesAsleep;II[J)I"⟩
abbrev cL_row : ByteArray := method_4_code
def yL_row : MethodName := ⟨RL, "row", "(LEnginesAsleep;I[J)I"⟩
abbrev cL_law : ByteArray := code
def yL_law : MethodName := ⟨RL, "law", "([I)Z"⟩
abbrev vwCl : List vw_C := [(RX0, TX0, 15), (RX1, TX1, 11), (RX2, TX2, 10), (RX3, TX3, 7), (RX4, TX4, 6), (RX5, TX5, 2), (RX6, TX6, 10), (RX7, TX7, 7), (RX8, TX8, 18), (RX9, TX9, 14), (RX10, TX10, 6), (RX11, TX11, 14), (RX12, TX12, 84)]
end
