section
-- ===== PART A: goes FIRST, ahead of the names: the tables' words, and 'selects' of the private methods out of them =====
/-- a private method of a class that the tables say can be made, by its rows of tables_1 -/
def lw_okq (q : MethodName × Nat) : Prop := (q.1.cls ≠ "java/lang/invoke/MethodHandle" ∧ q.1.cls ≠ "java/lang/invoke/VarHandle") ∧ Cond.instantiable q.1.cls q.2 ∈ tables_1 ∧ Cond.privateMethod q.1 ∈ tables_1 ∧ Cond.instanceMethod q.1 ∈ tables_1
theorem lw_p0 : lw_okq (⟨"EnginesAsleep$Rule", "readLevel", "(II)Z"⟩, 10) := ⟨⟨by decide +kernel, by decide +kernel⟩, List.mem_of_getElem? (i := 127) (by decide +kernel), List.mem_of_getElem? (i := 653) (by decide +kernel), List.mem_of_getElem? (i := 654) (by decide +kernel)⟩
theorem lw_p1 : lw_okq (⟨"EnginesAsleep$Rule", "readThing", "(I)Z"⟩, 10) := ⟨⟨by decide +kernel, by decide +kernel⟩, List.mem_of_getElem? (i := 127) (by decide +kernel), List.mem_of_getElem? (i := 657) (by decide +kernel), List.mem_of_getElem? (i := 658) (by decide +kernel)⟩
theorem lw_p2 : lw_okq (⟨"EnginesAsleep$Rule", "readCore", "(I)Z"⟩, 10) := ⟨⟨by decide +kernel, by decide +kernel⟩, List.mem_of_getElem? (i := 127) (by decide +kernel), List.mem_of_getElem? (i := 661) (by decide +kernel), List.mem_of_getElem? (i := 662) (by decide +kernel)⟩
theorem lw_p3 : lw_okq (⟨"EnginesAsleep$Rule", "readNumber", "()V"⟩, 10) := ⟨⟨by decide +kernel, by decide +kernel⟩, List.mem_of_getElem? (i := 127) (by decide +kernel), List.mem_of_getElem? (i := 668) (by decide +kernel), List.mem_of_getElem? (i := 669) (by decide +kernel)⟩
theorem lw_p4 : lw_okq (⟨"EnginesAsleep$Rule", "write", "(I)V"⟩, 10) := ⟨⟨by decide +kernel, by decide +kernel⟩, List.mem_of_getElem? (i := 127) (by decide +kernel), List.mem_of_getElem? (i := 672) (by decide +kernel), List.mem_of_getElem? (i := 673) (by decide +kernel)⟩
theorem lw_p5 : lw_okq (⟨"EnginesAsleep$Ways", "tryOrders", "(III)V"⟩, 14) := ⟨⟨by decide +kernel, by decide +kernel⟩, List.mem_of_getElem? (i := 268) (by decide +kernel), List.mem_of_getElem? (i := 929) (by decide +kernel), List.mem_of_getElem? (i := 930) (by decide +kernel)⟩
theorem lw_p6 : lw_okq (⟨"EnginesAsleep$Ways", "tryLastAway", "(LEnginesAsleep$Standing;III)V"⟩, 14) := ⟨⟨by decide +kernel, by decide +kernel⟩, List.mem_of_getElem? (i := 268) (by decide +kernel), List.mem_of_getElem? (i := 952) (by decide +kernel), List.mem_of_getElem? (i := 953) (by decide +kernel)⟩
theorem lw_p7 : lw_okq (⟨"EnginesAsleep$Ways", "tryBothAway", "(LEnginesAsleep$Standing;I)V"⟩, 14) := ⟨⟨by decide +kernel, by decide +kernel⟩, List.mem_of_getElem? (i := 268) (by decide +kernel), List.mem_of_getElem? (i := 959) (by decide +kernel), List.mem_of_getElem? (i := 960) (by decide +kernel)⟩
theorem lw_p8 : lw_okq (⟨"EnginesAsleep$Ways", "tryUnderHood", "(LEnginesAsleep$Standing;IIII)V"⟩, 14) := ⟨⟨by decide +kernel, by decide +kernel⟩, List.mem_of_getElem? (i := 268) (by decide +kernel), List.mem_of_getElem? (i := 973) (by decide +kernel), List.mem_of_getElem? (i := 974) (by decide +kernel)⟩
theorem lw_p9 : lw_okq (⟨"EnginesAsleep$Ways", "tryTwoUnder", "(LEnginesAsleep$Standing;I)V"⟩, 14) := ⟨⟨by decide +kernel, by decide +kernel⟩, List.mem_of_getElem? (i := 268) (by decide +kernel), List.mem_of_getElem? (i := 991) (by decide +kernel), List.mem_of_getElem? (i := 992) (by decide +kernel)⟩
theorem lw_p10 : lw_okq (⟨"EnginesAsleep$Berths", "isComing", "(I)Z"⟩, 15) := ⟨⟨by decide +kernel, by decide +kernel⟩, List.mem_of_getElem? (i := 320) (by decide +kernel), List.mem_of_getElem? (i := 1004) (by decide +kernel), List.mem_of_getElem? (i := 1005) (by decide +kernel)⟩
theorem lw_p11 : lw_okq (⟨"EnginesAsleep$Berths", "offerStall", "(II)V"⟩, 15) := ⟨⟨by decide +kernel, by decide +kernel⟩, List.mem_of_getElem? (i := 320) (by decide +kernel), List.mem_of_getElem? (i := 1037) (by decide +kernel), List.mem_of_getElem? (i := 1038) (by decide +kernel)⟩
theorem lw_p12 : lw_okq (⟨"EnginesAsleep$Berths", "foreLets", "(I)I"⟩, 15) := ⟨⟨by decide +kernel, by decide +kernel⟩, List.mem_of_getElem? (i := 320) (by decide +kernel), List.mem_of_getElem? (i := 1042) (by decide +kernel), List.mem_of_getElem? (i := 1043) (by decide +kernel)⟩
theorem lw_p13 : lw_okq (⟨"EnginesAsleep$Berths", "weight", "(II)J"⟩, 15) := ⟨⟨by decide +kernel, by decide +kernel⟩, List.mem_of_getElem? (i := 320) (by decide +kernel), List.mem_of_getElem? (i := 1047) (by decide +kernel), List.mem_of_getElem? (i := 1048) (by decide +kernel)⟩
theorem lw_p14 : lw_okq (⟨"EnginesAsleep$Berths", "joinTo", "(IJI)V"⟩, 15) := ⟨⟨by decide +kernel, by decide +kernel⟩, List.mem_of_getElem? (i := 320) (by decide +kernel), List.mem_of_getElem? (i := 1055) (by decide +kernel), List.mem_of_getElem? (i := 1056) (by decide +kernel)⟩
theorem lw_p15 : lw_okq (⟨"EnginesAsleep$Berths", "stallsFor", "(I)I"⟩, 15) := ⟨⟨by decide +kernel, by decide +kernel⟩, List.mem_of_getElem? (i := 320) (by decide +kernel), List.mem_of_getElem? (i := 1074) (by decide +kernel), List.mem_of_getElem? (i := 1075) (by decide +kernel)⟩
def lw_privs_1 : List (MethodName × Nat) := [(⟨"EnginesAsleep$Rule", "readLevel", "(II)Z"⟩, 10), (⟨"EnginesAsleep$Rule", "readThing", "(I)Z"⟩, 10), (⟨"EnginesAsleep$Rule", "readCore", "(I)Z"⟩, 10), (⟨"EnginesAsleep$Rule", "readNumber", "()V"⟩, 10), (⟨"EnginesAsleep$Rule", "write", "(I)V"⟩, 10), (⟨"EnginesAsleep$Ways", "tryOrders", "(III)V"⟩, 14), (⟨"EnginesAsleep$Ways", "tryLastAway", "(LEnginesAsleep$Standing;III)V"⟩, 14), (⟨"EnginesAsleep$Ways", "tryBothAway", "(LEnginesAsleep$Standing;I)V"⟩, 14), (⟨"EnginesAsleep$Ways", "tryUnderHood", "(LEnginesAsleep$Standing;IIII)V"⟩, 14), (⟨"EnginesAsleep$Ways", "tryTwoUnder", "(LEnginesAsleep$Standing;I)V"⟩, 14), (⟨"EnginesAsleep$Berths", "isComing", "(I)Z"⟩, 15), (⟨"EnginesAsleep$Berths", "offerStall", "(II)V"⟩, 15), (⟨"EnginesAsleep$Berths", "foreLets", "(I)I"⟩, 15), (⟨"EnginesAsleep$Berths", "weight", "(II)J"⟩, 15), (⟨"EnginesAsleep$Berths", "joinTo", "(IJI)V"⟩, 15), (⟨"EnginesAsleep$Berths", "stallsFor", "(I)I"⟩, 15)]
theorem lw_r1 : ∀ q ∈ lw_privs_1, lw_okq q := List.forall_mem_cons.mpr ⟨lw_p0, List.forall_mem_cons.mpr ⟨lw_p1, List.forall_mem_cons.mpr ⟨lw_p2, List.forall_mem_cons.mpr ⟨lw_p3, List.forall_mem_cons.mpr ⟨lw_p4, List.forall_mem_cons.mpr ⟨lw_p5, List.forall_mem_cons.mpr ⟨lw_p6, List.forall_mem_cons.mpr ⟨lw_p7, List.forall_mem_cons.mpr ⟨lw_p8, List.forall_mem_cons.mpr ⟨lw_p9, List.forall_mem_cons.mpr ⟨lw_p10, List.forall_mem_cons.mpr ⟨lw_p11, List.forall_mem_cons.mpr ⟨lw_p12, List.forall_mem_cons.mpr ⟨lw_p13, List.forall_mem_cons.mpr ⟨lw_p14, List.forall_mem_cons.mpr ⟨lw_p15, fun _ h => absurd h List.not_mem_nil⟩⟩⟩⟩⟩⟩⟩⟩⟩⟩⟩⟩⟩⟩⟩⟩
theorem lw_p16 : lw_okq (⟨"EnginesAsleep$Berths", "canSeat", "(II)Z"⟩, 15) := ⟨⟨by decide +kernel, by decide +kernel⟩, List.mem_of_getElem? (i := 320) (by decide +kernel), List.mem_of_getElem? (i := 1079) (by decide +kernel), List.mem_of_getElem? (i := 1080) (by decide +kernel)⟩
theorem lw_p17 : lw_okq (⟨"EnginesAsleep$Berths", "fixLeast", "(I)V"⟩, 15) := ⟨⟨by decide +kernel, by decide +kernel⟩, List.mem_of_getElem? (i := 320) (by decide +kernel), List.mem_of_getElem? (i := 1084) (by decide +kernel), List.mem_of_getElem? (i := 1085) (by decide +kernel)⟩
theorem lw_p18 : lw_okq (⟨"EnginesAsleep$Berths", "canSeatAnother", "()Z"⟩, 15) := ⟨⟨by decide +kernel, by decide +kernel⟩, List.mem_of_getElem? (i := 320) (by decide +kernel), List.mem_of_getElem? (i := 1088) (by decide +kernel), List.mem_of_getElem? (i := 1089) (by decide +kernel)⟩
theorem lw_p19 : lw_okq (⟨"EnginesAsleep$Bunker", "callUp", "(I)V"⟩, 11) := ⟨⟨by decide +kernel, by decide +kernel⟩, List.mem_of_getElem? (i := 376) (by decide +kernel), List.mem_of_getElem? (i := 1114) (by decide +kernel), List.mem_of_getElem? (i := 1115) (by decide +kernel)⟩
theorem lw_p20 : lw_okq (⟨"EnginesAsleep$Bunker", "tryGrades", "(I)V"⟩, 11) := ⟨⟨by decide +kernel, by decide +kernel⟩, List.mem_of_getElem? (i := 376) (by decide +kernel), List.mem_of_getElem? (i := 1119) (by decide +kernel), List.mem_of_getElem? (i := 1120) (by decide +kernel)⟩
theorem lw_p21 : lw_okq (⟨"EnginesAsleep$Bunker", "isBetter", "()Z"⟩, 11) := ⟨⟨by decide +kernel, by decide +kernel⟩, List.mem_of_getElem? (i := 376) (by decide +kernel), List.mem_of_getElem? (i := 1123) (by decide +kernel), List.mem_of_getElem? (i := 1124) (by decide +kernel)⟩
theorem lw_p22 : lw_okq (⟨"EnginesAsleep$Bunker", "canTake", "(II)Z"⟩, 11) := ⟨⟨by decide +kernel, by decide +kernel⟩, List.mem_of_getElem? (i := 376) (by decide +kernel), List.mem_of_getElem? (i := 1128) (by decide +kernel), List.mem_of_getElem? (i := 1129) (by decide +kernel)⟩
theorem lw_p23 : lw_okq (⟨"EnginesAsleep$Bunker", "canCoal", "(II)Z"⟩, 11) := ⟨⟨by decide +kernel, by decide +kernel⟩, List.mem_of_getElem? (i := 376) (by decide +kernel), List.mem_of_getElem? (i := 1146) (by decide +kernel), List.mem_of_getElem? (i := 1147) (by decide +kernel)⟩
theorem lw_p24 : lw_okq (⟨"EnginesAsleep$Trains", "offerEngine", "(IZ)V"⟩, 18) := ⟨⟨by decide +kernel, by decide +kernel⟩, List.mem_of_getElem? (i := 418) (by decide +kernel), List.mem_of_getElem? (i := 1191) (by decide +kernel), List.mem_of_getElem? (i := 1192) (by decide +kernel)⟩
theorem lw_p25 : lw_okq (⟨"EnginesAsleep$Dawn", "lightAll", "()V"⟩, 10) := ⟨⟨by decide +kernel, by decide +kernel⟩, List.mem_of_getElem? (i := 487) (by decide +kernel), List.mem_of_getElem? (i := 1249) (by decide +kernel), List.mem_of_getElem? (i := 1250) (by decide +kernel)⟩
theorem lw_p26 : lw_okq (⟨"EnginesAsleep$Dawn", "lightOne", "(I)V"⟩, 10) := ⟨⟨by decide +kernel, by decide +kernel⟩, List.mem_of_getElem? (i := 487) (by decide +kernel), List.mem_of_getElem? (i := 1253) (by decide +kernel), List.mem_of_getElem? (i := 1254) (by decide +kernel)⟩
theorem lw_p27 : lw_okq (⟨"EnginesAsleep$Dawn", "waitOnRoad", "(II)I"⟩, 10) := ⟨⟨by decide +kernel, by decide +kernel⟩, List.mem_of_getElem? (i := 487) (by decide +kernel), List.mem_of_getElem? (i := 1260) (by decide +kernel), List.mem_of_getElem? (i := 1261) (by decide +kernel)⟩
theorem lw_p28 : lw_okq (⟨"EnginesAsleep$Dawn", "comeFromStall", "(II)I"⟩, 10) := ⟨⟨by decide +kernel, by decide +kernel⟩, List.mem_of_getElem? (i := 487) (by decide +kernel), List.mem_of_getElem? (i := 1269) (by decide +kernel), List.mem_of_getElem? (i := 1270) (by decide +kernel)⟩
theorem lw_p29 : lw_okq (⟨"EnginesAsleep$Dawn", "canExchange", "(II)Z"⟩, 10) := ⟨⟨by decide +kernel, by decide +kernel⟩, List.mem_of_getElem? (i := 487) (by decide +kernel), List.mem_of_getElem? (i := 1275) (by decide +kernel), List.mem_of_getElem? (i := 1276) (by decide +kernel)⟩
theorem lw_p30 : lw_okq (⟨"EnginesAsleep$Dawn", "swap", "(II)V"⟩, 10) := ⟨⟨by decide +kernel, by decide +kernel⟩, List.mem_of_getElem? (i := 487) (by decide +kernel), List.mem_of_getElem? (i := 1280) (by decide +kernel), List.mem_of_getElem? (i := 1281) (by decide +kernel)⟩
theorem lw_p31 : lw_okq (⟨"EnginesAsleep$Trains", "canShare", "(IIII)Z"⟩, 18) := ⟨⟨by decide +kernel, by decide +kernel⟩, List.mem_of_getElem? (i := 418) (by decide +kernel), List.mem_of_getElem? (i := 1294) (by decide +kernel), List.mem_of_getElem? (i := 1295) (by decide +kernel)⟩
def lw_privs_2 : List (MethodName × Nat) := [(⟨"EnginesAsleep$Berths", "canSeat", "(II)Z"⟩, 15), (⟨"EnginesAsleep$Berths", "fixLeast", "(I)V"⟩, 15), (⟨"EnginesAsleep$Berths", "canSeatAnother", "()Z"⟩, 15), (⟨"EnginesAsleep$Bunker", "callUp", "(I)V"⟩, 11), (⟨"EnginesAsleep$Bunker", "tryGrades", "(I)V"⟩, 11), (⟨"EnginesAsleep$Bunker", "isBetter", "()Z"⟩, 11), (⟨"EnginesAsleep$Bunker", "canTake", "(II)Z"⟩, 11), (⟨"EnginesAsleep$Bunker", "canCoal", "(II)Z"⟩, 11), (⟨"EnginesAsleep$Trains", "offerEngine", "(IZ)V"⟩, 18), (⟨"EnginesAsleep$Dawn", "lightAll", "()V"⟩, 10), (⟨"EnginesAsleep$Dawn", "lightOne", "(I)V"⟩, 10), (⟨"EnginesAsleep$Dawn", "waitOnRoad", "(II)I"⟩, 10), (⟨"EnginesAsleep$Dawn", "comeFromStall", "(II)I"⟩, 10), (⟨"EnginesAsleep$Dawn", "canExchange", "(II)Z"⟩, 10), (⟨"EnginesAsleep$Dawn", "swap", "(II)V"⟩, 10), (⟨"EnginesAsleep$Trains", "canShare", "(IIII)Z"⟩, 18)]
theorem lw_r2 : ∀ q ∈ lw_privs_2, lw_okq q := List.forall_mem_cons.mpr ⟨lw_p16, List.forall_mem_cons.mpr ⟨lw_p17, List.forall_mem_cons.mpr ⟨lw_p18, List.forall_mem_cons.mpr ⟨lw_p19, List.forall_mem_cons.mpr ⟨lw_p20, List.forall_mem_cons.mpr ⟨lw_p21, List.forall_mem_cons.mpr ⟨lw_p22, List.forall_mem_cons.mpr ⟨lw_p23, List.forall_mem_cons.mpr ⟨lw_p24, List.forall_mem_cons.mpr ⟨lw_p25, List.forall_mem_cons.mpr ⟨lw_p26, List.forall_mem_cons.mpr ⟨lw_p27, List.forall_mem_cons.mpr ⟨lw_p28, List.forall_mem_cons.mpr ⟨lw_p29, List.forall_mem_cons.mpr ⟨lw_p30, List.forall_mem_cons.mpr ⟨lw_p31, fun _ h => absurd h List.not_mem_nil⟩⟩⟩⟩⟩⟩⟩⟩⟩⟩⟩⟩⟩⟩⟩⟩
theorem lw_p32 : lw_okq (⟨"EnginesAsleep$Trains", "canCrew", "(III)Z"⟩, 18) := ⟨⟨by decide +kernel, by decide +kernel⟩, List.mem_of_getElem? (i := 418) (by decide +kernel), List.mem_of_getElem? (i := 1298) (by decide +kernel), List.mem_of_getElem? (i := 1299) (by decide +kernel)⟩
theorem lw_p33 : lw_okq (⟨"EnginesAsleep$Trains", "latestOf", "(I)I"⟩, 18) := ⟨⟨by decide +kernel, by decide +kernel⟩, List.mem_of_getElem? (i := 418) (by decide +kernel), List.mem_of_getElem? (i := 1312) (by decide +kernel), List.mem_of_getElem? (i := 1313) (by decide +kernel)⟩
theorem lw_p34 : lw_okq (⟨"EnginesAsleep$Trains", "litBy", "(I)I"⟩, 18) := ⟨⟨by decide +kernel, by decide +kernel⟩, List.mem_of_getElem? (i := 418) (by decide +kernel), List.mem_of_getElem? (i := 1316) (by decide +kernel), List.mem_of_getElem? (i := 1317) (by decide +kernel)⟩
theorem lw_p35 : lw_okq (⟨"EnginesAsleep$Ways", "canWarm", "(III)Z"⟩, 14) := ⟨⟨by decide +kernel, by decide +kernel⟩, List.mem_of_getElem? (i := 268) (by decide +kernel), List.mem_of_getElem? (i := 1347) (by decide +kernel), List.mem_of_getElem? (i := 1348) (by decide +kernel)⟩
theorem lw_p36 : lw_okq (⟨"java/lang/Throwable", "fillInStackTrace", "(I)Ljava/lang/Throwable;"⟩, 6) := ⟨⟨by decide +kernel, by decide +kernel⟩, List.mem_of_getElem? (i := 1432) (by decide +kernel), List.mem_of_getElem? (i := 1430) (by decide +kernel), List.mem_of_getElem? (i := 1431) (by decide +kernel)⟩
theorem lw_p37 : lw_okq (⟨"EnginesAsleepModel", "fresh", "()V"⟩, 84) := ⟨⟨by decide +kernel, by decide +kernel⟩, List.mem_of_getElem? (i := 1475) (by decide +kernel), List.mem_of_getElem? (i := 1482) (by decide +kernel), List.mem_of_getElem? (i := 1483) (by decide +kernel)⟩
theorem lw_p38 : lw_okq (⟨"EnginesAsleepModel", "isAnyIn", "()Z"⟩, 84) := ⟨⟨by decide +kernel, by decide +kernel⟩, List.mem_of_getElem? (i := 1475) (by decide +kernel), List.mem_of_getElem? (i := 1750) (by decide +kernel), List.mem_of_getElem? (i := 1751) (by decide +kernel)⟩
theorem lw_p39 : lw_okq (⟨"EnginesAsleepModel", "isStall", "(I)Z"⟩, 84) := ⟨⟨by decide +kernel, by decide +kernel⟩, List.mem_of_getElem? (i := 1475) (by decide +kernel), List.mem_of_getElem? (i := 1758) (by decide +kernel), List.mem_of_getElem? (i := 1759) (by decide +kernel)⟩
theorem lw_p40 : lw_okq (⟨"EnginesAsleepModel", "lengthIn", "(I)I"⟩, 84) := ⟨⟨by decide +kernel, by decide +kernel⟩, List.mem_of_getElem? (i := 1475) (by decide +kernel), List.mem_of_getElem? (i := 1762) (by decide +kernel), List.mem_of_getElem? (i := 1763) (by decide +kernel)⟩
theorem lw_p41 : lw_okq (⟨"EnginesAsleepModel", "isPoint", "(I)Z"⟩, 84) := ⟨⟨by decide +kernel, by decide +kernel⟩, List.mem_of_getElem? (i := 1475) (by decide +kernel), List.mem_of_getElem? (i := 1784) (by decide +kernel), List.mem_of_getElem? (i := 1785) (by decide +kernel)⟩
theorem lw_p42 : lw_okq (⟨"EnginesAsleepModel", "stepsOf", "(II)I"⟩, 84) := ⟨⟨by decide +kernel, by decide +kernel⟩, List.mem_of_getElem? (i := 1475) (by decide +kernel), List.mem_of_getElem? (i := 1788) (by decide +kernel), List.mem_of_getElem? (i := 1789) (by decide +kernel)⟩
theorem lw_p43 : lw_okq (⟨"EnginesAsleepModel", "either", "(I)I"⟩, 84) := ⟨⟨by decide +kernel, by decide +kernel⟩, List.mem_of_getElem? (i := 1475) (by decide +kernel), List.mem_of_getElem? (i := 1807) (by decide +kernel), List.mem_of_getElem? (i := 1808) (by decide +kernel)⟩
theorem lw_p44 : lw_okq (⟨"EnginesAsleepModel", "both", "(I)I"⟩, 84) := ⟨⟨by decide +kernel, by decide +kernel⟩, List.mem_of_getElem? (i := 1475) (by decide +kernel), List.mem_of_getElem? (i := 1811) (by decide +kernel), List.mem_of_getElem? (i := 1812) (by decide +kernel)⟩
theorem lw_p45 : lw_okq (⟨"EnginesAsleepModel", "held", "(I)I"⟩, 84) := ⟨⟨by decide +kernel, by decide +kernel⟩, List.mem_of_getElem? (i := 1475) (by decide +kernel), List.mem_of_getElem? (i := 1815) (by decide +kernel), List.mem_of_getElem? (i := 1816) (by decide +kernel)⟩
theorem lw_p46 : lw_okq (⟨"EnginesAsleepModel", "sum", "(I)I"⟩, 84) := ⟨⟨by decide +kernel, by decide +kernel⟩, List.mem_of_getElem? (i := 1475) (by decide +kernel), List.mem_of_getElem? (i := 1819) (by decide +kernel), List.mem_of_getElem? (i := 1820) (by decide +kernel)⟩
theorem lw_p47 : lw_okq (⟨"EnginesAsleepModel", "thing", "(I)I"⟩, 84) := ⟨⟨by decide +kernel, by decide +kernel⟩, List.mem_of_getElem? (i := 1475) (by decide +kernel), List.mem_of_getElem? (i := 1823) (by decide +kernel), List.mem_of_getElem? (i := 1824) (by decide +kernel)⟩
def lw_privs_3 : List (MethodName × Nat) := [(⟨"EnginesAsleep$Trains", "canCrew", "(III)Z"⟩, 18), (⟨"EnginesAsleep$Trains", "latestOf", "(I)I"⟩, 18), (⟨"EnginesAsleep$Trains", "litBy", "(I)I"⟩, 18), (⟨"EnginesAsleep$Ways", "canWarm", "(III)Z"⟩, 14), (⟨"java/lang/Throwable", "fillInStackTrace", "(I)Ljava/lang/Throwable;"⟩, 6), (⟨"EnginesAsleepModel", "fresh", "()V"⟩, 84), (⟨"EnginesAsleepModel", "isAnyIn", "()Z"⟩, 84), (⟨"EnginesAsleepModel", "isStall", "(I)Z"⟩, 84), (⟨"EnginesAsleepModel", "lengthIn", "(I)I"⟩, 84), (⟨"EnginesAsleepModel", "isPoint", "(I)Z"⟩, 84), (⟨"EnginesAsleepModel", "stepsOf", "(II)I"⟩, 84), (⟨"EnginesAsleepModel", "either", "(I)I"⟩, 84), (⟨"EnginesAsleepModel", "both", "(I)I"⟩, 84), (⟨"EnginesAsleepModel", "held", "(I)I"⟩, 84), (⟨"EnginesAsleepModel", "sum", "(I)I"⟩, 84), (⟨"EnginesAsleepModel", "thing", "(I)I"⟩, 84)]
theorem lw_r3 : ∀ q ∈ lw_privs_3, lw_okq q := List.forall_mem_cons.mpr ⟨lw_p32, List.forall_mem_cons.mpr ⟨lw_p33, List.forall_mem_cons.mpr ⟨lw_p34, List.forall_mem_cons.mpr ⟨lw_p35, List.forall_mem_cons.mpr ⟨lw_p36, List.forall_mem_cons.mpr ⟨lw_p37, List.forall_mem_cons.mpr ⟨lw_p38, List.forall_mem_cons.mpr ⟨lw_p39, List.forall_mem_cons.mpr ⟨lw_p40, List.forall_mem_cons.mpr ⟨lw_p41, List.forall_mem_cons.mpr ⟨lw_p42, List.forall_mem_cons.mpr ⟨lw_p43, List.forall_mem_cons.mpr ⟨lw_p44, List.forall_mem_cons.mpr ⟨lw_p45, List.forall_mem_cons.mpr ⟨lw_p46, List.forall_mem_cons.mpr ⟨lw_p47, fun _ h => absurd h List.not_mem_nil⟩⟩⟩⟩⟩⟩⟩⟩⟩⟩⟩⟩⟩⟩⟩⟩
theorem lw_p48 : lw_okq (⟨"EnginesAsleepModel", "passes", "(C)Z"⟩, 84) := ⟨⟨by decide +kernel, by decide +kernel⟩, List.mem_of_getElem? (i := 1475) (by decide +kernel), List.mem_of_getElem? (i := 1827) (by decide +kernel), List.mem_of_getElem? (i := 1828) (by decide +kernel)⟩
theorem lw_p49 : lw_okq (⟨"EnginesAsleepModel", "fine", "()Z"⟩, 84) := ⟨⟨by decide +kernel, by decide +kernel⟩, List.mem_of_getElem? (i := 1475) (by decide +kernel), List.mem_of_getElem? (i := 1831) (by decide +kernel), List.mem_of_getElem? (i := 1832) (by decide +kernel)⟩
theorem lw_p50 : lw_okq (⟨"EnginesAsleepModel", "here", "()I"⟩, 84) := ⟨⟨by decide +kernel, by decide +kernel⟩, List.mem_of_getElem? (i := 1475) (by decide +kernel), List.mem_of_getElem? (i := 1835) (by decide +kernel), List.mem_of_getElem? (i := 1836) (by decide +kernel)⟩
theorem lw_p51 : lw_okq (⟨"EnginesAsleepModel", "isWrong", "()V"⟩, 84) := ⟨⟨by decide +kernel, by decide +kernel⟩, List.mem_of_getElem? (i := 1475) (by decide +kernel), List.mem_of_getElem? (i := 1839) (by decide +kernel), List.mem_of_getElem? (i := 1840) (by decide +kernel)⟩
theorem lw_p52 : lw_okq (⟨"EnginesAsleepModel", "letter", "(C)I"⟩, 84) := ⟨⟨by decide +kernel, by decide +kernel⟩, List.mem_of_getElem? (i := 1475) (by decide +kernel), List.mem_of_getElem? (i := 1843) (by decide +kernel), List.mem_of_getElem? (i := 1844) (by decide +kernel)⟩
theorem lw_p53 : lw_okq (⟨"EnginesAsleepModel", "isSteaming", "(I)Z"⟩, 84) := ⟨⟨by decide +kernel, by decide +kernel⟩, List.mem_of_getElem? (i := 1475) (by decide +kernel), List.mem_of_getElem? (i := 1847) (by decide +kernel), List.mem_of_getElem? (i := 1848) (by decide +kernel)⟩
theorem lw_p54 : lw_okq (⟨"EnginesAsleepModel", "isEngine", "(I)Z"⟩, 84) := ⟨⟨by decide +kernel, by decide +kernel⟩, List.mem_of_getElem? (i := 1475) (by decide +kernel), List.mem_of_getElem? (i := 1859) (by decide +kernel), List.mem_of_getElem? (i := 1860) (by decide +kernel)⟩
theorem lw_p55 : lw_okq (⟨"EnginesAsleepModel", "lost", "()I"⟩, 84) := ⟨⟨by decide +kernel, by decide +kernel⟩, List.mem_of_getElem? (i := 1475) (by decide +kernel), List.mem_of_getElem? (i := 1875) (by decide +kernel), List.mem_of_getElem? (i := 1876) (by decide +kernel)⟩
theorem lw_p56 : lw_okq (⟨"EnginesAsleepModel", "pointOf", "(I)I"⟩, 84) := ⟨⟨by decide +kernel, by decide +kernel⟩, List.mem_of_getElem? (i := 1475) (by decide +kernel), List.mem_of_getElem? (i := 1879) (by decide +kernel), List.mem_of_getElem? (i := 1880) (by decide +kernel)⟩
theorem lw_p57 : lw_okq (⟨"EnginesAsleepModel", "isAtBack", "(I)Z"⟩, 84) := ⟨⟨by decide +kernel, by decide +kernel⟩, List.mem_of_getElem? (i := 1475) (by decide +kernel), List.mem_of_getElem? (i := 1883) (by decide +kernel), List.mem_of_getElem? (i := 1884) (by decide +kernel)⟩
theorem lw_p58 : lw_okq (⟨"EnginesAsleepModel", "ahead", "(I)I"⟩, 84) := ⟨⟨by decide +kernel, by decide +kernel⟩, List.mem_of_getElem? (i := 1475) (by decide +kernel), List.mem_of_getElem? (i := 1887) (by decide +kernel), List.mem_of_getElem? (i := 1888) (by decide +kernel)⟩
theorem lw_p59 : lw_okq (⟨"EnginesAsleepModel", "isHooded", "(I)Z"⟩, 84) := ⟨⟨by decide +kernel, by decide +kernel⟩, List.mem_of_getElem? (i := 1475) (by decide +kernel), List.mem_of_getElem? (i := 1891) (by decide +kernel), List.mem_of_getElem? (i := 1892) (by decide +kernel)⟩
theorem lw_p60 : lw_okq (⟨"EnginesAsleepModel", "isTaking", "(II)Z"⟩, 84) := ⟨⟨by decide +kernel, by decide +kernel⟩, List.mem_of_getElem? (i := 1475) (by decide +kernel), List.mem_of_getElem? (i := 1899) (by decide +kernel), List.mem_of_getElem? (i := 1900) (by decide +kernel)⟩
theorem lw_p61 : lw_okq (⟨"EnginesAsleepModel", "isLet", "(IIZ)Z"⟩, 84) := ⟨⟨by decide +kernel, by decide +kernel⟩, List.mem_of_getElem? (i := 1475) (by decide +kernel), List.mem_of_getElem? (i := 1903) (by decide +kernel), List.mem_of_getElem? (i := 1904) (by decide +kernel)⟩
theorem lw_p62 : lw_okq (⟨"EnginesAsleepModel", "smoking", "()I"⟩, 84) := ⟨⟨by decide +kernel, by decide +kernel⟩, List.mem_of_getElem? (i := 1475) (by decide +kernel), List.mem_of_getElem? (i := 1911) (by decide +kernel), List.mem_of_getElem? (i := 1912) (by decide +kernel)⟩
theorem lw_p63 : lw_okq (⟨"EnginesAsleepModel", "mayGo", "(I)Z"⟩, 84) := ⟨⟨by decide +kernel, by decide +kernel⟩, List.mem_of_getElem? (i := 1475) (by decide +kernel), List.mem_of_getElem? (i := 1923) (by decide +kernel), List.mem_of_getElem? (i := 1924) (by decide +kernel)⟩
def lw_privs_4 : List (MethodName × Nat) := [(⟨"EnginesAsleepModel", "passes", "(C)Z"⟩, 84), (⟨"EnginesAsleepModel", "fine", "()Z"⟩, 84), (⟨"EnginesAsleepModel", "here", "()I"⟩, 84), (⟨"EnginesAsleepModel", "isWrong", "()V"⟩, 84), (⟨"EnginesAsleepModel", "letter", "(C)I"⟩, 84), (⟨"EnginesAsleepModel", "isSteaming", "(I)Z"⟩, 84), (⟨"EnginesAsleepModel", "isEngine", "(I)Z"⟩, 84), (⟨"EnginesAsleepModel", "lost", "()I"⟩, 84), (⟨"EnginesAsleepModel", "pointOf", "(I)I"⟩, 84), (⟨"EnginesAsleepModel", "isAtBack", "(I)Z"⟩, 84), (⟨"EnginesAsleepModel", "ahead", "(I)I"⟩, 84), (⟨"EnginesAsleepModel", "isHooded", "(I)Z"⟩, 84), (⟨"EnginesAsleepModel", "isTaking", "(II)Z"⟩, 84), (⟨"EnginesAsleepModel", "isLet", "(IIZ)Z"⟩, 84), (⟨"EnginesAsleepModel", "smoking", "()I"⟩, 84), (⟨"EnginesAsleepModel", "mayGo", "(I)Z"⟩, 84)]
theorem lw_r4 : ∀ q ∈ lw_privs_4, lw_okq q := List.forall_mem_cons.mpr ⟨lw_p48, List.forall_mem_cons.mpr ⟨lw_p49, List.forall_mem_cons.mpr ⟨lw_p50, List.forall_mem_cons.mpr ⟨lw_p51, List.forall_mem_cons.mpr ⟨lw_p52, List.forall_mem_cons.mpr ⟨lw_p53, List.forall_mem_cons.mpr ⟨lw_p54, List.forall_mem_cons.mpr ⟨lw_p55, List.forall_mem_cons.mpr ⟨lw_p56, List.forall_mem_cons.mpr ⟨lw_p57, List.forall_mem_cons.mpr ⟨lw_p58, List.forall_mem_cons.mpr ⟨lw_p59, List.forall_mem_cons.mpr ⟨lw_p60, List.forall_mem_cons.mpr ⟨lw_p61, List.forall_mem_cons.mpr ⟨lw_p62, List.forall_mem_cons.mpr ⟨lw_p63, fun _ h => absurd h List.not_mem_nil⟩⟩⟩⟩⟩⟩⟩⟩⟩⟩⟩⟩⟩⟩⟩⟩
theorem lw_p64 : lw_okq (⟨"EnginesAsleepModel", "canBe", "(II)Z"⟩, 84) := ⟨⟨by decide +kernel, by decide +kernel⟩, List.mem_of_getElem? (i := 1475) (by decide +kernel), List.mem_of_getElem? (i := 1927) (by decide +kernel), List.mem_of_getElem? (i := 1928) (by decide +kernel)⟩
theorem lw_p65 : lw_okq (⟨"EnginesAsleepModel", "cost", "(II)I"⟩, 84) := ⟨⟨by decide +kernel, by decide +kernel⟩, List.mem_of_getElem? (i := 1475) (by decide +kernel), List.mem_of_getElem? (i := 1931) (by decide +kernel), List.mem_of_getElem? (i := 1932) (by decide +kernel)⟩
theorem lw_p66 : lw_okq (⟨"EnginesAsleepModel", "bring", "(III)V"⟩, 84) := ⟨⟨by decide +kernel, by decide +kernel⟩, List.mem_of_getElem? (i := 1475) (by decide +kernel), List.mem_of_getElem? (i := 1935) (by decide +kernel), List.mem_of_getElem? (i := 1936) (by decide +kernel)⟩
theorem lw_p67 : lw_okq (⟨"EnginesAsleepModel", "takeOut", "(I)V"⟩, 84) := ⟨⟨by decide +kernel, by decide +kernel⟩, List.mem_of_getElem? (i := 1475) (by decide +kernel), List.mem_of_getElem? (i := 1939) (by decide +kernel), List.mem_of_getElem? (i := 1940) (by decide +kernel)⟩
theorem lw_p68 : lw_okq (⟨"EnginesAsleepModel", "putIn", "(II)V"⟩, 84) := ⟨⟨by decide +kernel, by decide +kernel⟩, List.mem_of_getElem? (i := 1475) (by decide +kernel), List.mem_of_getElem? (i := 1943) (by decide +kernel), List.mem_of_getElem? (i := 1944) (by decide +kernel)⟩
theorem lw_p69 : lw_okq (⟨"EnginesAsleepModel", "freeNow", "(I)Z"⟩, 84) := ⟨⟨by decide +kernel, by decide +kernel⟩, List.mem_of_getElem? (i := 1475) (by decide +kernel), List.mem_of_getElem? (i := 1955) (by decide +kernel), List.mem_of_getElem? (i := 1956) (by decide +kernel)⟩
theorem lw_p70 : lw_okq (⟨"EnginesAsleepModel", "undo", "(I)V"⟩, 84) := ⟨⟨by decide +kernel, by decide +kernel⟩, List.mem_of_getElem? (i := 1475) (by decide +kernel), List.mem_of_getElem? (i := 1959) (by decide +kernel), List.mem_of_getElem? (i := 1960) (by decide +kernel)⟩
theorem lw_p71 : lw_okq (⟨"EnginesAsleepModel", "tell", "(I)V"⟩, 84) := ⟨⟨by decide +kernel, by decide +kernel⟩, List.mem_of_getElem? (i := 1475) (by decide +kernel), List.mem_of_getElem? (i := 1963) (by decide +kernel), List.mem_of_getElem? (i := 1964) (by decide +kernel)⟩
theorem lw_p72 : lw_okq (⟨"EnginesAsleepModel", "inStalls", "()I"⟩, 84) := ⟨⟨by decide +kernel, by decide +kernel⟩, List.mem_of_getElem? (i := 1475) (by decide +kernel), List.mem_of_getElem? (i := 1971) (by decide +kernel), List.mem_of_getElem? (i := 1972) (by decide +kernel)⟩
theorem lw_p73 : lw_okq (⟨"EnginesAsleepModel", "orderFrom", "(III)V"⟩, 84) := ⟨⟨by decide +kernel, by decide +kernel⟩, List.mem_of_getElem? (i := 1475) (by decide +kernel), List.mem_of_getElem? (i := 1976) (by decide +kernel), List.mem_of_getElem? (i := 1977) (by decide +kernel)⟩
theorem lw_p74 : lw_okq (⟨"EnginesAsleepModel", "offer", "(II)V"⟩, 84) := ⟨⟨by decide +kernel, by decide +kernel⟩, List.mem_of_getElem? (i := 1475) (by decide +kernel), List.mem_of_getElem? (i := 1980) (by decide +kernel), List.mem_of_getElem? (i := 1981) (by decide +kernel)⟩
theorem lw_p75 : lw_okq (⟨"EnginesAsleepModel", "tellBest", "()V"⟩, 84) := ⟨⟨by decide +kernel, by decide +kernel⟩, List.mem_of_getElem? (i := 1475) (by decide +kernel), List.mem_of_getElem? (i := 1984) (by decide +kernel), List.mem_of_getElem? (i := 1985) (by decide +kernel)⟩
theorem lw_p76 : lw_okq (⟨"EnginesAsleepModel", "clearFrom", "(III)V"⟩, 84) := ⟨⟨by decide +kernel, by decide +kernel⟩, List.mem_of_getElem? (i := 1475) (by decide +kernel), List.mem_of_getElem? (i := 1992) (by decide +kernel), List.mem_of_getElem? (i := 1993) (by decide +kernel)⟩
theorem lw_p77 : lw_okq (⟨"EnginesAsleepModel", "underFrom", "(III)V"⟩, 84) := ⟨⟨by decide +kernel, by decide +kernel⟩, List.mem_of_getElem? (i := 1475) (by decide +kernel), List.mem_of_getElem? (i := 2000) (by decide +kernel), List.mem_of_getElem? (i := 2001) (by decide +kernel)⟩
theorem lw_p78 : lw_okq (⟨"EnginesAsleepModel", "leaveOf", "(I)I"⟩, 84) := ⟨⟨by decide +kernel, by decide +kernel⟩, List.mem_of_getElem? (i := 1475) (by decide +kernel), List.mem_of_getElem? (i := 2012) (by decide +kernel), List.mem_of_getElem? (i := 2013) (by decide +kernel)⟩
theorem lw_p79 : lw_okq (⟨"EnginesAsleepModel", "findSum", "(II)V"⟩, 84) := ⟨⟨by decide +kernel, by decide +kernel⟩, List.mem_of_getElem? (i := 1475) (by decide +kernel), List.mem_of_getElem? (i := 2025) (by decide +kernel), List.mem_of_getElem? (i := 2026) (by decide +kernel)⟩
def lw_privs_5 : List (MethodName × Nat) := [(⟨"EnginesAsleepModel", "canBe", "(II)Z"⟩, 84), (⟨"EnginesAsleepModel", "cost", "(II)I"⟩, 84), (⟨"EnginesAsleepModel", "bring", "(III)V"⟩, 84), (⟨"EnginesAsleepModel", "takeOut", "(I)V"⟩, 84), (⟨"EnginesAsleepModel", "putIn", "(II)V"⟩, 84), (⟨"EnginesAsleepModel", "freeNow", "(I)Z"⟩, 84), (⟨"EnginesAsleepModel", "undo", "(I)V"⟩, 84), (⟨"EnginesAsleepModel", "tell", "(I)V"⟩, 84), (⟨"EnginesAsleepModel", "inStalls", "()I"⟩, 84), (⟨"EnginesAsleepModel", "orderFrom", "(III)V"⟩, 84), (⟨"EnginesAsleepModel", "offer", "(II)V"⟩, 84), (⟨"EnginesAsleepModel", "tellBest", "()V"⟩, 84), (⟨"EnginesAsleepModel", "clearFrom", "(III)V"⟩, 84), (⟨"EnginesAsleepModel", "underFrom", "(III)V"⟩, 84), (⟨"EnginesAsleepModel", "leaveOf", "(I)I"⟩, 84), (⟨"EnginesAsleepModel", "findSum", "(II)V"⟩, 84)]
theorem lw_r5 : ∀ q ∈ lw_privs_5, lw_okq q := List.forall_mem_cons.mpr ⟨lw_p64, List.forall_mem_cons.mpr ⟨lw_p65, List.forall_mem_cons.mpr ⟨lw_p66, List.forall_mem_cons.mpr ⟨lw_p67, List.forall_mem_cons.mpr ⟨lw_p68, List.forall_mem_cons.mpr ⟨lw_p69, List.forall_mem_cons.mpr ⟨lw_p70, List.forall_mem_cons.mpr ⟨lw_p71, List.forall_mem_cons.mpr ⟨lw_p72, List.forall_mem_cons.mpr ⟨lw_p73, List.forall_mem_cons.mpr ⟨lw_p74, List.forall_mem_cons.mpr ⟨lw_p75, List.forall_mem_cons.mpr ⟨lw_p76, List.forall_mem_cons.mpr ⟨lw_p77, List.forall_mem_cons.mpr ⟨lw_p78, List.forall_mem_cons.mpr ⟨lw_p79, fun _ h => absurd h List.not_mem_nil⟩⟩⟩⟩⟩⟩⟩⟩⟩⟩⟩⟩⟩⟩⟩⟩
theorem lw_p80 : lw_okq (⟨"EnginesAsleepModel", "cheapest", "(I)I"⟩, 84) := ⟨⟨by decide +kernel, by decide +kernel⟩, List.mem_of_getElem? (i := 1475) (by decide +kernel), List.mem_of_getElem? (i := 2029) (by decide +kernel), List.mem_of_getElem? (i := 2030) (by decide +kernel)⟩
theorem lw_p81 : lw_okq (⟨"EnginesAsleepModel", "canStand", "(II)Z"⟩, 84) := ⟨⟨by decide +kernel, by decide +kernel⟩, List.mem_of_getElem? (i := 1475) (by decide +kernel), List.mem_of_getElem? (i := 2033) (by decide +kernel), List.mem_of_getElem? (i := 2034) (by decide +kernel)⟩
theorem lw_p82 : lw_okq (⟨"EnginesAsleepModel", "stand", "(IIZ)V"⟩, 84) := ⟨⟨by decide +kernel, by decide +kernel⟩, List.mem_of_getElem? (i := 1475) (by decide +kernel), List.mem_of_getElem? (i := 2037) (by decide +kernel), List.mem_of_getElem? (i := 2038) (by decide +kernel)⟩
theorem lw_p83 : lw_okq (⟨"EnginesAsleepModel", "findRow", "(II)Z"⟩, 84) := ⟨⟨by decide +kernel, by decide +kernel⟩, List.mem_of_getElem? (i := 1475) (by decide +kernel), List.mem_of_getElem? (i := 2041) (by decide +kernel), List.mem_of_getElem? (i := 2042) (by decide +kernel)⟩
theorem lw_p84 : lw_okq (⟨"EnginesAsleepModel", "mostIn", "(II)I"⟩, 84) := ⟨⟨by decide +kernel, by decide +kernel⟩, List.mem_of_getElem? (i := 1475) (by decide +kernel), List.mem_of_getElem? (i := 2049) (by decide +kernel), List.mem_of_getElem? (i := 2050) (by decide +kernel)⟩
theorem lw_p85 : lw_okq (⟨"EnginesAsleepModel", "findsStall", "(II)Z"⟩, 84) := ⟨⟨by decide +kernel, by decide +kernel⟩, List.mem_of_getElem? (i := 1475) (by decide +kernel), List.mem_of_getElem? (i := 2053) (by decide +kernel), List.mem_of_getElem? (i := 2054) (by decide +kernel)⟩
theorem lw_p86 : lw_okq (⟨"EnginesAsleepModel", "areEngines", "(I)Z"⟩, 84) := ⟨⟨by decide +kernel, by decide +kernel⟩, List.mem_of_getElem? (i := 1475) (by decide +kernel), List.mem_of_getElem? (i := 2069) (by decide +kernel), List.mem_of_getElem? (i := 2070) (by decide +kernel)⟩
theorem lw_p87 : lw_okq (⟨"EnginesAsleepModel", "coalBy", "(IZ)I"⟩, 84) := ⟨⟨by decide +kernel, by decide +kernel⟩, List.mem_of_getElem? (i := 1475) (by decide +kernel), List.mem_of_getElem? (i := 2073) (by decide +kernel), List.mem_of_getElem? (i := 2074) (by decide +kernel)⟩
theorem lw_p88 : lw_okq (⟨"EnginesAsleepModel", "canCoal", "(I)Z"⟩, 84) := ⟨⟨by decide +kernel, by decide +kernel⟩, List.mem_of_getElem? (i := 1475) (by decide +kernel), List.mem_of_getElem? (i := 2077) (by decide +kernel), List.mem_of_getElem? (i := 2078) (by decide +kernel)⟩
theorem lw_p89 : lw_okq (⟨"EnginesAsleepModel", "coalFrom", "(III)V"⟩, 84) := ⟨⟨by decide +kernel, by decide +kernel⟩, List.mem_of_getElem? (i := 1475) (by decide +kernel), List.mem_of_getElem? (i := 2081) (by decide +kernel), List.mem_of_getElem? (i := 2082) (by decide +kernel)⟩
theorem lw_p90 : lw_okq (⟨"EnginesAsleepModel", "isTrain", "(I)Z"⟩, 84) := ⟨⟨by decide +kernel, by decide +kernel⟩, List.mem_of_getElem? (i := 1475) (by decide +kernel), List.mem_of_getElem? (i := 2101) (by decide +kernel), List.mem_of_getElem? (i := 2102) (by decide +kernel)⟩
theorem lw_p91 : lw_okq (⟨"EnginesAsleepModel", "trainOf", "(I)I"⟩, 84) := ⟨⟨by decide +kernel, by decide +kernel⟩, List.mem_of_getElem? (i := 1475) (by decide +kernel), List.mem_of_getElem? (i := 2105) (by decide +kernel), List.mem_of_getElem? (i := 2106) (by decide +kernel)⟩
theorem lw_p92 : lw_okq (⟨"EnginesAsleepModel", "isFit", "(II)Z"⟩, 84) := ⟨⟨by decide +kernel, by decide +kernel⟩, List.mem_of_getElem? (i := 1475) (by decide +kernel), List.mem_of_getElem? (i := 2113) (by decide +kernel), List.mem_of_getElem? (i := 2114) (by decide +kernel)⟩
theorem lw_p93 : lw_okq (⟨"EnginesAsleepModel", "findRows", "(IZ)I"⟩, 84) := ⟨⟨by decide +kernel, by decide +kernel⟩, List.mem_of_getElem? (i := 1475) (by decide +kernel), List.mem_of_getElem? (i := 2121) (by decide +kernel), List.mem_of_getElem? (i := 2122) (by decide +kernel)⟩
theorem lw_p94 : lw_okq (⟨"EnginesAsleepModel", "worthOf", "(IIZ)I"⟩, 84) := ⟨⟨by decide +kernel, by decide +kernel⟩, List.mem_of_getElem? (i := 1475) (by decide +kernel), List.mem_of_getElem? (i := 2125) (by decide +kernel), List.mem_of_getElem? (i := 2126) (by decide +kernel)⟩
theorem lw_p95 : lw_okq (⟨"EnginesAsleepModel", "tellRow", "(IZ)V"⟩, 84) := ⟨⟨by decide +kernel, by decide +kernel⟩, List.mem_of_getElem? (i := 1475) (by decide +kernel), List.mem_of_getElem? (i := 2129) (by decide +kernel), List.mem_of_getElem? (i := 2130) (by decide +kernel)⟩
def lw_privs_6 : List (MethodName × Nat) := [(⟨"EnginesAsleepModel", "cheapest", "(I)I"⟩, 84), (⟨"EnginesAsleepModel", "canStand", "(II)Z"⟩, 84), (⟨"EnginesAsleepModel", "stand", "(IIZ)V"⟩, 84), (⟨"EnginesAsleepModel", "findRow", "(II)Z"⟩, 84), (⟨"EnginesAsleepModel", "mostIn", "(II)I"⟩, 84), (⟨"EnginesAsleepModel", "findsStall", "(II)Z"⟩, 84), (⟨"EnginesAsleepModel", "areEngines", "(I)Z"⟩, 84), (⟨"EnginesAsleepModel", "coalBy", "(IZ)I"⟩, 84), (⟨"EnginesAsleepModel", "canCoal", "(I)Z"⟩, 84), (⟨"EnginesAsleepModel", "coalFrom", "(III)V"⟩, 84), (⟨"EnginesAsleepModel", "isTrain", "(I)Z"⟩, 84), (⟨"EnginesAsleepModel", "trainOf", "(I)I"⟩, 84), (⟨"EnginesAsleepModel", "isFit", "(II)Z"⟩, 84), (⟨"EnginesAsleepModel", "findRows", "(IZ)I"⟩, 84), (⟨"EnginesAsleepModel", "worthOf", "(IIZ)I"⟩, 84), (⟨"EnginesAsleepModel", "tellRow", "(IZ)V"⟩, 84)]
theorem lw_r6 : ∀ q ∈ lw_privs_6, lw_okq q := List.forall_mem_cons.mpr ⟨lw_p80, List.forall_mem_cons.mpr ⟨lw_p81, List.forall_mem_cons.mpr ⟨lw_p82, List.forall_mem_cons.mpr ⟨lw_p83, List.forall_mem_cons.mpr ⟨lw_p84, List.forall_mem_cons.mpr ⟨lw_p85, List.forall_mem_cons.mpr ⟨lw_p86, List.forall_mem_cons.mpr ⟨lw_p87, List.forall_mem_cons.mpr ⟨lw_p88, List.forall_mem_cons.mpr ⟨lw_p89, List.forall_mem_cons.mpr ⟨lw_p90, List.forall_mem_cons.mpr ⟨lw_p91, List.forall_mem_cons.mpr ⟨lw_p92, List.forall_mem_cons.mpr ⟨lw_p93, List.forall_mem_cons.mpr ⟨lw_p94, List.forall_mem_cons.mpr ⟨lw_p95, fun _ h => absurd h List.not_mem_nil⟩⟩⟩⟩⟩⟩⟩⟩⟩⟩⟩⟩⟩⟩⟩⟩
theorem lw_p96 : lw_okq (⟨"EnginesAsleepModel", "goThrough", "()I"⟩, 84) := ⟨⟨by decide +kernel, by decide +kernel⟩, List.mem_of_getElem? (i := 1475) (by decide +kernel), List.mem_of_getElem? (i := 2149) (by decide +kernel), List.mem_of_getElem? (i := 2150) (by decide +kernel)⟩
theorem lw_p97 : lw_okq (⟨"EnginesAsleepModel", "lightNow", "(I)V"⟩, 84) := ⟨⟨by decide +kernel, by decide +kernel⟩, List.mem_of_getElem? (i := 1475) (by decide +kernel), List.mem_of_getElem? (i := 2153) (by decide +kernel), List.mem_of_getElem? (i := 2154) (by decide +kernel)⟩
theorem lw_p98 : lw_okq (⟨"EnginesAsleepModel", "goTrain", "(III)I"⟩, 84) := ⟨⟨by decide +kernel, by decide +kernel⟩, List.mem_of_getElem? (i := 1475) (by decide +kernel), List.mem_of_getElem? (i := 2157) (by decide +kernel), List.mem_of_getElem? (i := 2158) (by decide +kernel)⟩
theorem lw_p99 : lw_okq (⟨"EnginesAsleepModel", "swap", "(II)V"⟩, 84) := ⟨⟨by decide +kernel, by decide +kernel⟩, List.mem_of_getElem? (i := 1475) (by decide +kernel), List.mem_of_getElem? (i := 2161) (by decide +kernel), List.mem_of_getElem? (i := 2162) (by decide +kernel)⟩
theorem lw_p100 : lw_okq (⟨"EnginesAsleepModel", "findMen", "(IIIII)Z"⟩, 84) := ⟨⟨by decide +kernel, by decide +kernel⟩, List.mem_of_getElem? (i := 1475) (by decide +kernel), List.mem_of_getElem? (i := 2169) (by decide +kernel), List.mem_of_getElem? (i := 2170) (by decide +kernel)⟩
theorem lw_p101 : lw_okq (⟨"EnginesAsleepModel", "areOnes", "(IIII)Z"⟩, 84) := ⟨⟨by decide +kernel, by decide +kernel⟩, List.mem_of_getElem? (i := 1475) (by decide +kernel), List.mem_of_getElem? (i := 2173) (by decide +kernel), List.mem_of_getElem? (i := 2174) (by decide +kernel)⟩
theorem lw_p102 : lw_okq (⟨"EnginesAsleepModel", "lightFires", "(II)I"⟩, 84) := ⟨⟨by decide +kernel, by decide +kernel⟩, List.mem_of_getElem? (i := 1475) (by decide +kernel), List.mem_of_getElem? (i := 2181) (by decide +kernel), List.mem_of_getElem? (i := 2182) (by decide +kernel)⟩
theorem lw_p103 : lw_okq (⟨"EnginesAsleepModel", "endOf", "(I)I"⟩, 84) := ⟨⟨by decide +kernel, by decide +kernel⟩, List.mem_of_getElem? (i := 1475) (by decide +kernel), List.mem_of_getElem? (i := 2186) (by decide +kernel), List.mem_of_getElem? (i := 2187) (by decide +kernel)⟩
theorem lw_p104 : lw_okq (⟨"EnginesAsleepModel", "isWarm", "(III)Z"⟩, 84) := ⟨⟨by decide +kernel, by decide +kernel⟩, List.mem_of_getElem? (i := 1475) (by decide +kernel), List.mem_of_getElem? (i := 2198) (by decide +kernel), List.mem_of_getElem? (i := 2199) (by decide +kernel)⟩
def lw_privs_7 : List (MethodName × Nat) := [(⟨"EnginesAsleepModel", "goThrough", "()I"⟩, 84), (⟨"EnginesAsleepModel", "lightNow", "(I)V"⟩, 84), (⟨"EnginesAsleepModel", "goTrain", "(III)I"⟩, 84), (⟨"EnginesAsleepModel", "swap", "(II)V"⟩, 84), (⟨"EnginesAsleepModel", "findMen", "(IIIII)Z"⟩, 84), (⟨"EnginesAsleepModel", "areOnes", "(IIII)Z"⟩, 84), (⟨"EnginesAsleepModel", "lightFires", "(II)I"⟩, 84), (⟨"EnginesAsleepModel", "endOf", "(I)I"⟩, 84), (⟨"EnginesAsleepModel", "isWarm", "(III)Z"⟩, 84)]
theorem lw_r7 : ∀ q ∈ lw_privs_7, lw_okq q := List.forall_mem_cons.mpr ⟨lw_p96, List.forall_mem_cons.mpr ⟨lw_p97, List.forall_mem_cons.mpr ⟨lw_p98, List.forall_mem_cons.mpr ⟨lw_p99, List.forall_mem_cons.mpr ⟨lw_p100, List.forall_mem_cons.mpr ⟨lw_p101, List.forall_mem_cons.mpr ⟨lw_p102, List.forall_mem_cons.mpr ⟨lw_p103, List.forall_mem_cons.mpr ⟨lw_p104, fun _ h => absurd h List.not_mem_nil⟩⟩⟩⟩⟩⟩⟩⟩⟩
def lw_privs : List (MethodName × Nat) := lw_privs_1 ++ (lw_privs_2 ++ (lw_privs_3 ++ (lw_privs_4 ++ (lw_privs_5 ++ (lw_privs_6 ++ (lw_privs_7))))))
def lw_tbl : List Cond := k2_sels lw_privs ++ tables_1
theorem lw_privs_ok : ∀ q ∈ lw_privs, lw_okq q := by
  show ∀ q ∈ lw_privs_1 ++ (lw_privs_2 ++ (lw_privs_3 ++ (lw_privs_4 ++ (lw_privs_5 ++ (lw_privs_6 ++ (lw_privs_7)))))), lw_okq q
  exact List.forall_mem_append.mpr ⟨lw_r1, List.forall_mem_append.mpr ⟨lw_r2, List.forall_mem_append.mpr ⟨lw_r3, List.forall_mem_append.mpr ⟨lw_r4, List.forall_mem_append.mpr ⟨lw_r5, List.forall_mem_append.mpr ⟨lw_r6, lw_r7⟩⟩⟩⟩⟩⟩
-- ===== end of PART A; then your names; then what follows =====
end
section
def RX0 : String := "EnginesAsleep$Berths"
def TX0 : u_T := fun k => match k with
  | 0 => ("EnginesAsleep$Berths", "yard", "LEnginesAsleep$Yard;", true)
  | 1 => ("EnginesAsleep$Berths", "live", "LEnginesAsleep$Standing;", true)
  | 2 => ("EnginesAsleep$Berths", "told", "LEnginesAsleep$Rows;", true)
  | 3 => ("EnginesAsleep$Berths", "comer", "[I", true)
  | 4 => ("EnginesAsleep$Berths", "coming", "I", false)
  | 5 => ("EnginesAsleep$Berths", "leavesAs", "[I", true)
  | 6 => ("EnginesAsleep$Berths", "leaving", "I", false)
  | 7 => ("EnginesAsleep$Berths", "best", "[J", true)
  | 8 => ("EnginesAsleep$Berths", "before", "[J", true)
  | 9 => ("EnginesAsleep$Berths", "lets", "[I", true)
  | 10 => ("EnginesAsleep$Berths", "given", "[I", true)
  | 11 => ("EnginesAsleep$Berths", "holder", "[I", true)
  | 12 => ("EnginesAsleep$Berths", "seen", "I", false)
  | 13 => ("EnginesAsleep$Berths", "fixedStalls", "I", false)
  | _ => ("EnginesAsleep$Berths", "unfixed", "I", false)
def tyX0 : Nat → FieldType := fun k => match k with
  | 0 => .object "EnginesAsleep$Yard"
  | 1 => .object "EnginesAsleep$Standing"
  | 2 => .object "EnginesAsleep$Rows"
  | 3 => .array .int
  | 4 => .int
  | 5 => .array .int
  | 6 => .int
  | 7 => .array .long
  | 8 => .array .long
  | 9 => .array .int
  | 10 => .array .int
  | 11 => .array .int
  | 12 => .int
  | 13 => .int
  | _ => .int
abbrev wsX00 : List Cond := u_ws RX0 TX0 15
theorem nmX0 : ∀ a, a < 15 → ∀ b, b < 15 → a ≠ b → (TX0 a).2.1 ≠ (TX0 b).2.1 := by decide +kernel
theorem tyX0_ok : ∀ k, k < 15 → parseFieldDescriptor (TX0 k).2.2.1 = some (tyX0 k) := by decide +kernel
abbrev cX0_init : ByteArray := prog_2_method_1_code
def yX0_init : MethodName := ⟨RX0, "<init>", "(LEnginesAsleep$Yard;LEnginesAsleep$Standing;LEnginesAsleep$Rows;)V"⟩
abbrev cX0_isComing : ByteArray := prog_2_method_2_code
def yX0_isComing : MethodName := ⟨RX0, "isComing", "(I)Z"⟩
abbrev cX0_tellComing : ByteArray := prog_2_method_3_code
def yX0_tellComing : MethodName := ⟨RX0, "tellComing", "(I)I"⟩
abbrev cX0_tellLeaving : ByteArray := prog_2_method_4_code
def yX0_tellLeaving : MethodName := ⟨RX0, "tellLeaving", "(I)I"⟩
abbrev cX0_forget : ByteArray := prog_2_method_5_code
def yX0_forget : MethodName := ⟨RX0, "forget", "()I"⟩
abbrev cX0_bestPut : ByteArray := prog_2_method_6_code
def yX0_bestPut : MethodName := ⟨RX0, "bestPut", "()I"⟩
abbrev cX0_offerStall : ByteArray := prog_2_method_7_code
def yX0_offerStall : MethodName := ⟨RX0, "offerStall", "(II)V"⟩
abbrev cX0_foreLets : ByteArray := prog_2_method_8_code
def yX0_foreLets : MethodName := ⟨RX0, "foreLets", "(I)I"⟩
abbrev cX0_weight : ByteArray := prog_2_method_9_code
def yX0_weight : MethodName := ⟨RX0, "weight", "(II)J"⟩
abbrev cX0_joinTo : ByteArray := prog_2_method_10_code
def yX0_joinTo : MethodName := ⟨RX0, "joinTo", "(IJI)V"⟩
abbrev cX0_mostSeated : ByteArray := prog_2_method_11_code
def yX0_mostSeated : MethodName := ⟨RX0, "mostSeated", "(I)I"⟩
abbrev cX0_stallsFor : ByteArray := prog_2_method_12_code
def yX0_stallsFor : MethodName := ⟨RX0, "stallsFor", "(I)I"⟩
abbrev cX0_canSeat : ByteArray := prog_2_method_13_code
def yX0_canSeat : MethodName := ⟨RX0, "canSeat", "(II)Z"⟩
abbrev cX0_canSeatAnother : ByteArray := prog_2_method_14_code
def yX0_canSeatAnother : MethodName := ⟨RX0, "canSeatAnother", "()Z"⟩
abbrev cX0_fixLeast : ByteArray := prog_2_method_15_code
def yX0_fixLeast : MethodName := ⟨RX0, "fixLeast", "(I)V"⟩
def RX1 : String := "EnginesAsleep$Bunker"
def TX1 : u_T := fun k => match k with
  | 0 => ("EnginesAsleep$Bunker", "fleet", "LEnginesAsleep$Fleet;", true)
  | 1 => ("EnginesAsleep$Bunker", "told", "LEnginesAsleep$Rows;", true)
  | 2 => ("EnginesAsleep$Bunker", "there", "[I", true)
  | 3 => ("EnginesAsleep$Bunker", "stays", "[I", true)
  | 4 => ("EnginesAsleep$Bunker", "taken", "[I", true)
  | 5 => ("EnginesAsleep$Bunker", "bestTaken", "[I", true)
  | 6 => ("EnginesAsleep$Bunker", "wanter", "[I", true)
  | 7 => ("EnginesAsleep$Bunker", "many", "I", false)
  | 8 => ("EnginesAsleep$Bunker", "gets", "[I", true)
  | 9 => ("EnginesAsleep$Bunker", "bestGets", "[I", true)
  | _ => ("EnginesAsleep$Bunker", "found", "Z", false)
def tyX1 : Nat → FieldType := fun k => match k with
  | 0 => .object "EnginesAsleep$Fleet"
  | 1 => .object "EnginesAsleep$Rows"
  | 2 => .array .int
  | 3 => .array .int
  | 4 => .array .int
  | 5 => .array .int
  | 6 => .array .int
  | 7 => .int
  | 8 => .array .int
  | 9 => .array .int
  | _ => .boolean
abbrev wsX10 : List Cond := u_ws RX1 TX1 11
theorem nmX1 : ∀ a, a < 11 → ∀ b, b < 11 → a ≠ b → (TX1 a).2.1 ≠ (TX1 b).2.1 := by decide +kernel
theorem tyX1_ok : ∀ k, k < 11 → parseFieldDescriptor (TX1 k).2.2.1 = some (tyX1 k) := by decide +kernel
abbrev cX1_init : ByteArray := prog_3_method_1_code
def yX1_init : MethodName := ⟨RX1, "<init>", "(LEnginesAsleep$Fleet;LEnginesAsleep$Rows;)V"⟩
abbrev cX1_canCount : ByteArray := prog_3_method_2_code
def yX1_canCount : MethodName := ⟨RX1, "canCount", "(I)Z"⟩
abbrev cX1_callUp : ByteArray := prog_3_method_3_code
def yX1_callUp : MethodName := ⟨RX1, "callUp", "(I)V"⟩
abbrev cX1_canTake : ByteArray := prog_3_method_4_code
def yX1_canTake : MethodName := ⟨RX1, "canTake", "(II)Z"⟩
abbrev cX1_share : ByteArray := prog_3_method_5_code
def yX1_share : MethodName := ⟨RX1, "share", "(IZ)I"⟩
abbrev cX1_tryGrades : ByteArray := prog_3_method_6_code
def yX1_tryGrades : MethodName := ⟨RX1, "tryGrades", "(I)V"⟩
abbrev cX1_isBetter : ByteArray := prog_3_method_7_code
def yX1_isBetter : MethodName := ⟨RX1, "isBetter", "()Z"⟩
abbrev cX1_mostTogether : ByteArray := prog_3_method_8_code
def yX1_mostTogether : MethodName := ⟨RX1, "mostTogether", "(I)I"⟩
abbrev cX1_canCoal : ByteArray := prog_3_method_9_code
def yX1_canCoal : MethodName := ⟨RX1, "canCoal", "(II)Z"⟩
def RX2 : String := "EnginesAsleep$Dawn"
def TX2 : u_T := fun k => match k with
  | 0 => ("EnginesAsleep$Dawn", "yard", "LEnginesAsleep$Yard;", true)
  | 1 => ("EnginesAsleep$Dawn", "trains", "LEnginesAsleep$Trains;", true)
  | 2 => ("EnginesAsleep$Dawn", "live", "LEnginesAsleep$Standing;", true)
  | 3 => ("EnginesAsleep$Dawn", "told", "LEnginesAsleep$Rows;", true)
  | 4 => ("EnginesAsleep$Dawn", "here", "LEnginesAsleep$Standing;", true)
  | 5 => ("EnginesAsleep$Dawn", "late", "[I", true)
  | 6 => ("EnginesAsleep$Dawn", "byTable", "[I", true)
  | 7 => ("EnginesAsleep$Dawn", "bySteam", "[I", true)
  | 8 => ("EnginesAsleep$Dawn", "byFront", "[I", true)
  | _ => ("EnginesAsleep$Dawn", "tableFree", "I", false)
def tyX2 : Nat → FieldType := fun k => match k with
  | 0 => .object "EnginesAsleep$Yard"
  | 1 => .object "EnginesAsleep$Trains"
  | 2 => .object "EnginesAsleep$Standing"
  | 3 => .object "EnginesAsleep$Rows"
  | 4 => .object "EnginesAsleep$Standing"
  | 5 => .array .int
  | 6 => .array .int
  | 7 => .array .int
  | 8 => .array .int
  | _ => .int
abbrev wsX20 : List Cond := u_ws RX2 TX2 10
theorem nmX2 : ∀ a, a < 10 → ∀ b, b < 10 → a ≠ b → (TX2 a).2.1 ≠ (TX2 b).2.1 := by decide +kernel
theorem tyX2_ok : ∀ k, k < 10 → parseFieldDescriptor (TX2 k).2.2.1 = some (tyX2 k) := by decide +kernel
abbrev cX2_init : ByteArray := prog_4_method_1_code
def yX2_init : MethodName := ⟨RX2, "<init>", "(LEnginesAsleep$Yard;LEnginesAsleep$Trains;LEnginesAsleep$Standing;LEnginesAsleep$Rows;)V"⟩
abbrev cX2_goThrough : ByteArray := prog_4_method_2_code
def yX2_goThrough : MethodName := ⟨RX2, "goThrough", "()I"⟩
abbrev cX2_lightAll : ByteArray := prog_4_method_3_code
def yX2_lightAll : MethodName := ⟨RX2, "lightAll", "()V"⟩
abbrev cX2_lightOne : ByteArray := prog_4_method_4_code
def yX2_lightOne : MethodName := ⟨RX2, "lightOne", "(I)V"⟩
abbrev cX2_waitOnRoad : ByteArray := prog_4_method_5_code
def yX2_waitOnRoad : MethodName := ⟨RX2, "waitOnRoad", "(II)I"⟩
abbrev cX2_comeFromStall : ByteArray := prog_4_method_6_code
def yX2_comeFromStall : MethodName := ⟨RX2, "comeFromStall", "(II)I"⟩
abbrev cX2_causeOf : ByteArray := prog_4_method_7_code
def yX2_causeOf : MethodName := ⟨RX2, "causeOf", "(I)I"⟩
abbrev cX2_bestExchange : ByteArray := prog_4_method_8_code
def yX2_bestExchange : MethodName := ⟨RX2, "bestExchange", "()I"⟩
abbrev cX2_canExchange : ByteArray := prog_4_method_9_code
def yX2_canExchange : MethodName := ⟨RX2, "canExchange", "(II)Z"⟩
abbrev cX2_swap : ByteArray := prog_4_method_10_code
def yX2_swap : MethodName := ⟨RX2, "swap", "(II)V"⟩
def RX3 : String := "EnginesAsleep$Fleet"
def TX3 : u_T := fun k => match k with
  | 0 => ("EnginesAsleep$Fleet", "many", "I", false)
  | 1 => ("EnginesAsleep$Fleet", "length", "[I", true)
  | 2 => ("EnginesAsleep$Fleet", "kind", "[I", true)
  | 3 => ("EnginesAsleep$Fleet", "raise", "[I", true)
  | 4 => ("EnginesAsleep$Fleet", "visitor", "[Z", true)
  | 5 => ("EnginesAsleep$Fleet", "tons", "[I", true)
  | _ => ("EnginesAsleep$Fleet", "grade", "[I", true)
def tyX3 : Nat → FieldType := fun k => match k with
  | 0 => .int
  | 1 => .array .int
  | 2 => .array .int
  | 3 => .array .int
  | 4 => .array .boolean
  | 5 => .array .int
  | _ => .array .int
abbrev wsX30 : List Cond := u_ws RX3 TX3 7
theorem nmX3 : ∀ a, a < 7 → ∀ b, b < 7 → a ≠ b → (TX3 a).2.1 ≠ (TX3 b).2.1 := by decide +kernel
theorem tyX3_ok : ∀ k, k < 7 → parseFieldDescriptor (TX3 k).2.2.1 = some (tyX3 k) := by decide +kernel
abbrev cX3_init : ByteArray := prog_5_method_1_code
def yX3_init : MethodName := ⟨RX3, "<init>", "()V"⟩
abbrev cX3_has : ByteArray := prog_5_method_2_code
def yX3_has : MethodName := ⟨RX3, "has", "(I)Z"⟩
abbrev cX3_hasOthers : ByteArray := prog_5_method_3_code
def yX3_hasOthers : MethodName := ⟨RX3, "hasOthers", "(I)Z"⟩
abbrev cX3_enlist : ByteArray := prog_5_method_4_code
def yX3_enlist : MethodName := ⟨RX3, "enlist", "(IIIZ)I"⟩
def RX4 : String := "EnginesAsleep$Ring"
def TX4 : u_T := fun k => match k with
  | 0 => ("EnginesAsleep$Ring", "stalls", "I", false)
  | 1 => ("EnginesAsleep$Ring", "turn", "I", false)
  | 2 => ("EnginesAsleep$Ring", "go", "I", false)
  | 3 => ("EnginesAsleep$Ring", "length", "[I", true)
  | 4 => ("EnginesAsleep$Ring", "hoods", "[I", true)
  | _ => ("EnginesAsleep$Ring", "closed", "[Z", true)
def tyX4 : Nat → FieldType := fun k => match k with
  | 0 => .int
  | 1 => .int
  | 2 => .int
  | 3 => .array .int
  | 4 => .array .int
  | _ => .array .boolean
abbrev wsX40 : List Cond := u_ws RX4 TX4 6
theorem nmX4 : ∀ a, a < 6 → ∀ b, b < 6 → a ≠ b → (TX4 a).2.1 ≠ (TX4 b).2.1 := by decide +kernel
theorem tyX4_ok : ∀ k, k < 6 → parseFieldDescriptor (TX4 k).2.2.1 = some (tyX4 k) := by decide +kernel
abbrev cX4_init : ByteArray := prog_6_method_1_code
def yX4_init : MethodName := ⟨RX4, "<init>", "()V"⟩
abbrev cX4_renew : ByteArray := prog_6_method_2_code
def yX4_renew : MethodName := ⟨RX4, "renew", "(I)V"⟩
abbrev cX4_hasStall : ByteArray := prog_6_method_3_code
def yX4_hasStall : MethodName := ⟨RX4, "hasStall", "(I)Z"⟩
abbrev cX4_hasPoint : ByteArray := prog_6_method_4_code
def yX4_hasPoint : MethodName := ⟨RX4, "hasPoint", "(I)Z"⟩
abbrev cX4_stepsBetween : ByteArray := prog_6_method_5_code
def yX4_stepsBetween : MethodName := ⟨RX4, "stepsBetween", "(II)I"⟩
abbrev cX4_stallsBetween : ByteArray := prog_6_method_6_code
def yX4_stallsBetween : MethodName := ⟨RX4, "stallsBetween", "(II)I"⟩
abbrev cX4_isHood : ByteArray := prog_6_method_7_code
def yX4_isHood : MethodName := ⟨RX4, "isHood", "(IZ)Z"⟩
abbrev cX4_readSheet : ByteArray := prog_6_method_8_code
def yX4_readSheet : MethodName := ⟨RX4, "readSheet", "(IIII)I"⟩
abbrev cX4_asLength : ByteArray := prog_6_method_9_code
def yX4_asLength : MethodName := ⟨RX4, "asLength", "(II)I"⟩
def RX5 : String := "EnginesAsleep$Rows"
def TX5 : u_T := fun k => match k with
  | 0 => ("EnginesAsleep$Rows", "numbers", "[I", true)
  | _ => ("EnginesAsleep$Rows", "size", "I", false)
def tyX5 : Nat → FieldType := fun k => match k with
  | 0 => .array .int
  | _ => .int
abbrev wsX50 : List Cond := u_ws RX5 TX5 2
theorem nmX5 : ∀ a, a < 2 → ∀ b, b < 2 → a ≠ b → (TX5 a).2.1 ≠ (TX5 b).2.1 := by decide +kernel
theorem tyX5_ok : ∀ k, k < 2 → parseFieldDescriptor (TX5 k).2.2.1 = some (tyX5 k) := by decide +kernel
abbrev cX5_init : ByteArray := prog_7_method_1_code
def yX5_init : MethodName := ⟨RX5, "<init>", "()V"⟩
abbrev cX5_empty : ByteArray := prog_7_method_2_code
def yX5_empty : MethodName := ⟨RX5, "empty", "()V"⟩
abbrev cX5_tell : ByteArray := prog_7_method_3_code
def yX5_tell : MethodName := ⟨RX5, "tell", "(I)V"⟩
abbrev cX5_tellOne : ByteArray := prog_7_method_4_code
def yX5_tellOne : MethodName := ⟨RX5, "tellOne", "(I)V"⟩
abbrev cX5_tellTwo : ByteArray := prog_7_method_5_code
def yX5_tellTwo : MethodName := ⟨RX5, "tellTwo", "(II)V"⟩
def RX6 : String := "EnginesAsleep$Rule"
def TX6 : u_T := fun k => match k with
  | 0 => ("EnginesAsleep$Rule", "text", "[I", true)
  | 1 => ("EnginesAsleep$Rule", "signs", "I", false)
  | 2 => ("EnginesAsleep$Rule", "code", "[I", false)
  | 3 => ("EnginesAsleep$Rule", "codeLength", "I", false)
  | 4 => ("EnginesAsleep$Rule", "draft", "[I", false)
  | 5 => ("EnginesAsleep$Rule", "draftLength", "I", false)
  | 6 => ("EnginesAsleep$Rule", "at", "I", false)
  | 7 => ("EnginesAsleep$Rule", "limit", "I", false)
  | 8 => ("EnginesAsleep$Rule", "stack", "[I", true)
  | _ => ("EnginesAsleep$Rule", "letters", "[I", true)
def tyX6 : Nat → FieldType := fun k => match k with
  | 0 => .array .int
  | 1 => .int
  | 2 => .array .int
  | 3 => .int
  | 4 => .array .int
  | 5 => .int
  | 6 => .int
  | 7 => .int
  | 8 => .array .int
  | _ => .array .int
abbrev wsX60 : List Cond := u_ws RX6 TX6 10
theorem nmX6 : ∀ a, a < 10 → ∀ b, b < 10 → a ≠ b → (TX6 a).2.1 ≠ (TX6 b).2.1 := by decide +kernel
theorem tyX6_ok : ∀ k, k < 10 → parseFieldDescriptor (TX6 k).2.2.1 = some (tyX6 k) := by decide +kernel
abbrev cX6_init : ByteArray := prog_8_method_1_code
def yX6_init : MethodName := ⟨RX6, "<init>", "()V"⟩
abbrev cX6_append : ByteArray := prog_8_method_2_code
def yX6_append : MethodName := ⟨RX6, "append", "(I)I"⟩
abbrev cX6_cut : ByteArray := prog_8_method_3_code
def yX6_cut : MethodName := ⟨RX6, "cut", "(I)Z"⟩
abbrev cX6_adopt : ByteArray := prog_8_method_4_code
def yX6_adopt : MethodName := ⟨RX6, "adopt", "()I"⟩
abbrev cX6_readLevel : ByteArray := prog_8_method_5_code
def yX6_readLevel : MethodName := ⟨RX6, "readLevel", "(II)Z"⟩
abbrev cX6_readThing : ByteArray := prog_8_method_6_code
def yX6_readThing : MethodName := ⟨RX6, "readThing", "(I)Z"⟩
abbrev cX6_readCore : ByteArray := prog_8_method_7_code
def yX6_readCore : MethodName := ⟨RX6, "readCore", "(I)Z"⟩
abbrev cX6_readNumber : ByteArray := prog_8_method_8_code
def yX6_readNumber : MethodName := ⟨RX6, "readNumber", "()V"⟩
abbrev cX6_isDigit : ByteArray := prog_8_method_9_code
def yX6_isDigit : MethodName := ⟨RX6, "isDigit", "(I)Z"⟩
abbrev cX6_joining : ByteArray := prog_8_method_10_code
def yX6_joining : MethodName := ⟨RX6, "joining", "(II)I"⟩
abbrev cX6_write : ByteArray := prog_8_method_11_code
def yX6_write : MethodName := ⟨RX6, "write", "(I)V"⟩
abbrev cX6_value : ByteArray := prog_8_method_12_code
def yX6_value : MethodName := ⟨RX6, "value", "()I"⟩
def RX7 : String := "EnginesAsleep$Standing"
def TX7 : u_T := fun k => match k with
  | 0 => ("EnginesAsleep$Standing", "table", "I", false)
  | 1 => ("EnginesAsleep$Standing", "now", "I", false)
  | 2 => ("EnginesAsleep$Standing", "dead", "I", false)
  | 3 => ("EnginesAsleep$Standing", "back", "[I", true)
  | 4 => ("EnginesAsleep$Standing", "front", "[I", true)
  | 5 => ("EnginesAsleep$Standing", "stallOf", "[I", true)
  | _ => ("EnginesAsleep$Standing", "litAt", "[I", true)
def tyX7 : Nat → FieldType := fun k => match k with
  | 0 => .int
  | 1 => .int
  | 2 => .int
  | 3 => .array .int
  | 4 => .array .int
  | 5 => .array .int
  | _ => .array .int
abbrev wsX70 : List Cond := u_ws RX7 TX7 7
theorem nmX7 : ∀ a, a < 7 → ∀ b, b < 7 → a ≠ b → (TX7 a).2.1 ≠ (TX7 b).2.1 := by decide +kernel
theorem tyX7_ok : ∀ k, k < 7 → parseFieldDescriptor (TX7 k).2.2.1 = some (tyX7 k) := by decide +kernel
abbrev cX7_init : ByteArray := prog_9_method_1_code
def yX7_init : MethodName := ⟨RX7, "<init>", "()V"⟩
abbrev cX7_takeFrom : ByteArray := prog_9_method_2_code
def yX7_takeFrom : MethodName := ⟨RX7, "takeFrom", "(LEnginesAsleep$Standing;)V"⟩
abbrev cX7_onRoad : ByteArray := prog_9_method_3_code
def yX7_onRoad : MethodName := ⟨RX7, "onRoad", "(I)Z"⟩
abbrev cX7_isDead : ByteArray := prog_9_method_4_code
def yX7_isDead : MethodName := ⟨RX7, "isDead", "(I)Z"⟩
abbrev cX7_atBack : ByteArray := prog_9_method_5_code
def yX7_atBack : MethodName := ⟨RX7, "atBack", "(I)Z"⟩
abbrev cX7_inFrontOf : ByteArray := prog_9_method_6_code
def yX7_inFrontOf : MethodName := ⟨RX7, "inFrontOf", "(I)I"⟩
abbrev cX7_inStalls : ByteArray := prog_9_method_7_code
def yX7_inStalls : MethodName := ⟨RX7, "inStalls", "()I"⟩
abbrev cX7_lit : ByteArray := prog_9_method_8_code
def yX7_lit : MethodName := ⟨RX7, "lit", "()I"⟩
abbrev cX7_bring : ByteArray := prog_9_method_9_code
def yX7_bring : MethodName := ⟨RX7, "bring", "(II)V"⟩
def RX8 : String := "EnginesAsleep$Trains"
def TX8 : u_T := fun k => match k with
  | 0 => ("EnginesAsleep$Trains", "yard", "LEnginesAsleep$Yard;", true)
  | 1 => ("EnginesAsleep$Trains", "live", "LEnginesAsleep$Standing;", true)
  | 2 => ("EnginesAsleep$Trains", "told", "LEnginesAsleep$Rows;", true)
  | 3 => ("EnginesAsleep$Trains", "many", "I", false)
  | 4 => ("EnginesAsleep$Trains", "minute", "[I", true)
  | 5 => ("EnginesAsleep$Trains", "kind", "[I", true)
  | 6 => ("EnginesAsleep$Trains", "away", "[I", true)
  | 7 => ("EnginesAsleep$Trains", "planned", "[I", true)
  | 8 => ("EnginesAsleep$Trains", "turn", "[I", true)
  | 9 => ("EnginesAsleep$Trains", "best", "[J", true)
  | 10 => ("EnginesAsleep$Trains", "weight", "[J", true)
  | 11 => ("EnginesAsleep$Trains", "chosen", "[I", true)
  | 12 => ("EnginesAsleep$Trains", "parted", "I", false)
  | 13 => ("EnginesAsleep$Trains", "man", "[I", true)
  | 14 => ("EnginesAsleep$Trains", "hisTrains", "[I", true)
  | 15 => ("EnginesAsleep$Trains", "clash", "[I", true)
  | 16 => ("EnginesAsleep$Trains", "begun", "[I", true)
  | _ => ("EnginesAsleep$Trains", "freeUntil", "[I", true)
def tyX8 : Nat → FieldType := fun k => match k with
  | 0 => .object "EnginesAsleep$Yard"
  | 1 => .object "EnginesAsleep$Standing"
  | 2 => .object "EnginesAsleep$Rows"
  | 3 => .int
  | 4 => .array .int
  | 5 => .array .int
  | 6 => .array .int
  | 7 => .array .int
  | 8 => .array .int
  | 9 => .array .long
  | 10 => .array .long
  | 11 => .array .int
  | 12 => .int
  | 13 => .array .int
  | 14 => .array .int
  | 15 => .array .int
  | 16 => .array .int
  | _ => .array .int
abbrev wsX80 : List Cond := u_ws RX8 TX8 18
theorem nmX8 : ∀ a, a < 18 → ∀ b, b < 18 → a ≠ b → (TX8 a).2.1 ≠ (TX8 b).2.1 := by decide +kernel
theorem tyX8_ok : ∀ k, k < 18 → parseFieldDescriptor (TX8 k).2.2.1 = some (tyX8 k) := by decide +kernel
abbrev cX8_init : ByteArray := prog_10_method_1_code
def yX8_init : MethodName := ⟨RX8, "<init>", "(LEnginesAsleep$Yard;LEnginesAsleep$Standing;LEnginesAsleep$Rows;)V"⟩
abbrev cX8_has : ByteArray := prog_10_method_2_code
def yX8_has : MethodName := ⟨RX8, "has", "(I)Z"⟩
abbrev cX8_enlist : ByteArray := prog_10_method_3_code
def yX8_enlist : MethodName := ⟨RX8, "enlist", "(III)I"⟩
abbrev cX8_trainOf : ByteArray := prog_10_method_4_code
def yX8_trainOf : MethodName := ⟨RX8, "trainOf", "(I)I"⟩
abbrev cX8_suits : ByteArray := prog_10_method_5_code
def yX8_suits : MethodName := ⟨RX8, "suits", "(II)Z"⟩
abbrev cX8_bestRow : ByteArray := prog_10_method_6_code
def yX8_bestRow : MethodName := ⟨RX8, "bestRow", "(IZ)I"⟩
abbrev cX8_offerEngine : ByteArray := prog_10_method_7_code
def yX8_offerEngine : MethodName := ⟨RX8, "offerEngine", "(IZ)V"⟩
abbrev cX8_tellChosen : ByteArray := prog_10_method_8_code
def yX8_tellChosen : MethodName := ⟨RX8, "tellChosen", "()V"⟩
abbrev cX8_soonestFor : ByteArray := prog_10_method_9_code
def yX8_soonestFor : MethodName := ⟨RX8, "soonestFor", "(I)I"⟩
abbrev cX8_badlyBehind : ByteArray := prog_10_method_10_code
def yX8_badlyBehind : MethodName := ⟨RX8, "badlyBehind", "()I"⟩
abbrev cX8_fewestCrews : ByteArray := prog_10_method_11_code
def yX8_fewestCrews : MethodName := ⟨RX8, "fewestCrews", "(II)I"⟩
abbrev cX8_canShare : ByteArray := prog_10_method_12_code
def yX8_canShare : MethodName := ⟨RX8, "canShare", "(IIII)Z"⟩
abbrev cX8_canCrew : ByteArray := prog_10_method_13_code
def yX8_canCrew : MethodName := ⟨RX8, "canCrew", "(III)Z"⟩
abbrev cX8_beginFires : ByteArray := prog_10_method_14_code
def yX8_beginFires : MethodName := ⟨RX8, "beginFires", "(II)I"⟩
abbrev cX8_litBy : ByteArray := prog_10_method_15_code
def yX8_litBy : MethodName := ⟨RX8, "litBy", "(I)I"⟩
abbrev cX8_latestOf : ByteArray := prog_10_method_16_code
def yX8_latestOf : MethodName := ⟨RX8, "latestOf", "(I)I"⟩
abbrev cX8_tellFires : ByteArray := prog_10_method_17_code
def yX8_tellFires : MethodName := ⟨RX8, "tellFires", "()V"⟩
abbrev cX8_fewestMen : ByteArray := prog_10_method_18_code
def yX8_fewestMen : MethodName := ⟨RX8, "fewestMen", "(I)I"⟩
def RX9 : String := "EnginesAsleep$Ways"
def TX9 : u_T := fun k => match k with
  | 0 => ("EnginesAsleep$Ways", "yard", "LEnginesAsleep$Yard;", true)
  | 1 => ("EnginesAsleep$Ways", "told", "LEnginesAsleep$Rows;", true)
  | 2 => ("EnginesAsleep$Ways", "levels", "[LEnginesAsleep$Standing;", true)
  | 3 => ("EnginesAsleep$Ways", "chosen", "[I", true)
  | 4 => ("EnginesAsleep$Ways", "bestChosen", "[I", true)
  | 5 => ("EnginesAsleep$Ways", "best", "I", false)
  | 6 => ("EnginesAsleep$Ways", "bestFirst", "I", false)
  | 7 => ("EnginesAsleep$Ways", "bestLast", "I", false)
  | 8 => ("EnginesAsleep$Ways", "bestMover", "I", false)
  | 9 => ("EnginesAsleep$Ways", "lastMover", "I", false)
  | 10 => ("EnginesAsleep$Ways", "warms", "[I", true)
  | 11 => ("EnginesAsleep$Ways", "warmsUpTo", "[I", true)
  | 12 => ("EnginesAsleep$Ways", "allInStalls", "I", false)
  | _ => ("EnginesAsleep$Ways", "warmBits", "I", false)
def tyX9 : Nat → FieldType := fun k => match k with
  | 0 => .object "EnginesAsleep$Yard"
  | 1 => .object "EnginesAsleep$Rows"
  | 2 => .array (.object "EnginesAsleep$Standing")
  | 3 => .array .int
  | 4 => .array .int
  | 5 => .int
  | 6 => .int
  | 7 => .int
  | 8 => .int
  | 9 => .int
  | 10 => .array .int
  | 11 => .array .int
  | 12 => .int
  | _ => .int
abbrev wsX90 : List Cond := u_ws RX9 TX9 14
theorem nmX9 : ∀ a, a < 14 → ∀ b, b < 14 → a ≠ b → (TX9 a).2.1 ≠ (TX9 b).2.1 := by decide +kernel
theorem tyX9_ok : ∀ k, k < 14 → parseFieldDescriptor (TX9 k).2.2.1 = some (tyX9 k) := by decide +kernel
abbrev cX9_init : ByteArray := prog_11_method_1_code
def yX9_init : MethodName := ⟨RX9, "<init>", "(LEnginesAsleep$Yard;LEnginesAsleep$Rows;)V"⟩
abbrev cX9_bestOrder : ByteArray := prog_11_method_2_code
def yX9_bestOrder : MethodName := ⟨RX9, "bestOrder", "(LEnginesAsleep$Standing;I)I"⟩
abbrev cX9_tryOrders : ByteArray := prog_11_method_3_code
def yX9_tryOrders : MethodName := ⟨RX9, "tryOrders", "(III)V"⟩
abbrev cX9_emptied : ByteArray := prog_11_method_4_code
def yX9_emptied : MethodName := ⟨RX9, "emptied", "(LEnginesAsleep$Standing;I)I"⟩
abbrev cX9_tryBothAway : ByteArray := prog_11_method_5_code
def yX9_tryBothAway : MethodName := ⟨RX9, "tryBothAway", "(LEnginesAsleep$Standing;I)V"⟩
abbrev cX9_tryLastAway : ByteArray := prog_11_method_6_code
def yX9_tryLastAway : MethodName := ⟨RX9, "tryLastAway", "(LEnginesAsleep$Standing;III)V"⟩
abbrev cX9_underHoods : ByteArray := prog_11_method_7_code
def yX9_underHoods : MethodName := ⟨RX9, "underHoods", "(LEnginesAsleep$Standing;)I"⟩
abbrev cX9_tryTwoUnder : ByteArray := prog_11_method_8_code
def yX9_tryTwoUnder : MethodName := ⟨RX9, "tryTwoUnder", "(LEnginesAsleep$Standing;I)V"⟩
abbrev cX9_tryUnderHood : ByteArray := prog_11_method_9_code
def yX9_tryUnderHood : MethodName := ⟨RX9, "tryUnderHood", "(LEnginesAsleep$Standing;IIII)V"⟩
abbrev cX9_fewestWarm : ByteArray := prog_11_method_10_code
def yX9_fewestWarm : MethodName := ⟨RX9, "fewestWarm", "(LEnginesAsleep$Standing;I)I"⟩
abbrev cX9_canWarm : ByteArray := prog_11_method_11_code
def yX9_canWarm : MethodName := ⟨RX9, "canWarm", "(III)Z"⟩
def RX10 : String := "EnginesAsleep$Yard"
def TX10 : u_T := fun k => match k with
  | 0 => ("EnginesAsleep$Yard", "circle", "LEnginesAsleep$Ring;", true)
  | 1 => ("EnginesAsleep$Yard", "fleet", "LEnginesAsleep$Fleet;", true)
  | 2 => ("EnginesAsleep$Yard", "law", "LEnginesAsleep$Rule;", true)
  | 3 => ("EnginesAsleep$Yard", "asideTo", "I", false)
  | 4 => ("EnginesAsleep$Yard", "asideMinutes", "I", false)
  | _ => ("EnginesAsleep$Yard", "ownMinutes", "I", false)
def tyX10 : Nat → FieldType := fun k => match k with
  | 0 => .object "EnginesAsleep$Ring"
  | 1 => .object "EnginesAsleep$Fleet"
  | 2 => .object "EnginesAsleep$Rule"
  | 3 => .int
  | 4 => .int
  | _ => .int
abbrev wsX100 : List Cond := u_ws RX10 TX10 6
theorem nmX10 : ∀ a, a < 6 → ∀ b, b < 6 → a ≠ b → (TX10 a).2.1 ≠ (TX10 b).2.1 := by decide +kernel
theorem tyX10_ok : ∀ k, k < 6 → parseFieldDescriptor (TX10 k).2.2.1 = some (tyX10 k) := by decide +kernel
abbrev cX10_init : ByteArray := prog_12_method_1_code
def yX10_init : MethodName := ⟨RX10, "<init>", "(LEnginesAsleep$Ring;LEnginesAsleep$Fleet;LEnginesAsleep$Rule;)V"⟩
abbrev cX10_pointOf : ByteArray := prog_12_method_2_code
def yX10_pointOf : MethodName := ⟨RX10, "pointOf", "(LEnginesAsleep$Standing;I)I"⟩
abbrev cX10_lengthIn : ByteArray := prog_12_method_3_code
def yX10_lengthIn : MethodName := ⟨RX10, "lengthIn", "(LEnginesAsleep$Standing;I)I"⟩
abbrev cX10_inSteamFrom : ByteArray := prog_12_method_4_code
def yX10_inSteamFrom : MethodName := ⟨RX10, "inSteamFrom", "(LEnginesAsleep$Standing;I)I"⟩
abbrev cX10_inSteam : ByteArray := prog_12_method_5_code
def yX10_inSteam : MethodName := ⟨RX10, "inSteam", "(LEnginesAsleep$Standing;II)Z"⟩
abbrev cX10_mayGo : ByteArray := prog_12_method_6_code
def yX10_mayGo : MethodName := ⟨RX10, "mayGo", "(LEnginesAsleep$Standing;II)Z"⟩
abbrev cX10_isHooded : ByteArray := prog_12_method_7_code
def yX10_isHooded : MethodName := ⟨RX10, "isHooded", "(LEnginesAsleep$Standing;I)Z"⟩
abbrev cX10_isNextHooded : ByteArray := prog_12_method_8_code
def yX10_isNextHooded : MethodName := ⟨RX10, "isNextHooded", "(LEnginesAsleep$Standing;I)Z"⟩
abbrev cX10_smoking : ByteArray := prog_12_method_9_code
def yX10_smoking : MethodName := ⟨RX10, "smoking", "(LEnginesAsleep$Standing;)I"⟩
abbrev cX10_takesIt : ByteArray := prog_12_method_10_code
def yX10_takesIt : MethodName := ⟨RX10, "takesIt", "(LEnginesAsleep$Standing;II)Z"⟩
abbrev cX10_ruleLets : ByteArray := prog_12_method_11_code
def yX10_ruleLets : MethodName := ⟨RX10, "ruleLets", "(LEnginesAsleep$Standing;IIZ)Z"⟩
abbrev cX10_minutes : ByteArray := prog_12_method_12_code
def yX10_minutes : MethodName := ⟨RX10, "minutes", "(LEnginesAsleep$Standing;II)I"⟩
abbrev cX10_canStandAt : ByteArray := prog_12_method_13_code
def yX10_canStandAt : MethodName := ⟨RX10, "canStandAt", "(LEnginesAsleep$Standing;II)Z"⟩
abbrev cX10_canGoTo : ByteArray := prog_12_method_14_code
def yX10_canGoTo : MethodName := ⟨RX10, "canGoTo", "(LEnginesAsleep$Standing;II)Z"⟩
abbrev cX10_shift : ByteArray := prog_12_method_15_code
def yX10_shift : MethodName := ⟨RX10, "shift", "(LEnginesAsleep$Standing;III)I"⟩
abbrev cX10_freeing : ByteArray := prog_12_method_16_code
def yX10_freeing : MethodName := ⟨RX10, "freeing", "(LEnginesAsleep$Standing;I)I"⟩
abbrev cX10_sendOut : ByteArray := prog_12_method_17_code
def yX10_sendOut : MethodName := ⟨RX10, "sendOut", "(LEnginesAsleep$Standing;I)V"⟩
def RX11 : String := "EnginesAsleep"
def TX11 : u_T := fun k => match k with
  | 0 => ("EnginesAsleep", "circle", "LEnginesAsleep$Ring;", true)
  | 1 => ("EnginesAsleep", "fleet", "LEnginesAsleep$Fleet;", true)
  | 2 => ("EnginesAsleep", "law", "LEnginesAsleep$Rule;", true)
  | 3 => ("EnginesAsleep", "told", "LEnginesAsleep$Rows;", true)
  | 4 => ("EnginesAsleep", "live", "LEnginesAsleep$Standing;", true)
  | 5 => ("EnginesAsleep", "yard", "LEnginesAsleep$Yard;", true)
  | 6 => ("EnginesAsleep", "ways", "LEnginesAsleep$Ways;", true)
  | 7 => ("EnginesAsleep", "berths", "LEnginesAsleep$Berths;", true)
  | 8 => ("EnginesAsleep", "bunker", "LEnginesAsleep$Bunker;", true)
  | 9 => ("EnginesAsleep", "trains", "LEnginesAsleep$Trains;", true)
  | 10 => ("EnginesAsleep", "dawn", "LEnginesAsleep$Dawn;", true)
  | 11 => ("EnginesAsleep", "kept", "[LEnginesAsleep$Standing;", true)
  | 12 => ("EnginesAsleep", "keptVersion", "[I", true)
  | _ => ("EnginesAsleep", "version", "I", false)
def tyX11 : Nat → FieldType := fun k => match k with
  | 0 => .object "EnginesAsleep$Ring"
  | 1 => .object "EnginesAsleep$Fleet"
  | 2 => .object "EnginesAsleep$Rule"
  | 3 => .object "EnginesAsleep$Rows"
  | 4 => .object "EnginesAsleep$Standing"
  | 5 => .object "EnginesAsleep$Yard"
  | 6 => .object "EnginesAsleep$Ways"
  | 7 => .object "EnginesAsleep$Berths"
  | 8 => .object "EnginesAsleep$Bunker"
  | 9 => .object "EnginesAsleep$Trains"
  | 10 => .object "EnginesAsleep$Dawn"
  | 11 => .array (.object "EnginesAsleep$Standing")
  | 12 => .array .int
  | _ => .int
abbrev wsX110 : List Cond := u_ws RX11 TX11 14
theorem nmX11 : ∀ a, a < 14 → ∀ b, b < 14 → a ≠ b → (TX11 a).2.1 ≠ (TX11 b).2.1 := by decide +kernel
theorem tyX11_ok : ∀ k, k < 14 → parseFieldDescriptor (TX11 k).2.2.1 = some (tyX11 k) := by decide +kernel
abbrev cX11_init : ByteArray := prog_1_method_1_code
def yX11_init : MethodName := ⟨RX11, "<init>", "()V"⟩
abbrev cX11_ring : ByteArray := prog_1_method_2_code
def yX11_ring : MethodName := ⟨RX11, "ring", "(I)I"⟩
abbrev cX11_stall : ByteArray := prog_1_method_3_code
def yX11_stall : MethodName := ⟨RX11, "stall", "(III)Z"⟩
abbrev cX11_sheet : ByteArray := prog_1_method_4_code
def yX11_sheet : MethodName := ⟨RX11, "sheet", "(IIII)I"⟩
abbrev cX11_shut : ByteArray := prog_1_method_5_code
def yX11_shut : MethodName := ⟨RX11, "shut", "(IZ)Z"⟩
abbrev cX11_set : ByteArray := prog_1_method_6_code
def yX11_set : MethodName := ⟨RX11, "set", "(II)I"⟩
abbrev cX11_steps : ByteArray := prog_1_method_7_code
def yX11_steps : MethodName := ⟨RX11, "steps", "(II)I"⟩
abbrev cX11_sign : ByteArray := prog_1_method_8_code
def yX11_sign : MethodName := ⟨RX11, "sign", "(I)I"⟩
abbrev cX11_end : ByteArray := prog_1_method_9_code
def yX11_end : MethodName := ⟨RX11, "end", "(I)Z"⟩
abbrev cX11_rule : ByteArray := prog_1_method_10_code
def yX11_rule : MethodName := ⟨RX11, "rule", "()I"⟩
abbrev cX11_engine : ByteArray := prog_1_method_11_code
def yX11_engine : MethodName := ⟨RX11, "engine", "(IIIZ)I"⟩
abbrev cX11_light : ByteArray := prog_1_method_12_code
def yX11_light : MethodName := ⟨RX11, "light", "(I)Z"⟩
abbrev cX11_drop : ByteArray := prog_1_method_13_code
def yX11_drop : MethodName := ⟨RX11, "drop", "(I)I"⟩
abbrev cX11_dead : ByteArray := prog_1_method_14_code
def yX11_dead : MethodName := ⟨RX11, "dead", "(IZ)Z"⟩
abbrev cX11_of : ByteArray := prog_1_method_15_code
def yX11_of : MethodName := ⟨RX11, "of", "(II)I"⟩
abbrev cX11_takes : ByteArray := prog_1_method_16_code
def yX11_takes : MethodName := ⟨RX11, "takes", "(II)I"⟩
abbrev cX11_smoke : ByteArray := prog_1_method_17_code
def yX11_smoke : MethodName := ⟨RX11, "smoke", "()I"⟩
abbrev cX11_pass : ByteArray := prog_1_method_18_code
def yX11_pass : MethodName := ⟨RX11, "pass", "(I)I"⟩
abbrev cX11_move : ByteArray := prog_1_method_19_code
def yX11_move : MethodName := ⟨RX11, "move", "(II)I"⟩
abbrev cX11_drag : ByteArray := prog_1_method_20_code
def yX11_drag : MethodName := ⟨RX11, "drag", "(III)I"⟩
abbrev cX11_free : ByteArray := prog_1_method_21_code
def yX11_free : MethodName := ⟨RX11, "free", "(I)I"⟩
abbrev cX11_order : ByteArray := prog_1_method_22_code
def yX11_order : MethodName := ⟨RX11, "order", "(I)I"⟩
abbrev cX11_clear : ByteArray := prog_1_method_23_code
def yX11_clear : MethodName := ⟨RX11, "clear", "(I)I"⟩
abbrev cX11_under : ByteArray := prog_1_method_24_code
def yX11_under : MethodName := ⟨RX11, "under", "()I"⟩
abbrev cX11_comes : ByteArray := prog_1_method_25_code
def yX11_comes : MethodName := ⟨RX11, "comes", "(I)I"⟩
abbrev cX11_leaves : ByteArray := prog_1_method_26_code
def yX11_leaves : MethodName := ⟨RX11, "leaves", "(I)I"⟩
abbrev cX11_nobody : ByteArray := prog_1_method_27_code
def yX11_nobody : MethodName := ⟨RX11, "nobody", "()I"⟩
abbrev cX11_put : ByteArray := prog_1_method_28_code
def yX11_put : MethodName := ⟨RX11, "put", "()I"⟩
abbrev cX11_room : ByteArray := prog_1_method_29_code
def yX11_room : MethodName := ⟨RX11, "room", "(I)I"⟩
abbrev cX11_coal : ByteArray := prog_1_method_30_code
def yX11_coal : MethodName := ⟨RX11, "coal", "(III)I"⟩
abbrev cX11_wants : ByteArray := prog_1_method_31_code
def yX11_wants : MethodName := ⟨RX11, "wants", "(III)Z"⟩
abbrev cX11_coaled : ByteArray := prog_1_method_32_code
def yX11_coaled : MethodName := ⟨RX11, "coaled", "(I)I"⟩
abbrev cX11_fill : ByteArray := prog_1_method_33_code
def yX11_fill : MethodName := ⟨RX11, "fill", "(I)I"⟩
abbrev cX11_burns : ByteArray := prog_1_method_34_code
def yX11_burns : MethodName := ⟨RX11, "burns", "(I)I"⟩
abbrev cX11_train : ByteArray := prog_1_method_35_code
def yX11_train : MethodName := ⟨RX11, "train", "(III)I"⟩
abbrev cX11_plan : ByteArray := prog_1_method_36_code
def yX11_plan : MethodName := ⟨RX11, "plan", "(II)Z"⟩
abbrev cX11_fits : ByteArray := prog_1_method_37_code
def yX11_fits : MethodName := ⟨RX11, "fits", "(II)I"⟩
abbrev cX11_most : ByteArray := prog_1_method_38_code
def yX11_most : MethodName := ⟨RX11, "most", "()I"⟩
abbrev cX11_fails : ByteArray := prog_1_method_39_code
def yX11_fails : MethodName := ⟨RX11, "fails", "(I)I"⟩
abbrev cX11_soonest : ByteArray := prog_1_method_40_code
def yX11_soonest : MethodName := ⟨RX11, "soonest", "(I)I"⟩
abbrev cX11_wrong : ByteArray := prog_1_method_41_code
def yX11_wrong : MethodName := ⟨RX11, "wrong", "()I"⟩
abbrev cX11_exchange : ByteArray := prog_1_method_42_code
def yX11_exchange : MethodName := ⟨RX11, "exchange", "()I"⟩
abbrev cX11_crews : ByteArray := prog_1_method_43_code
def yX11_crews : MethodName := ⟨RX11, "crews", "(II)I"⟩
abbrev cX11_fires : ByteArray := prog_1_method_44_code
def yX11_fires : MethodName := ⟨RX11, "fires", "(II)I"⟩
abbrev cX11_men : ByteArray := prog_1_method_45_code
def yX11_men : MethodName := ⟨RX11, "men", "(I)I"⟩
abbrev cX11_frost : ByteArray := prog_1_method_46_code
def yX11_frost : MethodName := ⟨RX11, "frost", "(I)I"⟩
abbrev cX11_morning : ByteArray := prog_1_method_47_code
def yX11_morning : MethodName := ⟨RX11, "morning", "()I"⟩
abbrev cX11_why : ByteArray := prog_1_method_48_code
def yX11_why : MethodName := ⟨RX11, "why", "(I)I"⟩
abbrev cX11_keep : ByteArray := prog_1_method_49_code
def yX11_keep : MethodName := ⟨RX11, "keep", "(I)Z"⟩
abbrev cX11_again : ByteArray := prog_1_method_50_code
def yX11_again : MethodName := ⟨RX11, "again", "(I)Z"⟩
abbrev cX11_count : ByteArray := prog_1_method_51_code
def yX11_count : MethodName := ⟨RX11, "count", "(I)I"⟩
abbrev cX11_inside : ByteArray := prog_1_method_52_code
def yX11_inside : MethodName := ⟨RX11, "inside", "(I)I"⟩
abbrev cX11_row : ByteArray := prog_1_method_53_code
def yX11_row : MethodName := ⟨RX11, "row", "(I)I"⟩
def RX12 : String := "EnginesAsleepModel"
def TX12 : u_T := fun k => match k with
  | 0 => ("EnginesAsleepModel", "n", "I", false)
  | 1 => ("EnginesAsleepModel", "length", "[I", true)
  | 2 => ("EnginesAsleepModel", "hoods", "[I", true)
  | 3 => ("EnginesAsleepModel", "isShut", "[Z", true)
  | 4 => ("EnginesAsleepModel", "back", "[I", true)
  | 5 => ("EnginesAsleepModel", "front", "[I", true)
  | 6 => ("EnginesAsleepModel", "engines", "I", false)
  | 7 => ("EnginesAsleepModel", "size", "[I", true)
  | 8 => ("EnginesAsleepModel", "kind", "[I", true)
  | 9 => ("EnginesAsleepModel", "raise", "[I", true)
  | 10 => ("EnginesAsleepModel", "isVisitor", "[Z", true)
  | 11 => ("EnginesAsleepModel", "isDead", "[Z", true)
  | 12 => ("EnginesAsleepModel", "place", "[I", true)
  | 13 => ("EnginesAsleepModel", "lit", "[I", true)
  | 14 => ("EnginesAsleepModel", "table", "I", false)
  | 15 => ("EnginesAsleepModel", "now", "I", false)
  | 16 => ("EnginesAsleepModel", "turn", "I", false)
  | 17 => ("EnginesAsleepModel", "go", "I", false)
  | 18 => ("EnginesAsleepModel", "trains", "I", false)
  | 19 => ("EnginesAsleepModel", "minute", "[I", true)
  | 20 => ("EnginesAsleepModel", "least", "[I", true)
  | 21 => ("EnginesAsleepModel", "away", "[I", true)
  | 22 => ("EnginesAsleepModel", "planned", "[I", true)
  | 23 => ("EnginesAsleepModel", "coming", "I", false)
  | 24 => ("EnginesAsleepModel", "come", "[I", true)
  | 25 => ("EnginesAsleepModel", "leaving", "I", false)
  | 26 => ("EnginesAsleepModel", "leave", "[I", true)
  | 27 => ("EnginesAsleepModel", "rule", "[B", true)
  | 28 => ("EnginesAsleepModel", "ruleSize", "I", false)
  | 29 => ("EnginesAsleepModel", "text", "[B", true)
  | 30 => ("EnginesAsleepModel", "typed", "I", false)
  | 31 => ("EnginesAsleepModel", "row", "[I", true)
  | 32 => ("EnginesAsleepModel", "rowMany", "I", false)
  | 33 => ("EnginesAsleepModel", "thrown", "I", false)
  | 34 => ("EnginesAsleepModel", "read", "[B", false)
  | 35 => ("EnginesAsleepModel", "readSize", "I", false)
  | 36 => ("EnginesAsleepModel", "at", "I", false)
  | 37 => ("EnginesAsleepModel", "wrong", "I", false)
  | 38 => ("EnginesAsleepModel", "askedEngine", "I", false)
  | 39 => ("EnginesAsleepModel", "askedStall", "I", false)
  | 40 => ("EnginesAsleepModel", "askedBack", "Z", false)
  | 41 => ("EnginesAsleepModel", "pile", "[I", true)
  | 42 => ("EnginesAsleepModel", "piled", "I", false)
  | 43 => ("EnginesAsleepModel", "asideTo", "I", false)
  | 44 => ("EnginesAsleepModel", "asideMinutes", "I", false)
  | 45 => ("EnginesAsleepModel", "ownMinutes", "I", false)
  | 46 => ("EnginesAsleepModel", "tried", "[I", true)
  | 47 => ("EnginesAsleepModel", "best", "[I", true)
  | 48 => ("EnginesAsleepModel", "bestMany", "I", false)
  | 49 => ("EnginesAsleepModel", "bestValue", "I", false)
  | 50 => ("EnginesAsleepModel", "mayBack", "[Z", true)
  | 51 => ("EnginesAsleepModel", "mayFront", "[Z", true)
  | 52 => ("EnginesAsleepModel", "nearest", "[I", true)
  | 53 => ("EnginesAsleepModel", "firstIn", "[I", true)
  | 54 => ("EnginesAsleepModel", "secondIn", "[I", true)
  | 55 => ("EnginesAsleepModel", "leastSum", "I", false)
  | 56 => ("EnginesAsleepModel", "takenBy", "[I", true)
  | 57 => ("EnginesAsleepModel", "wasAsked", "[Z", true)
  | 58 => ("EnginesAsleepModel", "heap", "[I", true)
  | 59 => ("EnginesAsleepModel", "stays", "[I", true)
  | 60 => ("EnginesAsleepModel", "tons", "[I", true)
  | 61 => ("EnginesAsleepModel", "grade", "[I", true)
  | 62 => ("EnginesAsleepModel", "takes", "[I", true)
  | 63 => ("EnginesAsleepModel", "worth", "[I", true)
  | 64 => ("EnginesAsleepModel", "manOf", "[I", true)
  | 65 => ("EnginesAsleepModel", "begun", "[I", true)
  | 66 => ("EnginesAsleepModel", "freeOf", "[I", true)
  | 67 => ("EnginesAsleepModel", "late", "[I", true)
  | 68 => ("EnginesAsleepModel", "litThen", "[I", true)
  | 69 => ("EnginesAsleepModel", "tableFree", "[I", true)
  | 70 => ("EnginesAsleepModel", "steamed", "[I", true)
  | 71 => ("EnginesAsleepModel", "owns", "[I", true)
  | 72 => ("EnginesAsleepModel", "asides", "[I", true)
  | 73 => ("EnginesAsleepModel", "isFromStall", "[Z", true)
  | 74 => ("EnginesAsleepModel", "changes", "I", false)
  | 75 => ("EnginesAsleepModel", "isKept", "[Z", true)
  | 76 => ("EnginesAsleepModel", "keptChanges", "[I", true)
  | 77 => ("EnginesAsleepModel", "keptBack", "[I", true)
  | 78 => ("EnginesAsleepModel", "keptFront", "[I", true)
  | 79 => ("EnginesAsleepModel", "keptPlace", "[I", true)
  | 80 => ("EnginesAsleepModel", "keptLit", "[I", true)
  | 81 => ("EnginesAsleepModel", "keptDead", "[Z", true)
  | 82 => ("EnginesAsleepModel", "keptTable", "[I", true)
  | _ => ("EnginesAsleepModel", "keptNow", "[I", true)
def tyX12 : Nat → FieldType := fun k => match k with
  | 0 => .int
  | 1 => .array .int
  | 2 => .array .int
  | 3 => .array .boolean
  | 4 => .array .int
  | 5 => .array .int
  | 6 => .int
  | 7 => .array .int
  | 8 => .array .int
  | 9 => .array .int
  | 10 => .array .boolean
  | 11 => .array .boolean
  | 12 => .array .int
  | 13 => .array .int
  | 14 => .int
  | 15 => .int
  | 16 => .int
  | 17 => .int
  | 18 => .int
  | 19 => .array .int
  | 20 => .array .int
  | 21 => .array .int
  | 22 => .array .int
  | 23 => .int
  | 24 => .array .int
  | 25 => .int
  | 26 => .array .int
  | 27 => .array .byte
  | 28 => .int
  | 29 => .array .byte
  | 30 => .int
  | 31 => .array .int
  | 32 => .int
  | 33 => .int
  | 34 => .array .byte
  | 35 => .int
  | 36 => .int
  | 37 => .int
  | 38 => .int
  | 39 => .int
  | 40 => .boolean
  | 41 => .array .int
  | 42 => .int
  | 43 => .int
  | 44 => .int
  | 45 => .int
  | 46 => .array .int
  | 47 => .array .int
  | 48 => .int
  | 49 => .int
  | 50 => .array .boolean
  | 51 => .array .boolean
  | 52 => .array .int
  | 53 => .array .int
  | 54 => .array .int
  | 55 => .int
  | 56 => .array .int
  | 57 => .array .boolean
  | 58 => .array .int
  | 59 => .array .int
  | 60 => .array .int
  | 61 => .array .int
  | 62 => .array .int
  | 63 => .array .int
  | 64 => .array .int
  | 65 => .array .int
  | 66 => .array .int
  | 67 => .array .int
  | 68 => .array .int
  | 69 => .array .int
  | 70 => .array .int
  | 71 => .array .int
  | 72 => .array .int
  | 73 => .array .boolean
  | 74 => .int
  | 75 => .array .boolean
  | 76 => .array .int
  | 77 => .array .int
  | 78 => .array .int
  | 79 => .array .int
  | 80 => .array .int
  | 81 => .array .boolean
  | 82 => .array .int
  | _ => .array .int
abbrev wsX120 : List Cond := u_ws RX12 TX12 84
theorem nmX12 : ∀ a, a < 84 → ∀ b, b < 84 → a ≠ b → (TX12 a).2.1 ≠ (TX12 b).2.1 := by decide +kernel
theorem tyX12_ok : ∀ k, k < 84 → parseFieldDescriptor (TX12 k).2.2.1 = some (tyX12 k) := by decide +kernel
abbrev cX12_init : ByteArray := prog_14_method_1_code
def yX12_init : MethodName := ⟨RX12, "<init>", "()V"⟩
abbrev cX12_thrown : ByteArray := prog_14_method_2_code
def yX12_thrown : MethodName := ⟨RX12, "thrown", "()I"⟩
abbrev cX12_in : ByteArray := prog_14_method_3_code
def yX12_in : MethodName := ⟨RX12, "in", "(III)Z"⟩
abbrev cX12_lost : ByteArray := prog_14_method_4_code
def yX12_lost : MethodName := ⟨RX12, "lost", "()I"⟩
abbrev cX12_tell : ByteArray := prog_14_method_5_code
def yX12_tell : MethodName := ⟨RX12, "tell", "(I)V"⟩
abbrev cX12_fresh : ByteArray := prog_14_method_6_code
def yX12_fresh : MethodName := ⟨RX12, "fresh", "()V"⟩
abbrev cX12_isStall : ByteArray := prog_14_method_7_code
def yX12_isStall : MethodName := ⟨RX12, "isStall", "(I)Z"⟩
abbrev cX12_isPoint : ByteArray := prog_14_method_8_code
def yX12_isPoint : MethodName := ⟨RX12, "isPoint", "(I)Z"⟩
abbrev cX12_isEngine : ByteArray := prog_14_method_9_code
def yX12_isEngine : MethodName := ⟨RX12, "isEngine", "(I)Z"⟩
abbrev cX12_isTrain : ByteArray := prog_14_method_10_code
def yX12_isTrain : MethodName := ⟨RX12, "isTrain", "(I)Z"⟩
abbrev cX12_isAnyIn : ByteArray := prog_14_method_11_code
def yX12_isAnyIn : MethodName := ⟨RX12, "isAnyIn", "()Z"⟩
abbrev cX12_ring : ByteArray := prog_14_method_12_code
def yX12_ring : MethodName := ⟨RX12, "ring", "(I)I"⟩
abbrev cX12_lengthIn : ByteArray := prog_14_method_13_code
def yX12_lengthIn : MethodName := ⟨RX12, "lengthIn", "(I)I"⟩
abbrev cX12_stall : ByteArray := prog_14_method_14_code
def yX12_stall : MethodName := ⟨RX12, "stall", "(III)Z"⟩
abbrev cX12_sheet : ByteArray := prog_14_method_15_code
def yX12_sheet : MethodName := ⟨RX12, "sheet", "(IIII)I"⟩
abbrev cX12_shut : ByteArray := prog_14_method_16_code
def yX12_shut : MethodName := ⟨RX12, "shut", "(IZ)Z"⟩
abbrev cX12_set : ByteArray := prog_14_method_17_code
def yX12_set : MethodName := ⟨RX12, "set", "(II)I"⟩
abbrev cX12_stepsOf : ByteArray := prog_14_method_18_code
def yX12_stepsOf : MethodName := ⟨RX12, "stepsOf", "(II)I"⟩
abbrev cX12_steps : ByteArray := prog_14_method_19_code
def yX12_steps : MethodName := ⟨RX12, "steps", "(II)I"⟩
abbrev cX12_sign : ByteArray := prog_14_method_20_code
def yX12_sign : MethodName := ⟨RX12, "sign", "(I)I"⟩
abbrev cX12_end : ByteArray := prog_14_method_21_code
def yX12_end : MethodName := ⟨RX12, "end", "(I)Z"⟩
abbrev cX12_here : ByteArray := prog_14_method_22_code
def yX12_here : MethodName := ⟨RX12, "here", "()I"⟩
abbrev cX12_fine : ByteArray := prog_14_method_23_code
def yX12_fine : MethodName := ⟨RX12, "fine", "()Z"⟩
abbrev cX12_isWrong : ByteArray := prog_14_method_24_code
def yX12_isWrong : MethodName := ⟨RX12, "isWrong", "()V"⟩
abbrev cX12_passes : ByteArray := prog_14_method_25_code
def yX12_passes : MethodName := ⟨RX12, "passes", "(C)Z"⟩
abbrev cX12_either : ByteArray := prog_14_method_26_code
def yX12_either : MethodName := ⟨RX12, "either", "(I)I"⟩
abbrev cX12_both : ByteArray := prog_14_method_27_code
def yX12_both : MethodName := ⟨RX12, "both", "(I)I"⟩
abbrev cX12_held : ByteArray := prog_14_method_28_code
def yX12_held : MethodName := ⟨RX12, "held", "(I)I"⟩
abbrev cX12_sum : ByteArray := prog_14_method_29_code
def yX12_sum : MethodName := ⟨RX12, "sum", "(I)I"⟩
abbrev cX12_thing : ByteArray := prog_14_method_30_code
def yX12_thing : MethodName := ⟨RX12, "thing", "(I)I"⟩
abbrev cX12_letter : ByteArray := prog_14_method_31_code
def yX12_letter : MethodName := ⟨RX12, "letter", "(C)I"⟩
abbrev cX12_rule : ByteArray := prog_14_method_32_code
def yX12_rule : MethodName := ⟨RX12, "rule", "()I"⟩
abbrev cX12_isLet : ByteArray := prog_14_method_33_code
def yX12_isLet : MethodName := ⟨RX12, "isLet", "(IIZ)Z"⟩
abbrev cX12_engine : ByteArray := prog_14_method_34_code
def yX12_engine : MethodName := ⟨RX12, "engine", "(IIIZ)I"⟩
abbrev cX12_isSteaming : ByteArray := prog_14_method_35_code
def yX12_isSteaming : MethodName := ⟨RX12, "isSteaming", "(I)Z"⟩
abbrev cX12_mayGo : ByteArray := prog_14_method_36_code
def yX12_mayGo : MethodName := ⟨RX12, "mayGo", "(I)Z"⟩
abbrev cX12_light : ByteArray := prog_14_method_37_code
def yX12_light : MethodName := ⟨RX12, "light", "(I)Z"⟩
abbrev cX12_drop : ByteArray := prog_14_method_38_code
def yX12_drop : MethodName := ⟨RX12, "drop", "(I)I"⟩
abbrev cX12_dead : ByteArray := prog_14_method_39_code
def yX12_dead : MethodName := ⟨RX12, "dead", "(IZ)Z"⟩
abbrev cX12_pointOf : ByteArray := prog_14_method_40_code
def yX12_pointOf : MethodName := ⟨RX12, "pointOf", "(I)I"⟩
abbrev cX12_isAtBack : ByteArray := prog_14_method_41_code
def yX12_isAtBack : MethodName := ⟨RX12, "isAtBack", "(I)Z"⟩
abbrev cX12_ahead : ByteArray := prog_14_method_42_code
def yX12_ahead : MethodName := ⟨RX12, "ahead", "(I)I"⟩
abbrev cX12_isHooded : ByteArray := prog_14_method_43_code
def yX12_isHooded : MethodName := ⟨RX12, "isHooded", "(I)Z"⟩
abbrev cX12_of : ByteArray := prog_14_method_44_code
def yX12_of : MethodName := ⟨RX12, "of", "(II)I"⟩
abbrev cX12_isTaking : ByteArray := prog_14_method_45_code
def yX12_isTaking : MethodName := ⟨RX12, "isTaking", "(II)Z"⟩
abbrev cX12_takes : ByteArray := prog_14_method_46_code
def yX12_takes : MethodName := ⟨RX12, "takes", "(II)I"⟩
abbrev cX12_smoking : ByteArray := prog_14_method_47_code
def yX12_smoking : MethodName := ⟨RX12, "smoking", "()I"⟩
abbrev cX12_smoke : ByteArray := prog_14_method_48_code
def yX12_smoke : MethodName := ⟨RX12, "smoke", "()I"⟩
abbrev cX12_pass : ByteArray := prog_14_method_49_code
def yX12_pass : MethodName := ⟨RX12, "pass", "(I)I"⟩
abbrev cX12_cost : ByteArray := prog_14_method_50_code
def yX12_cost : MethodName := ⟨RX12, "cost", "(II)I"⟩
abbrev cX12_takeOut : ByteArray := prog_14_method_51_code
def yX12_takeOut : MethodName := ⟨RX12, "takeOut", "(I)V"⟩
abbrev cX12_putIn : ByteArray := prog_14_method_52_code
def yX12_putIn : MethodName := ⟨RX12, "putIn", "(II)V"⟩
abbrev cX12_canBe : ByteArray := prog_14_method_53_code
def yX12_canBe : MethodName := ⟨RX12, "canBe", "(II)Z"⟩
abbrev cX12_bring : ByteArray := prog_14_method_54_code
def yX12_bring : MethodName := ⟨RX12, "bring", "(III)V"⟩
abbrev cX12_undo : ByteArray := prog_14_method_55_code
def yX12_undo : MethodName := ⟨RX12, "undo", "(I)V"⟩
abbrev cX12_move : ByteArray := prog_14_method_56_code
def yX12_move : MethodName := ⟨RX12, "move", "(II)I"⟩
abbrev cX12_drag : ByteArray := prog_14_method_57_code
def yX12_drag : MethodName := ⟨RX12, "drag", "(III)I"⟩
abbrev cX12_freeNow : ByteArray := prog_14_method_58_code
def yX12_freeNow : MethodName := ⟨RX12, "freeNow", "(I)Z"⟩
abbrev cX12_free : ByteArray := prog_14_method_59_code
def yX12_free : MethodName := ⟨RX12, "free", "(I)I"⟩
abbrev cX12_offer : ByteArray := prog_14_method_60_code
def yX12_offer : MethodName := ⟨RX12, "offer", "(II)V"⟩
abbrev cX12_tellBest : ByteArray := prog_14_method_61_code
def yX12_tellBest : MethodName := ⟨RX12, "tellBest", "()V"⟩
abbrev cX12_orderFrom : ByteArray := prog_14_method_62_code
def yX12_orderFrom : MethodName := ⟨RX12, "orderFrom", "(III)V"⟩
abbrev cX12_inStalls : ByteArray := prog_14_method_63_code
def yX12_inStalls : MethodName := ⟨RX12, "inStalls", "()I"⟩
abbrev cX12_order : ByteArray := prog_14_method_64_code
def yX12_order : MethodName := ⟨RX12, "order", "(I)I"⟩
abbrev cX12_clearFrom : ByteArray := prog_14_method_65_code
def yX12_clearFrom : MethodName := ⟨RX12, "clearFrom", "(III)V"⟩
abbrev cX12_clear : ByteArray := prog_14_method_66_code
def yX12_clear : MethodName := ⟨RX12, "clear", "(I)I"⟩
abbrev cX12_underFrom : ByteArray := prog_14_method_67_code
def yX12_underFrom : MethodName := ⟨RX12, "underFrom", "(III)V"⟩
abbrev cX12_under : ByteArray := prog_14_method_68_code
def yX12_under : MethodName := ⟨RX12, "under", "()I"⟩
abbrev cX12_comes : ByteArray := prog_14_method_69_code
def yX12_comes : MethodName := ⟨RX12, "comes", "(I)I"⟩
abbrev cX12_leaves : ByteArray := prog_14_method_70_code
def yX12_leaves : MethodName := ⟨RX12, "leaves", "(I)I"⟩
abbrev cX12_leaveOf : ByteArray := prog_14_method_71_code
def yX12_leaveOf : MethodName := ⟨RX12, "leaveOf", "(I)I"⟩
abbrev cX12_nobody : ByteArray := prog_14_method_72_code
def yX12_nobody : MethodName := ⟨RX12, "nobody", "()I"⟩
abbrev cX12_canStand : ByteArray := prog_14_method_73_code
def yX12_canStand : MethodName := ⟨RX12, "canStand", "(II)Z"⟩
abbrev cX12_cheapest : ByteArray := prog_14_method_74_code
def yX12_cheapest : MethodName := ⟨RX12, "cheapest", "(I)I"⟩
abbrev cX12_stand : ByteArray := prog_14_method_75_code
def yX12_stand : MethodName := ⟨RX12, "stand", "(IIZ)V"⟩
abbrev cX12_findSum : ByteArray := prog_14_method_76_code
def yX12_findSum : MethodName := ⟨RX12, "findSum", "(II)V"⟩
abbrev cX12_findRow : ByteArray := prog_14_method_77_code
def yX12_findRow : MethodName := ⟨RX12, "findRow", "(II)Z"⟩
abbrev cX12_put : ByteArray := prog_14_method_78_code
def yX12_put : MethodName := ⟨RX12, "put", "()I"⟩
abbrev cX12_findsStall : ByteArray := prog_14_method_79_code
def yX12_findsStall : MethodName := ⟨RX12, "findsStall", "(II)Z"⟩
abbrev cX12_mostIn : ByteArray := prog_14_method_80_code
def yX12_mostIn : MethodName := ⟨RX12, "mostIn", "(II)I"⟩
abbrev cX12_room : ByteArray := prog_14_method_81_code
def yX12_room : MethodName := ⟨RX12, "room", "(I)I"⟩
abbrev cX12_coal : ByteArray := prog_14_method_82_code
def yX12_coal : MethodName := ⟨RX12, "coal", "(III)I"⟩
abbrev cX12_wants : ByteArray := prog_14_method_83_code
def yX12_wants : MethodName := ⟨RX12, "wants", "(III)Z"⟩
abbrev cX12_areEngines : ByteArray := prog_14_method_84_code
def yX12_areEngines : MethodName := ⟨RX12, "areEngines", "(I)Z"⟩
abbrev cX12_coalFrom : ByteArray := prog_14_method_85_code
def yX12_coalFrom : MethodName := ⟨RX12, "coalFrom", "(III)V"⟩
abbrev cX12_canCoal : ByteArray := prog_14_method_86_code
def yX12_canCoal : MethodName := ⟨RX12, "canCoal", "(I)Z"⟩
abbrev cX12_coaled : ByteArray := prog_14_method_87_code
def yX12_coaled : MethodName := ⟨RX12, "coaled", "(I)I"⟩
abbrev cX12_fill : ByteArray := prog_14_method_88_code
def yX12_fill : MethodName := ⟨RX12, "fill", "(I)I"⟩
abbrev cX12_coalBy : ByteArray := prog_14_method_89_code
def yX12_coalBy : MethodName := ⟨RX12, "coalBy", "(IZ)I"⟩
abbrev cX12_burns : ByteArray := prog_14_method_90_code
def yX12_burns : MethodName := ⟨RX12, "burns", "(I)I"⟩
abbrev cX12_train : ByteArray := prog_14_method_91_code
def yX12_train : MethodName := ⟨RX12, "train", "(III)I"⟩
abbrev cX12_trainOf : ByteArray := prog_14_method_92_code
def yX12_trainOf : MethodName := ⟨RX12, "trainOf", "(I)I"⟩
abbrev cX12_plan : ByteArray := prog_14_method_93_code
def yX12_plan : MethodName := ⟨RX12, "plan", "(II)Z"⟩
abbrev cX12_isFit : ByteArray := prog_14_method_94_code
def yX12_isFit : MethodName := ⟨RX12, "isFit", "(II)Z"⟩
abbrev cX12_fits : ByteArray := prog_14_method_95_code
def yX12_fits : MethodName := ⟨RX12, "fits", "(II)I"⟩
abbrev cX12_worthOf : ByteArray := prog_14_method_96_code
def yX12_worthOf : MethodName := ⟨RX12, "worthOf", "(IIZ)I"⟩
abbrev cX12_findRows : ByteArray := prog_14_method_97_code
def yX12_findRows : MethodName := ⟨RX12, "findRows", "(IZ)I"⟩
abbrev cX12_tellRow : ByteArray := prog_14_method_98_code
def yX12_tellRow : MethodName := ⟨RX12, "tellRow", "(IZ)V"⟩
abbrev cX12_most : ByteArray := prog_14_method_99_code
def yX12_most : MethodName := ⟨RX12, "most", "()I"⟩
abbrev cX12_fails : ByteArray := prog_14_method_100_code
def yX12_fails : MethodName := ⟨RX12, "fails", "(I)I"⟩
abbrev cX12_soonest : ByteArray := prog_14_method_101_code
def yX12_soonest : MethodName := ⟨RX12, "soonest", "(I)I"⟩
abbrev cX12_wrong : ByteArray := prog_14_method_102_code
def yX12_wrong : MethodName := ⟨RX12, "wrong", "()I"⟩
abbrev cX12_swap : ByteArray := prog_14_method_103_code
def yX12_swap : MethodName := ⟨RX12, "swap", "(II)V"⟩
abbrev cX12_exchange : ByteArray := prog_14_method_104_code
def yX12_exchange : MethodName := ⟨RX12, "exchange", "()I"⟩
abbrev cX12_areOnes : ByteArray := prog_14_method_105_code
def yX12_areOnes : MethodName := ⟨RX12, "areOnes", "(IIII)Z"⟩
abbrev cX12_findMen : ByteArray := prog_14_method_106_code
def yX12_findMen : MethodName := ⟨RX12, "findMen", "(IIIII)Z"⟩
abbrev cX12_crews : ByteArray := prog_14_method_107_code
def yX12_crews : MethodName := ⟨RX12, "crews", "(II)I"⟩
abbrev cX12_lightFires : ByteArray := prog_14_method_108_code
def yX12_lightFires : MethodName := ⟨RX12, "lightFires", "(II)I"⟩
abbrev cX12_endOf : ByteArray := prog_14_method_109_code
def yX12_endOf : MethodName := ⟨RX12, "endOf", "(I)I"⟩
abbrev cX12_fires : ByteArray := prog_14_method_110_code
def yX12_fires : MethodName := ⟨RX12, "fires", "(II)I"⟩
abbrev cX12_men : ByteArray := prog_14_method_111_code
def yX12_men : MethodName := ⟨RX12, "men", "(I)I"⟩
abbrev cX12_frost : ByteArray := prog_14_method_112_code
def yX12_frost : MethodName := ⟨RX12, "frost", "(I)I"⟩
abbrev cX12_isWarm : ByteArray := prog_14_method_113_code
def yX12_isWarm : MethodName := ⟨RX12, "isWarm", "(III)Z"⟩
abbrev cX12_lightNow : ByteArray := prog_14_method_114_code
def yX12_lightNow : MethodName := ⟨RX12, "lightNow", "(I)V"⟩
abbrev cX12_goThrough : ByteArray := prog_14_method_115_code
def yX12_goThrough : MethodName := ⟨RX12, "goThrough", "()I"⟩
abbrev cX12_goTrain : ByteArray := prog_14_method_116_code
def yX12_goTrain : MethodName := ⟨RX12, "goTrain", "(III)I"⟩
abbrev cX12_morning : ByteArray := prog_14_method_117_code
def yX12_morning : MethodName := ⟨RX12, "morning", "()I"⟩
abbrev cX12_why : ByteArray := prog_14_method_118_code
def yX12_why : MethodName := ⟨RX12, "why", "(I)I"⟩
abbrev cX12_keep : ByteArray := prog_14_method_119_code
def yX12_keep : MethodName := ⟨RX12, "keep", "(I)Z"⟩
abbrev cX12_again : ByteArray := prog_14_method_120_code
def yX12_again : MethodName := ⟨RX12, "again", "(I)Z"⟩
abbrev cX12_count : ByteArray := prog_14_method_121_code
def yX12_count : MethodName := ⟨RX12, "count", "(I)I"⟩
abbrev cX12_inside : ByteArray := prog_14_method_122_code
def yX12_inside : MethodName := ⟨RX12, "inside", "(I)I"⟩
abbrev cX12_row : ByteArray := prog_14_method_123_code
def yX12_row : MethodName := ⟨RX12, "row", "(I)I"⟩
def RJx145de : String := "java/io/Serializable"
def TJx145de : u_T := fun k => match k with
  | _ => ("", "", "", false)
def tyJx145de : Nat → FieldType := fun k => match k with
  | _ => .int
abbrev wsJx145de0 : List Cond := u_ws RJx145de TJx145de 0
theorem nmJx145de : ∀ a, a < 0 → ∀ b, b < 0 → a ≠ b → (TJx145de a).2.1 ≠ (TJx145de b).2.1 := by decide +kernel
theorem tyJx145de_ok : ∀ k, k < 0 → parseFieldDescriptor (TJx145de k).2.2.1 = some (tyJx145de k) := by decide +kernel
def RJx9f9b0 : String := "java/lang/CharSequence"
def TJx9f9b0 : u_T := fun k => match k with
  | _ => ("", "", "", false)
def tyJx9f9b0 : Nat → FieldType := fun k => match k with
  | _ => .int
abbrev wsJx9f9b00 : List Cond := u_ws RJx9f9b0 TJx9f9b0 0
theorem nmJx9f9b0 : ∀ a, a < 0 → ∀ b, b < 0 → a ≠ b → (TJx9f9b0 a).2.1 ≠ (TJx9f9b0 b).2.1 := by decide +kernel
theorem tyJx9f9b0_ok : ∀ k, k < 0 → parseFieldDescriptor (TJx9f9b0 k).2.2.1 = some (tyJx9f9b0 k) := by decide +kernel
def RJ11 : String := "java/lang/Character"
def TJ11 : u_T := fun k => match k with
  | _ => ("", "", "", false)
def tyJ11 : Nat → FieldType := fun k => match k with
  | _ => .int
abbrev wsJ110 : List Cond := u_ws RJ11 TJ11 0
theorem nmJ11 : ∀ a, a < 0 → ∀ b, b < 0 → a ≠ b → (TJ11 a).2.1 ≠ (TJ11 b).2.1 := by decide +kernel
theorem tyJ11_ok : ∀ k, k < 0 → parseFieldDescriptor (TJ11 k).2.2.1 = some (tyJ11 k) := by decide +kernel
abbrev cJ11_isValidCodePoint_9a6ad : ByteArray := prog_17_method_11_code
def yJ11_isValidCodePoint_9a6ad : MethodName := ⟨RJ11, "isValidCodePoint", "(I)Z"⟩
abbrev cJ11_highSurrogate_5068e : ByteArray := prog_17_method_28_code
def yJ11_highSurrogate_5068e : MethodName := ⟨RJ11, "highSurrogate", "(I)C"⟩
abbrev cJ11_lowSurrogate_5068e : ByteArray := prog_17_method_29_code
def yJ11_lowSurrogate_5068e : MethodName := ⟨RJ11, "lowSurrogate", "(I)C"⟩
def RJxb160c : String := "java/lang/Comparable"
def TJxb160c : u_T := fun k => match k with
  | _ => ("", "", "", false)
def tyJxb160c : Nat → FieldType := fun k => match k with
  | _ => .int
abbrev wsJxb160c0 : List Cond := u_ws RJxb160c TJxb160c 0
theorem nmJxb160c : ∀ a, a < 0 → ∀ b, b < 0 → a ≠ b → (TJxb160c a).2.1 ≠ (TJxb160c b).2.1 := by decide +kernel
theorem tyJxb160c_ok : ∀ k, k < 0 → parseFieldDescriptor (TJxb160c k).2.2.1 = some (tyJxb160c k) := by decide +kernel
def RJ6 : String := "java/lang/Integer"
def TJ6 : u_T := fun k => match k with
  | _ => ("", "", "", false)
def tyJ6 : Nat → FieldType := fun k => match k with
  | _ => .int
abbrev wsJ60 : List Cond := u_ws RJ6 TJ6 0
theorem nmJ6 : ∀ a, a < 0 → ∀ b, b < 0 → a ≠ b → (TJ6 a).2.1 ≠ (TJ6 b).2.1 := by decide +kernel
theorem tyJ6_ok : ∀ k, k < 0 → parseFieldDescriptor (TJ6 k).2.2.1 = some (tyJ6 k) := by decide +kernel
abbrev cJ6_numberOfTrailingZeros_0f7a4 : ByteArray := prog_20_method_48_code
def yJ6_numberOfTrailingZeros_0f7a4 : MethodName := ⟨RJ6, "numberOfTrailingZeros", "(I)I"⟩
abbrev cJ6_bitCount_0f7a4 : ByteArray := prog_20_method_49_code
def yJ6_bitCount_0f7a4 : MethodName := ⟨RJ6, "bitCount", "(I)I"⟩
def RJ9 : String := "java/lang/Math"
def TJ9 : u_T := fun k => match k with
  | _ => ("", "", "", false)
def tyJ9 : Nat → FieldType := fun k => match k with
  | _ => .int
abbrev wsJ90 : List Cond := u_ws RJ9 TJ9 0
theorem nmJ9 : ∀ a, a < 0 → ∀ b, b < 0 → a ≠ b → (TJ9 a).2.1 ≠ (TJ9 b).2.1 := by decide +kernel
theorem tyJ9_ok : ∀ k, k < 0 → parseFieldDescriptor (TJ9 k).2.2.1 = some (tyJ9 k) := by decide +kernel
abbrev cJ9_abs_0f7a4 : ByteArray := prog_21_method_59_code
def yJ9_abs_0f7a4 : MethodName := ⟨RJ9, "abs", "(I)I"⟩
abbrev cJ9_max_7cf53 : ByteArray := prog_21_method_65_code
def yJ9_max_7cf53 : MethodName := ⟨RJ9, "max", "(II)I"⟩
abbrev cJ9_min_7cf53 : ByteArray := prog_21_method_69_code
def yJ9_min_7cf53 : MethodName := ⟨RJ9, "min", "(II)I"⟩
abbrev cJ9_min_f86c9 : ByteArray := prog_21_method_70_code
def yJ9_min_f86c9 : MethodName := ⟨RJ9, "min", "(JJ)J"⟩
def RJ0 : String := "java/lang/String"
def TJ0 : u_T := fun k => match k with
  | _ => ("", "", "", false)
def tyJ0 : Nat → FieldType := fun k => match k with
  | _ => .int
abbrev wsJ00 : List Cond := u_ws RJ0 TJ0 0
theorem nmJ0 : ∀ a, a < 0 → ∀ b, b < 0 → a ≠ b → (TJ0 a).2.1 ≠ (TJ0 b).2.1 := by decide +kernel
theorem tyJ0_ok : ∀ k, k < 0 → parseFieldDescriptor (TJ0 k).2.2.1 = some (tyJ0 k) := by decide +kernel
abbrev cJ0_length_8abf5 : ByteArray := prog_23_method_54_code
def yJ0_length_8abf5 : MethodName := ⟨RJ0, "length", "()I"⟩
abbrev cJ0_indexOf_0f7a4 : ByteArray := prog_23_method_79_code
def yJ0_indexOf_0f7a4 : MethodName := ⟨RJ0, "indexOf", "(I)I"⟩
abbrev cJ0_indexOf_7cf53 : ByteArray := prog_23_method_80_code
def yJ0_indexOf_7cf53 : MethodName := ⟨RJ0, "indexOf", "(II)I"⟩
abbrev cJ0_coder_7d493 : ByteArray := prog_23_method_152_code
def yJ0_coder_7d493 : MethodName := ⟨RJ0, "coder", "()B"⟩
abbrev cJ0_isLatin1_aae02 : ByteArray := prog_23_method_154_code
def yJ0_isLatin1_aae02 : MethodName := ⟨RJ0, "isLatin1", "()Z"⟩
abbrev cJ0_checkBoundsBeginEnd_23922 : ByteArray := prog_23_method_158_code
def yJ0_checkBoundsBeginEnd_23922 : MethodName := ⟨RJ0, "checkBoundsBeginEnd", "(III)V"⟩
def RJ1 : String := "java/lang/StringLatin1"
def TJ1 : u_T := fun k => match k with
  | _ => ("", "", "", false)
def tyJ1 : Nat → FieldType := fun k => match k with
  | _ => .int
abbrev wsJ10 : List Cond := u_ws RJ1 TJ1 0
theorem nmJ1 : ∀ a, a < 0 → ∀ b, b < 0 → a ≠ b → (TJ1 a).2.1 ≠ (TJ1 b).2.1 := by decide +kernel
theorem tyJ1_ok : ∀ k, k < 0 → parseFieldDescriptor (TJ1 k).2.2.1 = some (tyJ1 k) := by decide +kernel
abbrev cJ1_canEncode_9a6ad : ByteArray := prog_24_method_4_code
def yJ1_canEncode_9a6ad : MethodName := ⟨RJ1, "canEncode", "(I)Z"⟩
abbrev cJ1_indexOf_4cfef : ByteArray := prog_24_method_22_code
def yJ1_indexOf_4cfef : MethodName := ⟨RJ1, "indexOf", "([BIII)I"⟩
abbrev cJ1_indexOfChar_4cfef : ByteArray := prog_24_method_23_code
def yJ1_indexOfChar_4cfef : MethodName := ⟨RJ1, "indexOfChar", "([BIII)I"⟩
def RJ2 : String := "java/lang/StringUTF16"
def TJ2 : u_T := fun k => match k with
  | _ => ("", "", "", false)
def tyJ2 : Nat → FieldType := fun k => match k with
  | _ => .int
abbrev wsJ20 : List Cond := u_ws RJ2 TJ2 0
theorem nmJ2 : ∀ a, a < 0 → ∀ b, b < 0 → a ≠ b → (TJ2 a).2.1 ≠ (TJ2 b).2.1 := by decide +kernel
theorem tyJ2_ok : ∀ k, k < 0 → parseFieldDescriptor (TJ2 k).2.2.1 = some (tyJ2 k) := by decide +kernel
abbrev cJ2_getChar_3b067 : ByteArray := prog_25_method_5_code
def yJ2_getChar_3b067 : MethodName := ⟨RJ2, "getChar", "([BI)C"⟩
abbrev cJ2_length_9d52b : ByteArray := prog_25_method_6_code
def yJ2_length_9d52b : MethodName := ⟨RJ2, "length", "([B)I"⟩
abbrev cJ2_indexOf_4cfef : ByteArray := prog_25_method_40_code
def yJ2_indexOf_4cfef : MethodName := ⟨RJ2, "indexOf", "([BIII)I"⟩
abbrev cJ2_indexOfChar_4cfef : ByteArray := prog_25_method_47_code
def yJ2_indexOfChar_4cfef : MethodName := ⟨RJ2, "indexOfChar", "([BIII)I"⟩
abbrev cJ2_indexOfCharUnsafe_4cfef : ByteArray := prog_25_method_48_code
def yJ2_indexOfCharUnsafe_4cfef : MethodName := ⟨RJ2, "indexOfCharUnsafe", "([BIII)I"⟩
abbrev cJ2_indexOfSupplementary_4cfef : ByteArray := prog_25_method_49_code
def yJ2_indexOfSupplementary_4cfef : MethodName := ⟨RJ2, "indexOfSupplementary", "([BIII)I"⟩
abbrev cJ2_checkBoundsBeginEnd_d044e : ByteArray := prog_25_method_93_code
def yJ2_checkBoundsBeginEnd_d044e : MethodName := ⟨RJ2, "checkBoundsBeginEnd", "(II[B)V"⟩
def RJ10 : String := "java/lang/System"
def TJ10 : u_T := fun k => match k with
  | _ => ("", "", "", false)
def tyJ10 : Nat → FieldType := fun k => match k with
  | _ => .int
abbrev wsJ100 : List Cond := u_ws RJ10 TJ10 0
theorem nmJ10 : ∀ a, a < 0 → ∀ b, b < 0 → a ≠ b → (TJ10 a).2.1 ≠ (TJ10 b).2.1 := by decide +kernel
theorem tyJ10_ok : ∀ k, k < 0 → parseFieldDescriptor (TJ10 k).2.2.1 = some (tyJ10 k) := by decide +kernel
def RJxfd54e : String := "java/lang/constant/Constable"
def TJxfd54e : u_T := fun k => match k with
  | _ => ("", "", "", false)
def tyJxfd54e : Nat → FieldType := fun k => match k with
  | _ => .int
abbrev wsJxfd54e0 : List Cond := u_ws RJxfd54e TJxfd54e 0
theorem nmJxfd54e : ∀ a, a < 0 → ∀ b, b < 0 → a ≠ b → (TJxfd54e a).2.1 ≠ (TJxfd54e b).2.1 := by decide +kernel
theorem tyJxfd54e_ok : ∀ k, k < 0 → parseFieldDescriptor (TJxfd54e k).2.2.1 = some (tyJxfd54e k) := by decide +kernel
def RJx3cf43 : String := "java/lang/constant/ConstantDesc"
def TJx3cf43 : u_T := fun k => match k with
  | _ => ("", "", "", false)
def tyJx3cf43 : Nat → FieldType := fun k => match k with
  | _ => .int
abbrev wsJx3cf430 : List Cond := u_ws RJx3cf43 TJx3cf43 0
theorem nmJx3cf43 : ∀ a, a < 0 → ∀ b, b < 0 → a ≠ b → (TJx3cf43 a).2.1 ≠ (TJx3cf43 b).2.1 := by decide +kernel
theorem tyJx3cf43_ok : ∀ k, k < 0 → parseFieldDescriptor (TJx3cf43 k).2.2.1 = some (tyJx3cf43 k) := by decide +kernel
def RJ7 : String := "java/util/Arrays"
def TJ7 : u_T := fun k => match k with
  | _ => ("", "", "", false)
def tyJ7 : Nat → FieldType := fun k => match k with
  | _ => .int
abbrev wsJ70 : List Cond := u_ws RJ7 TJ7 0
theorem nmJ7 : ∀ a, a < 0 → ∀ b, b < 0 → a ≠ b → (TJ7 a).2.1 ≠ (TJ7 b).2.1 := by decide +kernel
theorem tyJ7_ok : ∀ k, k < 0 → parseFieldDescriptor (TJ7 k).2.2.1 = some (tyJ7 k) := by decide +kernel
abbrev cJ7_fill_d0a16 : ByteArray := prog_30_method_101_code
def yJ7_fill_d0a16 : MethodName := ⟨RJ7, "fill", "([JJ)V"⟩
abbrev cJ7_fill_53178 : ByteArray := prog_30_method_103_code
def yJ7_fill_53178 : MethodName := ⟨RJ7, "fill", "([II)V"⟩
def RJ3 : String := "jdk/internal/util/Preconditions"
def TJ3 : u_T := fun k => match k with
  | _ => ("", "", "", false)
def tyJ3 : Nat → FieldType := fun k => match k with
  | _ => .int
abbrev wsJ30 : List Cond := u_ws RJ3 TJ3 0
theorem nmJ3 : ∀ a, a < 0 → ∀ b, b < 0 → a ≠ b → (TJ3 a).2.1 ≠ (TJ3 b).2.1 := by decide +kernel
theorem tyJ3_ok : ∀ k, k < 0 → parseFieldDescriptor (TJ3 k).2.2.1 = some (tyJ3 k) := by decide +kernel
abbrev cJ3_checkFromToIndex_8c36e : ByteArray := prog_32_method_12_code
def yJ3_checkFromToIndex_8c36e : MethodName := ⟨RJ3, "checkFromToIndex", "(IIILjava/util/function/BiFunction;)I"⟩
def RL : String := "EnginesAsleepLaw"
abbrev cL_of : ByteArray := method_3_code
def yL_of : MethodName := ⟨RL, "of", "(LEnginesAsleep;II[J)I"⟩
abbrev cL_row : ByteArray := method_4_code
def yL_row : MethodName := ⟨RL, "row", "(LEnginesAsleep;I[J)I"⟩
abbrev cL_law : ByteArray := code
def yL_law : MethodName := ⟨RL, "law", "([I)Z"⟩
abbrev vwCl : List vw_C := [(RX0, TX0, 15), (RX1, TX1, 11), (RX2, TX2, 10), (RX3, TX3, 7), (RX4, TX4, 6), (RX5, TX5, 2), (RX6, TX6, 10), (RX7, TX7, 7), (RX8, TX8, 18), (RX9, TX9, 14), (RX10, TX10, 6), (RX11, TX11, 14), (RX12, TX12, 84)]
end
section
/-! MY TABLES (laid by wip/whole/gen_tables.py): the cells that the law makes, in the order of their making; the fields of the classes; the pools -/
/-- a cell's kind: (0, class), (1, n) int[n], (2, n) boolean[n], (3, n) byte[n], (4, n) long[n], (5, n) an array of Standings, (6, n) a constant long[n] -/
abbrev zT0 : Type := Nat × Nat
/-- an int, a long, a cell of my table -/
abbrev zV : Type := Int ⊕ (Int ⊕ (zT0 × Nat))
abbrev zM : Type := Nat → Int → Int
abbrev zL : Type := List (Option zV)
abbrev zC : Type := List (Nat × Instr × Nat)
/-- a field: an int (0), a boolean (1); a reference that stays, to a cell (.inl) or to the cell so far on (.inr); one that changes, to one of these -/
abbrev zFI : Type := Nat ⊕ ((zT0 × (Nat ⊕ Nat)) ⊕ List (zT0 × Nat))
abbrev zPE : Type := Nat × Nat × Int
abbrev zMeth : Type := MethodName × ByteArray × Nat × Option FieldType × Nat × zC
def zSh : List zT0 := [(0, 11), (0, 4), (1, 23), (1, 23), (2, 23), (0, 3), (1, 12), (1, 12), (1, 12), (2, 12), (1, 12), (1, 12), (0, 6), (1, 60), (1, 40), (1, 40), (1, 41), (1, 8), (0, 5), (1, 12), (0, 7), (1, 23), (1, 23), (1, 12), (1, 12), (0, 10), (0, 9), (5, 6), (1, 5), (1, 5), (1, 12), (1, 12), (0, 7), (1, 23), (1, 23), (1, 12), (1, 12), (0, 7), (1, 23), (1, 23), (1, 12), (1, 12), (0, 7), (1, 23), (1, 23), (1, 12), (1, 12), (0, 7), (1, 23), (1, 23), (1, 12), (1, 12), (0, 7), (1, 23), (1, 23), (1, 12), (1, 12), (0, 7), (1, 23), (1, 23), (1, 12), (1, 12), (0, 0), (1, 6), (1, 12), (4, 64), (4, 64), (1, 12), (1, 12), (1, 23), (0, 1), (1, 3), (1, 3), (1, 3), (1, 3), (1, 7), (1, 7), (1, 7), (0, 8), (1, 8), (1, 8), (1, 8), (1, 8), (1, 8), (4, 256), (4, 8), (1, 8), (1, 8), (1, 8), (1, 8), (1, 8), (1, 6), (0, 2), (0, 7), (1, 23), (1, 23), (1, 12), (1, 12), (1, 8), (1, 8), (1, 8), (1, 8), (5, 3), (1, 3), (0, 7), (1, 23), (1, 23), (1, 12), (1, 12), (0, 7), (1, 23), (1, 23), (1, 12), (1, 12), (0, 7), (1, 23), (1, 23), (1, 12), (1, 12), (0, 12), (1, 23), (1, 23), (2, 23), (1, 23), (1, 23), (1, 12), (1, 12), (1, 12), (2, 12), (2, 12), (1, 12), (1, 12), (1, 8), (1, 8), (1, 8), (1, 8), (1, 6), (1, 6), (3, 40), (3, 60), (1, 16), (1, 256), (1, 16), (1, 16), (2, 138), (2, 138), (1, 6), (1, 23), (1, 23), (1, 23), (2, 23), (1, 3), (1, 3), (1, 12), (1, 12), (1, 3), (1, 36864), (1, 8), (1, 8), (1, 6), (1, 8), (1, 12), (1, 8), (1, 8), (1, 8), (1, 8), (2, 8), (2, 3), (1, 3), (1, 69), (1, 69), (1, 36), (1, 36), (2, 36), (1, 3), (1, 3), (4, 1)]
def zFl0 : List zFI := [.inr (.inl ((0, 10), .inl 25)), .inr (.inl ((0, 7), .inl 20)), .inr (.inl ((0, 5), .inl 18)), .inr (.inl ((1, 6), .inl 63)), .inl 0, .inr (.inl ((1, 12), .inl 64)), .inl 0, .inr (.inl ((4, 64), .inl 65)), .inr (.inl ((4, 64), .inl 66)), .inr (.inl ((1, 12), .inl 67)), .inr (.inl ((1, 12), .inl 68)), .inr (.inl ((1, 23), .inl 69)), .inl 0, .inl 0, .inl 0]
def zFl1 : List zFI := [.inr (.inl ((0, 3), .inl 5)), .inr (.inl ((0, 5), .inl 18)), .inr (.inl ((1, 3), .inl 71)), .inr (.inl ((1, 3), .inl 72)), .inr (.inl ((1, 3), .inl 73)), .inr (.inl ((1, 3), .inl 74)), .inr (.inl ((1, 7), .inl 75)), .inl 0, .inr (.inl ((1, 7), .inl 76)), .inr (.inl ((1, 7), .inl 77)), .inl 1]
def zFl2 : List zFI := [.inr (.inl ((0, 10), .inl 25)), .inr (.inl ((0, 8), .inl 78)), .inr (.inl ((0, 7), .inl 20)), .inr (.inl ((0, 5), .inl 18)), .inr (.inl ((0, 7), .inl 93)), .inr (.inl ((1, 8), .inl 98)), .inr (.inl ((1, 8), .inl 99)), .inr (.inl ((1, 8), .inl 100)), .inr (.inl ((1, 8), .inl 101)), .inl 0]
def zFl3 : List zFI := [.inl 0, .inr (.inl ((1, 12), .inl 6)), .inr (.inl ((1, 12), .inl 7)), .inr (.inl ((1, 12), .inl 8)), .inr (.inl ((2, 12), .inl 9)), .inr (.inl ((1, 12), .inl 10)), .inr (.inl ((1, 12), .inl 11))]
def zFl4 : List zFI := [.inl 0, .inl 0, .inl 0, .inr (.inl ((1, 23), .inl 2)), .inr (.inl ((1, 23), .inl 3)), .inr (.inl ((2, 23), .inl 4))]
def zFl5 : List zFI := [.inr (.inl ((1, 12), .inl 19)), .inl 0]
def zFl6 : List zFI := [.inr (.inl ((1, 60), .inl 13)), .inl 0, .inr (.inr [((1, 40), 14), ((1, 40), 15)]), .inl 0, .inr (.inr [((1, 40), 14), ((1, 40), 15)]), .inl 0, .inl 0, .inl 0, .inr (.inl ((1, 41), .inl 16)), .inr (.inl ((1, 8), .inl 17))]
def zFl7 : List zFI := [.inl 0, .inl 0, .inl 0, .inr (.inl ((1, 23), .inr 1)), .inr (.inl ((1, 23), .inr 2)), .inr (.inl ((1, 12), .inr 3)), .inr (.inl ((1, 12), .inr 4))]
def zFl8 : List zFI := [.inr (.inl ((0, 10), .inl 25)), .inr (.inl ((0, 7), .inl 20)), .inr (.inl ((0, 5), .inl 18)), .inl 0, .inr (.inl ((1, 8), .inl 79)), .inr (.inl ((1, 8), .inl 80)), .inr (.inl ((1, 8), .inl 81)), .inr (.inl ((1, 8), .inl 82)), .inr (.inl ((1, 8), .inl 83)), .inr (.inl ((4, 256), .inl 84)), .inr (.inl ((4, 8), .inl 85)), .inr (.inl ((1, 8), .inl 86)), .inl 0, .inr (.inl ((1, 8), .inl 87)), .inr (.inl ((1, 8), .inl 88)), .inr (.inl ((1, 8), .inl 89)), .inr (.inl ((1, 8), .inl 90)), .inr (.inl ((1, 6), .inl 91))]
def zFl9 : List zFI := [.inr (.inl ((0, 10), .inl 25)), .inr (.inl ((0, 5), .inl 18)), .inr (.inl ((5, 6), .inl 27)), .inr (.inl ((1, 5), .inl 28)), .inr (.inl ((1, 5), .inl 29)), .inl 0, .inl 0, .inl 0, .inl 0, .inl 0, .inr (.inl ((1, 12), .inl 30)), .inr (.inl ((1, 12), .inl 31)), .inl 0, .inl 0]
def zFl10 : List zFI := [.inr (.inl ((0, 4), .inl 1)), .inr (.inl ((0, 3), .inl 5)), .inr (.inl ((0, 6), .inl 12)), .inl 0, .inl 0, .inl 0]
def zFl11 : List zFI := [.inr (.inl ((0, 4), .inl 1)), .inr (.inl ((0, 3), .inl 5)), .inr (.inl ((0, 6), .inl 12)), .inr (.inl ((0, 5), .inl 18)), .inr (.inl ((0, 7), .inl 20)), .inr (.inl ((0, 10), .inl 25)), .inr (.inl ((0, 9), .inl 26)), .inr (.inl ((0, 0), .inl 62)), .inr (.inl ((0, 1), .inl 70)), .inr (.inl ((0, 8), .inl 78)), .inr (.inl ((0, 2), .inl 92)), .inr (.inl ((5, 3), .inl 102)), .inr (.inl ((1, 3), .inl 103)), .inl 0]
def zFl12 : List zFI := [.inl 0, .inr (.inl ((1, 23), .inl 120)), .inr (.inl ((1, 23), .inl 121)), .inr (.inl ((2, 23), .inl 122)), .inr (.inl ((1, 23), .inl 123)), .inr (.inl ((1, 23), .inl 124)), .inl 0, .inr (.inl ((1, 12), .inl 125)), .inr (.inl ((1, 12), .inl 126)), .inr (.inl ((1, 12), .inl 127)), .inr (.inl ((2, 12), .inl 128)), .inr (.inl ((2, 12), .inl 129)), .inr (.inl ((1, 12), .inl 130)), .inr (.inl ((1, 12), .inl 131)), .inl 0, .inl 0, .inl 0, .inl 0, .inl 0, .inr (.inl ((1, 8), .inl 132)), .inr (.inl ((1, 8), .inl 133)), .inr (.inl ((1, 8), .inl 134)), .inr (.inl ((1, 8), .inl 135)), .inl 0, .inr (.inl ((1, 6), .inl 136)), .inl 0, .inr (.inl ((1, 6), .inl 137)), .inr (.inl ((3, 40), .inl 138)), .inl 0, .inr (.inl ((3, 60), .inl 139)), .inl 0, .inr (.inl ((1, 16), .inl 140)), .inl 0, .inl 0, .inr (.inr [((3, 40), 138), ((3, 60), 139)]), .inl 0, .inl 0, .inl 0, .inl 0, .inl 0, .inl 1, .inr (.inl ((1, 256), .inl 141)), .inl 0, .inl 0, .inl 0, .inl 0, .inr (.inl ((1, 16), .inl 142)), .inr (.inl ((1, 16), .inl 143)), .inl 0, .inl 0, .inr (.inl ((2, 138), .inl 144)), .inr (.inl ((2, 138), .inl 145)), .inr (.inl ((1, 6), .inl 146)), .inr (.inl ((1, 23), .inl 147)), .inr (.inl ((1, 23), .inl 148)), .inl 0, .inr (.inl ((1, 23), .inl 149)), .inr (.inl ((2, 23), .inl 150)), .inr (.inl ((1, 3), .inl 151)), .inr (.inl ((1, 3), .inl 152)), .inr (.inl ((1, 12), .inl 153)), .inr (.inl ((1, 12), .inl 154)), .inr (.inl ((1, 3), .inl 155)), .inr (.inl ((1, 36864), .inl 156)), .inr (.inl ((1, 8), .inl 157)), .inr (.inl ((1, 8), .inl 158)), .inr (.inl ((1, 6), .inl 159)), .inr (.inl ((1, 8), .inl 160)), .inr (.inl ((1, 12), .inl 161)), .inr (.inl ((1, 8), .inl 162)), .inr (.inl ((1, 8), .inl 163)), .inr (.inl ((1, 8), .inl 164)), .inr (.inl ((1, 8), .inl 165)), .inr (.inl ((2, 8), .inl 166)), .inl 0, .inr (.inl ((2, 3), .inl 167)), .inr (.inl ((1, 3), .inl 168)), .inr (.inl ((1, 69), .inl 169)), .inr (.inl ((1, 69), .inl 170)), .inr (.inl ((1, 36), .inl 171)), .inr (.inl ((1, 36), .inl 172)), .inr (.inl ((2, 36), .inl 173)), .inr (.inl ((1, 3), .inl 174)), .inr (.inl ((1, 3), .inl 175))]
def zFl : List (List zFI) := [zFl0, zFl1, zFl2, zFl3, zFl4, zFl5, zFl6, zFl7, zFl8, zFl9, zFl10, zFl11, zFl12]
def zBs (j : Nat) : Nat := if j = 27 then 32 else 104
def zOwn : List String := [RX0, RX1, RX2, RX3, RX4, RX5, RX6, RX7, RX8, RX9, RX10, RX11, RX12, RL, RJ6, RJ7]
def zPl0 : List (Nat × zPE) := [(11, 0, 0, 3), (15, 0, 0, 4), (19, 0, 0, 5), (22, 0, 0, 6), (25, 0, 0, 7), (29, 0, 0, 8), (32, 0, 0, 9), (35, 0, 0, 10), (38, 0, 0, 11), (41, 0, 0, 12), (44, 0, 0, 13), (47, 0, 0, 14), (50, 0, 0, 0), (54, 0, 0, 1), (58, 0, 0, 2), (62, 3, 285, 2), (68, 2, 0, 1), (72, 2, 58, 701), (77, 5, 0, 1152921504606846976), (79, 3, 284, 2), (82, 1, 10, 0), (88, 1, 4, 0), (93, 1, 4, 5), (97, 1, 7, 3), (100, 2, 5, 2), (104, 2, 42, 500), (109, 6, 1000, 6), (112, 5, 0, 24), (114, 2, 43, 501), (118, 5, 0, 191102976), (120, 7, 3, 5), (126, 1, 10, 1), (130, 1, 3, 1), (135, 1, 4, 3), (136, 2, 6, 1), (140, 2, 101, 1004), (144, 2, 7, 2), (148, 2, 8, 3), (152, 2, 37, 402), (156, 2, 10, 1), (159, 2, 11, 2), (163, 2, 13, 1), (166, 2, 100, 1003), (170, 3, 282, 1), (175, 2, 12, 0)]
def zPl1 : List (Nat × zPE) := [(9, 0, 1, 2), (15, 0, 1, 3), (18, 0, 1, 4), (21, 0, 1, 5), (24, 0, 1, 6), (27, 0, 1, 7), (31, 0, 1, 8), (34, 0, 1, 9), (37, 0, 1, 10), (41, 0, 1, 0), (45, 0, 1, 1), (49, 3, 283, 1), (55, 2, 32, 301), (61, 1, 3, 0), (62, 3, 285, 2), (68, 2, 15, 101), (72, 2, 18, 101), (75, 2, 42, 500), (80, 2, 43, 501), (83, 2, 19, 100), (87, 7, 3, 5), (93, 1, 3, 5), (96, 1, 3, 6), (99, 2, 16, 102), (103, 2, 21, 102), (106, 2, 44, 501)]
def zPl2 : List (Nat × zPE) := [(12, 0, 2, 4), (18, 0, 2, 5), (22, 0, 2, 6), (25, 0, 2, 7), (28, 0, 2, 8), (31, 0, 2, 9), (35, 0, 2, 0), (39, 0, 2, 1), (43, 0, 2, 2), (46, 0, 2, 3), (50, 2, 57, 701), (54, 2, 23, 200), (57, 1, 7, 1), (60, 1, 8, 3), (65, 1, 8, 8), (68, 1, 8, 7), (71, 2, 59, 701), (75, 2, 58, 701), (78, 2, 25, 202), (82, 2, 26, 202), (85, 7, 0, 2), (90, 2, 24, 201), (94, 2, 61, 701), (98, 1, 7, 6), (101, 2, 94, 1002), (107, 1, 8, 4), (110, 2, 106, 1002), (113, 1, 10, 5), (116, 1, 10, 4), (119, 2, 107, 1002), (123, 2, 22, 200), (127, 2, 45, 502), (133, 2, 43, 501), (136, 2, 29, 202), (140, 2, 30, 202), (143, 2, 42, 500), (146, 2, 68, 802)]
def zPl3 : List (Nat × zPE) := [(9, 0, 3, 0), (15, 0, 3, 1), (19, 0, 3, 2), (22, 0, 3, 3), (25, 0, 3, 4)]
def zPl4 : List (Nat × zPE) := [(18, 0, 4, 3), (22, 0, 4, 4), (25, 0, 4, 5), (33, 0, 4, 0), (36, 7, 1, 2), (42, 3, 41, 2), (45, 7, 0, 2)]
def zPl5 : List (Nat × zPE) := [(9, 0, 5, 0), (13, 0, 5, 1), (17, 2, 42, 500), (20, 2, 43, 501)]
def zPl6 : List (Nat × zPE) := [(11, 0, 6, 0), (15, 0, 6, 1), (19, 0, 6, 2), (22, 0, 6, 3), (25, 0, 6, 4), (28, 0, 6, 5), (31, 0, 6, 6), (34, 0, 6, 7), (37, 0, 6, 8), (40, 0, 6, 9), (43, 7, 1, 2), (49, 2, 49, 602), (53, 2, 50, 601), (57, 3, 54, 2), (60, 2, 55, 601), (64, 2, 51, 601), (67, 3, 53, 1), (70, 2, 52, 600), (75, 8, 0, 1)]
def zPl7 : List (Nat × zPE) := [(9, 0, 7, 0), (15, 0, 7, 1), (18, 0, 7, 2), (21, 0, 7, 3), (25, 0, 7, 4), (28, 0, 7, 5), (31, 0, 7, 6), (40, 7, 3, 5), (46, 2, 60, 701)]
def zPl8 : List (Nat × zPE) := [(9, 0, 8, 3), (15, 0, 8, 4), (19, 0, 8, 5), (22, 0, 8, 6), (25, 0, 8, 7), (28, 0, 8, 8), (31, 0, 8, 9), (35, 0, 8, 10), (38, 0, 8, 11), (41, 0, 8, 12), (44, 0, 8, 13), (47, 0, 8, 14), (50, 0, 8, 15), (53, 0, 8, 16), (56, 0, 8, 17), (59, 0, 8, 0), (63, 0, 8, 1), (67, 0, 8, 2), (71, 3, 285, 2), (77, 1, 7, 6), (82, 1, 7, 1), (85, 2, 59, 701), (89, 1, 10, 1), (95, 1, 3, 2), (98, 1, 3, 3), (101, 5, 0, 1152921504606846976), (103, 3, 284, 2), (106, 5, 0, 815730721), (108, 1, 3, 0), (109, 2, 70, 802), (113, 3, 283, 1), (119, 6, 1001, 8), (122, 5, 0, 13), (124, 2, 68, 802), (128, 3, 282, 1), (131, 7, 4, 2), (137, 2, 43, 501), (143, 4, 0, 1000000000), (144, 2, 58, 701), (147, 2, 106, 1002), (151, 2, 44, 501), (154, 2, 61, 701), (157, 2, 67, 801), (160, 2, 75, 804), (164, 2, 76, 803), (168, 2, 42, 500), (171, 7, 0, 2), (175, 2, 79, 801), (178, 2, 78, 801), (181, 7, 1, 2), (183, 2, 77, 802)]
def zPl9 : List (Nat × zPE) := [(13, 0, 9, 2), (17, 0, 9, 3), (21, 0, 9, 4), (24, 0, 9, 5), (28, 0, 9, 6), (31, 0, 9, 7), (34, 0, 9, 8), (37, 0, 9, 9), (40, 0, 9, 10), (43, 0, 9, 11), (46, 0, 9, 12), (49, 0, 9, 13), (52, 0, 9, 0), (56, 0, 9, 1), (61, 4, 0, 1000000000), (62, 2, 57, 701), (66, 2, 83, 903), (70, 2, 42, 500), (75, 3, 283, 1), (81, 2, 43, 501), (85, 7, 3, 5), (91, 2, 58, 701), (95, 2, 106, 1002), (101, 2, 107, 1002), (105, 1, 7, 3), (108, 1, 7, 4), (111, 2, 86, 904), (115, 1, 7, 1), (118, 2, 96, 1003), (122, 2, 85, 902), (125, 1, 10, 0), (129, 1, 4, 0), (134, 2, 102, 1003), (138, 2, 103, 1003), (141, 2, 105, 1004), (145, 1, 7, 5), (148, 2, 99, 1001), (152, 2, 89, 905), (156, 2, 45, 502), (160, 2, 88, 902), (163, 1, 10, 1), (167, 1, 3, 0), (172, 2, 61, 701), (175, 2, 92, 1002), (178, 2, 98, 1002), (182, 2, 100, 1003), (185, 3, 282, 1), (188, 2, 62, 700), (192, 2, 38, 402), (196, 2, 91, 903), (200, 2, 44, 501)]
def zPl10 : List (Nat × zPE) := [(9, 0, 10, 3), (15, 0, 10, 4), (18, 0, 10, 5), (21, 0, 10, 0), (25, 0, 10, 1), (29, 0, 10, 2), (33, 2, 58, 701), (39, 1, 4, 0), (44, 1, 7, 5), (48, 1, 7, 3), (51, 1, 3, 1), (56, 1, 7, 4), (59, 1, 7, 6), (62, 1, 3, 3), (65, 2, 95, 1003), (69, 2, 59, 701), (72, 2, 60, 701), (75, 2, 39, 402), (79, 1, 3, 0), (82, 2, 97, 1002), (86, 1, 4, 5), (90, 2, 93, 1002), (94, 1, 4, 3), (95, 2, 101, 1004), (99, 1, 6, 3), (104, 1, 6, 9), (107, 1, 3, 2), (110, 1, 3, 4), (113, 1, 7, 1), (116, 2, 56, 600), (120, 1, 4, 1), (123, 1, 7, 0), (126, 2, 37, 402), (130, 1, 4, 2), (133, 2, 100, 1003), (136, 2, 92, 1002), (139, 2, 61, 701), (143, 2, 103, 1003), (146, 2, 102, 1003), (150, 2, 64, 702), (154, 2, 96, 1003), (157, 7, 1, 2), (162, 7, 0, 2), (165, 2, 105, 1004)]
def zPl11 : List (Nat × zPE) := [(10, 0, 11, 0), (19, 0, 11, 1), (26, 0, 11, 2), (33, 0, 11, 3), (40, 0, 11, 4), (49, 0, 11, 5), (58, 0, 11, 6), (67, 0, 11, 7), (76, 0, 11, 8), (83, 0, 11, 9), (92, 0, 11, 10), (96, 0, 11, 11), (100, 0, 11, 12), (104, 0, 11, 13), (108, 2, 62, 700), (112, 1, 4, 0), (115, 2, 34, 401), (119, 1, 7, 0), (122, 2, 35, 401), (126, 2, 93, 1002), (130, 1, 4, 3), (133, 1, 4, 4), (136, 2, 40, 404), (140, 1, 4, 5), (144, 1, 4, 1), (147, 1, 4, 2), (150, 2, 36, 401), (153, 2, 37, 402), (157, 2, 46, 601), (161, 2, 47, 601), (164, 2, 48, 600), (167, 1, 3, 0), (170, 2, 33, 304), (174, 2, 31, 301), (177, 1, 7, 6), (180, 1, 7, 1), (183, 1, 7, 2), (193, 2, 92, 1002), (196, 2, 60, 701), (199, 1, 3, 2), (202, 2, 95, 1003), (206, 2, 61, 701), (209, 2, 97, 1002), (215, 1, 7, 5), (218, 2, 100, 1003), (221, 2, 99, 1001), (225, 2, 96, 1003), (228, 2, 104, 1003), (231, 2, 105, 1004), (235, 2, 58, 701), (238, 2, 106, 1002), (241, 1, 10, 3), (244, 2, 44, 501), (247, 3, 283, 1), (252, 2, 82, 902), (255, 2, 84, 902), (258, 2, 87, 901), (261, 2, 1, 1), (264, 2, 2, 1), (267, 2, 3, 0), (270, 2, 4, 0), (273, 2, 32, 301), (276, 2, 9, 1), (279, 1, 1, 2), (282, 1, 1, 3), (285, 1, 3, 5), (288, 1, 3, 6), (291, 2, 14, 101), (294, 2, 17, 102), (298, 2, 20, 101), (301, 1, 8, 3), (302, 2, 66, 803), (305, 2, 65, 801), (306, 2, 67, 801), (309, 1, 8, 7), (312, 2, 68, 802), (316, 2, 69, 802), (319, 2, 42, 500), (322, 2, 71, 800), (325, 1, 8, 12), (328, 2, 72, 801), (331, 2, 73, 800), (334, 2, 28, 200), (337, 2, 74, 802), (340, 2, 77, 802), (343, 2, 80, 800), (346, 2, 81, 801), (349, 2, 90, 902), (352, 2, 22, 200), (355, 1, 2, 5), (358, 2, 43, 501), (361, 2, 27, 201), (364, 2, 57, 701), (368, 1, 0, 4), (371, 1, 0, 6), (374, 2, 63, 700), (377, 1, 5, 1), (380, 1, 6, 1), (383, 1, 7, 3), (386, 1, 7, 4), (391, 1, 5, 0)]
def zPl12 : List (Nat × zPE) := [(7, 0, 12, 0), (13, 0, 12, 1), (17, 0, 12, 2), (20, 0, 12, 3), (24, 0, 12, 4), (27, 0, 12, 5), (30, 0, 12, 7), (33, 0, 12, 8), (36, 0, 12, 9), (39, 0, 12, 10), (42, 0, 12, 11), (45, 0, 12, 12), (48, 0, 12, 13), (51, 0, 12, 14), (54, 0, 12, 16), (57, 0, 12, 17), (60, 0, 12, 19), (63, 0, 12, 20), (66, 0, 12, 21), (69, 0, 12, 22), (72, 0, 12, 24), (75, 0, 12, 26), (78, 0, 12, 27), (82, 0, 12, 29), (85, 0, 12, 31), (88, 0, 12, 41), (91, 0, 12, 46), (94, 0, 12, 47), (97, 0, 12, 50), (100, 0, 12, 51), (103, 0, 12, 52), (106, 0, 12, 53), (109, 0, 12, 54), (112, 0, 12, 56), (115, 0, 12, 57), (118, 0, 12, 58), (121, 0, 12, 59), (124, 0, 12, 60), (127, 0, 12, 61), (130, 0, 12, 62), (134, 0, 12, 63), (137, 0, 12, 64), (140, 0, 12, 65), (143, 0, 12, 66), (146, 0, 12, 67), (149, 0, 12, 68), (152, 0, 12, 69), (155, 0, 12, 70), (158, 0, 12, 71), (161, 0, 12, 72), (164, 0, 12, 73), (167, 0, 12, 75), (170, 0, 12, 76), (173, 0, 12, 77), (176, 0, 12, 78), (179, 0, 12, 79), (182, 0, 12, 80), (185, 0, 12, 81), (188, 0, 12, 82), (191, 0, 12, 83), (194, 2, 164, 1200), (197, 0, 12, 33), (200, 0, 12, 32), (203, 3, 161, 3), (207, 0, 12, 6), (210, 0, 12, 18), (213, 2, 169, 1200), (217, 0, 12, 74), (220, 2, 165, 1201), (224, 2, 171, 1201), (228, 7, 1, 2), (234, 7, 0, 2), (237, 7, 2, 1), (240, 2, 166, 1201), (243, 2, 176, 1202), (246, 0, 12, 30), (249, 0, 12, 36), (252, 0, 12, 35), (255, 0, 12, 34), (258, 0, 12, 37), (261, 2, 181, 1200), (264, 2, 180, 1200), (268, 2, 185, 1201), (271, 2, 183, 1201), (275, 2, 186, 1201), (278, 2, 187, 1201), (281, 2, 188, 1201), (284, 2, 184, 1201), (287, 2, 182, 1200), (290, 0, 12, 38), (293, 2, 189, 1201), (297, 2, 193, 1201), (300, 0, 12, 39), (303, 0, 12, 40), (307, 0, 12, 28), (310, 0, 12, 15), (313, 2, 167, 1201), (316, 2, 199, 1201), (319, 2, 162, 1200), (322, 2, 198, 1201), (325, 2, 200, 1201), (328, 2, 201, 1201), (331, 2, 191, 1203), (335, 2, 203, 1202), (339, 2, 205, 1200), (342, 0, 12, 42), (345, 2, 209, 1201), (349, 2, 210, 1202), (353, 2, 194, 1201), (356, 2, 211, 1202), (359, 2, 208, 1202), (362, 2, 212, 1203), (366, 0, 12, 43), (369, 0, 12, 44), (372, 0, 12, 45), (375, 2, 216, 1201), (378, 2, 213, 1201), (381, 2, 163, 1201), (384, 0, 12, 48), (387, 0, 12, 49), (390, 2, 218, 1202), (393, 2, 220, 1203), (396, 2, 221, 1200), (399, 3, 283, 1), (404, 2, 219, 1200), (407, 2, 223, 1203), (410, 2, 225, 1203), (413, 0, 12, 23), (416, 2, 229, 1201), (419, 0, 12, 25), (422, 2, 232, 1201), (425, 0, 12, 55), (428, 2, 231, 1202), (431, 2, 233, 1203), (435, 2, 234, 1202), (438, 2, 235, 1202), (441, 4, 0, 1000000), (442, 2, 237, 1202), (445, 2, 238, 1202), (448, 2, 243, 1203), (451, 2, 242, 1201), (454, 2, 247, 1202), (458, 2, 244, 1201), (461, 2, 168, 1201), (464, 2, 250, 1201), (467, 2, 252, 1202), (470, 2, 254, 1203), (474, 2, 255, 1202), (477, 2, 256, 1202), (481, 2, 273, 1200), (484, 2, 261, 1202), (487, 2, 263, 1204), (491, 2, 264, 1205), (495, 4, 0, 1000000000), (496, 2, 267, 1201), (499, 2, 266, 1202), (502, 2, 271, 1203), (505, 2, 272, 1201), (508, 2, 274, 1203)]
def zPl13 : List (Nat × zPE) := []
def zPl14 : List (Nat × zPE) := [(264, 4, 0, 65536), (265, 4, 0, 1431655765), (266, 4, 0, 858993459), (267, 4, 0, 252645135)]
def zPl15 : List (Nat × zPE) := []
def zPl : List (List (Nat × zPE)) := [zPl0, zPl1, zPl2, zPl3, zPl4, zPl5, zPl6, zPl7, zPl8, zPl9, zPl10, zPl11, zPl12, zPl13, zPl14, zPl15]
def zRo (j : Nat) (i : Int) : Int := if j = 1000 then [7962624, 331776, 13824, 576, 24, 1].getD i.toNat 0 else [62748517, 4826809, 371293, 28561, 2197, 169, 13, 1].getD i.toNat 0
end
section
/-! THE CODE of the methods (laid by wip/whole/gen_tables.py) -/
set_option maxRecDepth 100000 in
def mX0_isComing : zMeth := (yX0_isComing, cX0_isComing, 3, (some .boolean), 0, (0, .iconst 0, 1) :: (1, .istore_n 2, 1) :: (2, .iload_n 2, 1) :: (3, .aload_n 0, 1) :: (4, .getfield 15, 3) :: (7, .if_icmp .ge 21, 3) :: (10, .aload_n 0, 1) :: (11, .getfield 11, 3) :: (14, .iload_n 2, 1) :: (15, .iaload, 1) :: (16, .iload_n 1, 1) :: (17, .if_icmp .ne 5, 3) :: (20, .iconst 1, 1) :: (21, .ireturn, 1) :: (22, .iinc 2 1, 3) :: (25, .goto (-23), 3) :: (28, .iconst 0, 1) :: (29, .ireturn, 1) :: [])
set_option maxRecDepth 100000 in
def mX0_tellComing : zMeth := (yX0_tellComing, cX0_tellComing, 2, (some .int), 0, (0, .aload_n 0, 1) :: (1, .getfield 15, 3) :: (4, .bipush 6, 2) :: (6, .if_icmp .ge 11, 3) :: (9, .aload_n 0, 1) :: (10, .iload_n 1, 1) :: (11, .invokevirtual 68, 3) :: (14, .ifCond .eq 5, 3) :: (17, .iconst (-1), 1) :: (18, .ireturn, 1) :: (19, .aload_n 0, 1) :: (20, .getfield 11, 3) :: (23, .aload_n 0, 1) :: (24, .getfield 15, 3) :: (27, .iload_n 1, 1) :: (28, .iastore, 1) :: (29, .aload_n 0, 1) :: (30, .dup, 1) :: (31, .getfield 15, 3) :: (34, .iconst 1, 1) :: (35, .iadd, 1) :: (36, .putfield 15, 3) :: (39, .aload_n 0, 1) :: (40, .getfield 15, 3) :: (43, .ireturn, 1) :: [])
set_option maxRecDepth 100000 in
def mX0_tellLeaving : zMeth := (yX0_tellLeaving, cX0_tellLeaving, 2, (some .int), 0, (0, .aload_n 0, 1) :: (1, .iload_n 1, 1) :: (2, .invokevirtual 68, 3) :: (5, .ifCond .eq 13, 3) :: (8, .aload_n 0, 1) :: (9, .getfield 19, 3) :: (12, .iload_n 1, 1) :: (13, .iaload, 1) :: (14, .iconst (-1), 1) :: (15, .if_icmp .eq 5, 3) :: (18, .iconst (-1), 1) :: (19, .ireturn, 1) :: (20, .aload_n 0, 1) :: (21, .getfield 19, 3) :: (24, .iload_n 1, 1) :: (25, .aload_n 0, 1) :: (26, .getfield 22, 3) :: (29, .iastore, 1) :: (30, .aload_n 0, 1) :: (31, .dup, 1) :: (32, .getfield 22, 3) :: (35, .iconst 1, 1) :: (36, .iadd, 1) :: (37, .putfield 22, 3) :: (40, .aload_n 0, 1) :: (41, .getfield 22, 3) :: (44, .ireturn, 1) :: [])
set_option maxRecDepth 100000 in
def mX0_forget : zMeth := (yX0_forget, cX0_forget, 2, (some .int), 0, (0, .aload_n 0, 1) :: (1, .getfield 15, 3) :: (4, .istore_n 1, 1) :: (5, .aload_n 0, 1) :: (6, .iconst 0, 1) :: (7, .putfield 15, 3) :: (10, .aload_n 0, 1) :: (11, .iconst 0, 1) :: (12, .putfield 22, 3) :: (15, .aload_n 0, 1) :: (16, .getfield 19, 3) :: (19, .iconst (-1), 1) :: (20, .invokestatic 62, 3) :: (23, .iload_n 1, 1) :: (24, .ireturn, 1) :: [])
set_option maxRecDepth 100000 in
def mX0_bestPut : zMeth := (yX0_bestPut, cX0_bestPut, 3, (some .int), 0, (0, .aload_n 0, 1) :: (1, .getfield 15, 3) :: (4, .ifCond .eq 14, 3) :: (7, .aload_n 0, 1) :: (8, .getfield 22, 3) :: (11, .aload_n 0, 1) :: (12, .getfield 15, 3) :: (15, .if_icmp .ge 5, 3) :: (18, .iconst (-1), 1) :: (19, .ireturn, 1) :: (20, .iconst 0, 1) :: (21, .istore_n 1, 1) :: (22, .iload_n 1, 1) :: (23, .aload_n 0, 1) :: (24, .getfield 15, 3) :: (27, .if_icmp .ge 28, 3) :: (30, .aload_n 0, 1) :: (31, .getfield 54, 3) :: (34, .aload_n 0, 1) :: (35, .getfield 11, 3) :: (38, .iload_n 1, 1) :: (39, .iaload, 1) :: (40, .invokevirtual 72, 3) :: (43, .ifCond .ne 6, 3) :: (46, .bipush (-2), 2) :: (48, .ireturn, 1) :: (49, .iinc 1 1, 3) :: (52, .goto (-30), 3) :: (55, .iconst 1, 1) :: (56, .aload_n 0, 1) :: (57, .getfield 15, 3) :: (60, .ishl, 1) :: (61, .iconst 1, 1) :: (62, .isub, 1) :: (63, .istore_n 1, 1) :: (64, .aload_n 0, 1) :: (65, .getfield 25, 3) :: (68, .ldc2_w 77, 3) :: (71, .invokestatic 79, 3) :: (74, .aload_n 0, 1) :: (75, .getfield 25, 3) :: (78, .iconst 0, 1) :: (79, .lconst 0, 1) :: (80, .lastore, 1) :: (81, .iconst 0, 1) :: (82, .istore_n 2, 1) :: (83, .iload_n 2, 1) :: (84, .aload_n 0, 1) :: (85, .getfield 50, 3) :: (88, .getfield 82, 3) :: (91, .getfield 88, 3) :: (94, .if_icmp .ge 43, 3) :: (97, .aload_n 0, 1) :: (98, .getfield 50, 3) :: (101, .getfield 82, 3) :: (104, .getfield 93, 3) :: (107, .iload_n 2, 1) :: (108, .baload, 1) :: (109, .ifCond .ne 22, 3) :: (112, .aload_n 0, 1) :: (113, .getfield 54, 3) :: (116, .getfield 97, 3) :: (119, .iload_n 2, 1) :: (120, .iaload, 1) :: (121, .iconst (-1), 1) :: (122, .if_icmp .ne 9, 3) :: (125, .aload_n 0, 1) :: (126, .iload_n 2, 1) :: (127, .iload_n 1, 1) :: (128, .invokevirtual 100, 3) :: (131, .iinc 2 1, 3) :: (134, .goto (-51), 3) :: (137, .aload_n 0, 1) :: (138, .getfield 25, 3) :: (141, .iload_n 1, 1) :: (142, .laload, 1) :: (143, .ldc2_w 77, 3) :: (146, .lcmp, 1) :: (147, .ifCond .lt 6, 3) :: (150, .bipush (-2), 2) :: (152, .ireturn, 1) :: (153, .aload_n 0, 1) :: (154, .getfield 58, 3) :: (157, .invokevirtual 104, 3) :: (160, .iconst 0, 1) :: (161, .istore_n 2, 1) :: (162, .iload_n 2, 1) :: (163, .aload_n 0, 1) :: (164, .getfield 15, 3) :: (167, .if_icmp .ge 33, 3) :: (170, .aload_n 0, 1) :: (171, .getfield 58, 3) :: (174, .aload_n 0, 1) :: (175, .getfield 25, 3) :: (178, .iload_n 1, 1) :: (179, .laload, 1) :: (180, .getstatic 109, 3) :: (183, .iload_n 2, 1) :: (184, .laload, 1) :: (185, .ldiv, 1) :: (186, .ldc2_w 112, 3) :: (189, .lrem, 1) :: (190, .l2i, 1) :: (191, .invokevirtual 114, 3) :: (194, .iinc 2 1, 3) :: (197, .goto (-35), 3) :: (200, .aload_n 0, 1) :: (201, .getfield 25, 3) :: (204, .iload_n 1, 1) :: (205, .laload, 1) :: (206, .ldc2_w 118, 3) :: (209, .ldiv, 1) :: (210, .l2i, 1) :: (211, .ireturn, 1) :: [])
set_option maxRecDepth 100000 in
def mX0_offerStall : zMeth := (yX0_offerStall, cX0_offerStall, 10, none, 0, (0, .aload_n 0, 1) :: (1, .getfield 25, 3) :: (4, .iconst 0, 1) :: (5, .aload_n 0, 1) :: (6, .getfield 29, 3) :: (9, .iconst 0, 1) :: (10, .iload_n 2, 1) :: (11, .iconst 1, 1) :: (12, .iadd, 1) :: (13, .invokestatic 120, 3) :: (16, .aload_n 0, 1) :: (17, .getfield 50, 3) :: (20, .getfield 126, 3) :: (23, .getfield 130, 3) :: (26, .astore_n 3, 1) :: (27, .aload_n 0, 1) :: (28, .getfield 50, 3) :: (31, .getfield 82, 3) :: (34, .getfield 135, 3) :: (37, .iload_n 1, 1) :: (38, .iaload, 1) :: (39, .istore 4, 2) :: (41, .aload_n 0, 1) :: (42, .iload_n 1, 1) :: (43, .invokevirtual 136, 3) :: (46, .istore 5, 2) :: (48, .iconst 0, 1) :: (49, .istore 6, 2) :: (51, .iload 6, 2) :: (53, .aload_n 0, 1) :: (54, .getfield 15, 3) :: (57, .if_icmp .ge 177, 3) :: (60, .aload_n 0, 1) :: (61, .getfield 11, 3) :: (64, .iload 6, 2) :: (66, .iaload, 1) :: (67, .istore 7, 2) :: (69, .aload_n 3, 1) :: (70, .iload 7, 2) :: (72, .iaload, 1) :: (73, .iload 4, 2) :: (75, .if_icmp .gt 153, 3) :: (78, .aload_n 0, 1) :: (79, .getfield 50, 3) :: (82, .aload_n 0, 1) :: (83, .getfield 54, 3) :: (86, .iload_n 1, 1) :: (87, .iload 7, 2) :: (89, .iconst 1, 1) :: (90, .invokevirtual 140, 3) :: (93, .ifCond .ne 6, 3) :: (96, .goto 132, 3) :: (99, .aload_n 0, 1) :: (100, .iconst 1, 1) :: (101, .iload 6, 2) :: (103, .ishl, 1) :: (104, .aload_n 0, 1) :: (105, .iload 6, 2) :: (107, .iload_n 1, 1) :: (108, .invokevirtual 144, 3) :: (111, .iload_n 2, 1) :: (112, .invokevirtual 148, 3) :: (115, .iload 6, 2) :: (117, .iconst 1, 1) :: (118, .iadd, 1) :: (119, .istore 8, 2) :: (121, .iload 8, 2) :: (123, .aload_n 0, 1) :: (124, .getfield 15, 3) :: (127, .if_icmp .ge 101, 3) :: (130, .aload_n 0, 1) :: (131, .getfield 19, 3) :: (134, .aload_n 0, 1) :: (135, .getfield 11, 3) :: (138, .iload 8, 2) :: (140, .iaload, 1) :: (141, .iaload, 1) :: (142, .aload_n 0, 1) :: (143, .getfield 19, 3) :: (146, .iload 7, 2) :: (148, .iaload, 1) :: (149, .if_icmp .ge 7, 3) :: (152, .iconst 1, 1) :: (153, .goto 4, 3) :: (156, .iconst 0, 1) :: (157, .istore 9, 2) :: (159, .iload 9, 2) :: (161, .ifCond .eq 61, 3) :: (164, .iload 5, 2) :: (166, .iload 8, 2) :: (168, .ishr, 1) :: (169, .iconst 1, 1) :: (170, .iand, 1) :: (171, .ifCond .eq 51, 3) :: (174, .aload_n 3, 1) :: (175, .iload 7, 2) :: (177, .iaload, 1) :: (178, .aload_n 3, 1) :: (179, .aload_n 0, 1) :: (180, .getfield 11, 3) :: (183, .iload 8, 2) :: (185, .iaload, 1) :: (186, .iaload, 1) :: (187, .iadd, 1) :: (188, .iload 4, 2) :: (190, .if_icmp .gt 32, 3) :: (193, .aload_n 0, 1) :: (194, .iconst 1, 1) :: (195, .iload 6, 2) :: (197, .ishl, 1) :: (198, .iconst 1, 1) :: (199, .iload 8, 2) :: (201, .ishl, 1) :: (202, .ior, 1) :: (203, .aload_n 0, 1) :: (204, .iload 6, 2) :: (206, .iload_n 1, 1) :: (207, .invokevirtual 144, 3) :: (210, .aload_n 0, 1) :: (211, .iload 8, 2) :: (213, .iload_n 1, 1) :: (214, .invokevirtual 144, 3) :: (217, .ladd, 1) :: (218, .iload_n 2, 1) :: (219, .invokevirtual 148, 3) :: (222, .iinc 8 1, 3) :: (225, .goto (-104), 3) :: (228, .iinc 6 1, 3) :: (231, .goto (-180), 3) :: (234, .return_, 1) :: [])
set_option maxRecDepth 100000 in
def mX0_foreLets : zMeth := (yX0_foreLets, cX0_foreLets, 4, (some .int), 0, (0, .iconst 0, 1) :: (1, .istore_n 2, 1) :: (2, .iconst 1, 1) :: (3, .istore_n 3, 1) :: (4, .iload_n 3, 1) :: (5, .aload_n 0, 1) :: (6, .getfield 15, 3) :: (9, .if_icmp .ge 37, 3) :: (12, .aload_n 0, 1) :: (13, .getfield 50, 3) :: (16, .aload_n 0, 1) :: (17, .getfield 54, 3) :: (20, .iload_n 1, 1) :: (21, .aload_n 0, 1) :: (22, .getfield 11, 3) :: (25, .iload_n 3, 1) :: (26, .iaload, 1) :: (27, .iconst 0, 1) :: (28, .invokevirtual 140, 3) :: (31, .ifCond .eq 9, 3) :: (34, .iload_n 2, 1) :: (35, .iconst 1, 1) :: (36, .iload_n 3, 1) :: (37, .ishl, 1) :: (38, .ior, 1) :: (39, .istore_n 2, 1) :: (40, .iinc 3 1, 3) :: (43, .goto (-39), 3) :: (46, .iload_n 2, 1) :: (47, .ireturn, 1) :: [])
set_option maxRecDepth 100000 in
def mX0_weight : zMeth := (yX0_weight, cX0_weight, 3, (some .long), 0, (0, .iconst 4, 1) :: (1, .aload_n 0, 1) :: (2, .getfield 50, 3) :: (5, .getfield 82, 3) :: (8, .aload_n 0, 1) :: (9, .getfield 50, 3) :: (12, .getfield 82, 3) :: (15, .getfield 88, 3) :: (18, .iload_n 2, 1) :: (19, .invokevirtual 152, 3) :: (22, .imul, 1) :: (23, .i2l, 1) :: (24, .ldc2_w 118, 3) :: (27, .lmul, 1) :: (28, .iload_n 2, 1) :: (29, .i2l, 1) :: (30, .getstatic 109, 3) :: (33, .iload_n 1, 1) :: (34, .laload, 1) :: (35, .lmul, 1) :: (36, .ladd, 1) :: (37, .lreturn, 1) :: [])
set_option maxRecDepth 100000 in
def mX0_joinTo : zMeth := (yX0_joinTo, cX0_joinTo, 9, none, 0, (0, .iload 4, 2) :: (2, .iload_n 1, 1) :: (3, .iconst (-1), 1) :: (4, .ixor, 1) :: (5, .iand, 1) :: (6, .istore 5, 2) :: (8, .iload 5, 2) :: (10, .istore 6, 2) :: (12, .iload 6, 2) :: (14, .ifCond .lt 53, 3) :: (17, .iload 6, 2) :: (19, .iload 5, 2) :: (21, .iand, 1) :: (22, .istore 6, 2) :: (24, .aload_n 0, 1) :: (25, .getfield 29, 3) :: (28, .iload 6, 2) :: (30, .laload, 1) :: (31, .lload_n 2, 1) :: (32, .ladd, 1) :: (33, .lstore 7, 2) :: (35, .lload 7, 2) :: (37, .aload_n 0, 1) :: (38, .getfield 25, 3) :: (41, .iload 6, 2) :: (43, .iload_n 1, 1) :: (44, .ior, 1) :: (45, .laload, 1) :: (46, .lcmp, 1) :: (47, .ifCond .ge 14, 3) :: (50, .aload_n 0, 1) :: (51, .getfield 25, 3) :: (54, .iload 6, 2) :: (56, .iload_n 1, 1) :: (57, .ior, 1) :: (58, .lload 7, 2) :: (60, .lastore, 1) :: (61, .iinc 6 (-1), 3) :: (64, .goto (-52), 3) :: (67, .return_, 1) :: [])
set_option maxRecDepth 100000 in
def mX0_mostSeated : zMeth := (yX0_mostSeated, cX0_mostSeated, 4, (some .int), 0, (0, .aload_n 0, 1) :: (1, .getfield 38, 3) :: (4, .iconst (-1), 1) :: (5, .invokestatic 62, 3) :: (8, .aload_n 0, 1) :: (9, .getfield 35, 3) :: (12, .iconst (-1), 1) :: (13, .invokestatic 62, 3) :: (16, .aload_n 0, 1) :: (17, .iconst 0, 1) :: (18, .putfield 44, 3) :: (21, .aload_n 0, 1) :: (22, .iload_n 1, 1) :: (23, .putfield 47, 3) :: (26, .iconst 0, 1) :: (27, .istore_n 2, 1) :: (28, .iconst 0, 1) :: (29, .istore_n 3, 1) :: (30, .iload_n 3, 1) :: (31, .bipush 12, 2) :: (33, .if_icmp .ge 45, 3) :: (36, .iload_n 1, 1) :: (37, .iload_n 3, 1) :: (38, .ishr, 1) :: (39, .iconst 1, 1) :: (40, .iand, 1) :: (41, .ifCond .eq 31, 3) :: (44, .aload_n 0, 1) :: (45, .getfield 32, 3) :: (48, .iload_n 3, 1) :: (49, .aload_n 0, 1) :: (50, .iload_n 3, 1) :: (51, .invokevirtual 156, 3) :: (54, .iastore, 1) :: (55, .aload_n 0, 1) :: (56, .iconst 0, 1) :: (57, .putfield 41, 3) :: (60, .aload_n 0, 1) :: (61, .iload_n 3, 1) :: (62, .iconst 0, 1) :: (63, .invokevirtual 159, 3) :: (66, .ifCond .eq 6, 3) :: (69, .iinc 2 1, 3) :: (72, .iinc 3 1, 3) :: (75, .goto (-45), 3) :: (78, .aload_n 0, 1) :: (79, .getfield 58, 3) :: (82, .invokevirtual 104, 3) :: (85, .iconst 0, 1) :: (86, .istore_n 3, 1) :: (87, .iload_n 3, 1) :: (88, .bipush 12, 2) :: (90, .if_icmp .ge 49, 3) :: (93, .iload_n 1, 1) :: (94, .iload_n 3, 1) :: (95, .ishr, 1) :: (96, .iconst 1, 1) :: (97, .iand, 1) :: (98, .ifCond .eq 35, 3) :: (101, .aload_n 0, 1) :: (102, .dup, 1) :: (103, .getfield 47, 3) :: (106, .iconst 1, 1) :: (107, .iload_n 3, 1) :: (108, .ishl, 1) :: (109, .iconst (-1), 1) :: (110, .ixor, 1) :: (111, .iand, 1) :: (112, .putfield 47, 3) :: (115, .aload_n 0, 1) :: (116, .iload_n 3, 1) :: (117, .invokevirtual 163, 3) :: (120, .aload_n 0, 1) :: (121, .getfield 58, 3) :: (124, .aload_n 0, 1) :: (125, .getfield 35, 3) :: (128, .iload_n 3, 1) :: (129, .iaload, 1) :: (130, .invokevirtual 114, 3) :: (133, .iinc 3 1, 3) :: (136, .goto (-49), 3) :: (139, .iload_n 2, 1) :: (140, .ireturn, 1) :: [])
set_option maxRecDepth 100000 in
def mX0_stallsFor : zMeth := (yX0_stallsFor, cX0_stallsFor, 4, (some .int), 0, (0, .iconst 0, 1) :: (1, .istore_n 2, 1) :: (2, .iconst 0, 1) :: (3, .istore_n 3, 1) :: (4, .iload_n 3, 1) :: (5, .aload_n 0, 1) :: (6, .getfield 50, 3) :: (9, .getfield 82, 3) :: (12, .getfield 88, 3) :: (15, .if_icmp .ge 31, 3) :: (18, .aload_n 0, 1) :: (19, .getfield 50, 3) :: (22, .aload_n 0, 1) :: (23, .getfield 54, 3) :: (26, .iload_n 3, 1) :: (27, .iload_n 1, 1) :: (28, .invokevirtual 166, 3) :: (31, .ifCond .eq 9, 3) :: (34, .iload_n 2, 1) :: (35, .iconst 1, 1) :: (36, .iload_n 3, 1) :: (37, .ishl, 1) :: (38, .ior, 1) :: (39, .istore_n 2, 1) :: (40, .iinc 3 1, 3) :: (43, .goto (-39), 3) :: (46, .iload_n 2, 1) :: (47, .ireturn, 1) :: [])
set_option maxRecDepth 100000 in
def mX0_canSeat : zMeth := (yX0_canSeat, cX0_canSeat, 7, (some .boolean), 0, (0, .iload_n 2, 1) :: (1, .bipush 12, 2) :: (3, .if_icmp .le 5, 3) :: (6, .iconst 0, 1) :: (7, .ireturn, 1) :: (8, .iconst 0, 1) :: (9, .istore_n 3, 1) :: (10, .iload_n 3, 1) :: (11, .bipush 23, 2) :: (13, .if_icmp .ge 103, 3) :: (16, .aload_n 0, 1) :: (17, .getfield 32, 3) :: (20, .iload_n 1, 1) :: (21, .iaload, 1) :: (22, .aload_n 0, 1) :: (23, .getfield 41, 3) :: (26, .iconst (-1), 1) :: (27, .ixor, 1) :: (28, .iand, 1) :: (29, .aload_n 0, 1) :: (30, .getfield 44, 3) :: (33, .iconst (-1), 1) :: (34, .ixor, 1) :: (35, .iand, 1) :: (36, .istore 4, 2) :: (38, .iload 4, 2) :: (40, .ifCond .ne 5, 3) :: (43, .iconst 0, 1) :: (44, .ireturn, 1) :: (45, .iload 4, 2) :: (47, .invokestatic 170, 3) :: (50, .istore 5, 2) :: (52, .aload_n 0, 1) :: (53, .dup, 1) :: (54, .getfield 41, 3) :: (57, .iconst 1, 1) :: (58, .iload 5, 2) :: (60, .ishl, 1) :: (61, .ior, 1) :: (62, .putfield 41, 3) :: (65, .aload_n 0, 1) :: (66, .getfield 38, 3) :: (69, .iload 5, 2) :: (71, .iaload, 1) :: (72, .istore 6, 2) :: (74, .iload 6, 2) :: (76, .iconst (-1), 1) :: (77, .if_icmp .eq 15, 3) :: (80, .aload_n 0, 1) :: (81, .iload 6, 2) :: (83, .iload_n 2, 1) :: (84, .iconst 1, 1) :: (85, .iadd, 1) :: (86, .invokevirtual 159, 3) :: (89, .ifCond .eq 21, 3) :: (92, .aload_n 0, 1) :: (93, .getfield 38, 3) :: (96, .iload 5, 2) :: (98, .iload_n 1, 1) :: (99, .iastore, 1) :: (100, .aload_n 0, 1) :: (101, .getfield 35, 3) :: (104, .iload_n 1, 1) :: (105, .iload 5, 2) :: (107, .iastore, 1) :: (108, .iconst 1, 1) :: (109, .ireturn, 1) :: (110, .iinc 3 1, 3) :: (113, .goto (-103), 3) :: (116, .iconst 0, 1) :: (117, .ireturn, 1) :: [])
set_option maxRecDepth 100000 in
def mX0_canSeatAnother : zMeth := (yX0_canSeatAnother, cX0_canSeatAnother, 2, (some .boolean), 0, (0, .aload_n 0, 1) :: (1, .iconst 0, 1) :: (2, .putfield 41, 3) :: (5, .iconst 0, 1) :: (6, .istore_n 1, 1) :: (7, .iload_n 1, 1) :: (8, .bipush 12, 2) :: (10, .if_icmp .ge 41, 3) :: (13, .aload_n 0, 1) :: (14, .getfield 47, 3) :: (17, .iload_n 1, 1) :: (18, .ishr, 1) :: (19, .iconst 1, 1) :: (20, .iand, 1) :: (21, .ifCond .eq 24, 3) :: (24, .aload_n 0, 1) :: (25, .getfield 35, 3) :: (28, .iload_n 1, 1) :: (29, .iaload, 1) :: (30, .iconst (-1), 1) :: (31, .if_icmp .ne 14, 3) :: (34, .aload_n 0, 1) :: (35, .iload_n 1, 1) :: (36, .iconst 0, 1) :: (37, .invokevirtual 159, 3) :: (40, .ifCond .eq 5, 3) :: (43, .iconst 1, 1) :: (44, .ireturn, 1) :: (45, .iinc 1 1, 3) :: (48, .goto (-41), 3) :: (51, .iconst 0, 1) :: (52, .ireturn, 1) :: [])
set_option maxRecDepth 100000 in
def mX0_fixLeast : zMeth := (yX0_fixLeast, cX0_fixLeast, 6, none, 0, (0, .aload_n 0, 1) :: (1, .getfield 35, 3) :: (4, .iload_n 1, 1) :: (5, .iaload, 1) :: (6, .istore_n 2, 1) :: (7, .iload_n 2, 1) :: (8, .iconst (-1), 1) :: (9, .if_icmp .ne 4, 3) :: (12, .return_, 1) :: (13, .aload_n 0, 1) :: (14, .getfield 38, 3) :: (17, .iload_n 2, 1) :: (18, .iconst (-1), 1) :: (19, .iastore, 1) :: (20, .aload_n 0, 1) :: (21, .getfield 35, 3) :: (24, .iload_n 1, 1) :: (25, .iconst (-1), 1) :: (26, .iastore, 1) :: (27, .aload_n 0, 1) :: (28, .invokevirtual 175, 3) :: (31, .ifCond .eq 4, 3) :: (34, .return_, 1) :: (35, .iconst 0, 1) :: (36, .istore_n 3, 1) :: (37, .iload_n 3, 1) :: (38, .iload_n 2, 1) :: (39, .if_icmp .gt 118, 3) :: (42, .iconst 1, 1) :: (43, .iload_n 3, 1) :: (44, .ishl, 1) :: (45, .istore 4, 2) :: (47, .aload_n 0, 1) :: (48, .getfield 32, 3) :: (51, .iload_n 1, 1) :: (52, .iaload, 1) :: (53, .aload_n 0, 1) :: (54, .getfield 44, 3) :: (57, .iconst (-1), 1) :: (58, .ixor, 1) :: (59, .iand, 1) :: (60, .iload 4, 2) :: (62, .iand, 1) :: (63, .ifCond .ne 6, 3) :: (66, .goto 85, 3) :: (69, .aload_n 0, 1) :: (70, .getfield 38, 3) :: (73, .iload_n 3, 1) :: (74, .iaload, 1) :: (75, .istore 5, 2) :: (77, .aload_n 0, 1) :: (78, .dup, 1) :: (79, .getfield 44, 3) :: (82, .iload 4, 2) :: (84, .ior, 1) :: (85, .putfield 44, 3) :: (88, .iload 5, 2) :: (90, .iconst (-1), 1) :: (91, .if_icmp .eq 11, 3) :: (94, .aload_n 0, 1) :: (95, .getfield 35, 3) :: (98, .iload 5, 2) :: (100, .iconst (-1), 1) :: (101, .iastore, 1) :: (102, .iload 5, 2) :: (104, .iconst (-1), 1) :: (105, .if_icmp .eq 10, 3) :: (108, .aload_n 0, 1) :: (109, .invokevirtual 175, 3) :: (112, .ifCond .eq 18, 3) :: (115, .aload_n 0, 1) :: (116, .getfield 38, 3) :: (119, .iload_n 3, 1) :: (120, .iload_n 1, 1) :: (121, .iastore, 1) :: (122, .aload_n 0, 1) :: (123, .getfield 35, 3) :: (126, .iload_n 1, 1) :: (127, .iload_n 3, 1) :: (128, .iastore, 1) :: (129, .return_, 1) :: (130, .aload_n 0, 1) :: (131, .getfield 35, 3) :: (134, .iload 5, 2) :: (136, .iload_n 3, 1) :: (137, .iastore, 1) :: (138, .aload_n 0, 1) :: (139, .dup, 1) :: (140, .getfield 44, 3) :: (143, .iload 4, 2) :: (145, .iconst (-1), 1) :: (146, .ixor, 1) :: (147, .iand, 1) :: (148, .putfield 44, 3) :: (151, .iinc 3 1, 3) :: (154, .goto (-117), 3) :: (157, .return_, 1) :: [])
set_option maxRecDepth 100000 in
def mX1_canCount : zMeth := (yX1_canCount, cX1_canCount, 3, (some .boolean), 1, (0, .iload_n 1, 1) :: (1, .invokestatic 49, 3) :: (4, .istore_n 2, 1) :: (5, .iload_n 2, 1) :: (6, .iconst 1, 1) :: (7, .if_icmp .lt 24, 3) :: (10, .iload_n 2, 1) :: (11, .bipush 7, 2) :: (13, .if_icmp .gt 18, 3) :: (16, .aload_n 0, 1) :: (17, .getfield 41, 3) :: (20, .iload_n 1, 1) :: (21, .invokevirtual 55, 3) :: (24, .ifCond .ne 7, 3) :: (27, .iconst 1, 1) :: (28, .goto 4, 3) :: (31, .iconst 0, 1) :: (32, .ireturn, 1) :: [])
set_option maxRecDepth 100000 in
def mX1_callUp : zMeth := (yX1_callUp, cX1_callUp, 3, none, 1, (0, .aload_n 0, 1) :: (1, .iconst 0, 1) :: (2, .putfield 27, 3) :: (5, .iconst 0, 1) :: (6, .istore_n 2, 1) :: (7, .iload_n 2, 1) :: (8, .aload_n 0, 1) :: (9, .getfield 41, 3) :: (12, .getfield 61, 3) :: (15, .if_icmp .ge 46, 3) :: (18, .aload_n 0, 1) :: (19, .getfield 27, 3) :: (22, .bipush 7, 2) :: (24, .if_icmp .ge 37, 3) :: (27, .iload_n 1, 1) :: (28, .iload_n 2, 1) :: (29, .ishr, 1) :: (30, .iconst 1, 1) :: (31, .iand, 1) :: (32, .ifCond .eq 23, 3) :: (35, .aload_n 0, 1) :: (36, .getfield 24, 3) :: (39, .aload_n 0, 1) :: (40, .getfield 27, 3) :: (43, .iload_n 2, 1) :: (44, .iastore, 1) :: (45, .aload_n 0, 1) :: (46, .dup, 1) :: (47, .getfield 27, 3) :: (50, .iconst 1, 1) :: (51, .iadd, 1) :: (52, .putfield 27, 3) :: (55, .iinc 2 1, 3) :: (58, .goto (-51), 3) :: (61, .aload_n 0, 1) :: (62, .getfield 18, 3) :: (65, .iconst 0, 1) :: (66, .invokestatic 62, 3) :: (69, .aload_n 0, 1) :: (70, .iconst 0, 1) :: (71, .putfield 37, 3) :: (74, .return_, 1) :: [])
set_option maxRecDepth 100000 in
def mX1_canTake : zMeth := (yX1_canTake, cX1_canTake, 3, (some .boolean), 1, (0, .iload_n 1, 1) :: (1, .ifCond .eq 27, 3) :: (4, .aload_n 0, 1) :: (5, .getfield 9, 3) :: (8, .iload_n 2, 1) :: (9, .iaload, 1) :: (10, .aload_n 0, 1) :: (11, .getfield 18, 3) :: (14, .iload_n 2, 1) :: (15, .iaload, 1) :: (16, .isub, 1) :: (17, .iload_n 1, 1) :: (18, .isub, 1) :: (19, .aload_n 0, 1) :: (20, .getfield 15, 3) :: (23, .iload_n 2, 1) :: (24, .iaload, 1) :: (25, .if_icmp .lt 7, 3) :: (28, .iconst 1, 1) :: (29, .goto 4, 3) :: (32, .iconst 0, 1) :: (33, .ireturn, 1) :: [])
set_option maxRecDepth 100000 in
def mX1_share : zMeth := (yX1_share, cX1_share, 5, (some .int), 1, (0, .aload_n 0, 1) :: (1, .iload_n 1, 1) :: (2, .invokevirtual 68, 3) :: (5, .aload_n 0, 1) :: (6, .iconst 0, 1) :: (7, .invokevirtual 72, 3) :: (10, .aload_n 0, 1) :: (11, .getfield 37, 3) :: (14, .ifCond .ne 6, 3) :: (17, .bipush (-2), 2) :: (19, .ireturn, 1) :: (20, .aload_n 0, 1) :: (21, .getfield 45, 3) :: (24, .invokevirtual 75, 3) :: (27, .iconst 0, 1) :: (28, .istore_n 3, 1) :: (29, .iload_n 3, 1) :: (30, .aload_n 0, 1) :: (31, .getfield 27, 3) :: (34, .if_icmp .ge 22, 3) :: (37, .aload_n 0, 1) :: (38, .getfield 45, 3) :: (41, .aload_n 0, 1) :: (42, .getfield 34, 3) :: (45, .iload_n 3, 1) :: (46, .iaload, 1) :: (47, .invokevirtual 80, 3) :: (50, .iinc 3 1, 3) :: (53, .goto (-24), 3) :: (56, .iconst 0, 1) :: (57, .istore_n 3, 1) :: (58, .iconst 0, 1) :: (59, .istore 4, 2) :: (61, .iload 4, 2) :: (63, .iconst 3, 1) :: (64, .if_icmp .ge 62, 3) :: (67, .iload_n 3, 1) :: (68, .aload_n 0, 1) :: (69, .getfield 21, 3) :: (72, .iload 4, 2) :: (74, .iaload, 1) :: (75, .iadd, 1) :: (76, .istore_n 3, 1) :: (77, .aload_n 0, 1) :: (78, .getfield 45, 3) :: (81, .aload_n 0, 1) :: (82, .getfield 9, 3) :: (85, .iload 4, 2) :: (87, .iaload, 1) :: (88, .aload_n 0, 1) :: (89, .getfield 21, 3) :: (92, .iload 4, 2) :: (94, .iaload, 1) :: (95, .isub, 1) :: (96, .invokevirtual 80, 3) :: (99, .iload_n 2, 1) :: (100, .ifCond .eq 20, 3) :: (103, .aload_n 0, 1) :: (104, .getfield 9, 3) :: (107, .iload 4, 2) :: (109, .dup2, 1) :: (110, .iaload, 1) :: (111, .aload_n 0, 1) :: (112, .getfield 21, 3) :: (115, .iload 4, 2) :: (117, .iaload, 1) :: (118, .isub, 1) :: (119, .iastore, 1) :: (120, .iinc 4 1, 3) :: (123, .goto (-62), 3) :: (126, .iload_n 3, 1) :: (127, .ireturn, 1) :: [])
set_option maxRecDepth 100000 in
def mX1_tryGrades : zMeth := (yX1_tryGrades, cX1_tryGrades, 4, none, 1, (0, .aload_n 0, 1) :: (1, .getfield 37, 3) :: (4, .ifCond .eq 11, 3) :: (7, .aload_n 0, 1) :: (8, .invokevirtual 83, 3) :: (11, .ifCond .ne 4, 3) :: (14, .return_, 1) :: (15, .iload_n 1, 1) :: (16, .aload_n 0, 1) :: (17, .getfield 27, 3) :: (20, .if_icmp .lt 40, 3) :: (23, .aload_n 0, 1) :: (24, .iconst 1, 1) :: (25, .putfield 37, 3) :: (28, .aload_n 0, 1) :: (29, .getfield 31, 3) :: (32, .iconst 0, 1) :: (33, .aload_n 0, 1) :: (34, .getfield 34, 3) :: (37, .iconst 0, 1) :: (38, .aload_n 0, 1) :: (39, .getfield 27, 3) :: (42, .invokestatic 87, 3) :: (45, .aload_n 0, 1) :: (46, .getfield 18, 3) :: (49, .iconst 0, 1) :: (50, .aload_n 0, 1) :: (51, .getfield 21, 3) :: (54, .iconst 0, 1) :: (55, .iconst 3, 1) :: (56, .invokestatic 87, 3) :: (59, .return_, 1) :: (60, .aload_n 0, 1) :: (61, .getfield 41, 3) :: (64, .getfield 93, 3) :: (67, .aload_n 0, 1) :: (68, .getfield 24, 3) :: (71, .iload_n 1, 1) :: (72, .iaload, 1) :: (73, .iaload, 1) :: (74, .istore_n 2, 1) :: (75, .aload_n 0, 1) :: (76, .getfield 41, 3) :: (79, .getfield 96, 3) :: (82, .aload_n 0, 1) :: (83, .getfield 24, 3) :: (86, .iload_n 1, 1) :: (87, .iaload, 1) :: (88, .iaload, 1) :: (89, .istore_n 3, 1) :: (90, .iload_n 3, 1) :: (91, .iconst 3, 1) :: (92, .if_icmp .ge 52, 3) :: (95, .aload_n 0, 1) :: (96, .iload_n 2, 1) :: (97, .iload_n 3, 1) :: (98, .invokevirtual 99, 3) :: (101, .ifCond .eq 37, 3) :: (104, .aload_n 0, 1) :: (105, .getfield 18, 3) :: (108, .iload_n 3, 1) :: (109, .dup2, 1) :: (110, .iaload, 1) :: (111, .iload_n 2, 1) :: (112, .iadd, 1) :: (113, .iastore, 1) :: (114, .aload_n 0, 1) :: (115, .getfield 31, 3) :: (118, .iload_n 1, 1) :: (119, .iload_n 3, 1) :: (120, .iastore, 1) :: (121, .aload_n 0, 1) :: (122, .iload_n 1, 1) :: (123, .iconst 1, 1) :: (124, .iadd, 1) :: (125, .invokevirtual 72, 3) :: (128, .aload_n 0, 1) :: (129, .getfield 18, 3) :: (132, .iload_n 3, 1) :: (133, .dup2, 1) :: (134, .iaload, 1) :: (135, .iload_n 2, 1) :: (136, .isub, 1) :: (137, .iastore, 1) :: (138, .iinc 3 1, 3) :: (141, .goto (-51), 3) :: (144, .return_, 1) :: [])
set_option maxRecDepth 100000 in
def mX1_isBetter : zMeth := (yX1_isBetter, cX1_isBetter, 1, (some .boolean), 1, (0, .aload_n 0, 1) :: (1, .getfield 18, 3) :: (4, .iconst 2, 1) :: (5, .iaload, 1) :: (6, .aload_n 0, 1) :: (7, .getfield 21, 3) :: (10, .iconst 2, 1) :: (11, .iaload, 1) :: (12, .if_icmp .lt 33, 3) :: (15, .aload_n 0, 1) :: (16, .getfield 18, 3) :: (19, .iconst 2, 1) :: (20, .iaload, 1) :: (21, .aload_n 0, 1) :: (22, .getfield 21, 3) :: (25, .iconst 2, 1) :: (26, .iaload, 1) :: (27, .if_icmp .ne 22, 3) :: (30, .aload_n 0, 1) :: (31, .getfield 18, 3) :: (34, .iconst 1, 1) :: (35, .iaload, 1) :: (36, .aload_n 0, 1) :: (37, .getfield 21, 3) :: (40, .iconst 1, 1) :: (41, .iaload, 1) :: (42, .if_icmp .ge 7, 3) :: (45, .iconst 1, 1) :: (46, .goto 4, 3) :: (49, .iconst 0, 1) :: (50, .ireturn, 1) :: [])
set_option maxRecDepth 100000 in
def mX1_mostTogether : zMeth := (yX1_mostTogether, cX1_mostTogether, 6, (some .int), 1, (0, .aload_n 0, 1) :: (1, .iload_n 1, 1) :: (2, .invokevirtual 68, 3) :: (5, .iconst 1, 1) :: (6, .aload_n 0, 1) :: (7, .getfield 27, 3) :: (10, .ishl, 1) :: (11, .iconst 1, 1) :: (12, .isub, 1) :: (13, .istore_n 2, 1) :: (14, .iconst 0, 1) :: (15, .istore_n 3, 1) :: (16, .iconst 1, 1) :: (17, .istore 4, 2) :: (19, .iload 4, 2) :: (21, .iload_n 2, 1) :: (22, .if_icmp .gt 34, 3) :: (25, .iload 4, 2) :: (27, .invokestatic 49, 3) :: (30, .iload_n 3, 1) :: (31, .invokestatic 49, 3) :: (34, .if_icmp .le 16, 3) :: (37, .aload_n 0, 1) :: (38, .iload 4, 2) :: (40, .iconst 0, 1) :: (41, .invokevirtual 103, 3) :: (44, .ifCond .eq 6, 3) :: (47, .iload 4, 2) :: (49, .istore_n 3, 1) :: (50, .iinc 4 1, 3) :: (53, .goto (-34), 3) :: (56, .iconst 0, 1) :: (57, .istore 4, 2) :: (59, .iconst 0, 1) :: (60, .istore 5, 2) :: (62, .iload 5, 2) :: (64, .aload_n 0, 1) :: (65, .getfield 27, 3) :: (68, .if_icmp .ge 32, 3) :: (71, .iload_n 3, 1) :: (72, .iload 5, 2) :: (74, .ishr, 1) :: (75, .iconst 1, 1) :: (76, .iand, 1) :: (77, .ifCond .eq 17, 3) :: (80, .iload 4, 2) :: (82, .iconst 1, 1) :: (83, .aload_n 0, 1) :: (84, .getfield 24, 3) :: (87, .iload 5, 2) :: (89, .iaload, 1) :: (90, .ishl, 1) :: (91, .ior, 1) :: (92, .istore 4, 2) :: (94, .iinc 5 1, 3) :: (97, .goto (-35), 3) :: (100, .aload_n 0, 1) :: (101, .getfield 45, 3) :: (104, .iload 4, 2) :: (106, .invokevirtual 106, 3) :: (109, .iload_n 3, 1) :: (110, .invokestatic 49, 3) :: (113, .ireturn, 1) :: [])
set_option maxRecDepth 100000 in
def mX1_canCoal : zMeth := (yX1_canCoal, cX1_canCoal, 6, (some .boolean), 1, (0, .iload_n 1, 1) :: (1, .iload_n 2, 1) :: (2, .ishr, 1) :: (3, .ifCond .eq 11, 3) :: (6, .iload_n 2, 1) :: (7, .aload_n 0, 1) :: (8, .getfield 27, 3) :: (11, .if_icmp .lt 5, 3) :: (14, .iconst 1, 1) :: (15, .ireturn, 1) :: (16, .iload_n 1, 1) :: (17, .iload_n 2, 1) :: (18, .ishr, 1) :: (19, .iconst 1, 1) :: (20, .iand, 1) :: (21, .ifCond .ne 12, 3) :: (24, .aload_n 0, 1) :: (25, .iload_n 1, 1) :: (26, .iload_n 2, 1) :: (27, .iconst 1, 1) :: (28, .iadd, 1) :: (29, .invokevirtual 103, 3) :: (32, .ireturn, 1) :: (33, .aload_n 0, 1) :: (34, .getfield 41, 3) :: (37, .getfield 93, 3) :: (40, .aload_n 0, 1) :: (41, .getfield 24, 3) :: (44, .iload_n 2, 1) :: (45, .iaload, 1) :: (46, .iaload, 1) :: (47, .istore_n 3, 1) :: (48, .aload_n 0, 1) :: (49, .getfield 41, 3) :: (52, .getfield 96, 3) :: (55, .aload_n 0, 1) :: (56, .getfield 24, 3) :: (59, .iload_n 2, 1) :: (60, .iaload, 1) :: (61, .iaload, 1) :: (62, .istore 4, 2) :: (64, .iload 4, 2) :: (66, .iconst 3, 1) :: (67, .if_icmp .ge 58, 3) :: (70, .aload_n 0, 1) :: (71, .iload_n 3, 1) :: (72, .iload 4, 2) :: (74, .invokevirtual 99, 3) :: (77, .ifCond .eq 42, 3) :: (80, .aload_n 0, 1) :: (81, .getfield 18, 3) :: (84, .iload 4, 2) :: (86, .dup2, 1) :: (87, .iaload, 1) :: (88, .iload_n 3, 1) :: (89, .iadd, 1) :: (90, .iastore, 1) :: (91, .aload_n 0, 1) :: (92, .iload_n 1, 1) :: (93, .iload_n 2, 1) :: (94, .iconst 1, 1) :: (95, .iadd, 1) :: (96, .invokevirtual 103, 3) :: (99, .istore 5, 2) :: (101, .aload_n 0, 1) :: (102, .getfield 18, 3) :: (105, .iload 4, 2) :: (107, .dup2, 1) :: (108, .iaload, 1) :: (109, .iload_n 3, 1) :: (110, .isub, 1) :: (111, .iastore, 1) :: (112, .iload 5, 2) :: (114, .ifCond .eq 5, 3) :: (117, .iconst 1, 1) :: (118, .ireturn, 1) :: (119, .iinc 4 1, 3) :: (122, .goto (-58), 3) :: (125, .iconst 0, 1) :: (126, .ireturn, 1) :: [])
set_option maxRecDepth 100000 in
def mX2_goThrough : zMeth := (yX2_goThrough, cX2_goThrough, 5, (some .int), 2, (0, .aload_n 0, 1) :: (1, .getfield 12, 3) :: (4, .aload_n 0, 1) :: (5, .getfield 43, 3) :: (8, .invokevirtual 50, 3) :: (11, .aload_n 0, 1) :: (12, .invokevirtual 54, 3) :: (15, .aload_n 0, 1) :: (16, .aload_n 0, 1) :: (17, .getfield 43, 3) :: (20, .getfield 57, 3) :: (23, .putfield 31, 3) :: (26, .iconst 0, 1) :: (27, .istore_n 1, 1) :: (28, .iconst 0, 1) :: (29, .istore_n 2, 1) :: (30, .iload_n 2, 1) :: (31, .aload_n 0, 1) :: (32, .getfield 39, 3) :: (35, .getfield 60, 3) :: (38, .if_icmp .ge 123, 3) :: (41, .aload_n 0, 1) :: (42, .getfield 39, 3) :: (45, .getfield 65, 3) :: (48, .iload_n 2, 1) :: (49, .iaload, 1) :: (50, .istore_n 3, 1) :: (51, .aload_n 0, 1) :: (52, .getfield 39, 3) :: (55, .getfield 68, 3) :: (58, .iload_n 3, 1) :: (59, .iaload, 1) :: (60, .istore 4, 2) :: (62, .iload 4, 2) :: (64, .iconst (-1), 1) :: (65, .if_icmp .ne 14, 3) :: (68, .aload_n 0, 1) :: (69, .getfield 18, 3) :: (72, .iload_n 3, 1) :: (73, .bipush (-2), 2) :: (75, .iastore, 1) :: (76, .goto 66, 3) :: (79, .aload_n 0, 1) :: (80, .getfield 12, 3) :: (83, .iload 4, 2) :: (85, .invokevirtual 71, 3) :: (88, .ifCond .eq 13, 3) :: (91, .aload_n 0, 1) :: (92, .getfield 18, 3) :: (95, .iload_n 3, 1) :: (96, .iconst (-1), 1) :: (97, .iastore, 1) :: (98, .goto 44, 3) :: (101, .aload_n 0, 1) :: (102, .getfield 12, 3) :: (105, .iload 4, 2) :: (107, .invokevirtual 75, 3) :: (110, .ifCond .eq 19, 3) :: (113, .aload_n 0, 1) :: (114, .getfield 18, 3) :: (117, .iload_n 3, 1) :: (118, .aload_n 0, 1) :: (119, .iload_n 3, 1) :: (120, .iload 4, 2) :: (122, .invokevirtual 78, 3) :: (125, .iastore, 1) :: (126, .goto 16, 3) :: (129, .aload_n 0, 1) :: (130, .getfield 18, 3) :: (133, .iload_n 3, 1) :: (134, .aload_n 0, 1) :: (135, .iload_n 3, 1) :: (136, .iload 4, 2) :: (138, .invokevirtual 82, 3) :: (141, .iastore, 1) :: (142, .iload_n 1, 1) :: (143, .iconst 0, 1) :: (144, .aload_n 0, 1) :: (145, .getfield 18, 3) :: (148, .iload_n 3, 1) :: (149, .iaload, 1) :: (150, .invokestatic 85, 3) :: (153, .iadd, 1) :: (154, .istore_n 1, 1) :: (155, .iinc 2 1, 3) :: (158, .goto (-128), 3) :: (161, .iload_n 1, 1) :: (162, .ireturn, 1) :: [])
set_option maxRecDepth 100000 in
def mX2_lightAll : zMeth := (yX2_lightAll, cX2_lightAll, 3, none, 2, (0, .iconst 0, 1) :: (1, .istore_n 1, 1) :: (2, .iload_n 1, 1) :: (3, .aload_n 0, 1) :: (4, .getfield 39, 3) :: (7, .getfield 60, 3) :: (10, .if_icmp .ge 41, 3) :: (13, .aload_n 0, 1) :: (14, .getfield 39, 3) :: (17, .getfield 68, 3) :: (20, .iload_n 1, 1) :: (21, .iaload, 1) :: (22, .istore_n 2, 1) :: (23, .iload_n 2, 1) :: (24, .iconst (-1), 1) :: (25, .if_icmp .eq 20, 3) :: (28, .aload_n 0, 1) :: (29, .iload_n 2, 1) :: (30, .invokevirtual 90, 3) :: (33, .aload_n 0, 1) :: (34, .aload_n 0, 1) :: (35, .getfield 12, 3) :: (38, .iload_n 2, 1) :: (39, .invokevirtual 94, 3) :: (42, .invokevirtual 90, 3) :: (45, .iinc 1 1, 3) :: (48, .goto (-46), 3) :: (51, .return_, 1) :: [])
set_option maxRecDepth 100000 in
def mX2_lightOne : zMeth := (yX2_lightOne, cX2_lightOne, 2, none, 2, (0, .iload_n 1, 1) :: (1, .iconst (-1), 1) :: (2, .if_icmp .eq 32, 3) :: (5, .aload_n 0, 1) :: (6, .getfield 12, 3) :: (9, .getfield 98, 3) :: (12, .iload_n 1, 1) :: (13, .iaload, 1) :: (14, .iconst (-1), 1) :: (15, .if_icmp .ne 19, 3) :: (18, .aload_n 0, 1) :: (19, .getfield 12, 3) :: (22, .getfield 98, 3) :: (25, .iload_n 1, 1) :: (26, .aload_n 0, 1) :: (27, .getfield 12, 3) :: (30, .getfield 57, 3) :: (33, .iastore, 1) :: (34, .return_, 1) :: [])
set_option maxRecDepth 100000 in
def mX2_waitOnRoad : zMeth := (yX2_waitOnRoad, cX2_waitOnRoad, 5, (some .int), 2, (0, .aload_n 0, 1) :: (1, .getfield 43, 3) :: (4, .getfield 57, 3) :: (7, .aload_n 0, 1) :: (8, .getfield 35, 3) :: (11, .aload_n 0, 1) :: (12, .getfield 12, 3) :: (15, .iload_n 2, 1) :: (16, .invokevirtual 101, 3) :: (19, .invokestatic 85, 3) :: (22, .istore_n 3, 1) :: (23, .iconst 0, 1) :: (24, .iload_n 3, 1) :: (25, .aload_n 0, 1) :: (26, .getfield 39, 3) :: (29, .getfield 107, 3) :: (32, .iload_n 1, 1) :: (33, .iaload, 1) :: (34, .isub, 1) :: (35, .invokestatic 85, 3) :: (38, .istore 4, 2) :: (40, .aload_n 0, 1) :: (41, .getfield 22, 3) :: (44, .iload_n 1, 1) :: (45, .iconst 0, 1) :: (46, .iastore, 1) :: (47, .aload_n 0, 1) :: (48, .getfield 25, 3) :: (51, .iload_n 1, 1) :: (52, .iload 4, 2) :: (54, .iastore, 1) :: (55, .aload_n 0, 1) :: (56, .getfield 28, 3) :: (59, .iload_n 1, 1) :: (60, .iconst 0, 1) :: (61, .iastore, 1) :: (62, .iload 4, 2) :: (64, .ireturn, 1) :: [])
set_option maxRecDepth 100000 in
def mX2_comeFromStall : zMeth := (yX2_comeFromStall, cX2_comeFromStall, 6, (some .int), 2, (0, .aload_n 0, 1) :: (1, .getfield 12, 3) :: (4, .iload_n 2, 1) :: (5, .invokevirtual 94, 3) :: (8, .istore_n 3, 1) :: (9, .aload_n 0, 1) :: (10, .getfield 43, 3) :: (13, .getfield 57, 3) :: (16, .aload_n 0, 1) :: (17, .getfield 35, 3) :: (20, .aload_n 0, 1) :: (21, .getfield 12, 3) :: (24, .iload_n 2, 1) :: (25, .invokevirtual 101, 3) :: (28, .invokestatic 85, 3) :: (31, .istore 4, 2) :: (33, .iload_n 3, 1) :: (34, .iconst (-1), 1) :: (35, .if_icmp .eq 22, 3) :: (38, .iload 4, 2) :: (40, .aload_n 0, 1) :: (41, .getfield 35, 3) :: (44, .aload_n 0, 1) :: (45, .getfield 12, 3) :: (48, .iload_n 3, 1) :: (49, .invokevirtual 101, 3) :: (52, .invokestatic 85, 3) :: (55, .istore 4, 2) :: (57, .aload_n 0, 1) :: (58, .getfield 12, 3) :: (61, .aload_n 0, 1) :: (62, .getfield 31, 3) :: (65, .iload 4, 2) :: (67, .invokestatic 85, 3) :: (70, .putfield 57, 3) :: (73, .aload_n 0, 1) :: (74, .getfield 35, 3) :: (77, .aload_n 0, 1) :: (78, .getfield 12, 3) :: (81, .iload_n 2, 1) :: (82, .invokevirtual 110, 3) :: (85, .ifCond .ge 5, 3) :: (88, .iconst (-1), 1) :: (89, .ireturn, 1) :: (90, .aload_n 0, 1) :: (91, .getfield 39, 3) :: (94, .getfield 107, 3) :: (97, .iload_n 1, 1) :: (98, .iaload, 1) :: (99, .aload_n 0, 1) :: (100, .getfield 35, 3) :: (103, .getfield 113, 3) :: (106, .isub, 1) :: (107, .istore 5, 2) :: (109, .aload_n 0, 1) :: (110, .getfield 22, 3) :: (113, .iload_n 1, 1) :: (114, .iconst 0, 1) :: (115, .aload_n 0, 1) :: (116, .getfield 31, 3) :: (119, .iload 5, 2) :: (121, .isub, 1) :: (122, .invokestatic 85, 3) :: (125, .iastore, 1) :: (126, .aload_n 0, 1) :: (127, .getfield 25, 3) :: (130, .iload_n 1, 1) :: (131, .iconst 0, 1) :: (132, .iload 4, 2) :: (134, .iload 5, 2) :: (136, .isub, 1) :: (137, .invokestatic 85, 3) :: (140, .iastore, 1) :: (141, .aload_n 0, 1) :: (142, .getfield 28, 3) :: (145, .iload_n 1, 1) :: (146, .aload_n 0, 1) :: (147, .getfield 35, 3) :: (150, .getfield 116, 3) :: (153, .iastore, 1) :: (154, .aload_n 0, 1) :: (155, .getfield 35, 3) :: (158, .aload_n 0, 1) :: (159, .getfield 12, 3) :: (162, .iload_n 2, 1) :: (163, .invokevirtual 119, 3) :: (166, .aload_n 0, 1) :: (167, .aload_n 0, 1) :: (168, .getfield 12, 3) :: (171, .getfield 57, 3) :: (174, .putfield 31, 3) :: (177, .iconst 0, 1) :: (178, .aload_n 0, 1) :: (179, .getfield 12, 3) :: (182, .getfield 57, 3) :: (185, .aload_n 0, 1) :: (186, .getfield 39, 3) :: (189, .getfield 107, 3) :: (192, .iload_n 1, 1) :: (193, .iaload, 1) :: (194, .isub, 1) :: (195, .invokestatic 85, 3) :: (198, .ireturn, 1) :: [])
set_option maxRecDepth 100000 in
def mX2_causeOf : zMeth := (yX2_causeOf, cX2_causeOf, 2, (some .int), 2, (0, .aload_n 0, 1) :: (1, .invokevirtual 123, 3) :: (4, .pop, 1) :: (5, .aload_n 0, 1) :: (6, .getfield 18, 3) :: (9, .iload_n 1, 1) :: (10, .iaload, 1) :: (11, .bipush (-2), 2) :: (13, .if_icmp .eq 12, 3) :: (16, .aload_n 0, 1) :: (17, .getfield 18, 3) :: (20, .iload_n 1, 1) :: (21, .iaload, 1) :: (22, .ifCond .ne 10, 3) :: (25, .aload_n 0, 1) :: (26, .getfield 18, 3) :: (29, .iload_n 1, 1) :: (30, .iaload, 1) :: (31, .ireturn, 1) :: (32, .aload_n 0, 1) :: (33, .getfield 18, 3) :: (36, .iload_n 1, 1) :: (37, .iaload, 1) :: (38, .iconst (-1), 1) :: (39, .if_icmp .ne 5, 3) :: (42, .iconst 5, 1) :: (43, .ireturn, 1) :: (44, .aload_n 0, 1) :: (45, .getfield 46, 3) :: (48, .aload_n 0, 1) :: (49, .getfield 22, 3) :: (52, .iload_n 1, 1) :: (53, .iaload, 1) :: (54, .aload_n 0, 1) :: (55, .getfield 25, 3) :: (58, .iload_n 1, 1) :: (59, .iaload, 1) :: (60, .invokevirtual 127, 3) :: (63, .aload_n 0, 1) :: (64, .getfield 46, 3) :: (67, .aload_n 0, 1) :: (68, .getfield 28, 3) :: (71, .iload_n 1, 1) :: (72, .iaload, 1) :: (73, .invokevirtual 133, 3) :: (76, .aload_n 0, 1) :: (77, .getfield 22, 3) :: (80, .iload_n 1, 1) :: (81, .iaload, 1) :: (82, .aload_n 0, 1) :: (83, .getfield 25, 3) :: (86, .iload_n 1, 1) :: (87, .iaload, 1) :: (88, .if_icmp .lt 20, 3) :: (91, .aload_n 0, 1) :: (92, .getfield 22, 3) :: (95, .iload_n 1, 1) :: (96, .iaload, 1) :: (97, .aload_n 0, 1) :: (98, .getfield 28, 3) :: (101, .iload_n 1, 1) :: (102, .iaload, 1) :: (103, .if_icmp .lt 5, 3) :: (106, .iconst 1, 1) :: (107, .ireturn, 1) :: (108, .aload_n 0, 1) :: (109, .getfield 25, 3) :: (112, .iload_n 1, 1) :: (113, .iaload, 1) :: (114, .aload_n 0, 1) :: (115, .getfield 28, 3) :: (118, .iload_n 1, 1) :: (119, .iaload, 1) :: (120, .if_icmp .lt 7, 3) :: (123, .iconst 2, 1) :: (124, .goto 4, 3) :: (127, .iconst 3, 1) :: (128, .ireturn, 1) :: [])
set_option maxRecDepth 100000 in
def mX2_bestExchange : zMeth := (yX2_bestExchange, cX2_bestExchange, 7, (some .int), 2, (0, .aload_n 0, 1) :: (1, .invokevirtual 123, 3) :: (4, .istore_n 1, 1) :: (5, .iconst (-1), 1) :: (6, .istore_n 2, 1) :: (7, .iconst (-1), 1) :: (8, .istore_n 3, 1) :: (9, .iconst 0, 1) :: (10, .istore 4, 2) :: (12, .iload 4, 2) :: (14, .aload_n 0, 1) :: (15, .getfield 39, 3) :: (18, .getfield 60, 3) :: (21, .if_icmp .ge 81, 3) :: (24, .iload 4, 2) :: (26, .iconst 1, 1) :: (27, .iadd, 1) :: (28, .istore 5, 2) :: (30, .iload 5, 2) :: (32, .aload_n 0, 1) :: (33, .getfield 39, 3) :: (36, .getfield 60, 3) :: (39, .if_icmp .ge 57, 3) :: (42, .aload_n 0, 1) :: (43, .iload 4, 2) :: (45, .iload 5, 2) :: (47, .invokevirtual 136, 3) :: (50, .ifCond .eq 40, 3) :: (53, .aload_n 0, 1) :: (54, .iload 4, 2) :: (56, .iload 5, 2) :: (58, .invokevirtual 140, 3) :: (61, .aload_n 0, 1) :: (62, .invokevirtual 123, 3) :: (65, .istore 6, 2) :: (67, .aload_n 0, 1) :: (68, .iload 4, 2) :: (70, .iload 5, 2) :: (72, .invokevirtual 140, 3) :: (75, .iload 6, 2) :: (77, .iload_n 1, 1) :: (78, .if_icmp .ge 12, 3) :: (81, .iload 6, 2) :: (83, .istore_n 1, 1) :: (84, .iload 4, 2) :: (86, .istore_n 2, 1) :: (87, .iload 5, 2) :: (89, .istore_n 3, 1) :: (90, .iinc 5 1, 3) :: (93, .goto (-63), 3) :: (96, .iinc 4 1, 3) :: (99, .goto (-87), 3) :: (102, .aload_n 0, 1) :: (103, .getfield 46, 3) :: (106, .invokevirtual 143, 3) :: (109, .iload_n 2, 1) :: (110, .iconst (-1), 1) :: (111, .if_icmp .eq 12, 3) :: (114, .aload_n 0, 1) :: (115, .getfield 46, 3) :: (118, .iload_n 2, 1) :: (119, .iload_n 3, 1) :: (120, .invokevirtual 127, 3) :: (123, .iload_n 1, 1) :: (124, .ireturn, 1) :: [])
set_option maxRecDepth 100000 in
def mX2_canExchange : zMeth := (yX2_canExchange, cX2_canExchange, 5, (some .boolean), 2, (0, .aload_n 0, 1) :: (1, .getfield 39, 3) :: (4, .getfield 68, 3) :: (7, .iload_n 1, 1) :: (8, .iaload, 1) :: (9, .istore_n 3, 1) :: (10, .aload_n 0, 1) :: (11, .getfield 39, 3) :: (14, .getfield 68, 3) :: (17, .iload_n 2, 1) :: (18, .iaload, 1) :: (19, .istore 4, 2) :: (21, .iload_n 3, 1) :: (22, .iconst (-1), 1) :: (23, .if_icmp .eq 38, 3) :: (26, .iload 4, 2) :: (28, .iconst (-1), 1) :: (29, .if_icmp .eq 32, 3) :: (32, .aload_n 0, 1) :: (33, .getfield 39, 3) :: (36, .iload_n 3, 1) :: (37, .iload_n 2, 1) :: (38, .invokevirtual 146, 3) :: (41, .ifCond .eq 20, 3) :: (44, .aload_n 0, 1) :: (45, .getfield 39, 3) :: (48, .iload 4, 2) :: (50, .iload_n 1, 1) :: (51, .invokevirtual 146, 3) :: (54, .ifCond .eq 7, 3) :: (57, .iconst 1, 1) :: (58, .goto 4, 3) :: (61, .iconst 0, 1) :: (62, .ireturn, 1) :: [])
set_option maxRecDepth 100000 in
def mX2_swap : zMeth := (yX2_swap, cX2_swap, 4, none, 2, (0, .aload_n 0, 1) :: (1, .getfield 39, 3) :: (4, .getfield 68, 3) :: (7, .iload_n 1, 1) :: (8, .iaload, 1) :: (9, .istore_n 3, 1) :: (10, .aload_n 0, 1) :: (11, .getfield 39, 3) :: (14, .getfield 68, 3) :: (17, .iload_n 1, 1) :: (18, .aload_n 0, 1) :: (19, .getfield 39, 3) :: (22, .getfield 68, 3) :: (25, .iload_n 2, 1) :: (26, .iaload, 1) :: (27, .iastore, 1) :: (28, .aload_n 0, 1) :: (29, .getfield 39, 3) :: (32, .getfield 68, 3) :: (35, .iload_n 2, 1) :: (36, .iload_n 3, 1) :: (37, .iastore, 1) :: (38, .return_, 1) :: [])
set_option maxRecDepth 100000 in
def mX3_has : zMeth := (yX3_has, cX3_has, 2, (some .boolean), 3, (0, .iload_n 1, 1) :: (1, .ifCond .lt 15, 3) :: (4, .iload_n 1, 1) :: (5, .aload_n 0, 1) :: (6, .getfield 9, 3) :: (9, .if_icmp .ge 7, 3) :: (12, .iconst 1, 1) :: (13, .goto 4, 3) :: (16, .iconst 0, 1) :: (17, .ireturn, 1) :: [])
set_option maxRecDepth 100000 in
def mX3_hasOthers : zMeth := (yX3_hasOthers, cX3_hasOthers, 2, (some .boolean), 3, (0, .iload_n 1, 1) :: (1, .aload_n 0, 1) :: (2, .getfield 9, 3) :: (5, .iushr, 1) :: (6, .ifCond .eq 7, 3) :: (9, .iconst 1, 1) :: (10, .goto 4, 3) :: (13, .iconst 0, 1) :: (14, .ireturn, 1) :: [])
set_option maxRecDepth 100000 in
def mX3_enlist : zMeth := (yX3_enlist, cX3_enlist, 6, (some .int), 3, (0, .aload_n 0, 1) :: (1, .getfield 9, 3) :: (4, .istore 5, 2) :: (6, .aload_n 0, 1) :: (7, .getfield 15, 3) :: (10, .iload 5, 2) :: (12, .iload_n 1, 1) :: (13, .iastore, 1) :: (14, .aload_n 0, 1) :: (15, .getfield 19, 3) :: (18, .iload 5, 2) :: (20, .iload_n 2, 1) :: (21, .iastore, 1) :: (22, .aload_n 0, 1) :: (23, .getfield 22, 3) :: (26, .iload 5, 2) :: (28, .iload_n 3, 1) :: (29, .iastore, 1) :: (30, .aload_n 0, 1) :: (31, .getfield 25, 3) :: (34, .iload 5, 2) :: (36, .iload 4, 2) :: (38, .bastore, 1) :: (39, .aload_n 0, 1) :: (40, .dup, 1) :: (41, .getfield 9, 3) :: (44, .iconst 1, 1) :: (45, .iadd, 1) :: (46, .putfield 9, 3) :: (49, .iload 5, 2) :: (51, .ireturn, 1) :: [])
set_option maxRecDepth 100000 in
def mX4_renew : zMeth := (yX4_renew, cX4_renew, 3, none, 4, (0, .aload_n 0, 1) :: (1, .iload_n 1, 1) :: (2, .putfield 33, 3) :: (5, .iconst 0, 1) :: (6, .istore_n 2, 1) :: (7, .iload_n 2, 1) :: (8, .bipush 23, 2) :: (10, .if_icmp .ge 31, 3) :: (13, .aload_n 0, 1) :: (14, .getfield 18, 3) :: (17, .iload_n 2, 1) :: (18, .bipush 30, 2) :: (20, .iastore, 1) :: (21, .aload_n 0, 1) :: (22, .getfield 22, 3) :: (25, .iload_n 2, 1) :: (26, .iconst 3, 1) :: (27, .iastore, 1) :: (28, .aload_n 0, 1) :: (29, .getfield 25, 3) :: (32, .iload_n 2, 1) :: (33, .iconst 0, 1) :: (34, .bastore, 1) :: (35, .iinc 2 1, 3) :: (38, .goto (-31), 3) :: (41, .return_, 1) :: [])
set_option maxRecDepth 100000 in
def mX4_hasStall : zMeth := (yX4_hasStall, cX4_hasStall, 2, (some .boolean), 4, (0, .iload_n 1, 1) :: (1, .ifCond .lt 15, 3) :: (4, .iload_n 1, 1) :: (5, .aload_n 0, 1) :: (6, .getfield 33, 3) :: (9, .if_icmp .ge 7, 3) :: (12, .iconst 1, 1) :: (13, .goto 4, 3) :: (16, .iconst 0, 1) :: (17, .ireturn, 1) :: [])
set_option maxRecDepth 100000 in
def mX4_hasPoint : zMeth := (yX4_hasPoint, cX4_hasPoint, 2, (some .boolean), 4, (0, .iload_n 1, 1) :: (1, .ifCond .lt 15, 3) :: (4, .iload_n 1, 1) :: (5, .aload_n 0, 1) :: (6, .getfield 33, 3) :: (9, .if_icmp .gt 7, 3) :: (12, .iconst 1, 1) :: (13, .goto 4, 3) :: (16, .iconst 0, 1) :: (17, .ireturn, 1) :: [])
set_option maxRecDepth 100000 in
def mX4_stepsBetween : zMeth := (yX4_stepsBetween, cX4_stepsBetween, 5, (some .int), 4, (0, .iload_n 1, 1) :: (1, .iload_n 2, 1) :: (2, .if_icmp .ge 9, 3) :: (5, .iload_n 2, 1) :: (6, .iload_n 1, 1) :: (7, .isub, 1) :: (8, .goto 6, 3) :: (11, .iload_n 1, 1) :: (12, .iload_n 2, 1) :: (13, .isub, 1) :: (14, .istore_n 3, 1) :: (15, .aload_n 0, 1) :: (16, .getfield 33, 3) :: (19, .iconst 1, 1) :: (20, .iadd, 1) :: (21, .iload_n 3, 1) :: (22, .isub, 1) :: (23, .istore 4, 2) :: (25, .iload_n 3, 1) :: (26, .iload 4, 2) :: (28, .if_icmp .ge 7, 3) :: (31, .iload_n 3, 1) :: (32, .goto 5, 3) :: (35, .iload 4, 2) :: (37, .ireturn, 1) :: [])
set_option maxRecDepth 100000 in
def mX4_stallsBetween : zMeth := (yX4_stallsBetween, cX4_stallsBetween, 4, (some .int), 4, (0, .iload_n 1, 1) :: (1, .iload_n 2, 1) :: (2, .if_icmp .ge 9, 3) :: (5, .iload_n 2, 1) :: (6, .iload_n 1, 1) :: (7, .isub, 1) :: (8, .goto 6, 3) :: (11, .iload_n 1, 1) :: (12, .iload_n 2, 1) :: (13, .isub, 1) :: (14, .istore_n 3, 1) :: (15, .iload_n 3, 1) :: (16, .aload_n 0, 1) :: (17, .getfield 33, 3) :: (20, .iload_n 3, 1) :: (21, .isub, 1) :: (22, .invokestatic 36, 3) :: (25, .ireturn, 1) :: [])
set_option maxRecDepth 100000 in
def mX4_isHood : zMeth := (yX4_isHood, cX4_isHood, 3, (some .boolean), 4, (0, .aload_n 0, 1) :: (1, .getfield 22, 3) :: (4, .iload_n 1, 1) :: (5, .iaload, 1) :: (6, .iload_n 2, 1) :: (7, .ifCond .eq 7, 3) :: (10, .iconst 2, 1) :: (11, .goto 4, 3) :: (14, .iconst 1, 1) :: (15, .iand, 1) :: (16, .ifCond .eq 7, 3) :: (19, .iconst 1, 1) :: (20, .goto 4, 3) :: (23, .iconst 0, 1) :: (24, .ireturn, 1) :: [])
set_option maxRecDepth 100000 in
def mX4_readSheet : zMeth := (yX4_readSheet, cX4_readSheet, 8, (some .int), 4, (0, .iconst 0, 1) :: (1, .istore 5, 2) :: (3, .iload_n 3, 1) :: (4, .istore 6, 2) :: (6, .iconst 0, 1) :: (7, .istore 7, 2) :: (9, .iload 7, 2) :: (11, .aload_n 0, 1) :: (12, .getfield 33, 3) :: (15, .if_icmp .ge 52, 3) :: (18, .aload_n 0, 1) :: (19, .getfield 18, 3) :: (22, .iload 7, 2) :: (24, .iload 7, 2) :: (26, .iload_n 2, 1) :: (27, .if_icmp .ge 12, 3) :: (30, .iload_n 1, 1) :: (31, .iload 6, 2) :: (33, .invokestatic 42, 3) :: (36, .goto 5, 3) :: (39, .bipush 30, 2) :: (41, .iastore, 1) :: (42, .iload 5, 2) :: (44, .aload_n 0, 1) :: (45, .getfield 18, 3) :: (48, .iload 7, 2) :: (50, .iaload, 1) :: (51, .iadd, 1) :: (52, .istore 5, 2) :: (54, .iload 6, 2) :: (56, .iload 4, 2) :: (58, .iadd, 1) :: (59, .istore 6, 2) :: (61, .iinc 7 1, 3) :: (64, .goto (-55), 3) :: (67, .iload 5, 2) :: (69, .ireturn, 1) :: [])
set_option maxRecDepth 100000 in
def mX4_asLength : zMeth := (yX4_asLength, cX4_asLength, 3, (some .int), 4, (0, .iload_n 0, 1) :: (1, .ifCond .ne 8, 3) :: (4, .iload_n 1, 1) :: (5, .i2b, 1) :: (6, .goto 14, 3) :: (9, .iload_n 0, 1) :: (10, .iconst 1, 1) :: (11, .if_icmp .ne 8, 3) :: (14, .iload_n 1, 1) :: (15, .i2s, 1) :: (16, .goto 4, 3) :: (19, .iload_n 1, 1) :: (20, .istore_n 2, 1) :: (21, .bipush 60, 2) :: (23, .bipush 10, 2) :: (25, .iload_n 2, 1) :: (26, .invokestatic 45, 3) :: (29, .invokestatic 36, 3) :: (32, .ireturn, 1) :: [])
set_option maxRecDepth 100000 in
def mX5_empty : zMeth := (yX5_empty, cX5_empty, 1, none, 5, (0, .aload_n 0, 1) :: (1, .iconst 0, 1) :: (2, .putfield 13, 3) :: (5, .return_, 1) :: [])
set_option maxRecDepth 100000 in
def mX5_tell : zMeth := (yX5_tell, cX5_tell, 2, none, 5, (0, .aload_n 0, 1) :: (1, .getfield 13, 3) :: (4, .bipush 12, 2) :: (6, .if_icmp .ge 23, 3) :: (9, .aload_n 0, 1) :: (10, .getfield 9, 3) :: (13, .aload_n 0, 1) :: (14, .getfield 13, 3) :: (17, .iload_n 1, 1) :: (18, .iastore, 1) :: (19, .aload_n 0, 1) :: (20, .dup, 1) :: (21, .getfield 13, 3) :: (24, .iconst 1, 1) :: (25, .iadd, 1) :: (26, .putfield 13, 3) :: (29, .return_, 1) :: [])
set_option maxRecDepth 100000 in
def mX5_tellOne : zMeth := (yX5_tellOne, cX5_tellOne, 2, none, 5, (0, .aload_n 0, 1) :: (1, .invokevirtual 17, 3) :: (4, .aload_n 0, 1) :: (5, .iload_n 1, 1) :: (6, .invokevirtual 20, 3) :: (9, .return_, 1) :: [])
set_option maxRecDepth 100000 in
def mX5_tellTwo : zMeth := (yX5_tellTwo, cX5_tellTwo, 3, none, 5, (0, .aload_n 0, 1) :: (1, .invokevirtual 17, 3) :: (4, .aload_n 0, 1) :: (5, .iload_n 1, 1) :: (6, .invokevirtual 20, 3) :: (9, .aload_n 0, 1) :: (10, .iload_n 2, 1) :: (11, .invokevirtual 20, 3) :: (14, .return_, 1) :: [])
set_option maxRecDepth 100000 in
def mX6_append : zMeth := (yX6_append, cX6_append, 3, (some .int), 6, (0, .aload_n 0, 1) :: (1, .getfield 15, 3) :: (4, .iconst 4, 1) :: (5, .iadd, 1) :: (6, .bipush 60, 2) :: (8, .if_icmp .le 5, 3) :: (11, .iconst (-1), 1) :: (12, .ireturn, 1) :: (13, .bipush 24, 2) :: (15, .istore_n 2, 1) :: (16, .iload_n 2, 1) :: (17, .ifCond .lt 35, 3) :: (20, .aload_n 0, 1) :: (21, .getfield 11, 3) :: (24, .aload_n 0, 1) :: (25, .getfield 15, 3) :: (28, .iload_n 1, 1) :: (29, .iload_n 2, 1) :: (30, .iushr, 1) :: (31, .sipush 255, 3) :: (34, .iand, 1) :: (35, .iastore, 1) :: (36, .aload_n 0, 1) :: (37, .dup, 1) :: (38, .getfield 15, 3) :: (41, .iconst 1, 1) :: (42, .iadd, 1) :: (43, .putfield 15, 3) :: (46, .iinc 2 (-8), 3) :: (49, .goto (-33), 3) :: (52, .aload_n 0, 1) :: (53, .getfield 15, 3) :: (56, .ireturn, 1) :: [])
set_option maxRecDepth 100000 in
def mX6_cut : zMeth := (yX6_cut, cX6_cut, 2, (some .boolean), 6, (0, .iload_n 1, 1) :: (1, .ifCond .lt 11, 3) :: (4, .iload_n 1, 1) :: (5, .aload_n 0, 1) :: (6, .getfield 15, 3) :: (9, .if_icmp .le 5, 3) :: (12, .iconst 0, 1) :: (13, .ireturn, 1) :: (14, .aload_n 0, 1) :: (15, .iload_n 1, 1) :: (16, .putfield 15, 3) :: (19, .iconst 1, 1) :: (20, .ireturn, 1) :: [])
set_option maxRecDepth 100000 in
def mX6_adopt : zMeth := (yX6_adopt, cX6_adopt, 3, (some .int), 6, (0, .aload_n 0, 1) :: (1, .getfield 15, 3) :: (4, .istore_n 1, 1) :: (5, .aload_n 0, 1) :: (6, .iconst 0, 1) :: (7, .putfield 15, 3) :: (10, .aload_n 0, 1) :: (11, .iconst 0, 1) :: (12, .putfield 28, 3) :: (15, .aload_n 0, 1) :: (16, .iconst 0, 1) :: (17, .putfield 31, 3) :: (20, .aload_n 0, 1) :: (21, .iload_n 1, 1) :: (22, .bipush 40, 2) :: (24, .invokestatic 43, 3) :: (27, .putfield 34, 3) :: (30, .iload_n 1, 1) :: (31, .ifCond .le 27, 3) :: (34, .aload_n 0, 1) :: (35, .iconst 0, 1) :: (36, .iconst 0, 1) :: (37, .invokevirtual 49, 3) :: (40, .ifCond .eq 11, 3) :: (43, .aload_n 0, 1) :: (44, .getfield 31, 3) :: (47, .iload_n 1, 1) :: (48, .if_icmp .ge 10, 3) :: (51, .iconst (-1), 1) :: (52, .aload_n 0, 1) :: (53, .getfield 31, 3) :: (56, .isub, 1) :: (57, .ireturn, 1) :: (58, .aload_n 0, 1) :: (59, .getfield 19, 3) :: (62, .astore_n 2, 1) :: (63, .aload_n 0, 1) :: (64, .aload_n 0, 1) :: (65, .getfield 25, 3) :: (68, .putfield 19, 3) :: (71, .aload_n 0, 1) :: (72, .aload_n 0, 1) :: (73, .getfield 28, 3) :: (76, .putfield 22, 3) :: (79, .aload_n 0, 1) :: (80, .aload_n 2, 1) :: (81, .putfield 25, 3) :: (84, .iconst 0, 1) :: (85, .ireturn, 1) :: [])
set_option maxRecDepth 100000 in
def mX6_readLevel : zMeth := (yX6_readLevel, cX6_readLevel, 6, (some .boolean), 6, (0, .iload_n 1, 1) :: (1, .iconst 4, 1) :: (2, .if_icmp .lt 9, 3) :: (5, .aload_n 0, 1) :: (6, .iload_n 2, 1) :: (7, .invokevirtual 53, 3) :: (10, .ireturn, 1) :: (11, .aload_n 0, 1) :: (12, .iload_n 1, 1) :: (13, .iconst 1, 1) :: (14, .iadd, 1) :: (15, .iload_n 2, 1) :: (16, .invokevirtual 49, 3) :: (19, .ifCond .ne 5, 3) :: (22, .iconst 0, 1) :: (23, .ireturn, 1) :: (24, .iload_n 1, 1) :: (25, .iconst 2, 1) :: (26, .if_icmp .ne 7, 3) :: (29, .iconst 1, 1) :: (30, .goto 5, 3) :: (33, .bipush 40, 2) :: (35, .istore_n 3, 1) :: (36, .iconst 0, 1) :: (37, .istore 4, 2) :: (39, .iload 4, 2) :: (41, .iload_n 3, 1) :: (42, .if_icmp .ge 71, 3) :: (45, .aload_n 0, 1) :: (46, .getfield 31, 3) :: (49, .aload_n 0, 1) :: (50, .getfield 34, 3) :: (53, .if_icmp .ge 60, 3) :: (56, .aload_n 0, 1) :: (57, .getfield 11, 3) :: (60, .aload_n 0, 1) :: (61, .getfield 31, 3) :: (64, .iaload, 1) :: (65, .iload_n 1, 1) :: (66, .invokestatic 57, 3) :: (69, .istore 5, 2) :: (71, .iload 5, 2) :: (73, .ifCond .ne 5, 3) :: (76, .iconst 1, 1) :: (77, .ireturn, 1) :: (78, .aload_n 0, 1) :: (79, .dup, 1) :: (80, .getfield 31, 3) :: (83, .iconst 1, 1) :: (84, .iadd, 1) :: (85, .putfield 31, 3) :: (88, .aload_n 0, 1) :: (89, .iload_n 1, 1) :: (90, .iconst 1, 1) :: (91, .iadd, 1) :: (92, .iload_n 2, 1) :: (93, .invokevirtual 49, 3) :: (96, .ifCond .ne 5, 3) :: (99, .iconst 0, 1) :: (100, .ireturn, 1) :: (101, .aload_n 0, 1) :: (102, .iload 5, 2) :: (104, .invokevirtual 60, 3) :: (107, .iinc 4 1, 3) :: (110, .goto (-71), 3) :: (113, .iconst 1, 1) :: (114, .ireturn, 1) :: [])
set_option maxRecDepth 100000 in
def mX6_readThing : zMeth := (yX6_readThing, cX6_readThing, 5, (some .boolean), 6, (0, .aload_n 0, 1) :: (1, .getfield 31, 3) :: (4, .istore_n 2, 1) :: (5, .aload_n 0, 1) :: (6, .getfield 31, 3) :: (9, .aload_n 0, 1) :: (10, .getfield 34, 3) :: (13, .if_icmp .ge 44, 3) :: (16, .aload_n 0, 1) :: (17, .getfield 11, 3) :: (20, .aload_n 0, 1) :: (21, .getfield 31, 3) :: (24, .iaload, 1) :: (25, .bipush 33, 2) :: (27, .if_icmp .eq 17, 3) :: (30, .aload_n 0, 1) :: (31, .getfield 11, 3) :: (34, .aload_n 0, 1) :: (35, .getfield 31, 3) :: (38, .iaload, 1) :: (39, .bipush 45, 2) :: (41, .if_icmp .ne 16, 3) :: (44, .aload_n 0, 1) :: (45, .dup, 1) :: (46, .getfield 31, 3) :: (49, .iconst 1, 1) :: (50, .iadd, 1) :: (51, .putfield 31, 3) :: (54, .goto (-49), 3) :: (57, .aload_n 0, 1) :: (58, .getfield 31, 3) :: (61, .istore_n 3, 1) :: (62, .aload_n 0, 1) :: (63, .getfield 31, 3) :: (66, .aload_n 0, 1) :: (67, .getfield 34, 3) :: (70, .if_icmp .ge 11, 3) :: (73, .aload_n 0, 1) :: (74, .iload_n 1, 1) :: (75, .invokevirtual 64, 3) :: (78, .ifCond .ne 5, 3) :: (81, .iconst 0, 1) :: (82, .ireturn, 1) :: (83, .iload_n 3, 1) :: (84, .iconst 1, 1) :: (85, .isub, 1) :: (86, .istore 4, 2) :: (88, .iload 4, 2) :: (90, .iload_n 2, 1) :: (91, .if_icmp .lt 32, 3) :: (94, .aload_n 0, 1) :: (95, .aload_n 0, 1) :: (96, .getfield 11, 3) :: (99, .iload 4, 2) :: (101, .iaload, 1) :: (102, .bipush 33, 2) :: (104, .if_icmp .ne 8, 3) :: (107, .bipush (-9), 2) :: (109, .goto 5, 3) :: (112, .bipush (-10), 2) :: (114, .invokevirtual 60, 3) :: (117, .iinc 4 (-1), 3) :: (120, .goto (-32), 3) :: (123, .iconst 1, 1) :: (124, .ireturn, 1) :: [])
set_option maxRecDepth 100000 in
def mX6_readCore : zMeth := (yX6_readCore, cX6_readCore, 4, (some .boolean), 6, (0, .aload_n 0, 1) :: (1, .getfield 11, 3) :: (4, .aload_n 0, 1) :: (5, .getfield 31, 3) :: (8, .iaload, 1) :: (9, .istore_n 2, 1) :: (10, .iload_n 2, 1) :: (11, .invokestatic 67, 3) :: (14, .ifCond .eq 9, 3) :: (17, .aload_n 0, 1) :: (18, .invokevirtual 70, 3) :: (21, .iconst 1, 1) :: (22, .ireturn, 1) :: (23, .iload_n 2, 1) :: (24, .bipush 40, 2) :: (26, .if_icmp .ne 70, 3) :: (29, .iload_n 1, 1) :: (30, .iconst 5, 1) :: (31, .if_icmp .lt 5, 3) :: (34, .iconst 0, 1) :: (35, .ireturn, 1) :: (36, .aload_n 0, 1) :: (37, .dup, 1) :: (38, .getfield 31, 3) :: (41, .iconst 1, 1) :: (42, .iadd, 1) :: (43, .putfield 31, 3) :: (46, .aload_n 0, 1) :: (47, .iconst 0, 1) :: (48, .iload_n 1, 1) :: (49, .iconst 1, 1) :: (50, .iadd, 1) :: (51, .invokevirtual 49, 3) :: (54, .ifCond .eq 28, 3) :: (57, .aload_n 0, 1) :: (58, .getfield 31, 3) :: (61, .aload_n 0, 1) :: (62, .getfield 34, 3) :: (65, .if_icmp .ge 17, 3) :: (68, .aload_n 0, 1) :: (69, .getfield 11, 3) :: (72, .aload_n 0, 1) :: (73, .getfield 31, 3) :: (76, .iaload, 1) :: (77, .bipush 41, 2) :: (79, .if_icmp .eq 5, 3) :: (82, .iconst 0, 1) :: (83, .ireturn, 1) :: (84, .aload_n 0, 1) :: (85, .dup, 1) :: (86, .getfield 31, 3) :: (89, .iconst 1, 1) :: (90, .iadd, 1) :: (91, .putfield 31, 3) :: (94, .iconst 1, 1) :: (95, .ireturn, 1) :: (96, .ldc 73, 2) :: (98, .iload_n 2, 1) :: (99, .i2c, 1) :: (100, .invokevirtual 75, 3) :: (103, .istore_n 3, 1) :: (104, .iload_n 3, 1) :: (105, .ifCond .ge 5, 3) :: (108, .iconst 0, 1) :: (109, .ireturn, 1) :: (110, .aload_n 0, 1) :: (111, .iconst (-1), 1) :: (112, .iload_n 3, 1) :: (113, .isub, 1) :: (114, .invokevirtual 60, 3) :: (117, .aload_n 0, 1) :: (118, .dup, 1) :: (119, .getfield 31, 3) :: (122, .iconst 1, 1) :: (123, .iadd, 1) :: (124, .putfield 31, 3) :: (127, .iconst 1, 1) :: (128, .ireturn, 1) :: [])
set_option maxRecDepth 100000 in
def mX6_readNumber : zMeth := (yX6_readNumber, cX6_readNumber, 3, none, 6, (0, .iconst 0, 1) :: (1, .istore_n 1, 1) :: (2, .iconst 0, 1) :: (3, .istore_n 2, 1) :: (4, .iload_n 2, 1) :: (5, .iconst 3, 1) :: (6, .if_icmp .ge 63, 3) :: (9, .aload_n 0, 1) :: (10, .getfield 31, 3) :: (13, .aload_n 0, 1) :: (14, .getfield 34, 3) :: (17, .if_icmp .ge 52, 3) :: (20, .aload_n 0, 1) :: (21, .getfield 11, 3) :: (24, .aload_n 0, 1) :: (25, .getfield 31, 3) :: (28, .iaload, 1) :: (29, .invokestatic 67, 3) :: (32, .ifCond .eq 37, 3) :: (35, .iload_n 1, 1) :: (36, .bipush 10, 2) :: (38, .imul, 1) :: (39, .aload_n 0, 1) :: (40, .getfield 11, 3) :: (43, .aload_n 0, 1) :: (44, .getfield 31, 3) :: (47, .iaload, 1) :: (48, .iadd, 1) :: (49, .bipush 48, 2) :: (51, .isub, 1) :: (52, .istore_n 1, 1) :: (53, .aload_n 0, 1) :: (54, .dup, 1) :: (55, .getfield 31, 3) :: (58, .iconst 1, 1) :: (59, .iadd, 1) :: (60, .putfield 31, 3) :: (63, .iinc 2 1, 3) :: (66, .goto (-62), 3) :: (69, .aload_n 0, 1) :: (70, .iload_n 1, 1) :: (71, .invokevirtual 60, 3) :: (74, .return_, 1) :: [])
set_option maxRecDepth 100000 in
def mX6_isDigit : zMeth := (yX6_isDigit, cX6_isDigit, 1, (some .boolean), 6, (0, .iload_n 0, 1) :: (1, .bipush 48, 2) :: (3, .if_icmp .lt 13, 3) :: (6, .iload_n 0, 1) :: (7, .bipush 57, 2) :: (9, .if_icmp .gt 7, 3) :: (12, .iconst 1, 1) :: (13, .goto 4, 3) :: (16, .iconst 0, 1) :: (17, .ireturn, 1) :: [])
set_option maxRecDepth 100000 in
def mX6_joining : zMeth := (yX6_joining, cX6_joining, 2, (some .int), 6, (0, .iload_n 0, 1) :: (1, .lookupswitch 150 #[(38, 78), (43, 126), (45, 138), (60, 90), (61, 114), (62, 102), (124, 67)], 67) :: (68, .iload_n 1, 1) :: (69, .ifCond .ne 8, 3) :: (72, .bipush (-11), 2) :: (74, .goto 4, 3) :: (77, .iconst 0, 1) :: (78, .ireturn, 1) :: (79, .iload_n 1, 1) :: (80, .iconst 1, 1) :: (81, .if_icmp .ne 8, 3) :: (84, .bipush (-12), 2) :: (86, .goto 4, 3) :: (89, .iconst 0, 1) :: (90, .ireturn, 1) :: (91, .iload_n 1, 1) :: (92, .iconst 2, 1) :: (93, .if_icmp .ne 8, 3) :: (96, .bipush (-13), 2) :: (98, .goto 4, 3) :: (101, .iconst 0, 1) :: (102, .ireturn, 1) :: (103, .iload_n 1, 1) :: (104, .iconst 2, 1) :: (105, .if_icmp .ne 8, 3) :: (108, .bipush (-14), 2) :: (110, .goto 4, 3) :: (113, .iconst 0, 1) :: (114, .ireturn, 1) :: (115, .iload_n 1, 1) :: (116, .iconst 2, 1) :: (117, .if_icmp .ne 8, 3) :: (120, .bipush (-15), 2) :: (122, .goto 4, 3) :: (125, .iconst 0, 1) :: (126, .ireturn, 1) :: (127, .iload_n 1, 1) :: (128, .iconst 3, 1) :: (129, .if_icmp .ne 8, 3) :: (132, .bipush (-16), 2) :: (134, .goto 4, 3) :: (137, .iconst 0, 1) :: (138, .ireturn, 1) :: (139, .iload_n 1, 1) :: (140, .iconst 3, 1) :: (141, .if_icmp .ne 8, 3) :: (144, .bipush (-17), 2) :: (146, .goto 4, 3) :: (149, .iconst 0, 1) :: (150, .ireturn, 1) :: (151, .iconst 0, 1) :: (152, .ireturn, 1) :: [])
set_option maxRecDepth 100000 in
def mX6_write : zMeth := (yX6_write, cX6_write, 2, none, 6, (0, .aload_n 0, 1) :: (1, .getfield 28, 3) :: (4, .bipush 40, 2) :: (6, .if_icmp .ge 23, 3) :: (9, .aload_n 0, 1) :: (10, .getfield 25, 3) :: (13, .aload_n 0, 1) :: (14, .getfield 28, 3) :: (17, .iload_n 1, 1) :: (18, .iastore, 1) :: (19, .aload_n 0, 1) :: (20, .dup, 1) :: (21, .getfield 28, 3) :: (24, .iconst 1, 1) :: (25, .iadd, 1) :: (26, .putfield 28, 3) :: (29, .return_, 1) :: [])
set_option maxRecDepth 100000 in
def mX6_value : zMeth := (yX6_value, cX6_value, 6, (some .int), 6, (0, .iconst 0, 1) :: (1, .istore_n 1, 1) :: (2, .iconst 0, 1) :: (3, .istore_n 2, 1) :: (4, .iload_n 2, 1) :: (5, .aload_n 0, 1) :: (6, .getfield 22, 3) :: (9, .if_icmp .ge 279, 3) :: (12, .aload_n 0, 1) :: (13, .getfield 19, 3) :: (16, .iload_n 2, 1) :: (17, .iaload, 1) :: (18, .istore_n 3, 1) :: (19, .iload_n 3, 1) :: (20, .bipush (-9), 2) :: (22, .if_icmp .le 31, 3) :: (25, .aload_n 0, 1) :: (26, .getfield 37, 3) :: (29, .iload_n 1, 1) :: (30, .iload_n 3, 1) :: (31, .ifCond .lt 7, 3) :: (34, .iload_n 3, 1) :: (35, .goto 11, 3) :: (38, .aload_n 0, 1) :: (39, .getfield 40, 3) :: (42, .iconst (-1), 1) :: (43, .iload_n 3, 1) :: (44, .isub, 1) :: (45, .iaload, 1) :: (46, .iastore, 1) :: (47, .iinc 1 1, 3) :: (50, .goto 232, 3) :: (53, .aload_n 0, 1) :: (54, .getfield 37, 3) :: (57, .iload_n 1, 1) :: (58, .iconst 1, 1) :: (59, .isub, 1) :: (60, .iaload, 1) :: (61, .istore 4, 2) :: (63, .iload_n 3, 1) :: (64, .bipush (-9), 2) :: (66, .if_icmp .ne 24, 3) :: (69, .aload_n 0, 1) :: (70, .getfield 37, 3) :: (73, .iload_n 1, 1) :: (74, .iconst 1, 1) :: (75, .isub, 1) :: (76, .iload 4, 2) :: (78, .ifCond .ne 7, 3) :: (81, .iconst 1, 1) :: (82, .goto 4, 3) :: (85, .iconst 0, 1) :: (86, .iastore, 1) :: (87, .goto 195, 3) :: (90, .iload_n 3, 1) :: (91, .bipush (-10), 2) :: (93, .if_icmp .ne 17, 3) :: (96, .aload_n 0, 1) :: (97, .getfield 37, 3) :: (100, .iload_n 1, 1) :: (101, .iconst 1, 1) :: (102, .isub, 1) :: (103, .iload 4, 2) :: (105, .ineg, 1) :: (106, .iastore, 1) :: (107, .goto 175, 3) :: (110, .iinc 1 (-1), 3) :: (113, .aload_n 0, 1) :: (114, .getfield 37, 3) :: (117, .iload_n 1, 1) :: (118, .iconst 1, 1) :: (119, .isub, 1) :: (120, .iaload, 1) :: (121, .istore 5, 2) :: (123, .iload_n 3, 1) :: (124, .tableswitch 141 (-16) (-11) #[131, 114, 97, 80, 60, 40], 40) :: (164, .iload 5, 2) :: (166, .ifCond .ne 8, 3) :: (169, .iload 4, 2) :: (171, .ifCond .eq 7, 3) :: (174, .iconst 1, 1) :: (175, .goto 4, 3) :: (178, .iconst 0, 1) :: (179, .istore 5, 2) :: (181, .goto 91, 3) :: (184, .iload 5, 2) :: (186, .ifCond .eq 12, 3) :: (189, .iload 4, 2) :: (191, .ifCond .eq 7, 3) :: (194, .iconst 1, 1) :: (195, .goto 4, 3) :: (198, .iconst 0, 1) :: (199, .istore 5, 2) :: (201, .goto 71, 3) :: (204, .iload 5, 2) :: (206, .iload 4, 2) :: (208, .if_icmp .ge 7, 3) :: (211, .iconst 1, 1) :: (212, .goto 4, 3) :: (215, .iconst 0, 1) :: (216, .istore 5, 2) :: (218, .goto 54, 3) :: (221, .iload 5, 2) :: (223, .iload 4, 2) :: (225, .if_icmp .le 7, 3) :: (228, .iconst 1, 1) :: (229, .goto 4, 3) :: (232, .iconst 0, 1) :: (233, .istore 5, 2) :: (235, .goto 37, 3) :: (238, .iload 5, 2) :: (240, .iload 4, 2) :: (242, .if_icmp .ne 7, 3) :: (245, .iconst 1, 1) :: (246, .goto 4, 3) :: (249, .iconst 0, 1) :: (250, .istore 5, 2) :: (252, .goto 20, 3) :: (255, .iload 5, 2) :: (257, .iload 4, 2) :: (259, .iadd, 1) :: (260, .istore 5, 2) :: (262, .goto 10, 3) :: (265, .iload 5, 2) :: (267, .iload 4, 2) :: (269, .isub, 1) :: (270, .istore 5, 2) :: (272, .aload_n 0, 1) :: (273, .getfield 37, 3) :: (276, .iload_n 1, 1) :: (277, .iconst 1, 1) :: (278, .isub, 1) :: (279, .iload 5, 2) :: (281, .iastore, 1) :: (282, .iinc 2 1, 3) :: (285, .goto (-281), 3) :: (288, .aload_n 0, 1) :: (289, .getfield 37, 3) :: (292, .iconst 0, 1) :: (293, .iaload, 1) :: (294, .ireturn, 1) :: [])
set_option maxRecDepth 100000 in
def mX7_takeFrom : zMeth := (yX7_takeFrom, cX7_takeFrom, 2, none, 7, (0, .aload_n 0, 1) :: (1, .aload_n 1, 1) :: (2, .getfield 9, 3) :: (5, .putfield 9, 3) :: (8, .aload_n 0, 1) :: (9, .aload_n 1, 1) :: (10, .getfield 15, 3) :: (13, .putfield 15, 3) :: (16, .aload_n 0, 1) :: (17, .aload_n 1, 1) :: (18, .getfield 18, 3) :: (21, .putfield 18, 3) :: (24, .aload_n 1, 1) :: (25, .getfield 21, 3) :: (28, .iconst 0, 1) :: (29, .aload_n 0, 1) :: (30, .getfield 21, 3) :: (33, .iconst 0, 1) :: (34, .bipush 23, 2) :: (36, .invokestatic 40, 3) :: (39, .aload_n 1, 1) :: (40, .getfield 25, 3) :: (43, .iconst 0, 1) :: (44, .aload_n 0, 1) :: (45, .getfield 25, 3) :: (48, .iconst 0, 1) :: (49, .bipush 23, 2) :: (51, .invokestatic 40, 3) :: (54, .aload_n 1, 1) :: (55, .getfield 28, 3) :: (58, .iconst 0, 1) :: (59, .aload_n 0, 1) :: (60, .getfield 28, 3) :: (63, .iconst 0, 1) :: (64, .bipush 12, 2) :: (66, .invokestatic 40, 3) :: (69, .aload_n 1, 1) :: (70, .getfield 31, 3) :: (73, .iconst 0, 1) :: (74, .aload_n 0, 1) :: (75, .getfield 31, 3) :: (78, .iconst 0, 1) :: (79, .bipush 12, 2) :: (81, .invokestatic 40, 3) :: (84, .return_, 1) :: [])
set_option maxRecDepth 100000 in
def mX7_onRoad : zMeth := (yX7_onRoad, cX7_onRoad, 2, (some .boolean), 7, (0, .aload_n 0, 1) :: (1, .getfield 28, 3) :: (4, .iload_n 1, 1) :: (5, .iaload, 1) :: (6, .iconst (-1), 1) :: (7, .if_icmp .ne 7, 3) :: (10, .iconst 1, 1) :: (11, .goto 4, 3) :: (14, .iconst 0, 1) :: (15, .ireturn, 1) :: [])
set_option maxRecDepth 100000 in
def mX7_isDead : zMeth := (yX7_isDead, cX7_isDead, 2, (some .boolean), 7, (0, .aload_n 0, 1) :: (1, .getfield 18, 3) :: (4, .iload_n 1, 1) :: (5, .ishr, 1) :: (6, .iconst 1, 1) :: (7, .iand, 1) :: (8, .ifCond .eq 7, 3) :: (11, .iconst 1, 1) :: (12, .goto 4, 3) :: (15, .iconst 0, 1) :: (16, .ireturn, 1) :: [])
set_option maxRecDepth 100000 in
def mX7_atBack : zMeth := (yX7_atBack, cX7_atBack, 3, (some .boolean), 7, (0, .aload_n 0, 1) :: (1, .getfield 28, 3) :: (4, .iload_n 1, 1) :: (5, .iaload, 1) :: (6, .istore_n 2, 1) :: (7, .iload_n 2, 1) :: (8, .iconst (-1), 1) :: (9, .if_icmp .eq 17, 3) :: (12, .aload_n 0, 1) :: (13, .getfield 21, 3) :: (16, .iload_n 2, 1) :: (17, .iaload, 1) :: (18, .iload_n 1, 1) :: (19, .if_icmp .ne 7, 3) :: (22, .iconst 1, 1) :: (23, .goto 4, 3) :: (26, .iconst 0, 1) :: (27, .ireturn, 1) :: [])
set_option maxRecDepth 100000 in
def mX7_inFrontOf : zMeth := (yX7_inFrontOf, cX7_inFrontOf, 2, (some .int), 7, (0, .aload_n 0, 1) :: (1, .iload_n 1, 1) :: (2, .invokevirtual 46, 3) :: (5, .ifCond .eq 17, 3) :: (8, .aload_n 0, 1) :: (9, .getfield 25, 3) :: (12, .aload_n 0, 1) :: (13, .getfield 28, 3) :: (16, .iload_n 1, 1) :: (17, .iaload, 1) :: (18, .iaload, 1) :: (19, .goto 4, 3) :: (22, .iconst (-1), 1) :: (23, .ireturn, 1) :: [])
set_option maxRecDepth 100000 in
def mX7_inStalls : zMeth := (yX7_inStalls, cX7_inStalls, 3, (some .int), 7, (0, .iconst 0, 1) :: (1, .istore_n 1, 1) :: (2, .iconst 0, 1) :: (3, .istore_n 2, 1) :: (4, .iload_n 2, 1) :: (5, .bipush 12, 2) :: (7, .if_icmp .ge 25, 3) :: (10, .aload_n 0, 1) :: (11, .getfield 28, 3) :: (14, .iload_n 2, 1) :: (15, .iaload, 1) :: (16, .iconst (-1), 1) :: (17, .if_icmp .eq 9, 3) :: (20, .iload_n 1, 1) :: (21, .iconst 1, 1) :: (22, .iload_n 2, 1) :: (23, .ishl, 1) :: (24, .ior, 1) :: (25, .istore_n 1, 1) :: (26, .iinc 2 1, 3) :: (29, .goto (-25), 3) :: (32, .iload_n 1, 1) :: (33, .ireturn, 1) :: [])
set_option maxRecDepth 100000 in
def mX7_lit : zMeth := (yX7_lit, cX7_lit, 3, (some .int), 7, (0, .iconst 0, 1) :: (1, .istore_n 1, 1) :: (2, .iconst 0, 1) :: (3, .istore_n 2, 1) :: (4, .iload_n 2, 1) :: (5, .bipush 12, 2) :: (7, .if_icmp .ge 25, 3) :: (10, .aload_n 0, 1) :: (11, .getfield 31, 3) :: (14, .iload_n 2, 1) :: (15, .iaload, 1) :: (16, .iconst (-1), 1) :: (17, .if_icmp .eq 9, 3) :: (20, .iload_n 1, 1) :: (21, .iconst 1, 1) :: (22, .iload_n 2, 1) :: (23, .ishl, 1) :: (24, .ior, 1) :: (25, .istore_n 1, 1) :: (26, .iinc 2 1, 3) :: (29, .goto (-25), 3) :: (32, .iload_n 1, 1) :: (33, .ireturn, 1) :: [])
set_option maxRecDepth 100000 in
def mX7_bring : zMeth := (yX7_bring, cX7_bring, 4, none, 7, (0, .aload_n 0, 1) :: (1, .getfield 28, 3) :: (4, .iload_n 1, 1) :: (5, .iaload, 1) :: (6, .istore_n 3, 1) :: (7, .iload_n 3, 1) :: (8, .iconst (-1), 1) :: (9, .if_icmp .eq 30, 3) :: (12, .aload_n 0, 1) :: (13, .getfield 21, 3) :: (16, .iload_n 3, 1) :: (17, .iaload, 1) :: (18, .iload_n 1, 1) :: (19, .if_icmp .ne 13, 3) :: (22, .aload_n 0, 1) :: (23, .getfield 21, 3) :: (26, .iload_n 3, 1) :: (27, .iconst (-1), 1) :: (28, .iastore, 1) :: (29, .goto 10, 3) :: (32, .aload_n 0, 1) :: (33, .getfield 25, 3) :: (36, .iload_n 3, 1) :: (37, .iconst (-1), 1) :: (38, .iastore, 1) :: (39, .aload_n 0, 1) :: (40, .getfield 28, 3) :: (43, .iload_n 1, 1) :: (44, .iload_n 2, 1) :: (45, .iastore, 1) :: (46, .iload_n 2, 1) :: (47, .iconst (-1), 1) :: (48, .if_icmp .eq 30, 3) :: (51, .aload_n 0, 1) :: (52, .getfield 21, 3) :: (55, .iload_n 2, 1) :: (56, .iaload, 1) :: (57, .iconst (-1), 1) :: (58, .if_icmp .ne 13, 3) :: (61, .aload_n 0, 1) :: (62, .getfield 21, 3) :: (65, .iload_n 2, 1) :: (66, .iload_n 1, 1) :: (67, .iastore, 1) :: (68, .goto 10, 3) :: (71, .aload_n 0, 1) :: (72, .getfield 25, 3) :: (75, .iload_n 2, 1) :: (76, .iload_n 1, 1) :: (77, .iastore, 1) :: (78, .return_, 1) :: [])
set_option maxRecDepth 100000 in
def mX8_has : zMeth := (yX8_has, cX8_has, 2, (some .boolean), 8, (0, .iload_n 1, 1) :: (1, .ifCond .lt 15, 3) :: (4, .iload_n 1, 1) :: (5, .aload_n 0, 1) :: (6, .getfield 9, 3) :: (9, .if_icmp .ge 7, 3) :: (12, .iconst 1, 1) :: (13, .goto 4, 3) :: (16, .iconst 0, 1) :: (17, .ireturn, 1) :: [])
set_option maxRecDepth 100000 in
def mX8_enlist : zMeth := (yX8_enlist, cX8_enlist, 6, (some .int), 8, (0, .aload_n 0, 1) :: (1, .getfield 9, 3) :: (4, .istore 4, 2) :: (6, .aload_n 0, 1) :: (7, .getfield 15, 3) :: (10, .iload 4, 2) :: (12, .iload_n 1, 1) :: (13, .iastore, 1) :: (14, .aload_n 0, 1) :: (15, .getfield 19, 3) :: (18, .iload 4, 2) :: (20, .iload_n 2, 1) :: (21, .iastore, 1) :: (22, .aload_n 0, 1) :: (23, .getfield 22, 3) :: (26, .iload 4, 2) :: (28, .iload_n 3, 1) :: (29, .iastore, 1) :: (30, .iload 4, 2) :: (32, .istore 5, 2) :: (34, .iload 5, 2) :: (36, .ifCond .le 43, 3) :: (39, .aload_n 0, 1) :: (40, .getfield 15, 3) :: (43, .aload_n 0, 1) :: (44, .getfield 28, 3) :: (47, .iload 5, 2) :: (49, .iconst 1, 1) :: (50, .isub, 1) :: (51, .iaload, 1) :: (52, .iaload, 1) :: (53, .iload_n 1, 1) :: (54, .if_icmp .le 25, 3) :: (57, .aload_n 0, 1) :: (58, .getfield 28, 3) :: (61, .iload 5, 2) :: (63, .aload_n 0, 1) :: (64, .getfield 28, 3) :: (67, .iload 5, 2) :: (69, .iconst 1, 1) :: (70, .isub, 1) :: (71, .iaload, 1) :: (72, .iastore, 1) :: (73, .iinc 5 (-1), 3) :: (76, .goto (-42), 3) :: (79, .aload_n 0, 1) :: (80, .getfield 28, 3) :: (83, .iload 5, 2) :: (85, .iload 4, 2) :: (87, .iastore, 1) :: (88, .aload_n 0, 1) :: (89, .dup, 1) :: (90, .getfield 9, 3) :: (93, .iconst 1, 1) :: (94, .iadd, 1) :: (95, .putfield 9, 3) :: (98, .iload 4, 2) :: (100, .ireturn, 1) :: [])
set_option maxRecDepth 100000 in
def mX8_trainOf : zMeth := (yX8_trainOf, cX8_trainOf, 3, (some .int), 8, (0, .iconst 0, 1) :: (1, .istore_n 2, 1) :: (2, .iload_n 2, 1) :: (3, .aload_n 0, 1) :: (4, .getfield 9, 3) :: (7, .if_icmp .ge 21, 3) :: (10, .aload_n 0, 1) :: (11, .getfield 25, 3) :: (14, .iload_n 2, 1) :: (15, .iaload, 1) :: (16, .iload_n 1, 1) :: (17, .if_icmp .ne 5, 3) :: (20, .iload_n 2, 1) :: (21, .ireturn, 1) :: (22, .iinc 2 1, 3) :: (25, .goto (-23), 3) :: (28, .iconst (-1), 1) :: (29, .ireturn, 1) :: [])
set_option maxRecDepth 100000 in
def mX8_suits : zMeth := (yX8_suits, cX8_suits, 4, (some .boolean), 8, (0, .aload_n 0, 1) :: (1, .getfield 63, 3) :: (4, .getfield 77, 3) :: (7, .iload_n 1, 1) :: (8, .iaload, 1) :: (9, .iconst (-1), 1) :: (10, .if_icmp .ne 13, 3) :: (13, .aload_n 0, 1) :: (14, .getfield 63, 3) :: (17, .getfield 82, 3) :: (20, .goto 12, 3) :: (23, .aload_n 0, 1) :: (24, .getfield 63, 3) :: (27, .getfield 77, 3) :: (30, .iload_n 1, 1) :: (31, .iaload, 1) :: (32, .istore_n 3, 1) :: (33, .aload_n 0, 1) :: (34, .getfield 63, 3) :: (37, .iload_n 1, 1) :: (38, .invokevirtual 85, 3) :: (41, .ifCond .ne 51, 3) :: (44, .aload_n 0, 1) :: (45, .getfield 59, 3) :: (48, .getfield 89, 3) :: (51, .getfield 95, 3) :: (54, .iload_n 1, 1) :: (55, .iaload, 1) :: (56, .aload_n 0, 1) :: (57, .getfield 19, 3) :: (60, .iload_n 2, 1) :: (61, .iaload, 1) :: (62, .if_icmp .lt 30, 3) :: (65, .aload_n 0, 1) :: (66, .getfield 15, 3) :: (69, .iload_n 2, 1) :: (70, .iaload, 1) :: (71, .iload_n 3, 1) :: (72, .isub, 1) :: (73, .aload_n 0, 1) :: (74, .getfield 59, 3) :: (77, .getfield 89, 3) :: (80, .getfield 98, 3) :: (83, .iload_n 1, 1) :: (84, .iaload, 1) :: (85, .if_icmp .lt 7, 3) :: (88, .iconst 1, 1) :: (89, .goto 4, 3) :: (92, .iconst 0, 1) :: (93, .ireturn, 1) :: [])
set_option maxRecDepth 100000 in
def mX8_bestRow : zMeth := (yX8_bestRow, cX8_bestRow, 6, (some .int), 8, (0, .aload_n 0, 1) :: (1, .getfield 31, 3) :: (4, .ldc2_w 101, 3) :: (7, .invokestatic 103, 3) :: (10, .aload_n 0, 1) :: (11, .getfield 31, 3) :: (14, .iconst 0, 1) :: (15, .lconst 0, 1) :: (16, .lastore, 1) :: (17, .iconst 0, 1) :: (18, .istore_n 3, 1) :: (19, .iload_n 3, 1) :: (20, .aload_n 0, 1) :: (21, .getfield 9, 3) :: (24, .if_icmp .ge 35, 3) :: (27, .iload_n 2, 1) :: (28, .ifCond .eq 25, 3) :: (31, .aload_n 0, 1) :: (32, .getfield 25, 3) :: (35, .iload_n 3, 1) :: (36, .iaload, 1) :: (37, .iconst (-1), 1) :: (38, .if_icmp .eq 15, 3) :: (41, .aload_n 0, 1) :: (42, .getfield 31, 3) :: (45, .iconst 0, 1) :: (46, .dup2, 1) :: (47, .laload, 1) :: (48, .ldc2_w 106, 3) :: (51, .ladd, 1) :: (52, .lastore, 1) :: (53, .iinc 3 1, 3) :: (56, .goto (-37), 3) :: (59, .iconst 0, 1) :: (60, .istore_n 3, 1) :: (61, .iload_n 3, 1) :: (62, .aload_n 0, 1) :: (63, .getfield 59, 3) :: (66, .getfield 89, 3) :: (69, .getfield 108, 3) :: (72, .if_icmp .ge 20, 3) :: (75, .iload_n 3, 1) :: (76, .iload_n 1, 1) :: (77, .if_icmp .eq 9, 3) :: (80, .aload_n 0, 1) :: (81, .iload_n 3, 1) :: (82, .iload_n 2, 1) :: (83, .invokevirtual 109, 3) :: (86, .iinc 3 1, 3) :: (89, .goto (-28), 3) :: (92, .iconst 0, 1) :: (93, .istore_n 3, 1) :: (94, .iconst 1, 1) :: (95, .istore 4, 2) :: (97, .iload 4, 2) :: (99, .iconst 1, 1) :: (100, .aload_n 0, 1) :: (101, .getfield 9, 3) :: (104, .ishl, 1) :: (105, .if_icmp .ge 65, 3) :: (108, .iload 4, 2) :: (110, .invokestatic 113, 3) :: (113, .iload_n 3, 1) :: (114, .invokestatic 113, 3) :: (117, .isub, 1) :: (118, .istore 5, 2) :: (120, .aload_n 0, 1) :: (121, .getfield 31, 3) :: (124, .iload 4, 2) :: (126, .laload, 1) :: (127, .ldc2_w 101, 3) :: (130, .lcmp, 1) :: (131, .ifCond .ge 33, 3) :: (134, .iload 5, 2) :: (136, .ifCond .gt 25, 3) :: (139, .iload 5, 2) :: (141, .ifCond .ne 23, 3) :: (144, .aload_n 0, 1) :: (145, .getfield 31, 3) :: (148, .iload 4, 2) :: (150, .laload, 1) :: (151, .aload_n 0, 1) :: (152, .getfield 31, 3) :: (155, .iload_n 3, 1) :: (156, .laload, 1) :: (157, .lcmp, 1) :: (158, .ifCond .ge 6, 3) :: (161, .iload 4, 2) :: (163, .istore_n 3, 1) :: (164, .iinc 4 1, 3) :: (167, .goto (-70), 3) :: (170, .aload_n 0, 1) :: (171, .aload_n 0, 1) :: (172, .getfield 31, 3) :: (175, .iload_n 3, 1) :: (176, .laload, 1) :: (177, .ldc2_w 106, 3) :: (180, .ldiv, 1) :: (181, .l2i, 1) :: (182, .putfield 41, 3) :: (185, .iconst 0, 1) :: (186, .istore 4, 2) :: (188, .iload 4, 2) :: (190, .aload_n 0, 1) :: (191, .getfield 9, 3) :: (194, .if_icmp .ge 36, 3) :: (197, .aload_n 0, 1) :: (198, .getfield 38, 3) :: (201, .iload 4, 2) :: (203, .aload_n 0, 1) :: (204, .getfield 31, 3) :: (207, .iload_n 3, 1) :: (208, .laload, 1) :: (209, .getstatic 119, 3) :: (212, .iload 4, 2) :: (214, .laload, 1) :: (215, .ldiv, 1) :: (216, .ldc2_w 122, 3) :: (219, .lrem, 1) :: (220, .l2i, 1) :: (221, .iconst 1, 1) :: (222, .isub, 1) :: (223, .iastore, 1) :: (224, .iinc 4 1, 3) :: (227, .goto (-39), 3) :: (230, .iload_n 3, 1) :: (231, .invokestatic 113, 3) :: (234, .ireturn, 1) :: [])
set_option maxRecDepth 100000 in
def mX8_offerEngine : zMeth := (yX8_offerEngine, cX8_offerEngine, 8, none, 8, (0, .iconst 0, 1) :: (1, .istore_n 3, 1) :: (2, .iconst 0, 1) :: (3, .istore 4, 2) :: (5, .iload 4, 2) :: (7, .aload_n 0, 1) :: (8, .getfield 9, 3) :: (11, .if_icmp .ge 103, 3) :: (14, .aload_n 0, 1) :: (15, .iload_n 1, 1) :: (16, .iload 4, 2) :: (18, .invokevirtual 124, 3) :: (21, .ifCond .eq 87, 3) :: (24, .iload_n 3, 1) :: (25, .iconst 1, 1) :: (26, .iload 4, 2) :: (28, .ishl, 1) :: (29, .ior, 1) :: (30, .istore_n 3, 1) :: (31, .aload_n 0, 1) :: (32, .getfield 35, 3) :: (35, .iload 4, 2) :: (37, .iload_n 1, 1) :: (38, .iconst 1, 1) :: (39, .iadd, 1) :: (40, .i2l, 1) :: (41, .getstatic 119, 3) :: (44, .iload 4, 2) :: (46, .laload, 1) :: (47, .lmul, 1) :: (48, .lastore, 1) :: (49, .iload_n 2, 1) :: (50, .ifCond .eq 30, 3) :: (53, .aload_n 0, 1) :: (54, .getfield 25, 3) :: (57, .iload 4, 2) :: (59, .iaload, 1) :: (60, .iconst (-1), 1) :: (61, .if_icmp .ne 19, 3) :: (64, .aload_n 0, 1) :: (65, .getfield 35, 3) :: (68, .iload 4, 2) :: (70, .dup2, 1) :: (71, .laload, 1) :: (72, .ldc2_w 106, 3) :: (75, .ladd, 1) :: (76, .lastore, 1) :: (77, .goto 31, 3) :: (80, .iload_n 2, 1) :: (81, .ifCond .eq 27, 3) :: (84, .aload_n 0, 1) :: (85, .getfield 25, 3) :: (88, .iload 4, 2) :: (90, .iaload, 1) :: (91, .iload_n 1, 1) :: (92, .if_icmp .ne 16, 3) :: (95, .aload_n 0, 1) :: (96, .getfield 35, 3) :: (99, .iload 4, 2) :: (101, .dup2, 1) :: (102, .laload, 1) :: (103, .ldc2_w 106, 3) :: (106, .lsub, 1) :: (107, .lastore, 1) :: (108, .iinc 4 1, 3) :: (111, .goto (-106), 3) :: (114, .iload_n 3, 1) :: (115, .ifCond .ne 7, 3) :: (118, .iconst 0, 1) :: (119, .goto 11, 3) :: (122, .iconst 1, 1) :: (123, .aload_n 0, 1) :: (124, .getfield 9, 3) :: (127, .ishl, 1) :: (128, .iconst 1, 1) :: (129, .isub, 1) :: (130, .istore 4, 2) :: (132, .iload 4, 2) :: (134, .ifCond .lt 99, 3) :: (137, .aload_n 0, 1) :: (138, .getfield 31, 3) :: (141, .iload 4, 2) :: (143, .laload, 1) :: (144, .ldc2_w 101, 3) :: (147, .lcmp, 1) :: (148, .ifCond .lt 6, 3) :: (151, .goto 76, 3) :: (154, .iload_n 3, 1) :: (155, .iload 4, 2) :: (157, .iconst (-1), 1) :: (158, .ixor, 1) :: (159, .iand, 1) :: (160, .istore 5, 2) :: (162, .iload 5, 2) :: (164, .ifCond .eq 63, 3) :: (167, .iload 5, 2) :: (169, .invokestatic 128, 3) :: (172, .istore 6, 2) :: (174, .iload 4, 2) :: (176, .iconst 1, 1) :: (177, .iload 6, 2) :: (179, .ishl, 1) :: (180, .ior, 1) :: (181, .istore 7, 2) :: (183, .aload_n 0, 1) :: (184, .getfield 31, 3) :: (187, .iload 7, 2) :: (189, .aload_n 0, 1) :: (190, .getfield 31, 3) :: (193, .iload 7, 2) :: (195, .laload, 1) :: (196, .aload_n 0, 1) :: (197, .getfield 31, 3) :: (200, .iload 4, 2) :: (202, .laload, 1) :: (203, .aload_n 0, 1) :: (204, .getfield 35, 3) :: (207, .iload 6, 2) :: (209, .laload, 1) :: (210, .ladd, 1) :: (211, .invokestatic 131, 3) :: (214, .lastore, 1) :: (215, .iload 5, 2) :: (217, .iload 5, 2) :: (219, .iconst 1, 1) :: (220, .isub, 1) :: (221, .iand, 1) :: (222, .istore 5, 2) :: (224, .goto (-62), 3) :: (227, .iinc 4 (-1), 3) :: (230, .goto (-98), 3) :: (233, .return_, 1) :: [])
set_option maxRecDepth 100000 in
def mX8_tellChosen : zMeth := (yX8_tellChosen, cX8_tellChosen, 2, none, 8, (0, .iconst 0, 1) :: (1, .istore_n 1, 1) :: (2, .iload_n 1, 1) :: (3, .aload_n 0, 1) :: (4, .getfield 9, 3) :: (7, .if_icmp .ge 22, 3) :: (10, .aload_n 0, 1) :: (11, .getfield 67, 3) :: (14, .aload_n 0, 1) :: (15, .getfield 38, 3) :: (18, .iload_n 1, 1) :: (19, .iaload, 1) :: (20, .invokevirtual 137, 3) :: (23, .iinc 1 1, 3) :: (26, .goto (-24), 3) :: (29, .return_, 1) :: [])
set_option maxRecDepth 100000 in
def mX8_soonestFor : zMeth := (yX8_soonestFor, cX8_soonestFor, 6, (some .int), 8, (0, .bipush (-2), 2) :: (2, .istore_n 2, 1) :: (3, .ldc 143, 2) :: (5, .istore_n 3, 1) :: (6, .iconst 0, 1) :: (7, .istore 4, 2) :: (9, .iload 4, 2) :: (11, .aload_n 0, 1) :: (12, .getfield 59, 3) :: (15, .getfield 89, 3) :: (18, .getfield 108, 3) :: (21, .if_icmp .ge 67, 3) :: (24, .aload_n 0, 1) :: (25, .iload 4, 2) :: (27, .iload_n 1, 1) :: (28, .invokevirtual 124, 3) :: (31, .ifCond .eq 51, 3) :: (34, .aload_n 0, 1) :: (35, .getfield 63, 3) :: (38, .iload 4, 2) :: (40, .invokevirtual 144, 3) :: (43, .ifCond .eq 7, 3) :: (46, .iconst 0, 1) :: (47, .goto 16, 3) :: (50, .aload_n 0, 1) :: (51, .getfield 59, 3) :: (54, .aload_n 0, 1) :: (55, .getfield 63, 3) :: (58, .iload 4, 2) :: (60, .invokevirtual 147, 3) :: (63, .istore 5, 2) :: (65, .iload 5, 2) :: (67, .ifCond .lt 15, 3) :: (70, .iload 5, 2) :: (72, .iload_n 3, 1) :: (73, .if_icmp .ge 9, 3) :: (76, .iload 5, 2) :: (78, .istore_n 3, 1) :: (79, .iload 4, 2) :: (81, .istore_n 2, 1) :: (82, .iinc 4 1, 3) :: (85, .goto (-76), 3) :: (88, .iload_n 2, 1) :: (89, .ifCond .lt 11, 3) :: (92, .aload_n 0, 1) :: (93, .getfield 67, 3) :: (96, .iload_n 3, 1) :: (97, .invokevirtual 151, 3) :: (100, .iload_n 2, 1) :: (101, .ireturn, 1) :: [])
set_option maxRecDepth 100000 in
def mX8_badlyBehind : zMeth := (yX8_badlyBehind, cX8_badlyBehind, 6, (some .int), 8, (0, .iconst 0, 1) :: (1, .istore_n 1, 1) :: (2, .iconst 0, 1) :: (3, .istore_n 2, 1) :: (4, .iload_n 2, 1) :: (5, .aload_n 0, 1) :: (6, .getfield 9, 3) :: (9, .if_icmp .ge 77, 3) :: (12, .aload_n 0, 1) :: (13, .getfield 25, 3) :: (16, .iload_n 2, 1) :: (17, .iaload, 1) :: (18, .istore_n 3, 1) :: (19, .iload_n 3, 1) :: (20, .iconst (-1), 1) :: (21, .if_icmp .ne 7, 3) :: (24, .iconst (-1), 1) :: (25, .goto 11, 3) :: (28, .aload_n 0, 1) :: (29, .getfield 63, 3) :: (32, .iload_n 3, 1) :: (33, .invokevirtual 154, 3) :: (36, .istore 4, 2) :: (38, .iload 4, 2) :: (40, .iconst (-1), 1) :: (41, .if_icmp .eq 39, 3) :: (44, .aload_n 0, 1) :: (45, .iload 4, 2) :: (47, .invokevirtual 157, 3) :: (50, .istore 5, 2) :: (52, .iload 5, 2) :: (54, .iconst (-1), 1) :: (55, .if_icmp .eq 19, 3) :: (58, .aload_n 0, 1) :: (59, .getfield 15, 3) :: (62, .iload 5, 2) :: (64, .iaload, 1) :: (65, .aload_n 0, 1) :: (66, .getfield 15, 3) :: (69, .iload_n 2, 1) :: (70, .iaload, 1) :: (71, .if_icmp .le 9, 3) :: (74, .iload_n 1, 1) :: (75, .iconst 1, 1) :: (76, .iload_n 3, 1) :: (77, .ishl, 1) :: (78, .ior, 1) :: (79, .istore_n 1, 1) :: (80, .iinc 2 1, 3) :: (83, .goto (-79), 3) :: (86, .iload_n 1, 1) :: (87, .ireturn, 1) :: [])
set_option maxRecDepth 100000 in
def mX8_fewestCrews : zMeth := (yX8_fewestCrews, cX8_fewestCrews, 5, (some .int), 8, (0, .iconst 0, 1) :: (1, .istore_n 3, 1) :: (2, .iload_n 3, 1) :: (3, .aload_n 0, 1) :: (4, .getfield 9, 3) :: (7, .if_icmp .ge 78, 3) :: (10, .aload_n 0, 1) :: (11, .getfield 22, 3) :: (14, .iload_n 3, 1) :: (15, .iaload, 1) :: (16, .iload_n 2, 1) :: (17, .if_icmp .le 6, 3) :: (20, .bipush (-2), 2) :: (22, .ireturn, 1) :: (23, .aload_n 0, 1) :: (24, .getfield 50, 3) :: (27, .iload_n 3, 1) :: (28, .iconst 0, 1) :: (29, .iastore, 1) :: (30, .iconst 0, 1) :: (31, .istore 4, 2) :: (33, .iload 4, 2) :: (35, .aload_n 0, 1) :: (36, .getfield 9, 3) :: (39, .if_icmp .ge 40, 3) :: (42, .iload 4, 2) :: (44, .iload_n 3, 1) :: (45, .if_icmp .eq 28, 3) :: (48, .aload_n 0, 1) :: (49, .iload_n 3, 1) :: (50, .iload 4, 2) :: (52, .iload_n 1, 1) :: (53, .iload_n 2, 1) :: (54, .invokevirtual 160, 3) :: (57, .ifCond .ne 16, 3) :: (60, .aload_n 0, 1) :: (61, .getfield 50, 3) :: (64, .iload_n 3, 1) :: (65, .dup2, 1) :: (66, .iaload, 1) :: (67, .iconst 1, 1) :: (68, .iload 4, 2) :: (70, .ishl, 1) :: (71, .ior, 1) :: (72, .iastore, 1) :: (73, .iinc 4 1, 3) :: (76, .goto (-43), 3) :: (79, .iinc 3 1, 3) :: (82, .goto (-80), 3) :: (85, .iconst 0, 1) :: (86, .istore_n 3, 1) :: (87, .aload_n 0, 1) :: (88, .getfield 47, 3) :: (91, .iconst 0, 1) :: (92, .invokestatic 71, 3) :: (95, .iload_n 3, 1) :: (96, .aload_n 0, 1) :: (97, .getfield 9, 3) :: (100, .if_icmp .ge 19, 3) :: (103, .aload_n 0, 1) :: (104, .iconst 0, 1) :: (105, .iconst 0, 1) :: (106, .iload_n 3, 1) :: (107, .invokevirtual 164, 3) :: (110, .ifCond .ne 9, 3) :: (113, .iinc 3 1, 3) :: (116, .goto (-21), 3) :: (119, .iload_n 3, 1) :: (120, .aload_n 0, 1) :: (121, .getfield 9, 3) :: (124, .if_icmp .ne 11, 3) :: (127, .aload_n 0, 1) :: (128, .iconst 0, 1) :: (129, .iconst 0, 1) :: (130, .iload_n 3, 1) :: (131, .invokevirtual 164, 3) :: (134, .pop, 1) :: (135, .aload_n 0, 1) :: (136, .getfield 67, 3) :: (139, .invokevirtual 168, 3) :: (142, .iconst 0, 1) :: (143, .istore 4, 2) :: (145, .iload 4, 2) :: (147, .aload_n 0, 1) :: (148, .getfield 9, 3) :: (151, .if_icmp .ge 23, 3) :: (154, .aload_n 0, 1) :: (155, .getfield 67, 3) :: (158, .aload_n 0, 1) :: (159, .getfield 44, 3) :: (162, .iload 4, 2) :: (164, .iaload, 1) :: (165, .invokevirtual 137, 3) :: (168, .iinc 4 1, 3) :: (171, .goto (-26), 3) :: (174, .iload_n 3, 1) :: (175, .ireturn, 1) :: [])
set_option maxRecDepth 100000 in
def mX8_canShare : zMeth := (yX8_canShare, cX8_canShare, 8, (some .boolean), 8, (0, .aload_n 0, 1) :: (1, .getfield 15, 3) :: (4, .iload_n 1, 1) :: (5, .iaload, 1) :: (6, .aload_n 0, 1) :: (7, .getfield 15, 3) :: (10, .iload_n 2, 1) :: (11, .iaload, 1) :: (12, .if_icmp .gt 7, 3) :: (15, .iload_n 1, 1) :: (16, .goto 4, 3) :: (19, .iload_n 2, 1) :: (20, .istore 5, 2) :: (22, .iload 5, 2) :: (24, .iload_n 1, 1) :: (25, .if_icmp .ne 7, 3) :: (28, .iload_n 2, 1) :: (29, .goto 4, 3) :: (32, .iload_n 1, 1) :: (33, .istore 6, 2) :: (35, .aload_n 0, 1) :: (36, .getfield 15, 3) :: (39, .iload 6, 2) :: (41, .iaload, 1) :: (42, .aload_n 0, 1) :: (43, .getfield 22, 3) :: (46, .iload 6, 2) :: (48, .iaload, 1) :: (49, .iadd, 1) :: (50, .istore 7, 2) :: (52, .aload_n 0, 1) :: (53, .getfield 15, 3) :: (56, .iload 6, 2) :: (58, .iaload, 1) :: (59, .aload_n 0, 1) :: (60, .getfield 15, 3) :: (63, .iload 5, 2) :: (65, .iaload, 1) :: (66, .aload_n 0, 1) :: (67, .getfield 22, 3) :: (70, .iload 5, 2) :: (72, .iaload, 1) :: (73, .iadd, 1) :: (74, .iload_n 3, 1) :: (75, .iadd, 1) :: (76, .if_icmp .lt 22, 3) :: (79, .iload 7, 2) :: (81, .aload_n 0, 1) :: (82, .getfield 15, 3) :: (85, .iload 5, 2) :: (87, .iaload, 1) :: (88, .isub, 1) :: (89, .iload 4, 2) :: (91, .if_icmp .gt 7, 3) :: (94, .iconst 1, 1) :: (95, .goto 4, 3) :: (98, .iconst 0, 1) :: (99, .ireturn, 1) :: [])
set_option maxRecDepth 100000 in
def mX8_canCrew : zMeth := (yX8_canCrew, cX8_canCrew, 6, (some .boolean), 8, (0, .iload_n 1, 1) :: (1, .aload_n 0, 1) :: (2, .getfield 9, 3) :: (5, .if_icmp .lt 5, 3) :: (8, .iconst 1, 1) :: (9, .ireturn, 1) :: (10, .iconst 0, 1) :: (11, .istore 4, 2) :: (13, .iload 4, 2) :: (15, .iload_n 2, 1) :: (16, .if_icmp .gt 93, 3) :: (19, .iload 4, 2) :: (21, .iload_n 3, 1) :: (22, .if_icmp .ge 87, 3) :: (25, .aload_n 0, 1) :: (26, .getfield 47, 3) :: (29, .iload 4, 2) :: (31, .iaload, 1) :: (32, .aload_n 0, 1) :: (33, .getfield 50, 3) :: (36, .iload_n 1, 1) :: (37, .iaload, 1) :: (38, .iand, 1) :: (39, .ifCond .ne 64, 3) :: (42, .aload_n 0, 1) :: (43, .getfield 44, 3) :: (46, .iload_n 1, 1) :: (47, .iload 4, 2) :: (49, .iastore, 1) :: (50, .aload_n 0, 1) :: (51, .getfield 47, 3) :: (54, .iload 4, 2) :: (56, .dup2, 1) :: (57, .iaload, 1) :: (58, .iconst 1, 1) :: (59, .iload_n 1, 1) :: (60, .ishl, 1) :: (61, .ior, 1) :: (62, .iastore, 1) :: (63, .aload_n 0, 1) :: (64, .iload_n 1, 1) :: (65, .iconst 1, 1) :: (66, .iadd, 1) :: (67, .iload_n 2, 1) :: (68, .iload 4, 2) :: (70, .iconst 1, 1) :: (71, .iadd, 1) :: (72, .invokestatic 171, 3) :: (75, .iload_n 3, 1) :: (76, .invokevirtual 164, 3) :: (79, .istore 5, 2) :: (81, .aload_n 0, 1) :: (82, .getfield 47, 3) :: (85, .iload 4, 2) :: (87, .dup2, 1) :: (88, .iaload, 1) :: (89, .iconst 1, 1) :: (90, .iload_n 1, 1) :: (91, .ishl, 1) :: (92, .iconst (-1), 1) :: (93, .ixor, 1) :: (94, .iand, 1) :: (95, .iastore, 1) :: (96, .iload 5, 2) :: (98, .ifCond .eq 5, 3) :: (101, .iconst 1, 1) :: (102, .ireturn, 1) :: (103, .iinc 4 1, 3) :: (106, .goto (-93), 3) :: (109, .iconst 0, 1) :: (110, .ireturn, 1) :: [])
set_option maxRecDepth 100000 in
def mX8_beginFires : zMeth := (yX8_beginFires, cX8_beginFires, 9, (some .int), 8, (0, .aload_n 0, 1) :: (1, .getfield 56, 3) :: (4, .ldc 143, 2) :: (6, .invokestatic 71, 3) :: (9, .iconst 0, 1) :: (10, .istore_n 3, 1) :: (11, .iconst 0, 1) :: (12, .istore 4, 2) :: (14, .iload 4, 2) :: (16, .aload_n 0, 1) :: (17, .getfield 9, 3) :: (20, .if_icmp .ge 54, 3) :: (23, .aload_n 0, 1) :: (24, .getfield 53, 3) :: (27, .iload 4, 2) :: (29, .iconst (-1), 1) :: (30, .iastore, 1) :: (31, .aload_n 0, 1) :: (32, .getfield 25, 3) :: (35, .iload 4, 2) :: (37, .iaload, 1) :: (38, .iconst (-1), 1) :: (39, .if_icmp .eq 29, 3) :: (42, .aload_n 0, 1) :: (43, .getfield 63, 3) :: (46, .getfield 77, 3) :: (49, .aload_n 0, 1) :: (50, .getfield 25, 3) :: (53, .iload 4, 2) :: (55, .iaload, 1) :: (56, .iaload, 1) :: (57, .iconst (-1), 1) :: (58, .if_icmp .ne 10, 3) :: (61, .iload_n 3, 1) :: (62, .iconst 1, 1) :: (63, .iload 4, 2) :: (65, .ishl, 1) :: (66, .ior, 1) :: (67, .istore_n 3, 1) :: (68, .iinc 4 1, 3) :: (71, .goto (-57), 3) :: (74, .iload_n 3, 1) :: (75, .ifCond .ne 9, 3) :: (78, .sipush (-5000), 3) :: (81, .goto 5, 3) :: (84, .ldc 143, 2) :: (86, .istore 4, 2) :: (88, .iconst 0, 1) :: (89, .istore 5, 2) :: (91, .iload 5, 2) :: (93, .aload_n 0, 1) :: (94, .getfield 9, 3) :: (97, .if_icmp .ge 121, 3) :: (100, .iload_n 3, 1) :: (101, .ifCond .eq 117, 3) :: (104, .aload_n 0, 1) :: (105, .iload_n 3, 1) :: (106, .invokevirtual 175, 3) :: (109, .istore 6, 2) :: (111, .iconst 0, 1) :: (112, .istore 7, 2) :: (114, .iconst 1, 1) :: (115, .istore 8, 2) :: (117, .iload 8, 2) :: (119, .iload_n 2, 1) :: (120, .if_icmp .ge 30, 3) :: (123, .aload_n 0, 1) :: (124, .getfield 56, 3) :: (127, .iload 8, 2) :: (129, .iaload, 1) :: (130, .aload_n 0, 1) :: (131, .getfield 56, 3) :: (134, .iload 7, 2) :: (136, .iaload, 1) :: (137, .if_icmp .le 7, 3) :: (140, .iload 8, 2) :: (142, .istore 7, 2) :: (144, .iinc 8 1, 3) :: (147, .goto (-30), 3) :: (150, .aload_n 0, 1) :: (151, .getfield 53, 3) :: (154, .iload 6, 2) :: (156, .aload_n 0, 1) :: (157, .iload 6, 2) :: (159, .invokevirtual 178, 3) :: (162, .aload_n 0, 1) :: (163, .getfield 56, 3) :: (166, .iload 7, 2) :: (168, .iaload, 1) :: (169, .invokestatic 181, 3) :: (172, .iload_n 1, 1) :: (173, .isub, 1) :: (174, .iastore, 1) :: (175, .aload_n 0, 1) :: (176, .getfield 56, 3) :: (179, .iload 7, 2) :: (181, .aload_n 0, 1) :: (182, .getfield 53, 3) :: (185, .iload 6, 2) :: (187, .iaload, 1) :: (188, .iastore, 1) :: (189, .iload 4, 2) :: (191, .aload_n 0, 1) :: (192, .getfield 53, 3) :: (195, .iload 6, 2) :: (197, .iaload, 1) :: (198, .invokestatic 181, 3) :: (201, .istore 4, 2) :: (203, .iload_n 3, 1) :: (204, .iconst 1, 1) :: (205, .iload 6, 2) :: (207, .ishl, 1) :: (208, .iconst (-1), 1) :: (209, .ixor, 1) :: (210, .iand, 1) :: (211, .istore_n 3, 1) :: (212, .iinc 5 1, 3) :: (215, .goto (-124), 3) :: (218, .iload 4, 2) :: (220, .ireturn, 1) :: [])
set_option maxRecDepth 100000 in
def mX8_litBy : zMeth := (yX8_litBy, cX8_litBy, 2, (some .int), 8, (0, .aload_n 0, 1) :: (1, .getfield 15, 3) :: (4, .iload_n 1, 1) :: (5, .iaload, 1) :: (6, .aload_n 0, 1) :: (7, .getfield 59, 3) :: (10, .getfield 89, 3) :: (13, .getfield 98, 3) :: (16, .aload_n 0, 1) :: (17, .getfield 25, 3) :: (20, .iload_n 1, 1) :: (21, .iaload, 1) :: (22, .iaload, 1) :: (23, .isub, 1) :: (24, .ireturn, 1) :: [])
set_option maxRecDepth 100000 in
def mX8_latestOf : zMeth := (yX8_latestOf, cX8_latestOf, 4, (some .int), 8, (0, .iconst (-1), 1) :: (1, .istore_n 2, 1) :: (2, .iconst 0, 1) :: (3, .istore_n 3, 1) :: (4, .iload_n 3, 1) :: (5, .aload_n 0, 1) :: (6, .getfield 9, 3) :: (9, .if_icmp .ge 37, 3) :: (12, .iload_n 1, 1) :: (13, .iload_n 3, 1) :: (14, .ishr, 1) :: (15, .iconst 1, 1) :: (16, .iand, 1) :: (17, .ifCond .eq 23, 3) :: (20, .iload_n 2, 1) :: (21, .iconst (-1), 1) :: (22, .if_icmp .eq 16, 3) :: (25, .aload_n 0, 1) :: (26, .iload_n 3, 1) :: (27, .invokevirtual 178, 3) :: (30, .aload_n 0, 1) :: (31, .iload_n 2, 1) :: (32, .invokevirtual 178, 3) :: (35, .if_icmp .lt 5, 3) :: (38, .iload_n 3, 1) :: (39, .istore_n 2, 1) :: (40, .iinc 3 1, 3) :: (43, .goto (-39), 3) :: (46, .iload_n 2, 1) :: (47, .ireturn, 1) :: [])
set_option maxRecDepth 100000 in
def mX8_tellFires : zMeth := (yX8_tellFires, cX8_tellFires, 2, none, 8, (0, .aload_n 0, 1) :: (1, .getfield 67, 3) :: (4, .invokevirtual 168, 3) :: (7, .iconst 0, 1) :: (8, .istore_n 1, 1) :: (9, .iload_n 1, 1) :: (10, .aload_n 0, 1) :: (11, .getfield 9, 3) :: (14, .if_icmp .ge 22, 3) :: (17, .aload_n 0, 1) :: (18, .getfield 67, 3) :: (21, .aload_n 0, 1) :: (22, .getfield 53, 3) :: (25, .iload_n 1, 1) :: (26, .iaload, 1) :: (27, .invokevirtual 137, 3) :: (30, .iinc 1 1, 3) :: (33, .goto (-24), 3) :: (36, .return_, 1) :: [])
set_option maxRecDepth 100000 in
def mX8_fewestMen : zMeth := (yX8_fewestMen, cX8_fewestMen, 4, (some .int), 8, (0, .iconst 1, 1) :: (1, .istore_n 2, 1) :: (2, .iload_n 2, 1) :: (3, .bipush 6, 2) :: (5, .if_icmp .gt 36, 3) :: (8, .aload_n 0, 1) :: (9, .iload_n 1, 1) :: (10, .iload_n 2, 1) :: (11, .invokevirtual 183, 3) :: (14, .istore_n 3, 1) :: (15, .iload_n 3, 1) :: (16, .sipush (-5000), 3) :: (19, .if_icmp .eq 14, 3) :: (22, .iload_n 3, 1) :: (23, .aload_n 0, 1) :: (24, .getfield 63, 3) :: (27, .getfield 82, 3) :: (30, .if_icmp .lt 5, 3) :: (33, .iload_n 2, 1) :: (34, .ireturn, 1) :: (35, .iinc 2 1, 3) :: (38, .goto (-36), 3) :: (41, .bipush (-2), 2) :: (43, .ireturn, 1) :: [])
set_option maxRecDepth 100000 in
def mX9_bestOrder : zMeth := (yX9_bestOrder, cX9_bestOrder, 4, (some .int), 9, (0, .aload_n 0, 1) :: (1, .ldc 61, 2) :: (3, .putfield 24, 3) :: (6, .aload_n 0, 1) :: (7, .getfield 13, 3) :: (10, .iconst 0, 1) :: (11, .aaload, 1) :: (12, .aload_n 1, 1) :: (13, .invokevirtual 62, 3) :: (16, .aload_n 0, 1) :: (17, .iload_n 2, 1) :: (18, .iconst 0, 1) :: (19, .iconst 0, 1) :: (20, .invokevirtual 66, 3) :: (23, .aload_n 0, 1) :: (24, .getfield 24, 3) :: (27, .ldc 61, 2) :: (29, .if_icmp .ne 6, 3) :: (32, .bipush (-2), 2) :: (34, .ireturn, 1) :: (35, .aload_n 0, 1) :: (36, .getfield 56, 3) :: (39, .invokevirtual 70, 3) :: (42, .iconst 0, 1) :: (43, .istore_n 3, 1) :: (44, .iload_n 3, 1) :: (45, .iload_n 2, 1) :: (46, .invokestatic 75, 3) :: (49, .if_icmp .ge 22, 3) :: (52, .aload_n 0, 1) :: (53, .getfield 56, 3) :: (56, .aload_n 0, 1) :: (57, .getfield 21, 3) :: (60, .iload_n 3, 1) :: (61, .iaload, 1) :: (62, .invokevirtual 81, 3) :: (65, .iinc 3 1, 3) :: (68, .goto (-24), 3) :: (71, .aload_n 0, 1) :: (72, .getfield 24, 3) :: (75, .ireturn, 1) :: [])
set_option maxRecDepth 100000 in
def mX9_tryOrders : zMeth := (yX9_tryOrders, cX9_tryOrders, 9, none, 9, (0, .iload_n 1, 1) :: (1, .ifCond .ne 23, 3) :: (4, .aload_n 0, 1) :: (5, .iload_n 3, 1) :: (6, .putfield 24, 3) :: (9, .aload_n 0, 1) :: (10, .getfield 17, 3) :: (13, .iconst 0, 1) :: (14, .aload_n 0, 1) :: (15, .getfield 21, 3) :: (18, .iconst 0, 1) :: (19, .iload_n 2, 1) :: (20, .invokestatic 85, 3) :: (23, .return_, 1) :: (24, .iload_n 2, 1) :: (25, .iconst 5, 1) :: (26, .if_icmp .lt 4, 3) :: (29, .return_, 1) :: (30, .aload_n 0, 1) :: (31, .getfield 13, 3) :: (34, .iload_n 2, 1) :: (35, .aaload, 1) :: (36, .astore 4, 2) :: (38, .aload_n 0, 1) :: (39, .getfield 13, 3) :: (42, .iload_n 2, 1) :: (43, .iconst 1, 1) :: (44, .iadd, 1) :: (45, .aaload, 1) :: (46, .astore 5, 2) :: (48, .iconst 0, 1) :: (49, .istore 6, 2) :: (51, .iload 6, 2) :: (53, .bipush 12, 2) :: (55, .if_icmp .ge 121, 3) :: (58, .iload_n 1, 1) :: (59, .iload 6, 2) :: (61, .ishr, 1) :: (62, .iconst 1, 1) :: (63, .iand, 1) :: (64, .ifCond .ne 6, 3) :: (67, .goto 103, 3) :: (70, .aload 4, 2) :: (72, .iload 6, 2) :: (74, .invokevirtual 91, 3) :: (77, .istore 7, 2) :: (79, .iload 7, 2) :: (81, .ifCond .eq 7, 3) :: (84, .iconst 0, 1) :: (85, .goto 14, 3) :: (88, .aload_n 0, 1) :: (89, .getfield 52, 3) :: (92, .aload 4, 2) :: (94, .iload 6, 2) :: (96, .invokevirtual 95, 3) :: (99, .istore 8, 2) :: (101, .iload 8, 2) :: (103, .ifCond .lt 67, 3) :: (106, .iload_n 3, 1) :: (107, .iload 8, 2) :: (109, .iadd, 1) :: (110, .aload_n 0, 1) :: (111, .getfield 24, 3) :: (114, .if_icmp .lt 6, 3) :: (117, .goto 53, 3) :: (120, .aload 5, 2) :: (122, .aload 4, 2) :: (124, .invokevirtual 62, 3) :: (127, .iload 7, 2) :: (129, .ifCond .ne 14, 3) :: (132, .aload_n 0, 1) :: (133, .getfield 52, 3) :: (136, .aload 5, 2) :: (138, .iload 6, 2) :: (140, .invokevirtual 101, 3) :: (143, .aload_n 0, 1) :: (144, .getfield 17, 3) :: (147, .iload_n 2, 1) :: (148, .iload 6, 2) :: (150, .iastore, 1) :: (151, .aload_n 0, 1) :: (152, .iload_n 1, 1) :: (153, .iconst 1, 1) :: (154, .iload 6, 2) :: (156, .ishl, 1) :: (157, .iconst (-1), 1) :: (158, .ixor, 1) :: (159, .iand, 1) :: (160, .iload_n 2, 1) :: (161, .iconst 1, 1) :: (162, .iadd, 1) :: (163, .iload_n 3, 1) :: (164, .iload 8, 2) :: (166, .iadd, 1) :: (167, .invokevirtual 66, 3) :: (170, .iinc 6 1, 3) :: (173, .goto (-122), 3) :: (176, .return_, 1) :: [])
set_option maxRecDepth 100000 in
def mX9_emptied : zMeth := (yX9_emptied, cX9_emptied, 5, (some .int), 9, (0, .aload_n 1, 1) :: (1, .getfield 105, 3) :: (4, .iload_n 2, 1) :: (5, .iaload, 1) :: (6, .istore_n 3, 1) :: (7, .aload_n 1, 1) :: (8, .getfield 108, 3) :: (11, .iload_n 2, 1) :: (12, .iaload, 1) :: (13, .istore 4, 2) :: (15, .iload_n 3, 1) :: (16, .iconst (-1), 1) :: (17, .if_icmp .ne 12, 3) :: (20, .aload_n 0, 1) :: (21, .getfield 56, 3) :: (24, .invokevirtual 70, 3) :: (27, .iconst 0, 1) :: (28, .ireturn, 1) :: (29, .aload_n 0, 1) :: (30, .ldc 61, 2) :: (32, .putfield 24, 3) :: (35, .aload_n 0, 1) :: (36, .iconst (-1), 1) :: (37, .putfield 28, 3) :: (40, .iload 4, 2) :: (42, .iconst (-1), 1) :: (43, .if_icmp .ne 14, 3) :: (46, .aload_n 0, 1) :: (47, .aload_n 1, 1) :: (48, .iload_n 3, 1) :: (49, .iconst 0, 1) :: (50, .iconst (-1), 1) :: (51, .invokevirtual 111, 3) :: (54, .goto 26, 3) :: (57, .aload_n 0, 1) :: (58, .getfield 52, 3) :: (61, .aload_n 1, 1) :: (62, .iload 4, 2) :: (64, .aload_n 1, 1) :: (65, .getfield 115, 3) :: (68, .invokevirtual 118, 3) :: (71, .ifCond .eq 9, 3) :: (74, .aload_n 0, 1) :: (75, .aload_n 1, 1) :: (76, .iload_n 2, 1) :: (77, .invokevirtual 122, 3) :: (80, .aload_n 0, 1) :: (81, .getfield 24, 3) :: (84, .ldc 61, 2) :: (86, .if_icmp .ne 6, 3) :: (89, .bipush (-2), 2) :: (91, .ireturn, 1) :: (92, .aload_n 0, 1) :: (93, .getfield 56, 3) :: (96, .invokevirtual 70, 3) :: (99, .iload 4, 2) :: (101, .iconst (-1), 1) :: (102, .if_icmp .eq 14, 3) :: (105, .aload_n 0, 1) :: (106, .getfield 56, 3) :: (109, .aload_n 0, 1) :: (110, .getfield 28, 3) :: (113, .invokevirtual 81, 3) :: (116, .aload_n 0, 1) :: (117, .getfield 56, 3) :: (120, .aload_n 0, 1) :: (121, .getfield 31, 3) :: (124, .invokevirtual 81, 3) :: (127, .aload_n 0, 1) :: (128, .getfield 24, 3) :: (131, .ireturn, 1) :: [])
set_option maxRecDepth 100000 in
def mX9_tryBothAway : zMeth := (yX9_tryBothAway, cX9_tryBothAway, 7, none, 9, (0, .aload_n 1, 1) :: (1, .getfield 108, 3) :: (4, .iload_n 2, 1) :: (5, .iaload, 1) :: (6, .istore_n 3, 1) :: (7, .aload_n 0, 1) :: (8, .getfield 13, 3) :: (11, .iconst 0, 1) :: (12, .aaload, 1) :: (13, .astore 4, 2) :: (15, .iconst 0, 1) :: (16, .istore 5, 2) :: (18, .iload 5, 2) :: (20, .aload_n 0, 1) :: (21, .getfield 52, 3) :: (24, .getfield 125, 3) :: (27, .getfield 129, 3) :: (30, .if_icmp .gt 87, 3) :: (33, .aload_n 0, 1) :: (34, .getfield 52, 3) :: (37, .aload_n 1, 1) :: (38, .iload_n 2, 1) :: (39, .iload 5, 2) :: (41, .invokevirtual 134, 3) :: (44, .istore 6, 2) :: (46, .iload 5, 2) :: (48, .iload_n 2, 1) :: (49, .if_icmp .eq 62, 3) :: (52, .iload 6, 2) :: (54, .aload_n 0, 1) :: (55, .getfield 24, 3) :: (58, .if_icmp .ge 53, 3) :: (61, .aload_n 0, 1) :: (62, .getfield 52, 3) :: (65, .aload_n 1, 1) :: (66, .iload_n 3, 1) :: (67, .iload 5, 2) :: (69, .invokevirtual 138, 3) :: (72, .ifCond .eq 39, 3) :: (75, .aload 4, 2) :: (77, .aload_n 1, 1) :: (78, .invokevirtual 62, 3) :: (81, .aload_n 0, 1) :: (82, .getfield 52, 3) :: (85, .aload 4, 2) :: (87, .iload_n 3, 1) :: (88, .iload 5, 2) :: (90, .iconst 1, 1) :: (91, .invokevirtual 141, 3) :: (94, .pop, 1) :: (95, .aload_n 0, 1) :: (96, .aload 4, 2) :: (98, .aload_n 1, 1) :: (99, .getfield 105, 3) :: (102, .iload_n 2, 1) :: (103, .iaload, 1) :: (104, .iload 6, 2) :: (106, .iload 5, 2) :: (108, .invokevirtual 111, 3) :: (111, .iinc 5 1, 3) :: (114, .goto (-96), 3) :: (117, .return_, 1) :: [])
set_option maxRecDepth 100000 in
def mX9_tryLastAway : zMeth := (yX9_tryLastAway, cX9_tryLastAway, 8, none, 9, (0, .aload_n 0, 1) :: (1, .getfield 52, 3) :: (4, .aload_n 1, 1) :: (5, .iload_n 2, 1) :: (6, .aload_n 1, 1) :: (7, .getfield 115, 3) :: (10, .invokevirtual 118, 3) :: (13, .ifCond .ne 4, 3) :: (16, .return_, 1) :: (17, .aload_n 1, 1) :: (18, .getfield 145, 3) :: (21, .iload_n 2, 1) :: (22, .iaload, 1) :: (23, .istore 5, 2) :: (25, .iconst 0, 1) :: (26, .istore 6, 2) :: (28, .iload 6, 2) :: (30, .aload_n 0, 1) :: (31, .getfield 52, 3) :: (34, .getfield 125, 3) :: (37, .getfield 129, 3) :: (40, .if_icmp .gt 73, 3) :: (43, .iload_n 3, 1) :: (44, .aload_n 0, 1) :: (45, .getfield 52, 3) :: (48, .aload_n 1, 1) :: (49, .iload 5, 2) :: (51, .iload 6, 2) :: (53, .invokevirtual 134, 3) :: (56, .iadd, 1) :: (57, .istore 7, 2) :: (59, .iload 6, 2) :: (61, .iload 5, 2) :: (63, .if_icmp .eq 44, 3) :: (66, .iload 7, 2) :: (68, .aload_n 0, 1) :: (69, .getfield 24, 3) :: (72, .if_icmp .ge 35, 3) :: (75, .aload_n 0, 1) :: (76, .getfield 52, 3) :: (79, .aload_n 1, 1) :: (80, .iload_n 2, 1) :: (81, .iload 6, 2) :: (83, .invokevirtual 138, 3) :: (86, .ifCond .eq 21, 3) :: (89, .aload_n 0, 1) :: (90, .iload 7, 2) :: (92, .putfield 24, 3) :: (95, .aload_n 0, 1) :: (96, .iload 4, 2) :: (98, .putfield 28, 3) :: (101, .aload_n 0, 1) :: (102, .iload 6, 2) :: (104, .putfield 31, 3) :: (107, .iinc 6 1, 3) :: (110, .goto (-82), 3) :: (113, .return_, 1) :: [])
set_option maxRecDepth 100000 in
def mX9_underHoods : zMeth := (yX9_underHoods, cX9_underHoods, 4, (some .int), 9, (0, .aload_n 0, 1) :: (1, .getfield 52, 3) :: (4, .aload_n 1, 1) :: (5, .invokevirtual 148, 3) :: (8, .istore_n 2, 1) :: (9, .iload_n 2, 1) :: (10, .invokestatic 75, 3) :: (13, .istore_n 3, 1) :: (14, .iload_n 3, 1) :: (15, .ifCond .ne 12, 3) :: (18, .aload_n 0, 1) :: (19, .getfield 56, 3) :: (22, .invokevirtual 70, 3) :: (25, .iconst 0, 1) :: (26, .ireturn, 1) :: (27, .iload_n 3, 1) :: (28, .iconst 2, 1) :: (29, .if_icmp .le 6, 3) :: (32, .bipush (-2), 2) :: (34, .ireturn, 1) :: (35, .aload_n 0, 1) :: (36, .ldc 61, 2) :: (38, .putfield 24, 3) :: (41, .iload_n 3, 1) :: (42, .iconst 1, 1) :: (43, .if_icmp .ne 38, 3) :: (46, .aload_n 0, 1) :: (47, .aload_n 1, 1) :: (48, .iload_n 2, 1) :: (49, .iconst 0, 1) :: (50, .iconst (-1), 1) :: (51, .iconst (-1), 1) :: (52, .invokevirtual 152, 3) :: (55, .aload_n 0, 1) :: (56, .getfield 24, 3) :: (59, .ldc 61, 2) :: (61, .if_icmp .ge 20, 3) :: (64, .aload_n 0, 1) :: (65, .getfield 56, 3) :: (68, .aload_n 0, 1) :: (69, .getfield 37, 3) :: (72, .aload_n 0, 1) :: (73, .getfield 31, 3) :: (76, .invokevirtual 156, 3) :: (79, .iconst 1, 1) :: (80, .ireturn, 1) :: (81, .aload_n 0, 1) :: (82, .aload_n 1, 1) :: (83, .iload_n 2, 1) :: (84, .invokevirtual 160, 3) :: (87, .aload_n 0, 1) :: (88, .getfield 24, 3) :: (91, .ldc 61, 2) :: (93, .if_icmp .ne 6, 3) :: (96, .bipush (-2), 2) :: (98, .ireturn, 1) :: (99, .aload_n 0, 1) :: (100, .getfield 56, 3) :: (103, .aload_n 0, 1) :: (104, .getfield 34, 3) :: (107, .aload_n 0, 1) :: (108, .getfield 28, 3) :: (111, .invokevirtual 156, 3) :: (114, .aload_n 0, 1) :: (115, .getfield 56, 3) :: (118, .aload_n 0, 1) :: (119, .getfield 37, 3) :: (122, .invokevirtual 81, 3) :: (125, .aload_n 0, 1) :: (126, .getfield 56, 3) :: (129, .aload_n 0, 1) :: (130, .getfield 31, 3) :: (133, .invokevirtual 81, 3) :: (136, .iconst 2, 1) :: (137, .ireturn, 1) :: [])
set_option maxRecDepth 100000 in
def mX9_tryTwoUnder : zMeth := (yX9_tryTwoUnder, cX9_tryTwoUnder, 10, none, 9, (0, .aload_n 0, 1) :: (1, .getfield 13, 3) :: (4, .iconst 0, 1) :: (5, .aaload, 1) :: (6, .astore_n 3, 1) :: (7, .iconst 0, 1) :: (8, .istore 4, 2) :: (10, .iload 4, 2) :: (12, .aload_n 0, 1) :: (13, .getfield 52, 3) :: (16, .getfield 163, 3) :: (19, .getfield 167, 3) :: (22, .if_icmp .ge 200, 3) :: (25, .aload_n 1, 1) :: (26, .iload 4, 2) :: (28, .invokevirtual 172, 3) :: (31, .iconst (-1), 1) :: (32, .if_icmp .ne 184, 3) :: (35, .aload_n 0, 1) :: (36, .getfield 52, 3) :: (39, .aload_n 1, 1) :: (40, .iload 4, 2) :: (42, .aload_n 1, 1) :: (43, .getfield 115, 3) :: (46, .invokevirtual 118, 3) :: (49, .ifCond .ne 6, 3) :: (52, .goto 164, 3) :: (55, .aload_n 0, 1) :: (56, .getfield 52, 3) :: (59, .aload_n 1, 1) :: (60, .iload 4, 2) :: (62, .invokevirtual 175, 3) :: (65, .istore 5, 2) :: (67, .iconst 0, 1) :: (68, .istore 6, 2) :: (70, .iload 6, 2) :: (72, .aload_n 0, 1) :: (73, .getfield 52, 3) :: (76, .getfield 125, 3) :: (79, .getfield 129, 3) :: (82, .if_icmp .ge 134, 3) :: (85, .aload_n 0, 1) :: (86, .getfield 52, 3) :: (89, .aload_n 1, 1) :: (90, .iload 6, 2) :: (92, .invokevirtual 178, 3) :: (95, .ifCond .eq 7, 3) :: (98, .iconst 0, 1) :: (99, .goto 7, 3) :: (102, .iconst 1, 1) :: (103, .iload 4, 2) :: (105, .ishl, 1) :: (106, .istore 7, 2) :: (108, .iload_n 2, 1) :: (109, .iconst 1, 1) :: (110, .iload 4, 2) :: (112, .ishl, 1) :: (113, .iconst (-1), 1) :: (114, .ixor, 1) :: (115, .iand, 1) :: (116, .iload 7, 2) :: (118, .ior, 1) :: (119, .istore 8, 2) :: (121, .iload 6, 2) :: (123, .iload 5, 2) :: (125, .if_icmp .eq 85, 3) :: (128, .iload 8, 2) :: (130, .invokestatic 75, 3) :: (133, .iconst 1, 1) :: (134, .if_icmp .eq 6, 3) :: (137, .goto 73, 3) :: (140, .aload_n 0, 1) :: (141, .getfield 52, 3) :: (144, .aload_n 1, 1) :: (145, .iload 5, 2) :: (147, .iload 6, 2) :: (149, .invokevirtual 134, 3) :: (152, .istore 9, 2) :: (154, .iload 9, 2) :: (156, .aload_n 0, 1) :: (157, .getfield 24, 3) :: (160, .if_icmp .ge 50, 3) :: (163, .aload_n 0, 1) :: (164, .getfield 52, 3) :: (167, .aload_n 1, 1) :: (168, .iload 6, 2) :: (170, .iload 4, 2) :: (172, .invokevirtual 182, 3) :: (175, .ifCond .eq 35, 3) :: (178, .aload_n 3, 1) :: (179, .aload_n 1, 1) :: (180, .invokevirtual 62, 3) :: (183, .aload_n 0, 1) :: (184, .getfield 52, 3) :: (187, .aload_n 3, 1) :: (188, .iload 4, 2) :: (190, .iload 6, 2) :: (192, .iconst 1, 1) :: (193, .invokevirtual 141, 3) :: (196, .pop, 1) :: (197, .aload_n 0, 1) :: (198, .aload_n 3, 1) :: (199, .iload 8, 2) :: (201, .iload 9, 2) :: (203, .iload 4, 2) :: (205, .iload 6, 2) :: (207, .invokevirtual 152, 3) :: (210, .iinc 6 1, 3) :: (213, .goto (-143), 3) :: (216, .iinc 4 1, 3) :: (219, .goto (-209), 3) :: (222, .return_, 1) :: [])
set_option maxRecDepth 100000 in
def mX9_tryUnderHood : zMeth := (yX9_tryUnderHood, cX9_tryUnderHood, 10, none, 9, (0, .iload_n 2, 1) :: (1, .invokestatic 185, 3) :: (4, .istore 6, 2) :: (6, .iload 6, 2) :: (8, .aload_n 0, 1) :: (9, .getfield 52, 3) :: (12, .getfield 163, 3) :: (15, .getfield 167, 3) :: (18, .if_icmp .ge 30, 3) :: (21, .aload_n 1, 1) :: (22, .iload 6, 2) :: (24, .invokevirtual 172, 3) :: (27, .iconst (-1), 1) :: (28, .if_icmp .ne 20, 3) :: (31, .aload_n 0, 1) :: (32, .getfield 52, 3) :: (35, .aload_n 1, 1) :: (36, .iload 6, 2) :: (38, .aload_n 1, 1) :: (39, .getfield 115, 3) :: (42, .invokevirtual 118, 3) :: (45, .ifCond .ne 4, 3) :: (48, .return_, 1) :: (49, .aload_n 1, 1) :: (50, .getfield 145, 3) :: (53, .iload 6, 2) :: (55, .iaload, 1) :: (56, .istore 7, 2) :: (58, .iconst 0, 1) :: (59, .istore 8, 2) :: (61, .iload 8, 2) :: (63, .aload_n 0, 1) :: (64, .getfield 52, 3) :: (67, .getfield 125, 3) :: (70, .getfield 129, 3) :: (73, .if_icmp .ge 102, 3) :: (76, .iload 8, 2) :: (78, .iload 7, 2) :: (80, .if_icmp .eq 89, 3) :: (83, .aload_n 0, 1) :: (84, .getfield 52, 3) :: (87, .aload_n 1, 1) :: (88, .iload 8, 2) :: (90, .invokevirtual 178, 3) :: (93, .ifCond .ne 6, 3) :: (96, .goto 73, 3) :: (99, .iload_n 3, 1) :: (100, .aload_n 0, 1) :: (101, .getfield 52, 3) :: (104, .aload_n 1, 1) :: (105, .iload 7, 2) :: (107, .iload 8, 2) :: (109, .invokevirtual 134, 3) :: (112, .iadd, 1) :: (113, .istore 9, 2) :: (115, .iload 9, 2) :: (117, .aload_n 0, 1) :: (118, .getfield 24, 3) :: (121, .if_icmp .ge 48, 3) :: (124, .aload_n 0, 1) :: (125, .getfield 52, 3) :: (128, .aload_n 1, 1) :: (129, .iload 8, 2) :: (131, .iload 6, 2) :: (133, .invokevirtual 182, 3) :: (136, .ifCond .eq 33, 3) :: (139, .aload_n 0, 1) :: (140, .iload 9, 2) :: (142, .putfield 24, 3) :: (145, .aload_n 0, 1) :: (146, .iload 4, 2) :: (148, .putfield 34, 3) :: (151, .aload_n 0, 1) :: (152, .iload 5, 2) :: (154, .putfield 28, 3) :: (157, .aload_n 0, 1) :: (158, .iload 6, 2) :: (160, .putfield 37, 3) :: (163, .aload_n 0, 1) :: (164, .iload 8, 2) :: (166, .putfield 31, 3) :: (169, .iinc 8 1, 3) :: (172, .goto (-111), 3) :: (175, .return_, 1) :: [])
set_option maxRecDepth 100000 in
def mX9_fewestWarm : zMeth := (yX9_fewestWarm, cX9_fewestWarm, 6, (some .int), 9, (0, .aload_n 0, 1) :: (1, .aload_n 1, 1) :: (2, .invokevirtual 188, 3) :: (5, .putfield 46, 3) :: (8, .iconst 0, 1) :: (9, .istore_n 3, 1) :: (10, .iconst 0, 1) :: (11, .istore 4, 2) :: (13, .iload 4, 2) :: (15, .bipush 12, 2) :: (17, .if_icmp .ge 111, 3) :: (20, .aload_n 0, 1) :: (21, .getfield 40, 3) :: (24, .iload 4, 2) :: (26, .iconst 0, 1) :: (27, .iastore, 1) :: (28, .iconst 0, 1) :: (29, .istore 5, 2) :: (31, .iload 5, 2) :: (33, .bipush 12, 2) :: (35, .if_icmp .ge 69, 3) :: (38, .aload_n 1, 1) :: (39, .iload 4, 2) :: (41, .invokevirtual 91, 3) :: (44, .ifCond .ne 54, 3) :: (47, .aload_n 1, 1) :: (48, .iload 5, 2) :: (50, .invokevirtual 91, 3) :: (53, .ifCond .ne 45, 3) :: (56, .aload_n 0, 1) :: (57, .getfield 52, 3) :: (60, .getfield 125, 3) :: (63, .aload_n 1, 1) :: (64, .getfield 145, 3) :: (67, .iload 4, 2) :: (69, .iaload, 1) :: (70, .aload_n 1, 1) :: (71, .getfield 145, 3) :: (74, .iload 5, 2) :: (76, .iaload, 1) :: (77, .invokevirtual 192, 3) :: (80, .iload_n 2, 1) :: (81, .if_icmp .gt 17, 3) :: (84, .aload_n 0, 1) :: (85, .getfield 40, 3) :: (88, .iload 4, 2) :: (90, .dup2, 1) :: (91, .iaload, 1) :: (92, .iconst 1, 1) :: (93, .iload 5, 2) :: (95, .ishl, 1) :: (96, .ior, 1) :: (97, .iastore, 1) :: (98, .iinc 5 1, 3) :: (101, .goto (-70), 3) :: (104, .iload_n 3, 1) :: (105, .aload_n 0, 1) :: (106, .getfield 40, 3) :: (109, .iload 4, 2) :: (111, .iaload, 1) :: (112, .ior, 1) :: (113, .istore_n 3, 1) :: (114, .aload_n 0, 1) :: (115, .getfield 43, 3) :: (118, .iload 4, 2) :: (120, .iload_n 3, 1) :: (121, .iastore, 1) :: (122, .iinc 4 1, 3) :: (125, .goto (-112), 3) :: (128, .iconst 0, 1) :: (129, .istore 4, 2) :: (131, .iload 4, 2) :: (133, .bipush 12, 2) :: (135, .if_icmp .gt 40, 3) :: (138, .aload_n 0, 1) :: (139, .iconst 0, 1) :: (140, .putfield 49, 3) :: (143, .aload_n 0, 1) :: (144, .bipush 11, 2) :: (146, .iconst 0, 1) :: (147, .iload 4, 2) :: (149, .invokevirtual 196, 3) :: (152, .ifCond .eq 17, 3) :: (155, .aload_n 0, 1) :: (156, .getfield 56, 3) :: (159, .aload_n 0, 1) :: (160, .getfield 49, 3) :: (163, .invokevirtual 200, 3) :: (166, .iload 4, 2) :: (168, .ireturn, 1) :: (169, .iinc 4 1, 3) :: (172, .goto (-41), 3) :: (175, .bipush (-2), 2) :: (177, .ireturn, 1) :: [])
set_option maxRecDepth 100000 in
def mX9_canWarm : zMeth := (yX9_canWarm, cX9_canWarm, 4, (some .boolean), 9, (0, .iload_n 2, 1) :: (1, .aload_n 0, 1) :: (2, .getfield 46, 3) :: (5, .if_icmp .ne 5, 3) :: (8, .iconst 1, 1) :: (9, .ireturn, 1) :: (10, .iload_n 1, 1) :: (11, .ifCond .lt 22, 3) :: (14, .iload_n 3, 1) :: (15, .ifCond .eq 18, 3) :: (18, .iload_n 2, 1) :: (19, .aload_n 0, 1) :: (20, .getfield 43, 3) :: (23, .iload_n 1, 1) :: (24, .iaload, 1) :: (25, .ior, 1) :: (26, .aload_n 0, 1) :: (27, .getfield 46, 3) :: (30, .if_icmp .eq 5, 3) :: (33, .iconst 0, 1) :: (34, .ireturn, 1) :: (35, .aload_n 0, 1) :: (36, .iload_n 1, 1) :: (37, .iconst 1, 1) :: (38, .isub, 1) :: (39, .iload_n 2, 1) :: (40, .iload_n 3, 1) :: (41, .invokevirtual 196, 3) :: (44, .ifCond .eq 5, 3) :: (47, .iconst 1, 1) :: (48, .ireturn, 1) :: (49, .aload_n 0, 1) :: (50, .getfield 40, 3) :: (53, .iload_n 1, 1) :: (54, .iaload, 1) :: (55, .ifCond .eq 38, 3) :: (58, .aload_n 0, 1) :: (59, .iload_n 1, 1) :: (60, .iconst 1, 1) :: (61, .isub, 1) :: (62, .iload_n 2, 1) :: (63, .aload_n 0, 1) :: (64, .getfield 40, 3) :: (67, .iload_n 1, 1) :: (68, .iaload, 1) :: (69, .ior, 1) :: (70, .iload_n 3, 1) :: (71, .iconst 1, 1) :: (72, .isub, 1) :: (73, .invokevirtual 196, 3) :: (76, .ifCond .eq 17, 3) :: (79, .aload_n 0, 1) :: (80, .dup, 1) :: (81, .getfield 49, 3) :: (84, .iconst 1, 1) :: (85, .iload_n 1, 1) :: (86, .ishl, 1) :: (87, .ior, 1) :: (88, .putfield 49, 3) :: (91, .iconst 1, 1) :: (92, .ireturn, 1) :: (93, .iconst 0, 1) :: (94, .ireturn, 1) :: [])
set_option maxRecDepth 100000 in
def mX10_pointOf : zMeth := (yX10_pointOf, cX10_pointOf, 3, (some .int), 10, (0, .aload_n 1, 1) :: (1, .iload_n 2, 1) :: (2, .invokevirtual 33, 3) :: (5, .ifCond .eq 13, 3) :: (8, .aload_n 0, 1) :: (9, .getfield 21, 3) :: (12, .getfield 39, 3) :: (15, .goto 9, 3) :: (18, .aload_n 1, 1) :: (19, .getfield 44, 3) :: (22, .iload_n 2, 1) :: (23, .iaload, 1) :: (24, .ireturn, 1) :: [])
set_option maxRecDepth 100000 in
def mX10_lengthIn : zMeth := (yX10_lengthIn, cX10_lengthIn, 4, (some .int), 10, (0, .aload_n 1, 1) :: (1, .getfield 48, 3) :: (4, .iload_n 2, 1) :: (5, .iaload, 1) :: (6, .iconst (-1), 1) :: (7, .if_icmp .ne 7, 3) :: (10, .iconst 0, 1) :: (11, .goto 17, 3) :: (14, .aload_n 0, 1) :: (15, .getfield 25, 3) :: (18, .getfield 51, 3) :: (21, .aload_n 1, 1) :: (22, .getfield 48, 3) :: (25, .iload_n 2, 1) :: (26, .iaload, 1) :: (27, .iaload, 1) :: (28, .istore_n 3, 1) :: (29, .aload_n 1, 1) :: (30, .getfield 56, 3) :: (33, .iload_n 2, 1) :: (34, .iaload, 1) :: (35, .iconst (-1), 1) :: (36, .if_icmp .ne 7, 3) :: (39, .iload_n 3, 1) :: (40, .goto 19, 3) :: (43, .iload_n 3, 1) :: (44, .aload_n 0, 1) :: (45, .getfield 25, 3) :: (48, .getfield 51, 3) :: (51, .aload_n 1, 1) :: (52, .getfield 56, 3) :: (55, .iload_n 2, 1) :: (56, .iaload, 1) :: (57, .iaload, 1) :: (58, .iadd, 1) :: (59, .ireturn, 1) :: [])
set_option maxRecDepth 100000 in
def mX10_inSteamFrom : zMeth := (yX10_inSteamFrom, cX10_inSteamFrom, 3, (some .int), 10, (0, .aload_n 1, 1) :: (1, .getfield 59, 3) :: (4, .iload_n 2, 1) :: (5, .iaload, 1) :: (6, .aload_n 0, 1) :: (7, .getfield 25, 3) :: (10, .getfield 62, 3) :: (13, .iload_n 2, 1) :: (14, .iaload, 1) :: (15, .iadd, 1) :: (16, .ireturn, 1) :: [])
set_option maxRecDepth 100000 in
def mX10_inSteam : zMeth := (yX10_inSteam, cX10_inSteam, 4, (some .boolean), 10, (0, .aload_n 1, 1) :: (1, .getfield 59, 3) :: (4, .iload_n 2, 1) :: (5, .iaload, 1) :: (6, .iconst (-1), 1) :: (7, .if_icmp .eq 27, 3) :: (10, .iload_n 3, 1) :: (11, .aload_n 1, 1) :: (12, .getfield 59, 3) :: (15, .iload_n 2, 1) :: (16, .iaload, 1) :: (17, .isub, 1) :: (18, .aload_n 0, 1) :: (19, .getfield 25, 3) :: (22, .getfield 62, 3) :: (25, .iload_n 2, 1) :: (26, .iaload, 1) :: (27, .if_icmp .lt 7, 3) :: (30, .iconst 1, 1) :: (31, .goto 4, 3) :: (34, .iconst 0, 1) :: (35, .ireturn, 1) :: [])
set_option maxRecDepth 100000 in
def mX10_mayGo : zMeth := (yX10_mayGo, cX10_mayGo, 4, (some .boolean), 10, (0, .aload_n 0, 1) :: (1, .aload_n 1, 1) :: (2, .iload_n 2, 1) :: (3, .iload_n 3, 1) :: (4, .invokevirtual 65, 3) :: (7, .ifCond .eq 15, 3) :: (10, .aload_n 1, 1) :: (11, .iload_n 2, 1) :: (12, .invokevirtual 69, 3) :: (15, .ifCond .ne 7, 3) :: (18, .iconst 1, 1) :: (19, .goto 4, 3) :: (22, .iconst 0, 1) :: (23, .ireturn, 1) :: [])
set_option maxRecDepth 100000 in
def mX10_isHooded : zMeth := (yX10_isHooded, cX10_isHooded, 3, (some .boolean), 10, (0, .aload_n 1, 1) :: (1, .iload_n 2, 1) :: (2, .invokevirtual 33, 3) :: (5, .ifCond .ne 28, 3) :: (8, .aload_n 0, 1) :: (9, .getfield 21, 3) :: (12, .aload_n 1, 1) :: (13, .getfield 44, 3) :: (16, .iload_n 2, 1) :: (17, .iaload, 1) :: (18, .aload_n 1, 1) :: (19, .iload_n 2, 1) :: (20, .invokevirtual 72, 3) :: (23, .invokevirtual 75, 3) :: (26, .ifCond .eq 7, 3) :: (29, .iconst 1, 1) :: (30, .goto 4, 3) :: (33, .iconst 0, 1) :: (34, .ireturn, 1) :: [])
set_option maxRecDepth 100000 in
def mX10_isNextHooded : zMeth := (yX10_isNextHooded, cX10_isNextHooded, 3, (some .boolean), 10, (0, .aload_n 0, 1) :: (1, .getfield 21, 3) :: (4, .iload_n 2, 1) :: (5, .aload_n 1, 1) :: (6, .getfield 48, 3) :: (9, .iload_n 2, 1) :: (10, .iaload, 1) :: (11, .iconst (-1), 1) :: (12, .if_icmp .ne 7, 3) :: (15, .iconst 1, 1) :: (16, .goto 4, 3) :: (19, .iconst 0, 1) :: (20, .invokevirtual 75, 3) :: (23, .ireturn, 1) :: [])
set_option maxRecDepth 100000 in
def mX10_smoking : zMeth := (yX10_smoking, cX10_smoking, 4, (some .int), 10, (0, .iconst 0, 1) :: (1, .istore_n 2, 1) :: (2, .iconst 0, 1) :: (3, .istore_n 3, 1) :: (4, .iload_n 3, 1) :: (5, .aload_n 0, 1) :: (6, .getfield 25, 3) :: (9, .getfield 79, 3) :: (12, .if_icmp .ge 42, 3) :: (15, .aload_n 1, 1) :: (16, .getfield 59, 3) :: (19, .iload_n 3, 1) :: (20, .iaload, 1) :: (21, .iconst (-1), 1) :: (22, .if_icmp .eq 26, 3) :: (25, .aload_n 1, 1) :: (26, .iload_n 3, 1) :: (27, .invokevirtual 33, 3) :: (30, .ifCond .ne 18, 3) :: (33, .aload_n 0, 1) :: (34, .aload_n 1, 1) :: (35, .iload_n 3, 1) :: (36, .invokevirtual 82, 3) :: (39, .ifCond .ne 9, 3) :: (42, .iload_n 2, 1) :: (43, .iconst 1, 1) :: (44, .iload_n 3, 1) :: (45, .ishl, 1) :: (46, .ior, 1) :: (47, .istore_n 2, 1) :: (48, .iinc 3 1, 3) :: (51, .goto (-47), 3) :: (54, .iload_n 2, 1) :: (55, .ireturn, 1) :: [])
set_option maxRecDepth 100000 in
def mX10_takesIt : zMeth := (yX10_takesIt, cX10_takesIt, 4, (some .boolean), 10, (0, .aload_n 0, 1) :: (1, .getfield 21, 3) :: (4, .getfield 86, 3) :: (7, .iload_n 2, 1) :: (8, .baload, 1) :: (9, .ifCond .ne 13, 3) :: (12, .aload_n 1, 1) :: (13, .getfield 56, 3) :: (16, .iload_n 2, 1) :: (17, .iaload, 1) :: (18, .iconst (-1), 1) :: (19, .if_icmp .eq 5, 3) :: (22, .iconst 0, 1) :: (23, .ireturn, 1) :: (24, .aload_n 0, 1) :: (25, .aload_n 1, 1) :: (26, .iload_n 2, 1) :: (27, .invokevirtual 90, 3) :: (30, .aload_n 0, 1) :: (31, .getfield 25, 3) :: (34, .getfield 51, 3) :: (37, .iload_n 3, 1) :: (38, .iaload, 1) :: (39, .iadd, 1) :: (40, .aload_n 0, 1) :: (41, .getfield 21, 3) :: (44, .getfield 94, 3) :: (47, .iload_n 2, 1) :: (48, .iaload, 1) :: (49, .if_icmp .le 5, 3) :: (52, .iconst 0, 1) :: (53, .ireturn, 1) :: (54, .aload_n 0, 1) :: (55, .aload_n 1, 1) :: (56, .iload_n 2, 1) :: (57, .iload_n 3, 1) :: (58, .aload_n 1, 1) :: (59, .getfield 48, 3) :: (62, .iload_n 2, 1) :: (63, .iaload, 1) :: (64, .iconst (-1), 1) :: (65, .if_icmp .ne 7, 3) :: (68, .iconst 1, 1) :: (69, .goto 4, 3) :: (72, .iconst 0, 1) :: (73, .invokevirtual 95, 3) :: (76, .ireturn, 1) :: [])
set_option maxRecDepth 100000 in
def mX10_ruleLets : zMeth := (yX10_ruleLets, cX10_ruleLets, 6, (some .boolean), 10, (0, .aload_n 0, 1) :: (1, .getfield 29, 3) :: (4, .getfield 99, 3) :: (7, .ifCond .ne 5, 3) :: (10, .iconst 1, 1) :: (11, .ireturn, 1) :: (12, .aload_n 0, 1) :: (13, .getfield 29, 3) :: (16, .getfield 104, 3) :: (19, .astore 5, 2) :: (21, .aload 5, 2) :: (23, .iconst 0, 1) :: (24, .aload_n 0, 1) :: (25, .getfield 25, 3) :: (28, .getfield 51, 3) :: (31, .iload_n 3, 1) :: (32, .iaload, 1) :: (33, .iastore, 1) :: (34, .aload 5, 2) :: (36, .iconst 1, 1) :: (37, .aload_n 0, 1) :: (38, .getfield 25, 3) :: (41, .getfield 107, 3) :: (44, .iload_n 3, 1) :: (45, .iaload, 1) :: (46, .iastore, 1) :: (47, .aload 5, 2) :: (49, .iconst 2, 1) :: (50, .aload_n 0, 1) :: (51, .getfield 25, 3) :: (54, .getfield 110, 3) :: (57, .iload_n 3, 1) :: (58, .baload, 1) :: (59, .ifCond .eq 7, 3) :: (62, .iconst 1, 1) :: (63, .goto 4, 3) :: (66, .iconst 0, 1) :: (67, .iastore, 1) :: (68, .aload 5, 2) :: (70, .iconst 3, 1) :: (71, .aload_n 1, 1) :: (72, .iload_n 3, 1) :: (73, .invokevirtual 69, 3) :: (76, .ifCond .eq 7, 3) :: (79, .iconst 1, 1) :: (80, .goto 4, 3) :: (83, .iconst 0, 1) :: (84, .iastore, 1) :: (85, .aload 5, 2) :: (87, .iconst 4, 1) :: (88, .aload_n 0, 1) :: (89, .aload_n 1, 1) :: (90, .iload_n 3, 1) :: (91, .aload_n 1, 1) :: (92, .getfield 113, 3) :: (95, .invokevirtual 65, 3) :: (98, .ifCond .eq 7, 3) :: (101, .iconst 1, 1) :: (102, .goto 4, 3) :: (105, .iconst 0, 1) :: (106, .iastore, 1) :: (107, .aload 5, 2) :: (109, .iconst 5, 1) :: (110, .iload_n 2, 1) :: (111, .iastore, 1) :: (112, .aload 5, 2) :: (114, .bipush 6, 2) :: (116, .iload 4, 2) :: (118, .ifCond .eq 7, 3) :: (121, .iconst 1, 1) :: (122, .goto 4, 3) :: (125, .iconst 0, 1) :: (126, .iastore, 1) :: (127, .aload 5, 2) :: (129, .bipush 7, 2) :: (131, .aload_n 0, 1) :: (132, .getfield 21, 3) :: (135, .iload_n 2, 1) :: (136, .iload 4, 2) :: (138, .invokevirtual 75, 3) :: (141, .ifCond .eq 7, 3) :: (144, .iconst 1, 1) :: (145, .goto 4, 3) :: (148, .iconst 0, 1) :: (149, .iastore, 1) :: (150, .aload_n 0, 1) :: (151, .getfield 29, 3) :: (154, .invokevirtual 116, 3) :: (157, .ifCond .eq 7, 3) :: (160, .iconst 1, 1) :: (161, .goto 4, 3) :: (164, .iconst 0, 1) :: (165, .ireturn, 1) :: [])
set_option maxRecDepth 100000 in
def mX10_minutes : zMeth := (yX10_minutes, cX10_minutes, 4, (some .int), 10, (0, .aload_n 0, 1) :: (1, .getfield 21, 3) :: (4, .getfield 120, 3) :: (7, .aload_n 0, 1) :: (8, .getfield 21, 3) :: (11, .aload_n 1, 1) :: (12, .getfield 123, 3) :: (15, .iload_n 2, 1) :: (16, .invokevirtual 126, 3) :: (19, .aload_n 0, 1) :: (20, .getfield 21, 3) :: (23, .iload_n 2, 1) :: (24, .iload_n 3, 1) :: (25, .invokevirtual 126, 3) :: (28, .iadd, 1) :: (29, .imul, 1) :: (30, .iconst 2, 1) :: (31, .aload_n 0, 1) :: (32, .getfield 21, 3) :: (35, .getfield 130, 3) :: (38, .imul, 1) :: (39, .iadd, 1) :: (40, .ireturn, 1) :: [])
set_option maxRecDepth 100000 in
def mX10_canStandAt : zMeth := (yX10_canStandAt, cX10_canStandAt, 4, (some .boolean), 10, (0, .iload_n 3, 1) :: (1, .aload_n 0, 1) :: (2, .getfield 21, 3) :: (5, .getfield 39, 3) :: (8, .if_icmp .eq 13, 3) :: (11, .aload_n 0, 1) :: (12, .aload_n 1, 1) :: (13, .iload_n 3, 1) :: (14, .iload_n 2, 1) :: (15, .invokevirtual 133, 3) :: (18, .ifCond .eq 7, 3) :: (21, .iconst 1, 1) :: (22, .goto 4, 3) :: (25, .iconst 0, 1) :: (26, .ireturn, 1) :: [])
set_option maxRecDepth 100000 in
def mX10_canGoTo : zMeth := (yX10_canGoTo, cX10_canGoTo, 4, (some .boolean), 10, (0, .iload_n 3, 1) :: (1, .aload_n 0, 1) :: (2, .aload_n 1, 1) :: (3, .iload_n 2, 1) :: (4, .invokevirtual 136, 3) :: (7, .if_icmp .eq 26, 3) :: (10, .aload_n 1, 1) :: (11, .iload_n 2, 1) :: (12, .invokevirtual 139, 3) :: (15, .iconst (-1), 1) :: (16, .if_icmp .ne 17, 3) :: (19, .aload_n 0, 1) :: (20, .aload_n 1, 1) :: (21, .iload_n 2, 1) :: (22, .iload_n 3, 1) :: (23, .invokevirtual 143, 3) :: (26, .ifCond .eq 7, 3) :: (29, .iconst 1, 1) :: (30, .goto 4, 3) :: (33, .iconst 0, 1) :: (34, .ireturn, 1) :: [])
set_option maxRecDepth 100000 in
def mX10_shift : zMeth := (yX10_shift, cX10_shift, 6, (some .int), 10, (0, .iload 4, 2) :: (2, .aload_n 0, 1) :: (3, .aload_n 1, 1) :: (4, .aload_n 0, 1) :: (5, .aload_n 1, 1) :: (6, .iload_n 2, 1) :: (7, .invokevirtual 136, 3) :: (10, .iload_n 3, 1) :: (11, .invokevirtual 146, 3) :: (14, .imul, 1) :: (15, .istore 5, 2) :: (17, .aload_n 1, 1) :: (18, .iload_n 2, 1) :: (19, .iload_n 3, 1) :: (20, .aload_n 0, 1) :: (21, .getfield 21, 3) :: (24, .getfield 39, 3) :: (27, .if_icmp .ne 7, 3) :: (30, .iconst (-1), 1) :: (31, .goto 4, 3) :: (34, .iload_n 3, 1) :: (35, .invokevirtual 150, 3) :: (38, .aload_n 1, 1) :: (39, .iload_n 3, 1) :: (40, .putfield 123, 3) :: (43, .aload_n 1, 1) :: (44, .dup, 1) :: (45, .getfield 113, 3) :: (48, .iload 5, 2) :: (50, .iadd, 1) :: (51, .putfield 113, 3) :: (54, .iload 5, 2) :: (56, .ireturn, 1) :: [])
set_option maxRecDepth 100000 in
def mX10_freeing : zMeth := (yX10_freeing, cX10_freeing, 11, (some .int), 10, (0, .aload_n 1, 1) :: (1, .getfield 44, 3) :: (4, .iload_n 2, 1) :: (5, .iaload, 1) :: (6, .istore_n 3, 1) :: (7, .aload_n 1, 1) :: (8, .iload_n 2, 1) :: (9, .invokevirtual 139, 3) :: (12, .istore 4, 2) :: (14, .aload_n 0, 1) :: (15, .aload_n 1, 1) :: (16, .iload_n 2, 1) :: (17, .aload_n 1, 1) :: (18, .getfield 113, 3) :: (21, .invokevirtual 154, 3) :: (24, .ifCond .eq 23, 3) :: (27, .iload 4, 2) :: (29, .iconst (-1), 1) :: (30, .if_icmp .eq 20, 3) :: (33, .aload_n 0, 1) :: (34, .aload_n 1, 1) :: (35, .iload 4, 2) :: (37, .aload_n 1, 1) :: (38, .getfield 113, 3) :: (41, .invokevirtual 154, 3) :: (44, .ifCond .ne 6, 3) :: (47, .bipush (-2), 2) :: (49, .ireturn, 1) :: (50, .aload_n 0, 1) :: (51, .iconst (-1), 1) :: (52, .putfield 9, 3) :: (55, .aload_n 0, 1) :: (56, .iconst 0, 1) :: (57, .putfield 15, 3) :: (60, .aload_n 0, 1) :: (61, .aload_n 0, 1) :: (62, .aload_n 1, 1) :: (63, .iload_n 3, 1) :: (64, .aload_n 0, 1) :: (65, .getfield 21, 3) :: (68, .getfield 39, 3) :: (71, .invokevirtual 146, 3) :: (74, .putfield 18, 3) :: (77, .iload 4, 2) :: (79, .iconst (-1), 1) :: (80, .if_icmp .ne 8, 3) :: (83, .aload_n 0, 1) :: (84, .getfield 18, 3) :: (87, .ireturn, 1) :: (88, .aload_n 0, 1) :: (89, .getfield 21, 3) :: (92, .getfield 39, 3) :: (95, .iconst 1, 1) :: (96, .iadd, 1) :: (97, .istore 5, 2) :: (99, .iconst 1, 1) :: (100, .istore 6, 2) :: (102, .iload 6, 2) :: (104, .iload 5, 2) :: (106, .iconst 2, 1) :: (107, .idiv, 1) :: (108, .if_icmp .gt 145, 3) :: (111, .aload_n 0, 1) :: (112, .getfield 9, 3) :: (115, .iconst (-1), 1) :: (116, .if_icmp .ne 137, 3) :: (119, .iload_n 3, 1) :: (120, .iload 6, 2) :: (122, .iadd, 1) :: (123, .iload 5, 2) :: (125, .if_icmp .ge 10, 3) :: (128, .iload_n 3, 1) :: (129, .iload 6, 2) :: (131, .iadd, 1) :: (132, .goto 10, 3) :: (135, .iload_n 3, 1) :: (136, .iload 6, 2) :: (138, .iadd, 1) :: (139, .iload 5, 2) :: (141, .isub, 1) :: (142, .istore 7, 2) :: (144, .iload_n 3, 1) :: (145, .iload 6, 2) :: (147, .if_icmp .lt 10, 3) :: (150, .iload_n 3, 1) :: (151, .iload 6, 2) :: (153, .isub, 1) :: (154, .goto 10, 3) :: (157, .iload_n 3, 1) :: (158, .iload 6, 2) :: (160, .isub, 1) :: (161, .iload 5, 2) :: (163, .iadd, 1) :: (164, .istore 8, 2) :: (166, .iload 7, 2) :: (168, .iload 8, 2) :: (170, .invokestatic 157, 3) :: (173, .istore 9, 2) :: (175, .iload 7, 2) :: (177, .iload 8, 2) :: (179, .invokestatic 162, 3) :: (182, .istore 10, 2) :: (184, .iload 9, 2) :: (186, .aload_n 0, 1) :: (187, .getfield 21, 3) :: (190, .getfield 39, 3) :: (193, .if_icmp .ge 24, 3) :: (196, .aload_n 0, 1) :: (197, .aload_n 1, 1) :: (198, .iload 9, 2) :: (200, .iload 4, 2) :: (202, .invokevirtual 133, 3) :: (205, .ifCond .eq 12, 3) :: (208, .aload_n 0, 1) :: (209, .iload 9, 2) :: (211, .putfield 9, 3) :: (214, .goto 33, 3) :: (217, .iload 10, 2) :: (219, .aload_n 0, 1) :: (220, .getfield 21, 3) :: (223, .getfield 39, 3) :: (226, .if_icmp .eq 15, 3) :: (229, .aload_n 0, 1) :: (230, .aload_n 1, 1) :: (231, .iload 10, 2) :: (233, .iload 4, 2) :: (235, .invokevirtual 133, 3) :: (238, .ifCond .eq 9, 3) :: (241, .aload_n 0, 1) :: (242, .iload 10, 2) :: (244, .putfield 9, 3) :: (247, .iinc 6 1, 3) :: (250, .goto (-148), 3) :: (253, .aload_n 0, 1) :: (254, .getfield 9, 3) :: (257, .iconst (-1), 1) :: (258, .if_icmp .ne 6, 3) :: (261, .bipush (-2), 2) :: (263, .ireturn, 1) :: (264, .aload_n 0, 1) :: (265, .aload_n 0, 1) :: (266, .aload_n 1, 1) :: (267, .iload_n 3, 1) :: (268, .aload_n 0, 1) :: (269, .getfield 9, 3) :: (272, .invokevirtual 146, 3) :: (275, .putfield 15, 3) :: (278, .aload_n 0, 1) :: (279, .getfield 21, 3) :: (282, .aload_n 0, 1) :: (283, .getfield 9, 3) :: (286, .iload_n 3, 1) :: (287, .invokevirtual 126, 3) :: (290, .aload_n 0, 1) :: (291, .getfield 21, 3) :: (294, .iload_n 3, 1) :: (295, .aload_n 0, 1) :: (296, .getfield 21, 3) :: (299, .getfield 39, 3) :: (302, .invokevirtual 126, 3) :: (305, .iadd, 1) :: (306, .istore 6, 2) :: (308, .aload_n 0, 1) :: (309, .aload_n 0, 1) :: (310, .getfield 21, 3) :: (313, .getfield 120, 3) :: (316, .iload 6, 2) :: (318, .imul, 1) :: (319, .iconst 2, 1) :: (320, .aload_n 0, 1) :: (321, .getfield 21, 3) :: (324, .getfield 130, 3) :: (327, .imul, 1) :: (328, .iadd, 1) :: (329, .putfield 18, 3) :: (332, .aload_n 0, 1) :: (333, .getfield 15, 3) :: (336, .aload_n 0, 1) :: (337, .getfield 18, 3) :: (340, .iadd, 1) :: (341, .ireturn, 1) :: [])
set_option maxRecDepth 100000 in
def mX10_sendOut : zMeth := (yX10_sendOut, cX10_sendOut, 4, none, 10, (0, .aload_n 1, 1) :: (1, .iload_n 2, 1) :: (2, .invokevirtual 139, 3) :: (5, .istore_n 3, 1) :: (6, .iload_n 3, 1) :: (7, .iconst (-1), 1) :: (8, .if_icmp .eq 15, 3) :: (11, .aload_n 0, 1) :: (12, .aload_n 1, 1) :: (13, .iload_n 3, 1) :: (14, .aload_n 0, 1) :: (15, .getfield 9, 3) :: (18, .iconst 1, 1) :: (19, .invokevirtual 165, 3) :: (22, .pop, 1) :: (23, .aload_n 0, 1) :: (24, .aload_n 1, 1) :: (25, .iload_n 2, 1) :: (26, .aload_n 0, 1) :: (27, .getfield 21, 3) :: (30, .getfield 39, 3) :: (33, .iconst 1, 1) :: (34, .invokevirtual 165, 3) :: (37, .pop, 1) :: (38, .return_, 1) :: [])
set_option maxRecDepth 100000 in
def mX11_ring : zMeth := (yX11_ring, cX11_ring, 3, (some .int), 11, (0, .iload_n 1, 1) :: (1, .iconst 4, 1) :: (2, .if_icmp .lt 19, 3) :: (5, .iload_n 1, 1) :: (6, .bipush 23, 2) :: (8, .if_icmp .gt 13, 3) :: (11, .aload_n 0, 1) :: (12, .getfield 40, 3) :: (15, .invokevirtual 108, 3) :: (18, .ifCond .eq 5, 3) :: (21, .iconst (-1), 1) :: (22, .ireturn, 1) :: (23, .aload_n 0, 1) :: (24, .getfield 10, 3) :: (27, .getfield 112, 3) :: (30, .istore_n 2, 1) :: (31, .aload_n 0, 1) :: (32, .getfield 10, 3) :: (35, .iload_n 1, 1) :: (36, .invokevirtual 115, 3) :: (39, .aload_n 0, 1) :: (40, .getfield 40, 3) :: (43, .iload_n 1, 1) :: (44, .putfield 119, 3) :: (47, .aload_n 0, 1) :: (48, .dup, 1) :: (49, .getfield 104, 3) :: (52, .iconst 1, 1) :: (53, .iadd, 1) :: (54, .putfield 104, 3) :: (57, .iload_n 2, 1) :: (58, .ireturn, 1) :: [])
set_option maxRecDepth 100000 in
def mX11_stall : zMeth := (yX11_stall, cX11_stall, 4, (some .boolean), 11, (0, .aload_n 0, 1) :: (1, .getfield 10, 3) :: (4, .iload_n 1, 1) :: (5, .invokevirtual 122, 3) :: (8, .ifCond .eq 15, 3) :: (11, .iload_n 2, 1) :: (12, .bipush 10, 2) :: (14, .if_icmp .lt 9, 3) :: (17, .iload_n 2, 1) :: (18, .bipush 60, 2) :: (20, .if_icmp .le 5, 3) :: (23, .iconst 0, 1) :: (24, .ireturn, 1) :: (25, .iload_n 3, 1) :: (26, .ifCond .lt 24, 3) :: (29, .iload_n 3, 1) :: (30, .iconst 3, 1) :: (31, .if_icmp .gt 19, 3) :: (34, .aload_n 0, 1) :: (35, .getfield 49, 3) :: (38, .aload_n 0, 1) :: (39, .getfield 40, 3) :: (42, .iload_n 1, 1) :: (43, .invokevirtual 126, 3) :: (46, .iload_n 2, 1) :: (47, .if_icmp .le 5, 3) :: (50, .iconst 0, 1) :: (51, .ireturn, 1) :: (52, .aload_n 0, 1) :: (53, .getfield 10, 3) :: (56, .getfield 130, 3) :: (59, .iload_n 1, 1) :: (60, .iload_n 2, 1) :: (61, .iastore, 1) :: (62, .aload_n 0, 1) :: (63, .getfield 10, 3) :: (66, .getfield 133, 3) :: (69, .iload_n 1, 1) :: (70, .iload_n 3, 1) :: (71, .iastore, 1) :: (72, .aload_n 0, 1) :: (73, .dup, 1) :: (74, .getfield 104, 3) :: (77, .iconst 1, 1) :: (78, .iadd, 1) :: (79, .putfield 104, 3) :: (82, .iconst 1, 1) :: (83, .ireturn, 1) :: [])
set_option maxRecDepth 100000 in
def mX11_sheet : zMeth := (yX11_sheet, cX11_sheet, 5, (some .int), 11, (0, .iload_n 1, 1) :: (1, .ifCond .lt 29, 3) :: (4, .iload_n 1, 1) :: (5, .iconst 3, 1) :: (6, .if_icmp .gt 24, 3) :: (9, .iload_n 2, 1) :: (10, .aload_n 0, 1) :: (11, .getfield 10, 3) :: (14, .getfield 112, 3) :: (17, .if_icmp .gt 13, 3) :: (20, .aload_n 0, 1) :: (21, .getfield 40, 3) :: (24, .invokevirtual 108, 3) :: (27, .ifCond .eq 5, 3) :: (30, .iconst (-1), 1) :: (31, .ireturn, 1) :: (32, .iload_n 1, 1) :: (33, .iconst 3, 1) :: (34, .if_icmp .ne 29, 3) :: (37, .aload_n 0, 1) :: (38, .getfield 10, 3) :: (41, .iload_n 1, 1) :: (42, .iconst 0, 1) :: (43, .iload_n 3, 1) :: (44, .iload 4, 2) :: (46, .invokevirtual 136, 3) :: (49, .pop, 1) :: (50, .aload_n 0, 1) :: (51, .dup, 1) :: (52, .getfield 104, 3) :: (55, .iconst 1, 1) :: (56, .iadd, 1) :: (57, .putfield 104, 3) :: (60, .bipush (-3), 2) :: (62, .ireturn, 1) :: (63, .iload_n 2, 1) :: (64, .ifCond .ge 6, 3) :: (67, .bipush (-2), 2) :: (69, .ireturn, 1) :: (70, .aload_n 0, 1) :: (71, .dup, 1) :: (72, .getfield 104, 3) :: (75, .iconst 1, 1) :: (76, .iadd, 1) :: (77, .putfield 104, 3) :: (80, .aload_n 0, 1) :: (81, .getfield 10, 3) :: (84, .iload_n 1, 1) :: (85, .iload_n 2, 1) :: (86, .iload_n 3, 1) :: (87, .iload 4, 2) :: (89, .invokevirtual 136, 3) :: (92, .ireturn, 1) :: [])
set_option maxRecDepth 100000 in
def mX11_shut : zMeth := (yX11_shut, cX11_shut, 3, (some .boolean), 11, (0, .aload_n 0, 1) :: (1, .getfield 10, 3) :: (4, .iload_n 1, 1) :: (5, .invokevirtual 122, 3) :: (8, .ifCond .ne 5, 3) :: (11, .iconst 0, 1) :: (12, .ireturn, 1) :: (13, .aload_n 0, 1) :: (14, .getfield 10, 3) :: (17, .getfield 140, 3) :: (20, .iload_n 1, 1) :: (21, .iload_n 2, 1) :: (22, .bastore, 1) :: (23, .iconst 1, 1) :: (24, .ireturn, 1) :: [])
set_option maxRecDepth 100000 in
def mX11_set : zMeth := (yX11_set, cX11_set, 4, (some .int), 11, (0, .iload_n 1, 1) :: (1, .ifCond .ne 32, 3) :: (4, .iload_n 2, 1) :: (5, .iconst 1, 1) :: (6, .if_icmp .lt 27, 3) :: (9, .iload_n 2, 1) :: (10, .bipush 9, 2) :: (12, .if_icmp .gt 21, 3) :: (15, .aload_n 0, 1) :: (16, .getfield 10, 3) :: (19, .getfield 144, 3) :: (22, .istore_n 3, 1) :: (23, .aload_n 0, 1) :: (24, .getfield 10, 3) :: (27, .iload_n 2, 1) :: (28, .putfield 144, 3) :: (31, .iload_n 3, 1) :: (32, .ireturn, 1) :: (33, .iload_n 1, 1) :: (34, .iconst 1, 1) :: (35, .if_icmp .ne 31, 3) :: (38, .iload_n 2, 1) :: (39, .ifCond .lt 27, 3) :: (42, .iload_n 2, 1) :: (43, .bipush 9, 2) :: (45, .if_icmp .gt 21, 3) :: (48, .aload_n 0, 1) :: (49, .getfield 10, 3) :: (52, .getfield 147, 3) :: (55, .istore_n 3, 1) :: (56, .aload_n 0, 1) :: (57, .getfield 10, 3) :: (60, .iload_n 2, 1) :: (61, .putfield 147, 3) :: (64, .iload_n 3, 1) :: (65, .ireturn, 1) :: (66, .iconst (-1), 1) :: (67, .ireturn, 1) :: [])
set_option maxRecDepth 100000 in
def mX11_steps : zMeth := (yX11_steps, cX11_steps, 3, (some .int), 11, (0, .aload_n 0, 1) :: (1, .getfield 10, 3) :: (4, .iload_n 1, 1) :: (5, .invokevirtual 150, 3) :: (8, .ifCond .eq 26, 3) :: (11, .aload_n 0, 1) :: (12, .getfield 10, 3) :: (15, .iload_n 2, 1) :: (16, .invokevirtual 150, 3) :: (19, .ifCond .eq 15, 3) :: (22, .aload_n 0, 1) :: (23, .getfield 10, 3) :: (26, .iload_n 1, 1) :: (27, .iload_n 2, 1) :: (28, .invokevirtual 153, 3) :: (31, .goto 4, 3) :: (34, .iconst (-1), 1) :: (35, .ireturn, 1) :: [])
set_option maxRecDepth 100000 in
def mX11_sign : zMeth := (yX11_sign, cX11_sign, 2, (some .int), 11, (0, .aload_n 0, 1) :: (1, .getfield 26, 3) :: (4, .iload_n 1, 1) :: (5, .invokevirtual 157, 3) :: (8, .ireturn, 1) :: [])
set_option maxRecDepth 100000 in
def mX11_end : zMeth := (yX11_end, cX11_end, 2, (some .boolean), 11, (0, .aload_n 0, 1) :: (1, .getfield 26, 3) :: (4, .iload_n 1, 1) :: (5, .invokevirtual 161, 3) :: (8, .ireturn, 1) :: [])
set_option maxRecDepth 100000 in
def mX11_rule : zMeth := (yX11_rule, cX11_rule, 1, (some .int), 11, (0, .aload_n 0, 1) :: (1, .getfield 26, 3) :: (4, .invokevirtual 164, 3) :: (7, .ireturn, 1) :: [])
set_option maxRecDepth 100000 in
def mX11_engine : zMeth := (yX11_engine, cX11_engine, 5, (some .int), 11, (0, .iload_n 1, 1) :: (1, .iconst 5, 1) :: (2, .if_icmp .lt 29, 3) :: (5, .iload_n 1, 1) :: (6, .bipush 30, 2) :: (8, .if_icmp .gt 23, 3) :: (11, .iload_n 2, 1) :: (12, .ifCond .lt 19, 3) :: (15, .iload_n 2, 1) :: (16, .iconst 5, 1) :: (17, .if_icmp .gt 14, 3) :: (20, .iload_n 3, 1) :: (21, .ifCond .lt 10, 3) :: (24, .iload_n 3, 1) :: (25, .sipush 600, 3) :: (28, .if_icmp .le 5, 3) :: (31, .iconst (-1), 1) :: (32, .ireturn, 1) :: (33, .aload_n 0, 1) :: (34, .getfield 19, 3) :: (37, .getfield 167, 3) :: (40, .bipush 12, 2) :: (42, .if_icmp .lt 5, 3) :: (45, .iconst (-1), 1) :: (46, .ireturn, 1) :: (47, .aload_n 0, 1) :: (48, .dup, 1) :: (49, .getfield 104, 3) :: (52, .iconst 1, 1) :: (53, .iadd, 1) :: (54, .putfield 104, 3) :: (57, .aload_n 0, 1) :: (58, .getfield 19, 3) :: (61, .iload_n 1, 1) :: (62, .iload_n 2, 1) :: (63, .iload_n 3, 1) :: (64, .iload 4, 2) :: (66, .invokevirtual 170, 3) :: (69, .ireturn, 1) :: [])
set_option maxRecDepth 100000 in
def mX11_light : zMeth := (yX11_light, cX11_light, 2, (some .boolean), 11, (0, .aload_n 0, 1) :: (1, .getfield 19, 3) :: (4, .iload_n 1, 1) :: (5, .invokevirtual 174, 3) :: (8, .ifCond .eq 16, 3) :: (11, .aload_n 0, 1) :: (12, .getfield 40, 3) :: (15, .getfield 177, 3) :: (18, .iload_n 1, 1) :: (19, .iaload, 1) :: (20, .iconst (-1), 1) :: (21, .if_icmp .eq 5, 3) :: (24, .iconst 0, 1) :: (25, .ireturn, 1) :: (26, .aload_n 0, 1) :: (27, .getfield 40, 3) :: (30, .getfield 177, 3) :: (33, .iload_n 1, 1) :: (34, .aload_n 0, 1) :: (35, .getfield 40, 3) :: (38, .getfield 180, 3) :: (41, .iastore, 1) :: (42, .iconst 1, 1) :: (43, .ireturn, 1) :: [])
set_option maxRecDepth 100000 in
def mX11_drop : zMeth := (yX11_drop, cX11_drop, 3, (some .int), 11, (0, .aload_n 0, 1) :: (1, .getfield 19, 3) :: (4, .iload_n 1, 1) :: (5, .invokevirtual 174, 3) :: (8, .ifCond .eq 16, 3) :: (11, .aload_n 0, 1) :: (12, .getfield 40, 3) :: (15, .getfield 177, 3) :: (18, .iload_n 1, 1) :: (19, .iaload, 1) :: (20, .iconst (-1), 1) :: (21, .if_icmp .ne 5, 3) :: (24, .iconst (-1), 1) :: (25, .ireturn, 1) :: (26, .aload_n 0, 1) :: (27, .getfield 40, 3) :: (30, .getfield 180, 3) :: (33, .aload_n 0, 1) :: (34, .getfield 40, 3) :: (37, .getfield 177, 3) :: (40, .iload_n 1, 1) :: (41, .iaload, 1) :: (42, .isub, 1) :: (43, .istore_n 2, 1) :: (44, .aload_n 0, 1) :: (45, .getfield 40, 3) :: (48, .getfield 177, 3) :: (51, .iload_n 1, 1) :: (52, .iconst (-1), 1) :: (53, .iastore, 1) :: (54, .iload_n 2, 1) :: (55, .ireturn, 1) :: [])
set_option maxRecDepth 100000 in
def mX11_dead : zMeth := (yX11_dead, cX11_dead, 3, (some .boolean), 11, (0, .aload_n 0, 1) :: (1, .getfield 19, 3) :: (4, .iload_n 1, 1) :: (5, .invokevirtual 174, 3) :: (8, .ifCond .ne 5, 3) :: (11, .iconst 0, 1) :: (12, .ireturn, 1) :: (13, .aload_n 0, 1) :: (14, .getfield 40, 3) :: (17, .iload_n 2, 1) :: (18, .ifCond .eq 17, 3) :: (21, .aload_n 0, 1) :: (22, .getfield 40, 3) :: (25, .getfield 183, 3) :: (28, .iconst 1, 1) :: (29, .iload_n 1, 1) :: (30, .ishl, 1) :: (31, .ior, 1) :: (32, .goto 16, 3) :: (35, .aload_n 0, 1) :: (36, .getfield 40, 3) :: (39, .getfield 183, 3) :: (42, .iconst 1, 1) :: (43, .iload_n 1, 1) :: (44, .ishl, 1) :: (45, .iconst (-1), 1) :: (46, .ixor, 1) :: (47, .iand, 1) :: (48, .putfield 183, 3) :: (51, .iconst 1, 1) :: (52, .ireturn, 1) :: [])
set_option maxRecDepth 100000 in
def mX11_of : zMeth := (yX11_of, cX11_of, 3, (some .int), 11, (0, .aload_n 0, 1) :: (1, .getfield 19, 3) :: (4, .iload_n 1, 1) :: (5, .invokevirtual 174, 3) :: (8, .ifCond .ne 13, 3) :: (11, .new 186, 3) :: (14, .dup, 1) :: (15, .ldc 188, 2) :: (17, .invokespecial 190, 3) :: (20, .athrow, 1) :: (21, .iload_n 2, 1) :: (22, .tableswitch 159 0 6 #[42, 55, 72, 82, 92, 120, 138], 42) :: (64, .aload_n 0, 1) :: (65, .getfield 49, 3) :: (68, .aload_n 0, 1) :: (69, .getfield 40, 3) :: (72, .iload_n 1, 1) :: (73, .invokevirtual 193, 3) :: (76, .ireturn, 1) :: (77, .aload_n 0, 1) :: (78, .getfield 40, 3) :: (81, .iload_n 1, 1) :: (82, .invokevirtual 196, 3) :: (85, .ifCond .eq 7, 3) :: (88, .iconst 1, 1) :: (89, .goto 4, 3) :: (92, .iconst 0, 1) :: (93, .ireturn, 1) :: (94, .aload_n 0, 1) :: (95, .getfield 19, 3) :: (98, .getfield 199, 3) :: (101, .iload_n 1, 1) :: (102, .iaload, 1) :: (103, .ireturn, 1) :: (104, .aload_n 0, 1) :: (105, .getfield 40, 3) :: (108, .getfield 177, 3) :: (111, .iload_n 1, 1) :: (112, .iaload, 1) :: (113, .ireturn, 1) :: (114, .aload_n 0, 1) :: (115, .getfield 49, 3) :: (118, .aload_n 0, 1) :: (119, .getfield 40, 3) :: (122, .iload_n 1, 1) :: (123, .aload_n 0, 1) :: (124, .getfield 40, 3) :: (127, .getfield 180, 3) :: (130, .invokevirtual 202, 3) :: (133, .ifCond .eq 7, 3) :: (136, .iconst 1, 1) :: (137, .goto 4, 3) :: (140, .iconst 0, 1) :: (141, .ireturn, 1) :: (142, .aload_n 0, 1) :: (143, .getfield 40, 3) :: (146, .iload_n 1, 1) :: (147, .invokevirtual 206, 3) :: (150, .iconst (-1), 1) :: (151, .if_icmp .eq 7, 3) :: (154, .iconst 1, 1) :: (155, .goto 4, 3) :: (158, .iconst 0, 1) :: (159, .ireturn, 1) :: (160, .aload_n 0, 1) :: (161, .getfield 49, 3) :: (164, .aload_n 0, 1) :: (165, .getfield 40, 3) :: (168, .iload_n 1, 1) :: (169, .invokevirtual 209, 3) :: (172, .ifCond .eq 7, 3) :: (175, .iconst 1, 1) :: (176, .goto 4, 3) :: (179, .iconst 0, 1) :: (180, .ireturn, 1) :: (181, .new 186, 3) :: (184, .dup, 1) :: (185, .ldc 213, 2) :: (187, .invokespecial 190, 3) :: (190, .athrow, 1) :: [])
set_option maxRecDepth 100000 in
def mX11_takes : zMeth := (yX11_takes, cX11_takes, 3, (some .int), 11, (0, .aload_n 0, 1) :: (1, .getfield 10, 3) :: (4, .iload_n 1, 1) :: (5, .invokevirtual 122, 3) :: (8, .ifCond .eq 14, 3) :: (11, .aload_n 0, 1) :: (12, .getfield 19, 3) :: (15, .iload_n 2, 1) :: (16, .invokevirtual 174, 3) :: (19, .ifCond .ne 5, 3) :: (22, .iconst (-1), 1) :: (23, .ireturn, 1) :: (24, .aload_n 0, 1) :: (25, .getfield 40, 3) :: (28, .getfield 215, 3) :: (31, .iload_n 2, 1) :: (32, .iaload, 1) :: (33, .iload_n 1, 1) :: (34, .if_icmp .eq 23, 3) :: (37, .aload_n 0, 1) :: (38, .getfield 49, 3) :: (41, .aload_n 0, 1) :: (42, .getfield 40, 3) :: (45, .iload_n 1, 1) :: (46, .iload_n 2, 1) :: (47, .invokevirtual 218, 3) :: (50, .ifCond .eq 7, 3) :: (53, .iconst 1, 1) :: (54, .goto 4, 3) :: (57, .iconst 0, 1) :: (58, .ireturn, 1) :: [])
set_option maxRecDepth 100000 in
def mX11_smoke : zMeth := (yX11_smoke, cX11_smoke, 1, (some .int), 11, (0, .aload_n 0, 1) :: (1, .getfield 49, 3) :: (4, .aload_n 0, 1) :: (5, .getfield 40, 3) :: (8, .invokevirtual 221, 3) :: (11, .ireturn, 1) :: [])
set_option maxRecDepth 100000 in
def mX11_pass : zMeth := (yX11_pass, cX11_pass, 2, (some .int), 11, (0, .iload_n 1, 1) :: (1, .ifCond .lt 10, 3) :: (4, .iload_n 1, 1) :: (5, .sipush 600, 3) :: (8, .if_icmp .le 5, 3) :: (11, .iconst (-1), 1) :: (12, .ireturn, 1) :: (13, .aload_n 0, 1) :: (14, .getfield 40, 3) :: (17, .dup, 1) :: (18, .getfield 180, 3) :: (21, .iload_n 1, 1) :: (22, .iadd, 1) :: (23, .putfield 180, 3) :: (26, .aload_n 0, 1) :: (27, .getfield 40, 3) :: (30, .getfield 180, 3) :: (33, .ireturn, 1) :: [])
set_option maxRecDepth 100000 in
def mX11_move : zMeth := (yX11_move, cX11_move, 3, (some .int), 11, (0, .aload_n 0, 1) :: (1, .getfield 19, 3) :: (4, .iload_n 1, 1) :: (5, .invokevirtual 174, 3) :: (8, .ifCond .eq 14, 3) :: (11, .aload_n 0, 1) :: (12, .getfield 10, 3) :: (15, .iload_n 2, 1) :: (16, .invokevirtual 150, 3) :: (19, .ifCond .ne 5, 3) :: (22, .iconst (-1), 1) :: (23, .ireturn, 1) :: (24, .aload_n 0, 1) :: (25, .getfield 49, 3) :: (28, .aload_n 0, 1) :: (29, .getfield 40, 3) :: (32, .iload_n 1, 1) :: (33, .aload_n 0, 1) :: (34, .getfield 40, 3) :: (37, .getfield 180, 3) :: (40, .invokevirtual 225, 3) :: (43, .ifCond .eq 19, 3) :: (46, .aload_n 0, 1) :: (47, .getfield 49, 3) :: (50, .aload_n 0, 1) :: (51, .getfield 40, 3) :: (54, .iload_n 1, 1) :: (55, .iload_n 2, 1) :: (56, .invokevirtual 228, 3) :: (59, .ifCond .ne 5, 3) :: (62, .iconst (-1), 1) :: (63, .ireturn, 1) :: (64, .aload_n 0, 1) :: (65, .getfield 49, 3) :: (68, .aload_n 0, 1) :: (69, .getfield 40, 3) :: (72, .iload_n 1, 1) :: (73, .iload_n 2, 1) :: (74, .iconst 1, 1) :: (75, .invokevirtual 231, 3) :: (78, .ireturn, 1) :: [])
set_option maxRecDepth 100000 in
def mX11_drag : zMeth := (yX11_drag, cX11_drag, 4, (some .int), 11, (0, .aload_n 0, 1) :: (1, .getfield 19, 3) :: (4, .iload_n 1, 1) :: (5, .invokevirtual 174, 3) :: (8, .ifCond .eq 30, 3) :: (11, .aload_n 0, 1) :: (12, .getfield 19, 3) :: (15, .iload_n 2, 1) :: (16, .invokevirtual 174, 3) :: (19, .ifCond .eq 19, 3) :: (22, .iload_n 2, 1) :: (23, .iload_n 1, 1) :: (24, .if_icmp .eq 14, 3) :: (27, .aload_n 0, 1) :: (28, .getfield 10, 3) :: (31, .iload_n 3, 1) :: (32, .invokevirtual 150, 3) :: (35, .ifCond .ne 5, 3) :: (38, .iconst (-1), 1) :: (39, .ireturn, 1) :: (40, .aload_n 0, 1) :: (41, .getfield 40, 3) :: (44, .iload_n 2, 1) :: (45, .invokevirtual 235, 3) :: (48, .ifCond .eq 41, 3) :: (51, .aload_n 0, 1) :: (52, .getfield 49, 3) :: (55, .aload_n 0, 1) :: (56, .getfield 40, 3) :: (59, .iload_n 2, 1) :: (60, .aload_n 0, 1) :: (61, .getfield 40, 3) :: (64, .getfield 180, 3) :: (67, .invokevirtual 225, 3) :: (70, .ifCond .eq 19, 3) :: (73, .aload_n 0, 1) :: (74, .getfield 49, 3) :: (77, .aload_n 0, 1) :: (78, .getfield 40, 3) :: (81, .iload_n 1, 1) :: (82, .iload_n 3, 1) :: (83, .invokevirtual 228, 3) :: (86, .ifCond .ne 5, 3) :: (89, .iconst (-1), 1) :: (90, .ireturn, 1) :: (91, .aload_n 0, 1) :: (92, .getfield 49, 3) :: (95, .aload_n 0, 1) :: (96, .getfield 40, 3) :: (99, .iload_n 1, 1) :: (100, .iload_n 3, 1) :: (101, .iconst 2, 1) :: (102, .invokevirtual 231, 3) :: (105, .ireturn, 1) :: [])
set_option maxRecDepth 100000 in
def mX11_free : zMeth := (yX11_free, cX11_free, 3, (some .int), 11, (0, .aload_n 0, 1) :: (1, .getfield 19, 3) :: (4, .iload_n 1, 1) :: (5, .invokevirtual 174, 3) :: (8, .ifCond .eq 14, 3) :: (11, .aload_n 0, 1) :: (12, .getfield 40, 3) :: (15, .iload_n 1, 1) :: (16, .invokevirtual 235, 3) :: (19, .ifCond .eq 5, 3) :: (22, .iconst (-1), 1) :: (23, .ireturn, 1) :: (24, .aload_n 0, 1) :: (25, .getfield 49, 3) :: (28, .aload_n 0, 1) :: (29, .getfield 40, 3) :: (32, .iload_n 1, 1) :: (33, .invokevirtual 238, 3) :: (36, .istore_n 2, 1) :: (37, .iload_n 2, 1) :: (38, .ifCond .ge 6, 3) :: (41, .bipush (-2), 2) :: (43, .ireturn, 1) :: (44, .aload_n 0, 1) :: (45, .getfield 33, 3) :: (48, .aload_n 0, 1) :: (49, .getfield 49, 3) :: (52, .getfield 241, 3) :: (55, .invokevirtual 244, 3) :: (58, .iload_n 2, 1) :: (59, .ireturn, 1) :: [])
set_option maxRecDepth 100000 in
def mX11_order : zMeth := (yX11_order, cX11_order, 3, (some .int), 11, (0, .iload_n 1, 1) :: (1, .invokestatic 247, 3) :: (4, .istore_n 2, 1) :: (5, .iload_n 2, 1) :: (6, .iconst 1, 1) :: (7, .if_icmp .lt 22, 3) :: (10, .iload_n 2, 1) :: (11, .iconst 5, 1) :: (12, .if_icmp .gt 17, 3) :: (15, .iload_n 1, 1) :: (16, .aload_n 0, 1) :: (17, .getfield 40, 3) :: (20, .invokevirtual 108, 3) :: (23, .iconst (-1), 1) :: (24, .ixor, 1) :: (25, .iand, 1) :: (26, .ifCond .eq 5, 3) :: (29, .iconst (-1), 1) :: (30, .ireturn, 1) :: (31, .aload_n 0, 1) :: (32, .getfield 58, 3) :: (35, .aload_n 0, 1) :: (36, .getfield 40, 3) :: (39, .iload_n 1, 1) :: (40, .invokevirtual 252, 3) :: (43, .ireturn, 1) :: [])
set_option maxRecDepth 100000 in
def mX11_clear : zMeth := (yX11_clear, cX11_clear, 2, (some .int), 11, (0, .aload_n 0, 1) :: (1, .getfield 10, 3) :: (4, .iload_n 1, 1) :: (5, .invokevirtual 122, 3) :: (8, .ifCond .eq 18, 3) :: (11, .aload_n 0, 1) :: (12, .getfield 58, 3) :: (15, .aload_n 0, 1) :: (16, .getfield 40, 3) :: (19, .iload_n 1, 1) :: (20, .invokevirtual 255, 3) :: (23, .goto 4, 3) :: (26, .iconst (-1), 1) :: (27, .ireturn, 1) :: [])
set_option maxRecDepth 100000 in
def mX11_under : zMeth := (yX11_under, cX11_under, 1, (some .int), 11, (0, .aload_n 0, 1) :: (1, .getfield 58, 3) :: (4, .aload_n 0, 1) :: (5, .getfield 40, 3) :: (8, .invokevirtual 258, 3) :: (11, .ireturn, 1) :: [])
set_option maxRecDepth 100000 in
def mX11_comes : zMeth := (yX11_comes, cX11_comes, 2, (some .int), 11, (0, .aload_n 0, 1) :: (1, .getfield 19, 3) :: (4, .iload_n 1, 1) :: (5, .invokevirtual 174, 3) :: (8, .ifCond .eq 25, 3) :: (11, .aload_n 0, 1) :: (12, .getfield 40, 3) :: (15, .iload_n 1, 1) :: (16, .invokevirtual 235, 3) :: (19, .ifCond .eq 14, 3) :: (22, .aload_n 0, 1) :: (23, .getfield 67, 3) :: (26, .iload_n 1, 1) :: (27, .invokevirtual 261, 3) :: (30, .goto 4, 3) :: (33, .iconst (-1), 1) :: (34, .ireturn, 1) :: [])
set_option maxRecDepth 100000 in
def mX11_leaves : zMeth := (yX11_leaves, cX11_leaves, 2, (some .int), 11, (0, .aload_n 0, 1) :: (1, .getfield 19, 3) :: (4, .iload_n 1, 1) :: (5, .invokevirtual 174, 3) :: (8, .ifCond .eq 14, 3) :: (11, .aload_n 0, 1) :: (12, .getfield 67, 3) :: (15, .iload_n 1, 1) :: (16, .invokevirtual 264, 3) :: (19, .goto 4, 3) :: (22, .iconst (-1), 1) :: (23, .ireturn, 1) :: [])
set_option maxRecDepth 100000 in
def mX11_nobody : zMeth := (yX11_nobody, cX11_nobody, 1, (some .int), 11, (0, .aload_n 0, 1) :: (1, .getfield 67, 3) :: (4, .invokevirtual 267, 3) :: (7, .ireturn, 1) :: [])
set_option maxRecDepth 100000 in
def mX11_put : zMeth := (yX11_put, cX11_put, 1, (some .int), 11, (0, .aload_n 0, 1) :: (1, .getfield 67, 3) :: (4, .invokevirtual 270, 3) :: (7, .ireturn, 1) :: [])
set_option maxRecDepth 100000 in
def mX11_room : zMeth := (yX11_room, cX11_room, 2, (some .int), 11, (0, .iload_n 1, 1) :: (1, .ifCond .eq 26, 3) :: (4, .aload_n 0, 1) :: (5, .getfield 19, 3) :: (8, .iload_n 1, 1) :: (9, .invokevirtual 273, 3) :: (12, .ifCond .ne 15, 3) :: (15, .iload_n 1, 1) :: (16, .aload_n 0, 1) :: (17, .getfield 40, 3) :: (20, .invokevirtual 108, 3) :: (23, .iand, 1) :: (24, .ifCond .eq 5, 3) :: (27, .iconst (-1), 1) :: (28, .ireturn, 1) :: (29, .aload_n 0, 1) :: (30, .getfield 67, 3) :: (33, .iload_n 1, 1) :: (34, .invokevirtual 276, 3) :: (37, .ireturn, 1) :: [])
set_option maxRecDepth 100000 in
def mX11_coal : zMeth := (yX11_coal, cX11_coal, 5, (some .int), 11, (0, .iload_n 1, 1) :: (1, .ifCond .lt 30, 3) :: (4, .iload_n 1, 1) :: (5, .iconst 3, 1) :: (6, .if_icmp .ge 25, 3) :: (9, .iload_n 2, 1) :: (10, .ifCond .lt 21, 3) :: (13, .iload_n 2, 1) :: (14, .sipush 999, 3) :: (17, .if_icmp .gt 14, 3) :: (20, .iload_n 3, 1) :: (21, .ifCond .lt 10, 3) :: (24, .iload_n 3, 1) :: (25, .sipush 999, 3) :: (28, .if_icmp .le 5, 3) :: (31, .iconst (-1), 1) :: (32, .ireturn, 1) :: (33, .aload_n 0, 1) :: (34, .getfield 76, 3) :: (37, .getfield 279, 3) :: (40, .iload_n 1, 1) :: (41, .iaload, 1) :: (42, .istore 4, 2) :: (44, .aload_n 0, 1) :: (45, .getfield 76, 3) :: (48, .getfield 279, 3) :: (51, .iload_n 1, 1) :: (52, .iload_n 2, 1) :: (53, .iastore, 1) :: (54, .aload_n 0, 1) :: (55, .getfield 76, 3) :: (58, .getfield 282, 3) :: (61, .iload_n 1, 1) :: (62, .iload_n 3, 1) :: (63, .iastore, 1) :: (64, .iload 4, 2) :: (66, .ireturn, 1) :: [])
set_option maxRecDepth 100000 in
def mX11_wants : zMeth := (yX11_wants, cX11_wants, 4, (some .boolean), 11, (0, .aload_n 0, 1) :: (1, .getfield 19, 3) :: (4, .iload_n 1, 1) :: (5, .invokevirtual 174, 3) :: (8, .ifCond .eq 22, 3) :: (11, .iload_n 2, 1) :: (12, .ifCond .lt 18, 3) :: (15, .iload_n 2, 1) :: (16, .bipush 40, 2) :: (18, .if_icmp .gt 12, 3) :: (21, .iload_n 3, 1) :: (22, .ifCond .lt 8, 3) :: (25, .iload_n 3, 1) :: (26, .iconst 3, 1) :: (27, .if_icmp .lt 5, 3) :: (30, .iconst 0, 1) :: (31, .ireturn, 1) :: (32, .aload_n 0, 1) :: (33, .getfield 19, 3) :: (36, .getfield 285, 3) :: (39, .iload_n 1, 1) :: (40, .iload_n 2, 1) :: (41, .iastore, 1) :: (42, .aload_n 0, 1) :: (43, .getfield 19, 3) :: (46, .getfield 288, 3) :: (49, .iload_n 1, 1) :: (50, .iload_n 3, 1) :: (51, .iastore, 1) :: (52, .iconst 1, 1) :: (53, .ireturn, 1) :: [])
set_option maxRecDepth 100000 in
def mX11_coaled : zMeth := (yX11_coaled, cX11_coaled, 2, (some .int), 11, (0, .aload_n 0, 1) :: (1, .getfield 76, 3) :: (4, .iload_n 1, 1) :: (5, .invokevirtual 291, 3) :: (8, .ifCond .eq 15, 3) :: (11, .aload_n 0, 1) :: (12, .getfield 76, 3) :: (15, .iload_n 1, 1) :: (16, .iconst 0, 1) :: (17, .invokevirtual 294, 3) :: (20, .goto 4, 3) :: (23, .iconst (-1), 1) :: (24, .ireturn, 1) :: [])
set_option maxRecDepth 100000 in
def mX11_fill : zMeth := (yX11_fill, cX11_fill, 2, (some .int), 11, (0, .aload_n 0, 1) :: (1, .getfield 76, 3) :: (4, .iload_n 1, 1) :: (5, .invokevirtual 291, 3) :: (8, .ifCond .eq 15, 3) :: (11, .aload_n 0, 1) :: (12, .getfield 76, 3) :: (15, .iload_n 1, 1) :: (16, .iconst 1, 1) :: (17, .invokevirtual 294, 3) :: (20, .goto 4, 3) :: (23, .iconst (-1), 1) :: (24, .ireturn, 1) :: [])
set_option maxRecDepth 100000 in
def mX11_burns : zMeth := (yX11_burns, cX11_burns, 2, (some .int), 11, (0, .aload_n 0, 1) :: (1, .getfield 76, 3) :: (4, .iload_n 1, 1) :: (5, .invokevirtual 291, 3) :: (8, .ifCond .eq 14, 3) :: (11, .aload_n 0, 1) :: (12, .getfield 76, 3) :: (15, .iload_n 1, 1) :: (16, .invokevirtual 298, 3) :: (19, .goto 4, 3) :: (22, .iconst (-1), 1) :: (23, .ireturn, 1) :: [])
set_option maxRecDepth 100000 in
def mX11_train : zMeth := (yX11_train, cX11_train, 4, (some .int), 11, (0, .iload_n 1, 1) :: (1, .ifCond .lt 31, 3) :: (4, .iload_n 1, 1) :: (5, .sipush 2000, 3) :: (8, .if_icmp .gt 24, 3) :: (11, .iload_n 2, 1) :: (12, .ifCond .lt 20, 3) :: (15, .iload_n 2, 1) :: (16, .iconst 5, 1) :: (17, .if_icmp .gt 15, 3) :: (20, .iload_n 3, 1) :: (21, .iconst 1, 1) :: (22, .if_icmp .lt 10, 3) :: (25, .iload_n 3, 1) :: (26, .sipush 600, 3) :: (29, .if_icmp .le 5, 3) :: (32, .iconst (-1), 1) :: (33, .ireturn, 1) :: (34, .aload_n 0, 1) :: (35, .getfield 83, 3) :: (38, .getfield 301, 3) :: (41, .bipush 8, 2) :: (43, .if_icmp .ge 16, 3) :: (46, .aload_n 0, 1) :: (47, .getfield 83, 3) :: (50, .iload_n 1, 1) :: (51, .iload_n 2, 1) :: (52, .iload_n 3, 1) :: (53, .invokevirtual 302, 3) :: (56, .goto 4, 3) :: (59, .iconst (-1), 1) :: (60, .ireturn, 1) :: [])
set_option maxRecDepth 100000 in
def mX11_plan : zMeth := (yX11_plan, cX11_plan, 4, (some .boolean), 11, (0, .aload_n 0, 1) :: (1, .getfield 83, 3) :: (4, .iload_n 1, 1) :: (5, .invokevirtual 305, 3) :: (8, .ifCond .ne 5, 3) :: (11, .iconst 0, 1) :: (12, .ireturn, 1) :: (13, .iload_n 2, 1) :: (14, .iconst (-1), 1) :: (15, .if_icmp .eq 37, 3) :: (18, .aload_n 0, 1) :: (19, .getfield 19, 3) :: (22, .iload_n 2, 1) :: (23, .invokevirtual 174, 3) :: (26, .ifCond .ne 5, 3) :: (29, .iconst 0, 1) :: (30, .ireturn, 1) :: (31, .aload_n 0, 1) :: (32, .getfield 83, 3) :: (35, .iload_n 2, 1) :: (36, .invokevirtual 306, 3) :: (39, .istore_n 3, 1) :: (40, .iload_n 3, 1) :: (41, .iconst (-1), 1) :: (42, .if_icmp .eq 10, 3) :: (45, .iload_n 3, 1) :: (46, .iload_n 1, 1) :: (47, .if_icmp .eq 5, 3) :: (50, .iconst 0, 1) :: (51, .ireturn, 1) :: (52, .aload_n 0, 1) :: (53, .getfield 83, 3) :: (56, .getfield 309, 3) :: (59, .iload_n 1, 1) :: (60, .iload_n 2, 1) :: (61, .iastore, 1) :: (62, .iconst 1, 1) :: (63, .ireturn, 1) :: [])
set_option maxRecDepth 100000 in
def mX11_fits : zMeth := (yX11_fits, cX11_fits, 3, (some .int), 11, (0, .aload_n 0, 1) :: (1, .getfield 19, 3) :: (4, .iload_n 1, 1) :: (5, .invokevirtual 174, 3) :: (8, .ifCond .eq 14, 3) :: (11, .aload_n 0, 1) :: (12, .getfield 83, 3) :: (15, .iload_n 2, 1) :: (16, .invokevirtual 305, 3) :: (19, .ifCond .ne 5, 3) :: (22, .iconst (-1), 1) :: (23, .ireturn, 1) :: (24, .aload_n 0, 1) :: (25, .getfield 83, 3) :: (28, .iload_n 1, 1) :: (29, .iload_n 2, 1) :: (30, .invokevirtual 312, 3) :: (33, .ifCond .eq 7, 3) :: (36, .iconst 1, 1) :: (37, .goto 4, 3) :: (40, .iconst 0, 1) :: (41, .ireturn, 1) :: [])
set_option maxRecDepth 100000 in
def mX11_most : zMeth := (yX11_most, cX11_most, 2, (some .int), 11, (0, .aload_n 0, 1) :: (1, .getfield 83, 3) :: (4, .iconst (-1), 1) :: (5, .iconst 0, 1) :: (6, .invokevirtual 316, 3) :: (9, .istore_n 1, 1) :: (10, .aload_n 0, 1) :: (11, .getfield 33, 3) :: (14, .invokevirtual 319, 3) :: (17, .aload_n 0, 1) :: (18, .getfield 83, 3) :: (21, .invokevirtual 322, 3) :: (24, .iload_n 1, 1) :: (25, .ireturn, 1) :: [])
set_option maxRecDepth 100000 in
def mX11_fails : zMeth := (yX11_fails, cX11_fails, 3, (some .int), 11, (0, .aload_n 0, 1) :: (1, .getfield 19, 3) :: (4, .iload_n 1, 1) :: (5, .invokevirtual 174, 3) :: (8, .ifCond .ne 5, 3) :: (11, .iconst (-1), 1) :: (12, .ireturn, 1) :: (13, .aload_n 0, 1) :: (14, .getfield 83, 3) :: (17, .iload_n 1, 1) :: (18, .iconst 1, 1) :: (19, .invokevirtual 316, 3) :: (22, .istore_n 2, 1) :: (23, .aload_n 0, 1) :: (24, .getfield 33, 3) :: (27, .iload_n 2, 1) :: (28, .invokevirtual 244, 3) :: (31, .aload_n 0, 1) :: (32, .getfield 83, 3) :: (35, .invokevirtual 322, 3) :: (38, .aload_n 0, 1) :: (39, .getfield 83, 3) :: (42, .getfield 325, 3) :: (45, .ireturn, 1) :: [])
set_option maxRecDepth 100000 in
def mX11_soonest : zMeth := (yX11_soonest, cX11_soonest, 2, (some .int), 11, (0, .aload_n 0, 1) :: (1, .getfield 83, 3) :: (4, .iload_n 1, 1) :: (5, .invokevirtual 305, 3) :: (8, .ifCond .eq 14, 3) :: (11, .aload_n 0, 1) :: (12, .getfield 83, 3) :: (15, .iload_n 1, 1) :: (16, .invokevirtual 328, 3) :: (19, .goto 4, 3) :: (22, .iconst (-1), 1) :: (23, .ireturn, 1) :: [])
set_option maxRecDepth 100000 in
def mX11_wrong : zMeth := (yX11_wrong, cX11_wrong, 1, (some .int), 11, (0, .aload_n 0, 1) :: (1, .getfield 83, 3) :: (4, .invokevirtual 331, 3) :: (7, .ireturn, 1) :: [])
set_option maxRecDepth 100000 in
def mX11_exchange : zMeth := (yX11_exchange, cX11_exchange, 1, (some .int), 11, (0, .aload_n 0, 1) :: (1, .getfield 92, 3) :: (4, .invokevirtual 334, 3) :: (7, .ireturn, 1) :: [])
set_option maxRecDepth 100000 in
def mX11_crews : zMeth := (yX11_crews, cX11_crews, 3, (some .int), 11, (0, .iload_n 1, 1) :: (1, .ifCond .lt 22, 3) :: (4, .iload_n 1, 1) :: (5, .sipush 600, 3) :: (8, .if_icmp .gt 15, 3) :: (11, .iload_n 2, 1) :: (12, .iconst 1, 1) :: (13, .if_icmp .lt 10, 3) :: (16, .iload_n 2, 1) :: (17, .sipush 2000, 3) :: (20, .if_icmp .le 5, 3) :: (23, .iconst (-1), 1) :: (24, .ireturn, 1) :: (25, .aload_n 0, 1) :: (26, .getfield 83, 3) :: (29, .iload_n 1, 1) :: (30, .iload_n 2, 1) :: (31, .invokevirtual 337, 3) :: (34, .ireturn, 1) :: [])
set_option maxRecDepth 100000 in
def mX11_fires : zMeth := (yX11_fires, cX11_fires, 4, (some .int), 11, (0, .iload_n 1, 1) :: (1, .iconst 1, 1) :: (2, .if_icmp .lt 20, 3) :: (5, .iload_n 1, 1) :: (6, .bipush 120, 2) :: (8, .if_icmp .gt 14, 3) :: (11, .iload_n 2, 1) :: (12, .iconst 1, 1) :: (13, .if_icmp .lt 9, 3) :: (16, .iload_n 2, 1) :: (17, .bipush 6, 2) :: (19, .if_icmp .le 7, 3) :: (22, .sipush (-5001), 3) :: (25, .ireturn, 1) :: (26, .aload_n 0, 1) :: (27, .getfield 83, 3) :: (30, .iload_n 1, 1) :: (31, .iload_n 2, 1) :: (32, .invokevirtual 340, 3) :: (35, .istore_n 3, 1) :: (36, .iload_n 3, 1) :: (37, .sipush (-5000), 3) :: (40, .if_icmp .eq 10, 3) :: (43, .aload_n 0, 1) :: (44, .getfield 83, 3) :: (47, .invokevirtual 343, 3) :: (50, .iload_n 3, 1) :: (51, .ireturn, 1) :: [])
set_option maxRecDepth 100000 in
def mX11_men : zMeth := (yX11_men, cX11_men, 2, (some .int), 11, (0, .iload_n 1, 1) :: (1, .iconst 1, 1) :: (2, .if_icmp .lt 9, 3) :: (5, .iload_n 1, 1) :: (6, .bipush 120, 2) :: (8, .if_icmp .le 7, 3) :: (11, .iconst (-1), 1) :: (12, .goto 11, 3) :: (15, .aload_n 0, 1) :: (16, .getfield 83, 3) :: (19, .iload_n 1, 1) :: (20, .invokevirtual 346, 3) :: (23, .ireturn, 1) :: [])
set_option maxRecDepth 100000 in
def mX11_frost : zMeth := (yX11_frost, cX11_frost, 2, (some .int), 11, (0, .iload_n 1, 1) :: (1, .ifCond .lt 9, 3) :: (4, .iload_n 1, 1) :: (5, .bipush 12, 2) :: (7, .if_icmp .le 7, 3) :: (10, .iconst (-1), 1) :: (11, .goto 15, 3) :: (14, .aload_n 0, 1) :: (15, .getfield 58, 3) :: (18, .aload_n 0, 1) :: (19, .getfield 40, 3) :: (22, .iload_n 1, 1) :: (23, .invokevirtual 349, 3) :: (26, .ireturn, 1) :: [])
set_option maxRecDepth 100000 in
def mX11_morning : zMeth := (yX11_morning, cX11_morning, 3, (some .int), 11, (0, .aload_n 0, 1) :: (1, .getfield 92, 3) :: (4, .invokevirtual 352, 3) :: (7, .istore_n 1, 1) :: (8, .aload_n 0, 1) :: (9, .getfield 33, 3) :: (12, .invokevirtual 319, 3) :: (15, .iconst 0, 1) :: (16, .istore_n 2, 1) :: (17, .iload_n 2, 1) :: (18, .aload_n 0, 1) :: (19, .getfield 83, 3) :: (22, .getfield 301, 3) :: (25, .if_icmp .ge 25, 3) :: (28, .aload_n 0, 1) :: (29, .getfield 33, 3) :: (32, .aload_n 0, 1) :: (33, .getfield 92, 3) :: (36, .getfield 355, 3) :: (39, .iload_n 2, 1) :: (40, .iaload, 1) :: (41, .invokevirtual 358, 3) :: (44, .iinc 2 1, 3) :: (47, .goto (-30), 3) :: (50, .iload_n 1, 1) :: (51, .ireturn, 1) :: [])
set_option maxRecDepth 100000 in
def mX11_why : zMeth := (yX11_why, cX11_why, 2, (some .int), 11, (0, .aload_n 0, 1) :: (1, .getfield 83, 3) :: (4, .iload_n 1, 1) :: (5, .invokevirtual 305, 3) :: (8, .ifCond .eq 14, 3) :: (11, .aload_n 0, 1) :: (12, .getfield 92, 3) :: (15, .iload_n 1, 1) :: (16, .invokevirtual 361, 3) :: (19, .goto 4, 3) :: (22, .iconst (-1), 1) :: (23, .ireturn, 1) :: [])
set_option maxRecDepth 100000 in
def mX11_keep : zMeth := (yX11_keep, cX11_keep, 2, (some .boolean), 11, (0, .iload_n 1, 1) :: (1, .ifCond .lt 8, 3) :: (4, .iload_n 1, 1) :: (5, .iconst 3, 1) :: (6, .if_icmp .lt 5, 3) :: (9, .iconst 0, 1) :: (10, .ireturn, 1) :: (11, .aload_n 0, 1) :: (12, .getfield 96, 3) :: (15, .iload_n 1, 1) :: (16, .aaload, 1) :: (17, .aload_n 0, 1) :: (18, .getfield 40, 3) :: (21, .invokevirtual 364, 3) :: (24, .aload_n 0, 1) :: (25, .getfield 100, 3) :: (28, .iload_n 1, 1) :: (29, .aload_n 0, 1) :: (30, .getfield 104, 3) :: (33, .iastore, 1) :: (34, .iconst 1, 1) :: (35, .ireturn, 1) :: [])
set_option maxRecDepth 100000 in
def mX11_again : zMeth := (yX11_again, cX11_again, 2, (some .boolean), 11, (0, .iload_n 1, 1) :: (1, .ifCond .lt 21, 3) :: (4, .iload_n 1, 1) :: (5, .iconst 3, 1) :: (6, .if_icmp .ge 16, 3) :: (9, .aload_n 0, 1) :: (10, .getfield 100, 3) :: (13, .iload_n 1, 1) :: (14, .iaload, 1) :: (15, .aload_n 0, 1) :: (16, .getfield 104, 3) :: (19, .if_icmp .eq 5, 3) :: (22, .iconst 0, 1) :: (23, .ireturn, 1) :: (24, .aload_n 0, 1) :: (25, .getfield 40, 3) :: (28, .aload_n 0, 1) :: (29, .getfield 96, 3) :: (32, .iload_n 1, 1) :: (33, .aaload, 1) :: (34, .invokevirtual 364, 3) :: (37, .iconst 1, 1) :: (38, .ireturn, 1) :: [])
set_option maxRecDepth 100000 in
def mX11_count : zMeth := (yX11_count, cX11_count, 2, (some .int), 11, (0, .iload_n 1, 1) :: (1, .tableswitch 159 0 11 #[63, 71, 79, 87, 95, 103, 111, 119, 127, 135, 143, 151], 63) :: (64, .aload_n 0, 1) :: (65, .getfield 10, 3) :: (68, .getfield 112, 3) :: (71, .ireturn, 1) :: (72, .aload_n 0, 1) :: (73, .getfield 19, 3) :: (76, .getfield 167, 3) :: (79, .ireturn, 1) :: (80, .aload_n 0, 1) :: (81, .getfield 40, 3) :: (84, .getfield 180, 3) :: (87, .ireturn, 1) :: (88, .aload_n 0, 1) :: (89, .getfield 40, 3) :: (92, .getfield 119, 3) :: (95, .ireturn, 1) :: (96, .aload_n 0, 1) :: (97, .getfield 83, 3) :: (100, .getfield 301, 3) :: (103, .ireturn, 1) :: (104, .aload_n 0, 1) :: (105, .getfield 67, 3) :: (108, .getfield 368, 3) :: (111, .ireturn, 1) :: (112, .aload_n 0, 1) :: (113, .getfield 67, 3) :: (116, .getfield 371, 3) :: (119, .ireturn, 1) :: (120, .aload_n 0, 1) :: (121, .getfield 40, 3) :: (124, .invokevirtual 108, 3) :: (127, .ireturn, 1) :: (128, .aload_n 0, 1) :: (129, .getfield 40, 3) :: (132, .invokevirtual 374, 3) :: (135, .ireturn, 1) :: (136, .aload_n 0, 1) :: (137, .getfield 40, 3) :: (140, .getfield 183, 3) :: (143, .ireturn, 1) :: (144, .aload_n 0, 1) :: (145, .getfield 33, 3) :: (148, .getfield 377, 3) :: (151, .ireturn, 1) :: (152, .aload_n 0, 1) :: (153, .getfield 26, 3) :: (156, .getfield 380, 3) :: (159, .ireturn, 1) :: (160, .iconst (-1), 1) :: (161, .ireturn, 1) :: [])
set_option maxRecDepth 100000 in
def mX11_inside : zMeth := (yX11_inside, cX11_inside, 2, (some .int), 11, (0, .aload_n 0, 1) :: (1, .getfield 10, 3) :: (4, .iload_n 1, 1) :: (5, .invokevirtual 122, 3) :: (8, .ifCond .ne 5, 3) :: (11, .iconst (-1), 1) :: (12, .ireturn, 1) :: (13, .aload_n 0, 1) :: (14, .getfield 33, 3) :: (17, .invokevirtual 319, 3) :: (20, .aload_n 0, 1) :: (21, .getfield 40, 3) :: (24, .getfield 383, 3) :: (27, .iload_n 1, 1) :: (28, .iaload, 1) :: (29, .iconst (-1), 1) :: (30, .if_icmp .eq 19, 3) :: (33, .aload_n 0, 1) :: (34, .getfield 33, 3) :: (37, .aload_n 0, 1) :: (38, .getfield 40, 3) :: (41, .getfield 383, 3) :: (44, .iload_n 1, 1) :: (45, .iaload, 1) :: (46, .invokevirtual 358, 3) :: (49, .aload_n 0, 1) :: (50, .getfield 40, 3) :: (53, .getfield 386, 3) :: (56, .iload_n 1, 1) :: (57, .iaload, 1) :: (58, .iconst (-1), 1) :: (59, .if_icmp .eq 19, 3) :: (62, .aload_n 0, 1) :: (63, .getfield 33, 3) :: (66, .aload_n 0, 1) :: (67, .getfield 40, 3) :: (70, .getfield 386, 3) :: (73, .iload_n 1, 1) :: (74, .iaload, 1) :: (75, .invokevirtual 358, 3) :: (78, .aload_n 0, 1) :: (79, .getfield 33, 3) :: (82, .getfield 377, 3) :: (85, .ireturn, 1) :: [])
set_option maxRecDepth 100000 in
def mX11_row : zMeth := (yX11_row, cX11_row, 2, (some .int), 11, (0, .iload_n 1, 1) :: (1, .ifCond .lt 14, 3) :: (4, .iload_n 1, 1) :: (5, .aload_n 0, 1) :: (6, .getfield 33, 3) :: (9, .getfield 377, 3) :: (12, .if_icmp .lt 14, 3) :: (15, .new 186, 3) :: (18, .dup, 1) :: (19, .ldc_w 389, 3) :: (22, .invokespecial 190, 3) :: (25, .athrow, 1) :: (26, .aload_n 0, 1) :: (27, .getfield 33, 3) :: (30, .getfield 391, 3) :: (33, .iload_n 1, 1) :: (34, .iaload, 1) :: (35, .ireturn, 1) :: [])
set_option maxRecDepth 100000 in
def mX12_thrown : zMeth := (yX12_thrown, cX12_thrown, 1, (some .int), 12, (0, .aload_n 0, 1) :: (1, .getfield 197, 3) :: (4, .ireturn, 1) :: [])
set_option maxRecDepth 100000 in
def mX12_in : zMeth := (yX12_in, cX12_in, 3, (some .boolean), 12, (0, .iload_n 0, 1) :: (1, .iload_n 1, 1) :: (2, .if_icmp .lt 12, 3) :: (5, .iload_n 0, 1) :: (6, .iload_n 2, 1) :: (7, .if_icmp .gt 7, 3) :: (10, .iconst 1, 1) :: (11, .goto 4, 3) :: (14, .iconst 0, 1) :: (15, .ireturn, 1) :: [])
set_option maxRecDepth 100000 in
def mX12_lost : zMeth := (yX12_lost, cX12_lost, 1, (some .int), 12, (0, .aload_n 0, 1) :: (1, .iconst 1, 1) :: (2, .putfield 197, 3) :: (5, .iconst 0, 1) :: (6, .ireturn, 1) :: [])
set_option maxRecDepth 100000 in
def mX12_tell : zMeth := (yX12_tell, cX12_tell, 2, none, 12, (0, .aload_n 0, 1) :: (1, .getfield 85, 3) :: (4, .aload_n 0, 1) :: (5, .getfield 200, 3) :: (8, .iload_n 1, 1) :: (9, .iastore, 1) :: (10, .aload_n 0, 1) :: (11, .dup, 1) :: (12, .getfield 200, 3) :: (15, .iconst 1, 1) :: (16, .iadd, 1) :: (17, .putfield 200, 3) :: (20, .return_, 1) :: [])
set_option maxRecDepth 100000 in
def mX12_fresh : zMeth := (yX12_fresh, cX12_fresh, 2, none, 12, (0, .iconst 0, 1) :: (1, .istore_n 1, 1) :: (2, .iload_n 1, 1) :: (3, .bipush 23, 2) :: (5, .if_icmp .ge 45, 3) :: (8, .aload_n 0, 1) :: (9, .getfield 13, 3) :: (12, .iload_n 1, 1) :: (13, .bipush 30, 2) :: (15, .iastore, 1) :: (16, .aload_n 0, 1) :: (17, .getfield 17, 3) :: (20, .iload_n 1, 1) :: (21, .iconst 3, 1) :: (22, .iastore, 1) :: (23, .aload_n 0, 1) :: (24, .getfield 20, 3) :: (27, .iload_n 1, 1) :: (28, .iconst 0, 1) :: (29, .bastore, 1) :: (30, .aload_n 0, 1) :: (31, .getfield 24, 3) :: (34, .iload_n 1, 1) :: (35, .iconst (-1), 1) :: (36, .iastore, 1) :: (37, .aload_n 0, 1) :: (38, .getfield 27, 3) :: (41, .iload_n 1, 1) :: (42, .iconst (-1), 1) :: (43, .iastore, 1) :: (44, .iinc 1 1, 3) :: (47, .goto (-45), 3) :: (50, .aload_n 0, 1) :: (51, .aload_n 0, 1) :: (52, .getfield 7, 3) :: (55, .putfield 51, 3) :: (58, .return_, 1) :: [])
set_option maxRecDepth 100000 in
def mX12_isStall : zMeth := (yX12_isStall, cX12_isStall, 2, (some .boolean), 12, (0, .iload_n 1, 1) :: (1, .iconst 0, 1) :: (2, .aload_n 0, 1) :: (3, .getfield 7, 3) :: (6, .iconst 1, 1) :: (7, .isub, 1) :: (8, .invokestatic 203, 3) :: (11, .ireturn, 1) :: [])
set_option maxRecDepth 100000 in
def mX12_isPoint : zMeth := (yX12_isPoint, cX12_isPoint, 2, (some .boolean), 12, (0, .iload_n 1, 1) :: (1, .iconst 0, 1) :: (2, .aload_n 0, 1) :: (3, .getfield 7, 3) :: (6, .invokestatic 203, 3) :: (9, .ireturn, 1) :: [])
set_option maxRecDepth 100000 in
def mX12_isEngine : zMeth := (yX12_isEngine, cX12_isEngine, 2, (some .boolean), 12, (0, .iload_n 1, 1) :: (1, .iconst 0, 1) :: (2, .aload_n 0, 1) :: (3, .getfield 207, 3) :: (6, .iconst 1, 1) :: (7, .isub, 1) :: (8, .invokestatic 203, 3) :: (11, .ireturn, 1) :: [])
set_option maxRecDepth 100000 in
def mX12_isTrain : zMeth := (yX12_isTrain, cX12_isTrain, 2, (some .boolean), 12, (0, .iload_n 1, 1) :: (1, .iconst 0, 1) :: (2, .aload_n 0, 1) :: (3, .getfield 210, 3) :: (6, .iconst 1, 1) :: (7, .isub, 1) :: (8, .invokestatic 203, 3) :: (11, .ireturn, 1) :: [])
set_option maxRecDepth 100000 in
def mX12_isAnyIn : zMeth := (yX12_isAnyIn, cX12_isAnyIn, 2, (some .boolean), 12, (0, .iconst 0, 1) :: (1, .istore_n 1, 1) :: (2, .iload_n 1, 1) :: (3, .aload_n 0, 1) :: (4, .getfield 207, 3) :: (7, .if_icmp .ge 21, 3) :: (10, .aload_n 0, 1) :: (11, .getfield 45, 3) :: (14, .iload_n 1, 1) :: (15, .iaload, 1) :: (16, .iconst (-1), 1) :: (17, .if_icmp .eq 5, 3) :: (20, .iconst 1, 1) :: (21, .ireturn, 1) :: (22, .iinc 1 1, 3) :: (25, .goto (-23), 3) :: (28, .iconst 0, 1) :: (29, .ireturn, 1) :: [])
set_option maxRecDepth 100000 in
def mX12_ring : zMeth := (yX12_ring, cX12_ring, 3, (some .int), 12, (0, .aload_n 0, 1) :: (1, .iconst 0, 1) :: (2, .putfield 197, 3) :: (5, .iload_n 1, 1) :: (6, .iconst 4, 1) :: (7, .bipush 23, 2) :: (9, .invokestatic 203, 3) :: (12, .ifCond .eq 10, 3) :: (15, .aload_n 0, 1) :: (16, .invokevirtual 213, 3) :: (19, .ifCond .eq 5, 3) :: (22, .iconst (-1), 1) :: (23, .ireturn, 1) :: (24, .aload_n 0, 1) :: (25, .getfield 7, 3) :: (28, .istore_n 2, 1) :: (29, .aload_n 0, 1) :: (30, .iload_n 1, 1) :: (31, .putfield 7, 3) :: (34, .aload_n 0, 1) :: (35, .invokevirtual 194, 3) :: (38, .aload_n 0, 1) :: (39, .dup, 1) :: (40, .getfield 217, 3) :: (43, .iconst 1, 1) :: (44, .iadd, 1) :: (45, .putfield 217, 3) :: (48, .iload_n 2, 1) :: (49, .ireturn, 1) :: [])
set_option maxRecDepth 100000 in
def mX12_lengthIn : zMeth := (yX12_lengthIn, cX12_lengthIn, 2, (some .int), 12, (0, .aload_n 0, 1) :: (1, .getfield 24, 3) :: (4, .iload_n 1, 1) :: (5, .iaload, 1) :: (6, .iconst (-1), 1) :: (7, .if_icmp .ne 7, 3) :: (10, .iconst 0, 1) :: (11, .goto 14, 3) :: (14, .aload_n 0, 1) :: (15, .getfield 30, 3) :: (18, .aload_n 0, 1) :: (19, .getfield 24, 3) :: (22, .iload_n 1, 1) :: (23, .iaload, 1) :: (24, .iaload, 1) :: (25, .aload_n 0, 1) :: (26, .getfield 27, 3) :: (29, .iload_n 1, 1) :: (30, .iaload, 1) :: (31, .iconst (-1), 1) :: (32, .if_icmp .ne 7, 3) :: (35, .iconst 0, 1) :: (36, .goto 14, 3) :: (39, .aload_n 0, 1) :: (40, .getfield 30, 3) :: (43, .aload_n 0, 1) :: (44, .getfield 27, 3) :: (47, .iload_n 1, 1) :: (48, .iaload, 1) :: (49, .iaload, 1) :: (50, .iadd, 1) :: (51, .ireturn, 1) :: [])
set_option maxRecDepth 100000 in
def mX12_stall : zMeth := (yX12_stall, cX12_stall, 4, (some .boolean), 12, (0, .aload_n 0, 1) :: (1, .iconst 0, 1) :: (2, .putfield 197, 3) :: (5, .aload_n 0, 1) :: (6, .iload_n 1, 1) :: (7, .invokevirtual 220, 3) :: (10, .ifCond .eq 32, 3) :: (13, .iload_n 2, 1) :: (14, .bipush 10, 2) :: (16, .bipush 60, 2) :: (18, .invokestatic 203, 3) :: (21, .ifCond .eq 21, 3) :: (24, .iload_n 3, 1) :: (25, .iconst 0, 1) :: (26, .iconst 3, 1) :: (27, .invokestatic 203, 3) :: (30, .ifCond .eq 12, 3) :: (33, .aload_n 0, 1) :: (34, .iload_n 1, 1) :: (35, .invokevirtual 224, 3) :: (38, .iload_n 2, 1) :: (39, .if_icmp .le 5, 3) :: (42, .iconst 0, 1) :: (43, .ireturn, 1) :: (44, .aload_n 0, 1) :: (45, .getfield 13, 3) :: (48, .iload_n 1, 1) :: (49, .iload_n 2, 1) :: (50, .iastore, 1) :: (51, .aload_n 0, 1) :: (52, .getfield 17, 3) :: (55, .iload_n 1, 1) :: (56, .iload_n 3, 1) :: (57, .iastore, 1) :: (58, .aload_n 0, 1) :: (59, .dup, 1) :: (60, .getfield 217, 3) :: (63, .iconst 1, 1) :: (64, .iadd, 1) :: (65, .putfield 217, 3) :: (68, .iconst 1, 1) :: (69, .ireturn, 1) :: [])
set_option maxRecDepth 100000 in
def mX12_sheet : zMeth := (yX12_sheet, cX12_sheet, 9, (some .int), 12, (0, .aload_n 0, 1) :: (1, .iconst 0, 1) :: (2, .putfield 197, 3) :: (5, .iload_n 1, 1) :: (6, .iconst 0, 1) :: (7, .iconst 3, 1) :: (8, .invokestatic 203, 3) :: (11, .ifCond .eq 18, 3) :: (14, .iload_n 2, 1) :: (15, .aload_n 0, 1) :: (16, .getfield 7, 3) :: (19, .if_icmp .gt 10, 3) :: (22, .aload_n 0, 1) :: (23, .invokevirtual 213, 3) :: (26, .ifCond .eq 5, 3) :: (29, .iconst (-1), 1) :: (30, .ireturn, 1) :: (31, .iload_n 1, 1) :: (32, .iconst 3, 1) :: (33, .if_icmp .ge 10, 3) :: (36, .iload_n 2, 1) :: (37, .ifCond .ge 6, 3) :: (40, .bipush (-2), 2) :: (42, .ireturn, 1) :: (43, .iconst 0, 1) :: (44, .istore 5, 2) :: (46, .iload_n 3, 1) :: (47, .istore 6, 2) :: (49, .iconst 0, 1) :: (50, .istore 7, 2) :: (52, .iload 7, 2) :: (54, .aload_n 0, 1) :: (55, .getfield 7, 3) :: (58, .if_icmp .ge 88, 3) :: (61, .iload_n 1, 1) :: (62, .ifCond .ne 9, 3) :: (65, .iload 6, 2) :: (67, .i2b, 1) :: (68, .goto 16, 3) :: (71, .iload_n 1, 1) :: (72, .iconst 1, 1) :: (73, .if_icmp .ne 9, 3) :: (76, .iload 6, 2) :: (78, .i2s, 1) :: (79, .goto 5, 3) :: (82, .iload 6, 2) :: (84, .istore 8, 2) :: (86, .aload_n 0, 1) :: (87, .getfield 13, 3) :: (90, .iload 7, 2) :: (92, .iload_n 1, 1) :: (93, .iconst 3, 1) :: (94, .if_icmp .eq 9, 3) :: (97, .iload 7, 2) :: (99, .iload_n 2, 1) :: (100, .if_icmp .lt 8, 3) :: (103, .bipush 30, 2) :: (105, .goto 15, 3) :: (108, .bipush 10, 2) :: (110, .bipush 60, 2) :: (112, .iload 8, 2) :: (114, .invokestatic 228, 3) :: (117, .invokestatic 234, 3) :: (120, .iastore, 1) :: (121, .iload 5, 2) :: (123, .aload_n 0, 1) :: (124, .getfield 13, 3) :: (127, .iload 7, 2) :: (129, .iaload, 1) :: (130, .iadd, 1) :: (131, .istore 5, 2) :: (133, .iload 6, 2) :: (135, .iload 4, 2) :: (137, .iadd, 1) :: (138, .istore 6, 2) :: (140, .iinc 7 1, 3) :: (143, .goto (-91), 3) :: (146, .aload_n 0, 1) :: (147, .dup, 1) :: (148, .getfield 217, 3) :: (151, .iconst 1, 1) :: (152, .iadd, 1) :: (153, .putfield 217, 3) :: (156, .iload_n 1, 1) :: (157, .iconst 3, 1) :: (158, .if_icmp .ne 8, 3) :: (161, .bipush (-3), 2) :: (163, .goto 5, 3) :: (166, .iload 5, 2) :: (168, .ireturn, 1) :: [])
set_option maxRecDepth 100000 in
def mX12_shut : zMeth := (yX12_shut, cX12_shut, 3, (some .boolean), 12, (0, .aload_n 0, 1) :: (1, .iconst 0, 1) :: (2, .putfield 197, 3) :: (5, .aload_n 0, 1) :: (6, .iload_n 1, 1) :: (7, .invokevirtual 220, 3) :: (10, .ifCond .ne 5, 3) :: (13, .iconst 0, 1) :: (14, .ireturn, 1) :: (15, .aload_n 0, 1) :: (16, .getfield 20, 3) :: (19, .iload_n 1, 1) :: (20, .iload_n 2, 1) :: (21, .bastore, 1) :: (22, .iconst 1, 1) :: (23, .ireturn, 1) :: [])
set_option maxRecDepth 100000 in
def mX12_set : zMeth := (yX12_set, cX12_set, 4, (some .int), 12, (0, .aload_n 0, 1) :: (1, .iconst 0, 1) :: (2, .putfield 197, 3) :: (5, .iload_n 1, 1) :: (6, .iconst 0, 1) :: (7, .iconst 1, 1) :: (8, .invokestatic 203, 3) :: (11, .ifCond .eq 21, 3) :: (14, .iload_n 2, 1) :: (15, .iload_n 1, 1) :: (16, .ifCond .ne 7, 3) :: (19, .iconst 1, 1) :: (20, .goto 4, 3) :: (23, .iconst 0, 1) :: (24, .bipush 9, 2) :: (26, .invokestatic 203, 3) :: (29, .ifCond .ne 5, 3) :: (32, .iconst (-1), 1) :: (33, .ireturn, 1) :: (34, .iload_n 1, 1) :: (35, .ifCond .ne 10, 3) :: (38, .aload_n 0, 1) :: (39, .getfield 54, 3) :: (42, .goto 7, 3) :: (45, .aload_n 0, 1) :: (46, .getfield 57, 3) :: (49, .istore_n 3, 1) :: (50, .iload_n 1, 1) :: (51, .ifCond .ne 11, 3) :: (54, .aload_n 0, 1) :: (55, .iload_n 2, 1) :: (56, .putfield 54, 3) :: (59, .goto 8, 3) :: (62, .aload_n 0, 1) :: (63, .iload_n 2, 1) :: (64, .putfield 57, 3) :: (67, .iload_n 3, 1) :: (68, .ireturn, 1) :: [])
set_option maxRecDepth 100000 in
def mX12_stepsOf : zMeth := (yX12_stepsOf, cX12_stepsOf, 4, (some .int), 12, (0, .iload_n 1, 1) :: (1, .iload_n 2, 1) :: (2, .isub, 1) :: (3, .invokestatic 237, 3) :: (6, .istore_n 3, 1) :: (7, .iload_n 3, 1) :: (8, .aload_n 0, 1) :: (9, .getfield 7, 3) :: (12, .iconst 1, 1) :: (13, .iadd, 1) :: (14, .iload_n 3, 1) :: (15, .isub, 1) :: (16, .invokestatic 228, 3) :: (19, .ireturn, 1) :: [])
set_option maxRecDepth 100000 in
def mX12_steps : zMeth := (yX12_steps, cX12_steps, 3, (some .int), 12, (0, .aload_n 0, 1) :: (1, .iconst 0, 1) :: (2, .putfield 197, 3) :: (5, .aload_n 0, 1) :: (6, .iload_n 1, 1) :: (7, .invokevirtual 240, 3) :: (10, .ifCond .eq 20, 3) :: (13, .aload_n 0, 1) :: (14, .iload_n 2, 1) :: (15, .invokevirtual 240, 3) :: (18, .ifCond .eq 12, 3) :: (21, .aload_n 0, 1) :: (22, .iload_n 1, 1) :: (23, .iload_n 2, 1) :: (24, .invokevirtual 243, 3) :: (27, .goto 4, 3) :: (30, .iconst (-1), 1) :: (31, .ireturn, 1) :: [])
set_option maxRecDepth 100000 in
def mX12_sign : zMeth := (yX12_sign, cX12_sign, 3, (some .int), 12, (0, .aload_n 0, 1) :: (1, .iconst 0, 1) :: (2, .putfield 197, 3) :: (5, .aload_n 0, 1) :: (6, .getfield 246, 3) :: (9, .iconst 4, 1) :: (10, .iadd, 1) :: (11, .bipush 60, 2) :: (13, .if_icmp .le 5, 3) :: (16, .iconst (-1), 1) :: (17, .ireturn, 1) :: (18, .iconst 3, 1) :: (19, .istore_n 2, 1) :: (20, .iload_n 2, 1) :: (21, .ifCond .lt 32, 3) :: (24, .aload_n 0, 1) :: (25, .getfield 82, 3) :: (28, .aload_n 0, 1) :: (29, .dup, 1) :: (30, .getfield 246, 3) :: (33, .dup_x1, 1) :: (34, .iconst 1, 1) :: (35, .iadd, 1) :: (36, .putfield 246, 3) :: (39, .iload_n 1, 1) :: (40, .bipush 8, 2) :: (42, .iload_n 2, 1) :: (43, .imul, 1) :: (44, .ishr, 1) :: (45, .i2b, 1) :: (46, .bastore, 1) :: (47, .iinc 2 (-1), 3) :: (50, .goto (-30), 3) :: (53, .aload_n 0, 1) :: (54, .getfield 246, 3) :: (57, .ireturn, 1) :: [])
set_option maxRecDepth 100000 in
def mX12_end : zMeth := (yX12_end, cX12_end, 2, (some .boolean), 12, (0, .aload_n 0, 1) :: (1, .iconst 0, 1) :: (2, .putfield 197, 3) :: (5, .iload_n 1, 1) :: (6, .iconst 0, 1) :: (7, .aload_n 0, 1) :: (8, .getfield 246, 3) :: (11, .invokestatic 203, 3) :: (14, .ifCond .ne 5, 3) :: (17, .iconst 0, 1) :: (18, .ireturn, 1) :: (19, .aload_n 0, 1) :: (20, .iload_n 1, 1) :: (21, .putfield 246, 3) :: (24, .iconst 1, 1) :: (25, .ireturn, 1) :: [])
set_option maxRecDepth 100000 in
def mX12_here : zMeth := (yX12_here, cX12_here, 1, (some .int), 12, (0, .aload_n 0, 1) :: (1, .getfield 249, 3) :: (4, .aload_n 0, 1) :: (5, .getfield 252, 3) :: (8, .if_icmp .ge 24, 3) :: (11, .aload_n 0, 1) :: (12, .getfield 249, 3) :: (15, .bipush 40, 2) :: (17, .if_icmp .ge 15, 3) :: (20, .aload_n 0, 1) :: (21, .getfield 255, 3) :: (24, .aload_n 0, 1) :: (25, .getfield 249, 3) :: (28, .baload, 1) :: (29, .goto 4, 3) :: (32, .iconst (-1), 1) :: (33, .ireturn, 1) :: [])
set_option maxRecDepth 100000 in
def mX12_fine : zMeth := (yX12_fine, cX12_fine, 1, (some .boolean), 12, (0, .aload_n 0, 1) :: (1, .getfield 258, 3) :: (4, .iconst (-1), 1) :: (5, .if_icmp .ne 7, 3) :: (8, .iconst 1, 1) :: (9, .goto 4, 3) :: (12, .iconst 0, 1) :: (13, .ireturn, 1) :: [])
set_option maxRecDepth 100000 in
def mX12_isWrong : zMeth := (yX12_isWrong, cX12_isWrong, 1, none, 12, (0, .aload_n 0, 1) :: (1, .invokevirtual 261, 3) :: (4, .ifCond .eq 11, 3) :: (7, .aload_n 0, 1) :: (8, .aload_n 0, 1) :: (9, .getfield 249, 3) :: (12, .putfield 258, 3) :: (15, .return_, 1) :: [])
set_option maxRecDepth 100000 in
def mX12_passes : zMeth := (yX12_passes, cX12_passes, 2, (some .boolean), 12, (0, .aload_n 0, 1) :: (1, .invokevirtual 261, 3) :: (4, .ifCond .eq 11, 3) :: (7, .aload_n 0, 1) :: (8, .invokevirtual 264, 3) :: (11, .iload_n 1, 1) :: (12, .if_icmp .eq 5, 3) :: (15, .iconst 0, 1) :: (16, .ireturn, 1) :: (17, .aload_n 0, 1) :: (18, .dup, 1) :: (19, .getfield 249, 3) :: (22, .iconst 1, 1) :: (23, .iadd, 1) :: (24, .putfield 249, 3) :: (27, .iconst 1, 1) :: (28, .ireturn, 1) :: [])
set_option maxRecDepth 100000 in
def mX12_either : zMeth := (yX12_either, cX12_either, 4, (some .int), 12, (0, .aload_n 0, 1) :: (1, .iload_n 1, 1) :: (2, .invokevirtual 268, 3) :: (5, .istore_n 2, 1) :: (6, .aload_n 0, 1) :: (7, .bipush 124, 2) :: (9, .invokevirtual 271, 3) :: (12, .ifCond .eq 26, 3) :: (15, .aload_n 0, 1) :: (16, .iload_n 1, 1) :: (17, .invokevirtual 268, 3) :: (20, .istore_n 3, 1) :: (21, .iload_n 2, 1) :: (22, .ifCond .ne 7, 3) :: (25, .iload_n 3, 1) :: (26, .ifCond .eq 7, 3) :: (29, .iconst 1, 1) :: (30, .goto 4, 3) :: (33, .iconst 0, 1) :: (34, .istore_n 2, 1) :: (35, .goto (-29), 3) :: (38, .iload_n 2, 1) :: (39, .ireturn, 1) :: [])
set_option maxRecDepth 100000 in
def mX12_both : zMeth := (yX12_both, cX12_both, 4, (some .int), 12, (0, .aload_n 0, 1) :: (1, .iload_n 1, 1) :: (2, .invokevirtual 275, 3) :: (5, .istore_n 2, 1) :: (6, .aload_n 0, 1) :: (7, .bipush 38, 2) :: (9, .invokevirtual 271, 3) :: (12, .ifCond .eq 26, 3) :: (15, .aload_n 0, 1) :: (16, .iload_n 1, 1) :: (17, .invokevirtual 275, 3) :: (20, .istore_n 3, 1) :: (21, .iload_n 2, 1) :: (22, .ifCond .eq 11, 3) :: (25, .iload_n 3, 1) :: (26, .ifCond .eq 7, 3) :: (29, .iconst 1, 1) :: (30, .goto 4, 3) :: (33, .iconst 0, 1) :: (34, .istore_n 2, 1) :: (35, .goto (-29), 3) :: (38, .iload_n 2, 1) :: (39, .ireturn, 1) :: [])
set_option maxRecDepth 100000 in
def mX12_held : zMeth := (yX12_held, cX12_held, 3, (some .int), 12, (0, .aload_n 0, 1) :: (1, .iload_n 1, 1) :: (2, .invokevirtual 278, 3) :: (5, .istore_n 2, 1) :: (6, .aload_n 0, 1) :: (7, .bipush 60, 2) :: (9, .invokevirtual 271, 3) :: (12, .ifCond .eq 18, 3) :: (15, .iload_n 2, 1) :: (16, .aload_n 0, 1) :: (17, .iload_n 1, 1) :: (18, .invokevirtual 278, 3) :: (21, .if_icmp .ge 7, 3) :: (24, .iconst 1, 1) :: (25, .goto 4, 3) :: (28, .iconst 0, 1) :: (29, .ireturn, 1) :: (30, .aload_n 0, 1) :: (31, .bipush 62, 2) :: (33, .invokevirtual 271, 3) :: (36, .ifCond .eq 18, 3) :: (39, .iload_n 2, 1) :: (40, .aload_n 0, 1) :: (41, .iload_n 1, 1) :: (42, .invokevirtual 278, 3) :: (45, .if_icmp .le 7, 3) :: (48, .iconst 1, 1) :: (49, .goto 4, 3) :: (52, .iconst 0, 1) :: (53, .ireturn, 1) :: (54, .aload_n 0, 1) :: (55, .bipush 61, 2) :: (57, .invokevirtual 271, 3) :: (60, .ifCond .eq 18, 3) :: (63, .iload_n 2, 1) :: (64, .aload_n 0, 1) :: (65, .iload_n 1, 1) :: (66, .invokevirtual 278, 3) :: (69, .if_icmp .ne 7, 3) :: (72, .iconst 1, 1) :: (73, .goto 4, 3) :: (76, .iconst 0, 1) :: (77, .ireturn, 1) :: (78, .iload_n 2, 1) :: (79, .ireturn, 1) :: [])
set_option maxRecDepth 100000 in
def mX12_sum : zMeth := (yX12_sum, cX12_sum, 5, (some .int), 12, (0, .aload_n 0, 1) :: (1, .iload_n 1, 1) :: (2, .invokevirtual 281, 3) :: (5, .istore_n 2, 1) :: (6, .aload_n 0, 1) :: (7, .invokevirtual 261, 3) :: (10, .ifCond .eq 72, 3) :: (13, .aload_n 0, 1) :: (14, .invokevirtual 264, 3) :: (17, .bipush 43, 2) :: (19, .if_icmp .eq 12, 3) :: (22, .aload_n 0, 1) :: (23, .invokevirtual 264, 3) :: (26, .bipush 45, 2) :: (28, .if_icmp .ne 54, 3) :: (31, .aload_n 0, 1) :: (32, .invokevirtual 264, 3) :: (35, .bipush 43, 2) :: (37, .if_icmp .ne 7, 3) :: (40, .iconst 1, 1) :: (41, .goto 4, 3) :: (44, .iconst 0, 1) :: (45, .istore_n 3, 1) :: (46, .aload_n 0, 1) :: (47, .dup, 1) :: (48, .getfield 249, 3) :: (51, .iconst 1, 1) :: (52, .iadd, 1) :: (53, .putfield 249, 3) :: (56, .aload_n 0, 1) :: (57, .iload_n 1, 1) :: (58, .invokevirtual 281, 3) :: (61, .istore 4, 2) :: (63, .iload_n 3, 1) :: (64, .ifCond .eq 10, 3) :: (67, .iload_n 2, 1) :: (68, .iload 4, 2) :: (70, .iadd, 1) :: (71, .goto 7, 3) :: (74, .iload_n 2, 1) :: (75, .iload 4, 2) :: (77, .isub, 1) :: (78, .istore_n 2, 1) :: (79, .goto (-73), 3) :: (82, .iload_n 2, 1) :: (83, .ireturn, 1) :: [])
set_option maxRecDepth 100000 in
def mX12_thing : zMeth := (yX12_thing, cX12_thing, 5, (some .int), 12, (0, .aload_n 0, 1) :: (1, .bipush 33, 2) :: (3, .invokevirtual 271, 3) :: (6, .ifCond .eq 17, 3) :: (9, .aload_n 0, 1) :: (10, .iload_n 1, 1) :: (11, .invokevirtual 281, 3) :: (14, .ifCond .ne 7, 3) :: (17, .iconst 1, 1) :: (18, .goto 4, 3) :: (21, .iconst 0, 1) :: (22, .ireturn, 1) :: (23, .aload_n 0, 1) :: (24, .bipush 45, 2) :: (26, .invokevirtual 271, 3) :: (29, .ifCond .eq 10, 3) :: (32, .aload_n 0, 1) :: (33, .iload_n 1, 1) :: (34, .invokevirtual 281, 3) :: (37, .ineg, 1) :: (38, .ireturn, 1) :: (39, .aload_n 0, 1) :: (40, .invokevirtual 261, 3) :: (43, .ifCond .eq 50, 3) :: (46, .aload_n 0, 1) :: (47, .invokevirtual 264, 3) :: (50, .bipush 40, 2) :: (52, .if_icmp .ne 41, 3) :: (55, .iload_n 1, 1) :: (56, .iconst 5, 1) :: (57, .if_icmp .ge 36, 3) :: (60, .aload_n 0, 1) :: (61, .dup, 1) :: (62, .getfield 249, 3) :: (65, .iconst 1, 1) :: (66, .iadd, 1) :: (67, .putfield 249, 3) :: (70, .aload_n 0, 1) :: (71, .iload_n 1, 1) :: (72, .iconst 1, 1) :: (73, .iadd, 1) :: (74, .invokevirtual 284, 3) :: (77, .istore_n 2, 1) :: (78, .aload_n 0, 1) :: (79, .bipush 41, 2) :: (81, .invokevirtual 271, 3) :: (84, .ifCond .ne 7, 3) :: (87, .aload_n 0, 1) :: (88, .invokevirtual 287, 3) :: (91, .iload_n 2, 1) :: (92, .ireturn, 1) :: (93, .aload_n 0, 1) :: (94, .invokevirtual 261, 3) :: (97, .ifCond .ne 5, 3) :: (100, .iconst 0, 1) :: (101, .ireturn, 1) :: (102, .aload_n 0, 1) :: (103, .invokevirtual 264, 3) :: (106, .istore_n 2, 1) :: (107, .iload_n 2, 1) :: (108, .bipush 48, 2) :: (110, .bipush 57, 2) :: (112, .invokestatic 203, 3) :: (115, .ifCond .eq 59, 3) :: (118, .iconst 0, 1) :: (119, .istore_n 3, 1) :: (120, .iconst 0, 1) :: (121, .istore 4, 2) :: (123, .iload 4, 2) :: (125, .iconst 3, 1) :: (126, .if_icmp .ge 46, 3) :: (129, .aload_n 0, 1) :: (130, .invokevirtual 264, 3) :: (133, .bipush 48, 2) :: (135, .bipush 57, 2) :: (137, .invokestatic 203, 3) :: (140, .ifCond .eq 32, 3) :: (143, .bipush 10, 2) :: (145, .iload_n 3, 1) :: (146, .imul, 1) :: (147, .aload_n 0, 1) :: (148, .invokevirtual 264, 3) :: (151, .iadd, 1) :: (152, .bipush 48, 2) :: (154, .isub, 1) :: (155, .istore_n 3, 1) :: (156, .aload_n 0, 1) :: (157, .dup, 1) :: (158, .getfield 249, 3) :: (161, .iconst 1, 1) :: (162, .iadd, 1) :: (163, .putfield 249, 3) :: (166, .iinc 4 1, 3) :: (169, .goto (-46), 3) :: (172, .iload_n 3, 1) :: (173, .ireturn, 1) :: (174, .iload_n 2, 1) :: (175, .bipush 108, 2) :: (177, .if_icmp .eq 51, 3) :: (180, .iload_n 2, 1) :: (181, .bipush 99, 2) :: (183, .if_icmp .eq 45, 3) :: (186, .iload_n 2, 1) :: (187, .bipush 118, 2) :: (189, .if_icmp .eq 39, 3) :: (192, .iload_n 2, 1) :: (193, .bipush 100, 2) :: (195, .if_icmp .eq 33, 3) :: (198, .iload_n 2, 1) :: (199, .bipush 115, 2) :: (201, .if_icmp .eq 27, 3) :: (204, .iload_n 2, 1) :: (205, .bipush 110, 2) :: (207, .if_icmp .eq 21, 3) :: (210, .iload_n 2, 1) :: (211, .bipush 98, 2) :: (213, .if_icmp .eq 15, 3) :: (216, .iload_n 2, 1) :: (217, .bipush 104, 2) :: (219, .if_icmp .eq 9, 3) :: (222, .aload_n 0, 1) :: (223, .invokevirtual 287, 3) :: (226, .iconst 0, 1) :: (227, .ireturn, 1) :: (228, .aload_n 0, 1) :: (229, .dup, 1) :: (230, .getfield 249, 3) :: (233, .iconst 1, 1) :: (234, .iadd, 1) :: (235, .putfield 249, 3) :: (238, .aload_n 0, 1) :: (239, .getfield 290, 3) :: (242, .iconst (-1), 1) :: (243, .if_icmp .ne 7, 3) :: (246, .iconst 0, 1) :: (247, .goto 9, 3) :: (250, .aload_n 0, 1) :: (251, .iload_n 2, 1) :: (252, .i2c, 1) :: (253, .invokevirtual 293, 3) :: (256, .ireturn, 1) :: [])
set_option maxRecDepth 100000 in
def mX12_letter : zMeth := (yX12_letter, cX12_letter, 3, (some .int), 12, (0, .aload_n 0, 1) :: (1, .getfield 290, 3) :: (4, .istore_n 2, 1) :: (5, .iload_n 1, 1) :: (6, .tableswitch 174 98 118 #[161, 105, 127, 174, 174, 174, 174, 174, 174, 174, 98, 174, 156, 174, 174, 174, 174, 142, 174, 174, 112], 98) :: (104, .aload_n 0, 1) :: (105, .getfield 30, 3) :: (108, .iload_n 2, 1) :: (109, .iaload, 1) :: (110, .ireturn, 1) :: (111, .aload_n 0, 1) :: (112, .getfield 33, 3) :: (115, .iload_n 2, 1) :: (116, .iaload, 1) :: (117, .ireturn, 1) :: (118, .aload_n 0, 1) :: (119, .getfield 39, 3) :: (122, .iload_n 2, 1) :: (123, .baload, 1) :: (124, .ifCond .eq 7, 3) :: (127, .iconst 1, 1) :: (128, .goto 4, 3) :: (131, .iconst 0, 1) :: (132, .ireturn, 1) :: (133, .aload_n 0, 1) :: (134, .getfield 42, 3) :: (137, .iload_n 2, 1) :: (138, .baload, 1) :: (139, .ifCond .eq 7, 3) :: (142, .iconst 1, 1) :: (143, .goto 4, 3) :: (146, .iconst 0, 1) :: (147, .ireturn, 1) :: (148, .aload_n 0, 1) :: (149, .iload_n 2, 1) :: (150, .invokevirtual 297, 3) :: (153, .ifCond .eq 7, 3) :: (156, .iconst 1, 1) :: (157, .goto 4, 3) :: (160, .iconst 0, 1) :: (161, .ireturn, 1) :: (162, .aload_n 0, 1) :: (163, .getfield 300, 3) :: (166, .ireturn, 1) :: (167, .aload_n 0, 1) :: (168, .getfield 303, 3) :: (171, .ifCond .eq 7, 3) :: (174, .iconst 1, 1) :: (175, .goto 4, 3) :: (178, .iconst 0, 1) :: (179, .ireturn, 1) :: (180, .aload_n 0, 1) :: (181, .getfield 17, 3) :: (184, .aload_n 0, 1) :: (185, .getfield 300, 3) :: (188, .iaload, 1) :: (189, .aload_n 0, 1) :: (190, .getfield 303, 3) :: (193, .ifCond .eq 7, 3) :: (196, .iconst 1, 1) :: (197, .goto 4, 3) :: (200, .iconst 0, 1) :: (201, .ishr, 1) :: (202, .iconst 1, 1) :: (203, .iand, 1) :: (204, .ireturn, 1) :: [])
set_option maxRecDepth 100000 in
def mX12_rule : zMeth := (yX12_rule, cX12_rule, 3, (some .int), 12, (0, .aload_n 0, 1) :: (1, .iconst 0, 1) :: (2, .putfield 197, 3) :: (5, .aload_n 0, 1) :: (6, .aload_n 0, 1) :: (7, .getfield 82, 3) :: (10, .putfield 255, 3) :: (13, .aload_n 0, 1) :: (14, .aload_n 0, 1) :: (15, .getfield 246, 3) :: (18, .putfield 252, 3) :: (21, .aload_n 0, 1) :: (22, .iconst 0, 1) :: (23, .putfield 249, 3) :: (26, .aload_n 0, 1) :: (27, .iconst (-1), 1) :: (28, .putfield 258, 3) :: (31, .aload_n 0, 1) :: (32, .iconst (-1), 1) :: (33, .putfield 290, 3) :: (36, .aload_n 0, 1) :: (37, .getfield 246, 3) :: (40, .istore_n 1, 1) :: (41, .aload_n 0, 1) :: (42, .iconst 0, 1) :: (43, .putfield 246, 3) :: (46, .iload_n 1, 1) :: (47, .ifCond .le 42, 3) :: (50, .aload_n 0, 1) :: (51, .iconst 0, 1) :: (52, .invokevirtual 284, 3) :: (55, .pop, 1) :: (56, .aload_n 0, 1) :: (57, .invokevirtual 261, 3) :: (60, .ifCond .eq 15, 3) :: (63, .aload_n 0, 1) :: (64, .getfield 249, 3) :: (67, .iload_n 1, 1) :: (68, .if_icmp .ge 7, 3) :: (71, .aload_n 0, 1) :: (72, .invokevirtual 287, 3) :: (75, .aload_n 0, 1) :: (76, .invokevirtual 261, 3) :: (79, .ifCond .ne 10, 3) :: (82, .iconst (-1), 1) :: (83, .aload_n 0, 1) :: (84, .getfield 258, 3) :: (87, .isub, 1) :: (88, .ireturn, 1) :: (89, .iconst 0, 1) :: (90, .istore_n 2, 1) :: (91, .iload_n 2, 1) :: (92, .iload_n 1, 1) :: (93, .if_icmp .ge 21, 3) :: (96, .aload_n 0, 1) :: (97, .getfield 78, 3) :: (100, .iload_n 2, 1) :: (101, .aload_n 0, 1) :: (102, .getfield 82, 3) :: (105, .iload_n 2, 1) :: (106, .baload, 1) :: (107, .bastore, 1) :: (108, .iinc 2 1, 3) :: (111, .goto (-20), 3) :: (114, .aload_n 0, 1) :: (115, .iload_n 1, 1) :: (116, .putfield 307, 3) :: (119, .iconst 0, 1) :: (120, .ireturn, 1) :: [])
set_option maxRecDepth 100000 in
def mX12_isLet : zMeth := (yX12_isLet, cX12_isLet, 4, (some .boolean), 12, (0, .aload_n 0, 1) :: (1, .getfield 307, 3) :: (4, .ifCond .ne 5, 3) :: (7, .iconst 1, 1) :: (8, .ireturn, 1) :: (9, .aload_n 0, 1) :: (10, .aload_n 0, 1) :: (11, .getfield 78, 3) :: (14, .putfield 255, 3) :: (17, .aload_n 0, 1) :: (18, .aload_n 0, 1) :: (19, .getfield 307, 3) :: (22, .putfield 252, 3) :: (25, .aload_n 0, 1) :: (26, .iconst 0, 1) :: (27, .putfield 249, 3) :: (30, .aload_n 0, 1) :: (31, .iconst (-1), 1) :: (32, .putfield 258, 3) :: (35, .aload_n 0, 1) :: (36, .iload_n 1, 1) :: (37, .putfield 290, 3) :: (40, .aload_n 0, 1) :: (41, .iload_n 2, 1) :: (42, .putfield 300, 3) :: (45, .aload_n 0, 1) :: (46, .iload_n 3, 1) :: (47, .putfield 303, 3) :: (50, .aload_n 0, 1) :: (51, .iconst 0, 1) :: (52, .invokevirtual 284, 3) :: (55, .ifCond .eq 7, 3) :: (58, .iconst 1, 1) :: (59, .goto 4, 3) :: (62, .iconst 0, 1) :: (63, .ireturn, 1) :: [])
set_option maxRecDepth 100000 in
def mX12_engine : zMeth := (yX12_engine, cX12_engine, 6, (some .int), 12, (0, .aload_n 0, 1) :: (1, .iconst 0, 1) :: (2, .putfield 197, 3) :: (5, .iload_n 1, 1) :: (6, .iconst 5, 1) :: (7, .bipush 30, 2) :: (9, .invokestatic 203, 3) :: (12, .ifCond .eq 32, 3) :: (15, .iload_n 2, 1) :: (16, .iconst 0, 1) :: (17, .iconst 5, 1) :: (18, .invokestatic 203, 3) :: (21, .ifCond .eq 23, 3) :: (24, .iload_n 3, 1) :: (25, .iconst 0, 1) :: (26, .sipush 600, 3) :: (29, .invokestatic 203, 3) :: (32, .ifCond .eq 12, 3) :: (35, .aload_n 0, 1) :: (36, .getfield 207, 3) :: (39, .bipush 12, 2) :: (41, .if_icmp .ne 5, 3) :: (44, .iconst (-1), 1) :: (45, .ireturn, 1) :: (46, .aload_n 0, 1) :: (47, .getfield 207, 3) :: (50, .istore 5, 2) :: (52, .aload_n 0, 1) :: (53, .getfield 30, 3) :: (56, .iload 5, 2) :: (58, .iload_n 1, 1) :: (59, .iastore, 1) :: (60, .aload_n 0, 1) :: (61, .getfield 33, 3) :: (64, .iload 5, 2) :: (66, .iload_n 2, 1) :: (67, .iastore, 1) :: (68, .aload_n 0, 1) :: (69, .getfield 36, 3) :: (72, .iload 5, 2) :: (74, .iload_n 3, 1) :: (75, .iastore, 1) :: (76, .aload_n 0, 1) :: (77, .getfield 39, 3) :: (80, .iload 5, 2) :: (82, .iload 4, 2) :: (84, .bastore, 1) :: (85, .aload_n 0, 1) :: (86, .getfield 42, 3) :: (89, .iload 5, 2) :: (91, .iconst 0, 1) :: (92, .bastore, 1) :: (93, .aload_n 0, 1) :: (94, .getfield 45, 3) :: (97, .iload 5, 2) :: (99, .iconst (-1), 1) :: (100, .iastore, 1) :: (101, .aload_n 0, 1) :: (102, .getfield 48, 3) :: (105, .iload 5, 2) :: (107, .iconst (-1), 1) :: (108, .iastore, 1) :: (109, .aload_n 0, 1) :: (110, .dup, 1) :: (111, .getfield 207, 3) :: (114, .iconst 1, 1) :: (115, .iadd, 1) :: (116, .putfield 207, 3) :: (119, .aload_n 0, 1) :: (120, .dup, 1) :: (121, .getfield 217, 3) :: (124, .iconst 1, 1) :: (125, .iadd, 1) :: (126, .putfield 217, 3) :: (129, .iload 5, 2) :: (131, .ireturn, 1) :: [])
set_option maxRecDepth 100000 in
def mX12_isSteaming : zMeth := (yX12_isSteaming, cX12_isSteaming, 2, (some .boolean), 12, (0, .aload_n 0, 1) :: (1, .getfield 48, 3) :: (4, .iload_n 1, 1) :: (5, .iaload, 1) :: (6, .iconst (-1), 1) :: (7, .if_icmp .eq 27, 3) :: (10, .aload_n 0, 1) :: (11, .getfield 48, 3) :: (14, .iload_n 1, 1) :: (15, .iaload, 1) :: (16, .aload_n 0, 1) :: (17, .getfield 36, 3) :: (20, .iload_n 1, 1) :: (21, .iaload, 1) :: (22, .iadd, 1) :: (23, .aload_n 0, 1) :: (24, .getfield 310, 3) :: (27, .if_icmp .gt 7, 3) :: (30, .iconst 1, 1) :: (31, .goto 4, 3) :: (34, .iconst 0, 1) :: (35, .ireturn, 1) :: [])
set_option maxRecDepth 100000 in
def mX12_mayGo : zMeth := (yX12_mayGo, cX12_mayGo, 2, (some .boolean), 12, (0, .aload_n 0, 1) :: (1, .iload_n 1, 1) :: (2, .invokevirtual 297, 3) :: (5, .ifCond .eq 16, 3) :: (8, .aload_n 0, 1) :: (9, .getfield 42, 3) :: (12, .iload_n 1, 1) :: (13, .baload, 1) :: (14, .ifCond .ne 7, 3) :: (17, .iconst 1, 1) :: (18, .goto 4, 3) :: (21, .iconst 0, 1) :: (22, .ireturn, 1) :: [])
set_option maxRecDepth 100000 in
def mX12_light : zMeth := (yX12_light, cX12_light, 2, (some .boolean), 12, (0, .aload_n 0, 1) :: (1, .iconst 0, 1) :: (2, .putfield 197, 3) :: (5, .aload_n 0, 1) :: (6, .iload_n 1, 1) :: (7, .invokevirtual 313, 3) :: (10, .ifCond .eq 13, 3) :: (13, .aload_n 0, 1) :: (14, .getfield 48, 3) :: (17, .iload_n 1, 1) :: (18, .iaload, 1) :: (19, .iconst (-1), 1) :: (20, .if_icmp .eq 5, 3) :: (23, .iconst 0, 1) :: (24, .ireturn, 1) :: (25, .aload_n 0, 1) :: (26, .getfield 48, 3) :: (29, .iload_n 1, 1) :: (30, .aload_n 0, 1) :: (31, .getfield 310, 3) :: (34, .iastore, 1) :: (35, .iconst 1, 1) :: (36, .ireturn, 1) :: [])
set_option maxRecDepth 100000 in
def mX12_drop : zMeth := (yX12_drop, cX12_drop, 3, (some .int), 12, (0, .aload_n 0, 1) :: (1, .iconst 0, 1) :: (2, .putfield 197, 3) :: (5, .aload_n 0, 1) :: (6, .iload_n 1, 1) :: (7, .invokevirtual 313, 3) :: (10, .ifCond .eq 13, 3) :: (13, .aload_n 0, 1) :: (14, .getfield 48, 3) :: (17, .iload_n 1, 1) :: (18, .iaload, 1) :: (19, .iconst (-1), 1) :: (20, .if_icmp .ne 5, 3) :: (23, .iconst (-1), 1) :: (24, .ireturn, 1) :: (25, .aload_n 0, 1) :: (26, .getfield 310, 3) :: (29, .aload_n 0, 1) :: (30, .getfield 48, 3) :: (33, .iload_n 1, 1) :: (34, .iaload, 1) :: (35, .isub, 1) :: (36, .istore_n 2, 1) :: (37, .aload_n 0, 1) :: (38, .getfield 48, 3) :: (41, .iload_n 1, 1) :: (42, .iconst (-1), 1) :: (43, .iastore, 1) :: (44, .iload_n 2, 1) :: (45, .ireturn, 1) :: [])
set_option maxRecDepth 100000 in
def mX12_dead : zMeth := (yX12_dead, cX12_dead, 3, (some .boolean), 12, (0, .aload_n 0, 1) :: (1, .iconst 0, 1) :: (2, .putfield 197, 3) :: (5, .aload_n 0, 1) :: (6, .iload_n 1, 1) :: (7, .invokevirtual 313, 3) :: (10, .ifCond .ne 5, 3) :: (13, .iconst 0, 1) :: (14, .ireturn, 1) :: (15, .aload_n 0, 1) :: (16, .getfield 42, 3) :: (19, .iload_n 1, 1) :: (20, .iload_n 2, 1) :: (21, .bastore, 1) :: (22, .iconst 1, 1) :: (23, .ireturn, 1) :: [])
set_option maxRecDepth 100000 in
def mX12_pointOf : zMeth := (yX12_pointOf, cX12_pointOf, 2, (some .int), 12, (0, .aload_n 0, 1) :: (1, .getfield 45, 3) :: (4, .iload_n 1, 1) :: (5, .iaload, 1) :: (6, .iconst (-1), 1) :: (7, .if_icmp .ne 10, 3) :: (10, .aload_n 0, 1) :: (11, .getfield 7, 3) :: (14, .goto 9, 3) :: (17, .aload_n 0, 1) :: (18, .getfield 45, 3) :: (21, .iload_n 1, 1) :: (22, .iaload, 1) :: (23, .ireturn, 1) :: [])
set_option maxRecDepth 100000 in
def mX12_isAtBack : zMeth := (yX12_isAtBack, cX12_isAtBack, 2, (some .boolean), 12, (0, .aload_n 0, 1) :: (1, .getfield 45, 3) :: (4, .iload_n 1, 1) :: (5, .iaload, 1) :: (6, .iconst (-1), 1) :: (7, .if_icmp .eq 22, 3) :: (10, .aload_n 0, 1) :: (11, .getfield 24, 3) :: (14, .aload_n 0, 1) :: (15, .getfield 45, 3) :: (18, .iload_n 1, 1) :: (19, .iaload, 1) :: (20, .iaload, 1) :: (21, .iload_n 1, 1) :: (22, .if_icmp .ne 7, 3) :: (25, .iconst 1, 1) :: (26, .goto 4, 3) :: (29, .iconst 0, 1) :: (30, .ireturn, 1) :: [])
set_option maxRecDepth 100000 in
def mX12_ahead : zMeth := (yX12_ahead, cX12_ahead, 2, (some .int), 12, (0, .aload_n 0, 1) :: (1, .iload_n 1, 1) :: (2, .invokevirtual 316, 3) :: (5, .ifCond .eq 17, 3) :: (8, .aload_n 0, 1) :: (9, .getfield 27, 3) :: (12, .aload_n 0, 1) :: (13, .getfield 45, 3) :: (16, .iload_n 1, 1) :: (17, .iaload, 1) :: (18, .iaload, 1) :: (19, .goto 4, 3) :: (22, .iconst (-1), 1) :: (23, .ireturn, 1) :: [])
set_option maxRecDepth 100000 in
def mX12_isHooded : zMeth := (yX12_isHooded, cX12_isHooded, 2, (some .boolean), 12, (0, .aload_n 0, 1) :: (1, .getfield 45, 3) :: (4, .iload_n 1, 1) :: (5, .iaload, 1) :: (6, .iconst (-1), 1) :: (7, .if_icmp .eq 38, 3) :: (10, .aload_n 0, 1) :: (11, .getfield 17, 3) :: (14, .aload_n 0, 1) :: (15, .getfield 45, 3) :: (18, .iload_n 1, 1) :: (19, .iaload, 1) :: (20, .iaload, 1) :: (21, .aload_n 0, 1) :: (22, .iload_n 1, 1) :: (23, .invokevirtual 316, 3) :: (26, .ifCond .eq 7, 3) :: (29, .iconst 1, 1) :: (30, .goto 4, 3) :: (33, .iconst 0, 1) :: (34, .ishr, 1) :: (35, .iconst 1, 1) :: (36, .iand, 1) :: (37, .iconst 1, 1) :: (38, .if_icmp .ne 7, 3) :: (41, .iconst 1, 1) :: (42, .goto 4, 3) :: (45, .iconst 0, 1) :: (46, .ireturn, 1) :: [])
set_option maxRecDepth 100000 in
def mX12_of : zMeth := (yX12_of, cX12_of, 3, (some .int), 12, (0, .aload_n 0, 1) :: (1, .iconst 0, 1) :: (2, .putfield 197, 3) :: (5, .aload_n 0, 1) :: (6, .iload_n 1, 1) :: (7, .invokevirtual 313, 3) :: (10, .ifCond .eq 13, 3) :: (13, .iload_n 2, 1) :: (14, .iconst 0, 1) :: (15, .bipush 6, 2) :: (17, .invokestatic 203, 3) :: (20, .ifCond .ne 8, 3) :: (23, .aload_n 0, 1) :: (24, .invokevirtual 319, 3) :: (27, .ireturn, 1) :: (28, .iload_n 2, 1) :: (29, .tableswitch 102 0 5 #[39, 45, 59, 66, 73, 87], 39) :: (68, .aload_n 0, 1) :: (69, .iload_n 1, 1) :: (70, .invokevirtual 322, 3) :: (73, .ireturn, 1) :: (74, .aload_n 0, 1) :: (75, .iload_n 1, 1) :: (76, .invokevirtual 316, 3) :: (79, .ifCond .eq 7, 3) :: (82, .iconst 1, 1) :: (83, .goto 4, 3) :: (86, .iconst 0, 1) :: (87, .ireturn, 1) :: (88, .aload_n 0, 1) :: (89, .getfield 33, 3) :: (92, .iload_n 1, 1) :: (93, .iaload, 1) :: (94, .ireturn, 1) :: (95, .aload_n 0, 1) :: (96, .getfield 48, 3) :: (99, .iload_n 1, 1) :: (100, .iaload, 1) :: (101, .ireturn, 1) :: (102, .aload_n 0, 1) :: (103, .iload_n 1, 1) :: (104, .invokevirtual 297, 3) :: (107, .ifCond .eq 7, 3) :: (110, .iconst 1, 1) :: (111, .goto 4, 3) :: (114, .iconst 0, 1) :: (115, .ireturn, 1) :: (116, .aload_n 0, 1) :: (117, .iload_n 1, 1) :: (118, .invokevirtual 325, 3) :: (121, .iconst (-1), 1) :: (122, .if_icmp .ne 7, 3) :: (125, .iconst 0, 1) :: (126, .goto 4, 3) :: (129, .iconst 1, 1) :: (130, .ireturn, 1) :: (131, .aload_n 0, 1) :: (132, .iload_n 1, 1) :: (133, .invokevirtual 328, 3) :: (136, .ifCond .eq 7, 3) :: (139, .iconst 1, 1) :: (140, .goto 4, 3) :: (143, .iconst 0, 1) :: (144, .ireturn, 1) :: [])
set_option maxRecDepth 100000 in
def mX12_isTaking : zMeth := (yX12_isTaking, cX12_isTaking, 3, (some .boolean), 12, (0, .aload_n 0, 1) :: (1, .getfield 45, 3) :: (4, .iload_n 2, 1) :: (5, .iaload, 1) :: (6, .iload_n 1, 1) :: (7, .if_icmp .eq 81, 3) :: (10, .aload_n 0, 1) :: (11, .getfield 20, 3) :: (14, .iload_n 1, 1) :: (15, .baload, 1) :: (16, .ifCond .ne 72, 3) :: (19, .aload_n 0, 1) :: (20, .getfield 24, 3) :: (23, .iload_n 1, 1) :: (24, .iaload, 1) :: (25, .iconst (-1), 1) :: (26, .if_icmp .eq 13, 3) :: (29, .aload_n 0, 1) :: (30, .getfield 27, 3) :: (33, .iload_n 1, 1) :: (34, .iaload, 1) :: (35, .iconst (-1), 1) :: (36, .if_icmp .ne 52, 3) :: (39, .aload_n 0, 1) :: (40, .iload_n 1, 1) :: (41, .invokevirtual 224, 3) :: (44, .aload_n 0, 1) :: (45, .getfield 30, 3) :: (48, .iload_n 2, 1) :: (49, .iaload, 1) :: (50, .iadd, 1) :: (51, .aload_n 0, 1) :: (52, .getfield 13, 3) :: (55, .iload_n 1, 1) :: (56, .iaload, 1) :: (57, .if_icmp .gt 31, 3) :: (60, .aload_n 0, 1) :: (61, .iload_n 2, 1) :: (62, .iload_n 1, 1) :: (63, .aload_n 0, 1) :: (64, .getfield 24, 3) :: (67, .iload_n 1, 1) :: (68, .iaload, 1) :: (69, .iconst (-1), 1) :: (70, .if_icmp .ne 7, 3) :: (73, .iconst 1, 1) :: (74, .goto 4, 3) :: (77, .iconst 0, 1) :: (78, .invokevirtual 331, 3) :: (81, .ifCond .eq 7, 3) :: (84, .iconst 1, 1) :: (85, .goto 4, 3) :: (88, .iconst 0, 1) :: (89, .ireturn, 1) :: [])
set_option maxRecDepth 100000 in
def mX12_takes : zMeth := (yX12_takes, cX12_takes, 3, (some .int), 12, (0, .aload_n 0, 1) :: (1, .iconst 0, 1) :: (2, .putfield 197, 3) :: (5, .aload_n 0, 1) :: (6, .iload_n 1, 1) :: (7, .invokevirtual 220, 3) :: (10, .ifCond .eq 11, 3) :: (13, .aload_n 0, 1) :: (14, .iload_n 2, 1) :: (15, .invokevirtual 313, 3) :: (18, .ifCond .ne 7, 3) :: (21, .iconst (-1), 1) :: (22, .goto 17, 3) :: (25, .aload_n 0, 1) :: (26, .iload_n 1, 1) :: (27, .iload_n 2, 1) :: (28, .invokevirtual 335, 3) :: (31, .ifCond .eq 7, 3) :: (34, .iconst 1, 1) :: (35, .goto 4, 3) :: (38, .iconst 0, 1) :: (39, .ireturn, 1) :: [])
set_option maxRecDepth 100000 in
def mX12_smoking : zMeth := (yX12_smoking, cX12_smoking, 3, (some .int), 12, (0, .iconst 0, 1) :: (1, .istore_n 1, 1) :: (2, .iconst 0, 1) :: (3, .istore_n 2, 1) :: (4, .iload_n 2, 1) :: (5, .aload_n 0, 1) :: (6, .getfield 207, 3) :: (9, .if_icmp .ge 43, 3) :: (12, .aload_n 0, 1) :: (13, .getfield 45, 3) :: (16, .iload_n 2, 1) :: (17, .iaload, 1) :: (18, .iconst (-1), 1) :: (19, .if_icmp .eq 27, 3) :: (22, .aload_n 0, 1) :: (23, .getfield 48, 3) :: (26, .iload_n 2, 1) :: (27, .iaload, 1) :: (28, .iconst (-1), 1) :: (29, .if_icmp .eq 17, 3) :: (32, .aload_n 0, 1) :: (33, .iload_n 2, 1) :: (34, .invokevirtual 328, 3) :: (37, .ifCond .ne 9, 3) :: (40, .iload_n 1, 1) :: (41, .iconst 1, 1) :: (42, .iload_n 2, 1) :: (43, .ishl, 1) :: (44, .ior, 1) :: (45, .istore_n 1, 1) :: (46, .iinc 2 1, 3) :: (49, .goto (-45), 3) :: (52, .iload_n 1, 1) :: (53, .ireturn, 1) :: [])
set_option maxRecDepth 100000 in
def mX12_smoke : zMeth := (yX12_smoke, cX12_smoke, 1, (some .int), 12, (0, .aload_n 0, 1) :: (1, .iconst 0, 1) :: (2, .putfield 197, 3) :: (5, .aload_n 0, 1) :: (6, .invokevirtual 339, 3) :: (9, .ireturn, 1) :: [])
set_option maxRecDepth 100000 in
def mX12_pass : zMeth := (yX12_pass, cX12_pass, 2, (some .int), 12, (0, .aload_n 0, 1) :: (1, .iconst 0, 1) :: (2, .putfield 197, 3) :: (5, .iload_n 1, 1) :: (6, .iconst 0, 1) :: (7, .sipush 600, 3) :: (10, .invokestatic 203, 3) :: (13, .ifCond .ne 5, 3) :: (16, .iconst (-1), 1) :: (17, .ireturn, 1) :: (18, .aload_n 0, 1) :: (19, .dup, 1) :: (20, .getfield 310, 3) :: (23, .iload_n 1, 1) :: (24, .iadd, 1) :: (25, .putfield 310, 3) :: (28, .aload_n 0, 1) :: (29, .getfield 310, 3) :: (32, .ireturn, 1) :: [])
set_option maxRecDepth 100000 in
def mX12_cost : zMeth := (yX12_cost, cX12_cost, 3, (some .int), 12, (0, .aload_n 0, 1) :: (1, .getfield 54, 3) :: (4, .aload_n 0, 1) :: (5, .aload_n 0, 1) :: (6, .getfield 51, 3) :: (9, .aload_n 0, 1) :: (10, .iload_n 1, 1) :: (11, .invokevirtual 322, 3) :: (14, .invokevirtual 243, 3) :: (17, .aload_n 0, 1) :: (18, .aload_n 0, 1) :: (19, .iload_n 1, 1) :: (20, .invokevirtual 322, 3) :: (23, .iload_n 2, 1) :: (24, .invokevirtual 243, 3) :: (27, .iadd, 1) :: (28, .imul, 1) :: (29, .iconst 2, 1) :: (30, .aload_n 0, 1) :: (31, .getfield 57, 3) :: (34, .imul, 1) :: (35, .iadd, 1) :: (36, .ireturn, 1) :: [])
set_option maxRecDepth 100000 in
def mX12_takeOut : zMeth := (yX12_takeOut, cX12_takeOut, 3, none, 12, (0, .aload_n 0, 1) :: (1, .getfield 45, 3) :: (4, .iload_n 1, 1) :: (5, .iaload, 1) :: (6, .istore_n 2, 1) :: (7, .iload_n 2, 1) :: (8, .iconst (-1), 1) :: (9, .if_icmp .ne 4, 3) :: (12, .return_, 1) :: (13, .aload_n 0, 1) :: (14, .getfield 27, 3) :: (17, .iload_n 2, 1) :: (18, .iaload, 1) :: (19, .iload_n 1, 1) :: (20, .if_icmp .ne 13, 3) :: (23, .aload_n 0, 1) :: (24, .getfield 27, 3) :: (27, .iload_n 2, 1) :: (28, .iconst (-1), 1) :: (29, .iastore, 1) :: (30, .goto 10, 3) :: (33, .aload_n 0, 1) :: (34, .getfield 24, 3) :: (37, .iload_n 2, 1) :: (38, .iconst (-1), 1) :: (39, .iastore, 1) :: (40, .aload_n 0, 1) :: (41, .getfield 45, 3) :: (44, .iload_n 1, 1) :: (45, .iconst (-1), 1) :: (46, .iastore, 1) :: (47, .return_, 1) :: [])
set_option maxRecDepth 100000 in
def mX12_putIn : zMeth := (yX12_putIn, cX12_putIn, 3, none, 12, (0, .iload_n 2, 1) :: (1, .aload_n 0, 1) :: (2, .getfield 7, 3) :: (5, .if_icmp .ne 4, 3) :: (8, .return_, 1) :: (9, .aload_n 0, 1) :: (10, .getfield 24, 3) :: (13, .iload_n 2, 1) :: (14, .iaload, 1) :: (15, .iconst (-1), 1) :: (16, .if_icmp .ne 13, 3) :: (19, .aload_n 0, 1) :: (20, .getfield 24, 3) :: (23, .iload_n 2, 1) :: (24, .iload_n 1, 1) :: (25, .iastore, 1) :: (26, .goto 10, 3) :: (29, .aload_n 0, 1) :: (30, .getfield 27, 3) :: (33, .iload_n 2, 1) :: (34, .iload_n 1, 1) :: (35, .iastore, 1) :: (36, .aload_n 0, 1) :: (37, .getfield 45, 3) :: (40, .iload_n 1, 1) :: (41, .iload_n 2, 1) :: (42, .iastore, 1) :: (43, .return_, 1) :: [])
set_option maxRecDepth 100000 in
def mX12_canBe : zMeth := (yX12_canBe, cX12_canBe, 3, (some .boolean), 12, (0, .aload_n 0, 1) :: (1, .iload_n 1, 1) :: (2, .invokevirtual 325, 3) :: (5, .iconst (-1), 1) :: (6, .if_icmp .ne 33, 3) :: (9, .aload_n 0, 1) :: (10, .iload_n 1, 1) :: (11, .invokevirtual 322, 3) :: (14, .iload_n 2, 1) :: (15, .if_icmp .eq 24, 3) :: (18, .iload_n 2, 1) :: (19, .aload_n 0, 1) :: (20, .getfield 7, 3) :: (23, .if_icmp .eq 12, 3) :: (26, .aload_n 0, 1) :: (27, .iload_n 2, 1) :: (28, .iload_n 1, 1) :: (29, .invokevirtual 335, 3) :: (32, .ifCond .eq 7, 3) :: (35, .iconst 1, 1) :: (36, .goto 4, 3) :: (39, .iconst 0, 1) :: (40, .ireturn, 1) :: [])
set_option maxRecDepth 100000 in
def mX12_bring : zMeth := (yX12_bring, cX12_bring, 4, none, 12, (0, .aload_n 0, 1) :: (1, .getfield 88, 3) :: (4, .aload_n 0, 1) :: (5, .getfield 342, 3) :: (8, .iload_n 1, 1) :: (9, .iastore, 1) :: (10, .aload_n 0, 1) :: (11, .getfield 88, 3) :: (14, .aload_n 0, 1) :: (15, .getfield 342, 3) :: (18, .iconst 1, 1) :: (19, .iadd, 1) :: (20, .aload_n 0, 1) :: (21, .iload_n 1, 1) :: (22, .invokevirtual 322, 3) :: (25, .iastore, 1) :: (26, .aload_n 0, 1) :: (27, .getfield 88, 3) :: (30, .aload_n 0, 1) :: (31, .getfield 342, 3) :: (34, .iconst 2, 1) :: (35, .iadd, 1) :: (36, .aload_n 0, 1) :: (37, .getfield 51, 3) :: (40, .iastore, 1) :: (41, .aload_n 0, 1) :: (42, .getfield 88, 3) :: (45, .aload_n 0, 1) :: (46, .getfield 342, 3) :: (49, .iconst 3, 1) :: (50, .iadd, 1) :: (51, .iload_n 3, 1) :: (52, .iastore, 1) :: (53, .aload_n 0, 1) :: (54, .dup, 1) :: (55, .getfield 342, 3) :: (58, .iconst 4, 1) :: (59, .iadd, 1) :: (60, .putfield 342, 3) :: (63, .aload_n 0, 1) :: (64, .iload_n 1, 1) :: (65, .invokevirtual 345, 3) :: (68, .aload_n 0, 1) :: (69, .iload_n 1, 1) :: (70, .iload_n 2, 1) :: (71, .invokevirtual 349, 3) :: (74, .aload_n 0, 1) :: (75, .iload_n 2, 1) :: (76, .putfield 51, 3) :: (79, .aload_n 0, 1) :: (80, .dup, 1) :: (81, .getfield 310, 3) :: (84, .iload_n 3, 1) :: (85, .iadd, 1) :: (86, .putfield 310, 3) :: (89, .return_, 1) :: [])
set_option maxRecDepth 100000 in
def mX12_undo : zMeth := (yX12_undo, cX12_undo, 2, none, 12, (0, .aload_n 0, 1) :: (1, .getfield 342, 3) :: (4, .iload_n 1, 1) :: (5, .if_icmp .le 88, 3) :: (8, .aload_n 0, 1) :: (9, .dup, 1) :: (10, .getfield 342, 3) :: (13, .iconst 4, 1) :: (14, .isub, 1) :: (15, .putfield 342, 3) :: (18, .aload_n 0, 1) :: (19, .aload_n 0, 1) :: (20, .getfield 88, 3) :: (23, .aload_n 0, 1) :: (24, .getfield 342, 3) :: (27, .iaload, 1) :: (28, .invokevirtual 345, 3) :: (31, .aload_n 0, 1) :: (32, .aload_n 0, 1) :: (33, .getfield 88, 3) :: (36, .aload_n 0, 1) :: (37, .getfield 342, 3) :: (40, .iaload, 1) :: (41, .aload_n 0, 1) :: (42, .getfield 88, 3) :: (45, .aload_n 0, 1) :: (46, .getfield 342, 3) :: (49, .iconst 1, 1) :: (50, .iadd, 1) :: (51, .iaload, 1) :: (52, .invokevirtual 349, 3) :: (55, .aload_n 0, 1) :: (56, .aload_n 0, 1) :: (57, .getfield 88, 3) :: (60, .aload_n 0, 1) :: (61, .getfield 342, 3) :: (64, .iconst 2, 1) :: (65, .iadd, 1) :: (66, .iaload, 1) :: (67, .putfield 51, 3) :: (70, .aload_n 0, 1) :: (71, .dup, 1) :: (72, .getfield 310, 3) :: (75, .aload_n 0, 1) :: (76, .getfield 88, 3) :: (79, .aload_n 0, 1) :: (80, .getfield 342, 3) :: (83, .iconst 3, 1) :: (84, .iadd, 1) :: (85, .iaload, 1) :: (86, .isub, 1) :: (87, .putfield 310, 3) :: (90, .goto (-90), 3) :: (93, .return_, 1) :: [])
set_option maxRecDepth 100000 in
def mX12_move : zMeth := (yX12_move, cX12_move, 4, (some .int), 12, (0, .aload_n 0, 1) :: (1, .iconst 0, 1) :: (2, .putfield 197, 3) :: (5, .aload_n 0, 1) :: (6, .iload_n 1, 1) :: (7, .invokevirtual 313, 3) :: (10, .ifCond .eq 28, 3) :: (13, .aload_n 0, 1) :: (14, .iload_n 2, 1) :: (15, .invokevirtual 240, 3) :: (18, .ifCond .eq 20, 3) :: (21, .aload_n 0, 1) :: (22, .iload_n 1, 1) :: (23, .invokevirtual 353, 3) :: (26, .ifCond .eq 12, 3) :: (29, .aload_n 0, 1) :: (30, .iload_n 1, 1) :: (31, .iload_n 2, 1) :: (32, .invokevirtual 356, 3) :: (35, .ifCond .ne 5, 3) :: (38, .iconst (-1), 1) :: (39, .ireturn, 1) :: (40, .aload_n 0, 1) :: (41, .iload_n 1, 1) :: (42, .iload_n 2, 1) :: (43, .invokevirtual 359, 3) :: (46, .istore_n 3, 1) :: (47, .aload_n 0, 1) :: (48, .iload_n 1, 1) :: (49, .iload_n 2, 1) :: (50, .iload_n 3, 1) :: (51, .invokevirtual 362, 3) :: (54, .aload_n 0, 1) :: (55, .iconst 0, 1) :: (56, .putfield 342, 3) :: (59, .iload_n 3, 1) :: (60, .ireturn, 1) :: [])
set_option maxRecDepth 100000 in
def mX12_drag : zMeth := (yX12_drag, cX12_drag, 5, (some .int), 12, (0, .aload_n 0, 1) :: (1, .iconst 0, 1) :: (2, .putfield 197, 3) :: (5, .aload_n 0, 1) :: (6, .iload_n 1, 1) :: (7, .invokevirtual 313, 3) :: (10, .ifCond .eq 51, 3) :: (13, .aload_n 0, 1) :: (14, .iload_n 2, 1) :: (15, .invokevirtual 313, 3) :: (18, .ifCond .eq 43, 3) :: (21, .iload_n 1, 1) :: (22, .iload_n 2, 1) :: (23, .if_icmp .eq 38, 3) :: (26, .aload_n 0, 1) :: (27, .iload_n 3, 1) :: (28, .invokevirtual 240, 3) :: (31, .ifCond .eq 30, 3) :: (34, .aload_n 0, 1) :: (35, .getfield 45, 3) :: (38, .iload_n 2, 1) :: (39, .iaload, 1) :: (40, .iconst (-1), 1) :: (41, .if_icmp .ne 20, 3) :: (44, .aload_n 0, 1) :: (45, .iload_n 2, 1) :: (46, .invokevirtual 353, 3) :: (49, .ifCond .eq 12, 3) :: (52, .aload_n 0, 1) :: (53, .iload_n 1, 1) :: (54, .iload_n 3, 1) :: (55, .invokevirtual 356, 3) :: (58, .ifCond .ne 5, 3) :: (61, .iconst (-1), 1) :: (62, .ireturn, 1) :: (63, .iconst 2, 1) :: (64, .aload_n 0, 1) :: (65, .iload_n 1, 1) :: (66, .iload_n 3, 1) :: (67, .invokevirtual 359, 3) :: (70, .imul, 1) :: (71, .istore 4, 2) :: (73, .aload_n 0, 1) :: (74, .iload_n 1, 1) :: (75, .iload_n 3, 1) :: (76, .iload 4, 2) :: (78, .invokevirtual 362, 3) :: (81, .aload_n 0, 1) :: (82, .iconst 0, 1) :: (83, .putfield 342, 3) :: (86, .iload 4, 2) :: (88, .ireturn, 1) :: [])
set_option maxRecDepth 100000 in
def mX12_freeNow : zMeth := (yX12_freeNow, cX12_freeNow, 6, (some .boolean), 12, (0, .aload_n 0, 1) :: (1, .iload_n 1, 1) :: (2, .invokevirtual 325, 3) :: (5, .istore_n 2, 1) :: (6, .aload_n 0, 1) :: (7, .iconst (-1), 1) :: (8, .putfield 366, 3) :: (11, .aload_n 0, 1) :: (12, .iconst 0, 1) :: (13, .putfield 369, 3) :: (16, .aload_n 0, 1) :: (17, .iload_n 1, 1) :: (18, .invokevirtual 353, 3) :: (21, .ifCond .eq 16, 3) :: (24, .iload_n 2, 1) :: (25, .iconst (-1), 1) :: (26, .if_icmp .eq 13, 3) :: (29, .aload_n 0, 1) :: (30, .iload_n 2, 1) :: (31, .invokevirtual 353, 3) :: (34, .ifCond .ne 5, 3) :: (37, .iconst 0, 1) :: (38, .ireturn, 1) :: (39, .iload_n 2, 1) :: (40, .iconst (-1), 1) :: (41, .if_icmp .eq 147, 3) :: (44, .iconst (-1), 1) :: (45, .istore_n 3, 1) :: (46, .iconst 0, 1) :: (47, .istore 4, 2) :: (49, .iload 4, 2) :: (51, .aload_n 0, 1) :: (52, .getfield 7, 3) :: (55, .if_icmp .gt 97, 3) :: (58, .aload_n 0, 1) :: (59, .iload_n 2, 1) :: (60, .iload 4, 2) :: (62, .invokevirtual 356, 3) :: (65, .ifCond .ne 6, 3) :: (68, .goto 78, 3) :: (71, .aload_n 0, 1) :: (72, .iload_n 2, 1) :: (73, .iload 4, 2) :: (75, .invokevirtual 359, 3) :: (78, .aload_n 0, 1) :: (79, .getfield 54, 3) :: (82, .aload_n 0, 1) :: (83, .iload 4, 2) :: (85, .aload_n 0, 1) :: (86, .getfield 45, 3) :: (89, .iload_n 1, 1) :: (90, .iaload, 1) :: (91, .invokevirtual 243, 3) :: (94, .aload_n 0, 1) :: (95, .aload_n 0, 1) :: (96, .getfield 45, 3) :: (99, .iload_n 1, 1) :: (100, .iaload, 1) :: (101, .aload_n 0, 1) :: (102, .getfield 7, 3) :: (105, .invokevirtual 243, 3) :: (108, .iadd, 1) :: (109, .imul, 1) :: (110, .iadd, 1) :: (111, .iconst 2, 1) :: (112, .aload_n 0, 1) :: (113, .getfield 57, 3) :: (116, .imul, 1) :: (117, .iadd, 1) :: (118, .istore 5, 2) :: (120, .aload_n 0, 1) :: (121, .getfield 366, 3) :: (124, .iconst (-1), 1) :: (125, .if_icmp .eq 12, 3) :: (128, .iload 5, 2) :: (130, .iload_n 3, 1) :: (131, .if_icmp .lt 6, 3) :: (134, .goto 12, 3) :: (137, .iload 5, 2) :: (139, .istore_n 3, 1) :: (140, .aload_n 0, 1) :: (141, .iload 4, 2) :: (143, .putfield 366, 3) :: (146, .iinc 4 1, 3) :: (149, .goto (-100), 3) :: (152, .aload_n 0, 1) :: (153, .getfield 366, 3) :: (156, .iconst (-1), 1) :: (157, .if_icmp .ne 5, 3) :: (160, .iconst 0, 1) :: (161, .ireturn, 1) :: (162, .aload_n 0, 1) :: (163, .aload_n 0, 1) :: (164, .iload_n 2, 1) :: (165, .aload_n 0, 1) :: (166, .getfield 366, 3) :: (169, .invokevirtual 359, 3) :: (172, .putfield 369, 3) :: (175, .aload_n 0, 1) :: (176, .iload_n 2, 1) :: (177, .aload_n 0, 1) :: (178, .getfield 366, 3) :: (181, .aload_n 0, 1) :: (182, .getfield 369, 3) :: (185, .invokevirtual 362, 3) :: (188, .aload_n 0, 1) :: (189, .aload_n 0, 1) :: (190, .iload_n 1, 1) :: (191, .aload_n 0, 1) :: (192, .getfield 7, 3) :: (195, .invokevirtual 359, 3) :: (198, .putfield 372, 3) :: (201, .aload_n 0, 1) :: (202, .iload_n 1, 1) :: (203, .aload_n 0, 1) :: (204, .getfield 7, 3) :: (207, .aload_n 0, 1) :: (208, .getfield 372, 3) :: (211, .invokevirtual 362, 3) :: (214, .iconst 1, 1) :: (215, .ireturn, 1) :: [])
set_option maxRecDepth 100000 in
def mX12_free : zMeth := (yX12_free, cX12_free, 2, (some .int), 12, (0, .aload_n 0, 1) :: (1, .iconst 0, 1) :: (2, .putfield 197, 3) :: (5, .aload_n 0, 1) :: (6, .iload_n 1, 1) :: (7, .invokevirtual 313, 3) :: (10, .ifCond .eq 13, 3) :: (13, .aload_n 0, 1) :: (14, .getfield 45, 3) :: (17, .iload_n 1, 1) :: (18, .iaload, 1) :: (19, .iconst (-1), 1) :: (20, .if_icmp .ne 5, 3) :: (23, .iconst (-1), 1) :: (24, .ireturn, 1) :: (25, .aload_n 0, 1) :: (26, .iload_n 1, 1) :: (27, .invokevirtual 375, 3) :: (30, .ifCond .ne 6, 3) :: (33, .bipush (-2), 2) :: (35, .ireturn, 1) :: (36, .aload_n 0, 1) :: (37, .iconst 0, 1) :: (38, .invokevirtual 378, 3) :: (41, .aload_n 0, 1) :: (42, .iconst 0, 1) :: (43, .putfield 200, 3) :: (46, .aload_n 0, 1) :: (47, .aload_n 0, 1) :: (48, .getfield 366, 3) :: (51, .invokevirtual 381, 3) :: (54, .aload_n 0, 1) :: (55, .getfield 369, 3) :: (58, .aload_n 0, 1) :: (59, .getfield 372, 3) :: (62, .iadd, 1) :: (63, .ireturn, 1) :: [])
set_option maxRecDepth 100000 in
def mX12_offer : zMeth := (yX12_offer, cX12_offer, 4, none, 12, (0, .aload_n 0, 1) :: (1, .getfield 384, 3) :: (4, .iconst (-1), 1) :: (5, .if_icmp .eq 12, 3) :: (8, .iload_n 1, 1) :: (9, .aload_n 0, 1) :: (10, .getfield 387, 3) :: (13, .if_icmp .lt 4, 3) :: (16, .return_, 1) :: (17, .aload_n 0, 1) :: (18, .iload_n 1, 1) :: (19, .putfield 387, 3) :: (22, .aload_n 0, 1) :: (23, .iload_n 2, 1) :: (24, .putfield 384, 3) :: (27, .iconst 0, 1) :: (28, .istore_n 3, 1) :: (29, .iload_n 3, 1) :: (30, .iload_n 2, 1) :: (31, .if_icmp .ge 21, 3) :: (34, .aload_n 0, 1) :: (35, .getfield 94, 3) :: (38, .iload_n 3, 1) :: (39, .aload_n 0, 1) :: (40, .getfield 91, 3) :: (43, .iload_n 3, 1) :: (44, .iaload, 1) :: (45, .iastore, 1) :: (46, .iinc 3 1, 3) :: (49, .goto (-20), 3) :: (52, .return_, 1) :: [])
set_option maxRecDepth 100000 in
def mX12_tellBest : zMeth := (yX12_tellBest, cX12_tellBest, 2, none, 12, (0, .aload_n 0, 1) :: (1, .iconst 0, 1) :: (2, .putfield 200, 3) :: (5, .iconst 0, 1) :: (6, .istore_n 1, 1) :: (7, .iload_n 1, 1) :: (8, .aload_n 0, 1) :: (9, .getfield 384, 3) :: (12, .if_icmp .ge 19, 3) :: (15, .aload_n 0, 1) :: (16, .aload_n 0, 1) :: (17, .getfield 94, 3) :: (20, .iload_n 1, 1) :: (21, .iaload, 1) :: (22, .invokevirtual 381, 3) :: (25, .iinc 1 1, 3) :: (28, .goto (-21), 3) :: (31, .return_, 1) :: [])
set_option maxRecDepth 100000 in
def mX12_orderFrom : zMeth := (yX12_orderFrom, cX12_orderFrom, 7, none, 12, (0, .iload_n 1, 1) :: (1, .ifCond .ne 10, 3) :: (4, .aload_n 0, 1) :: (5, .iload_n 3, 1) :: (6, .iload_n 2, 1) :: (7, .invokevirtual 390, 3) :: (10, .return_, 1) :: (11, .iconst 0, 1) :: (12, .istore 4, 2) :: (14, .iload 4, 2) :: (16, .aload_n 0, 1) :: (17, .getfield 207, 3) :: (20, .if_icmp .ge 91, 3) :: (23, .iload_n 1, 1) :: (24, .iload 4, 2) :: (26, .ishr, 1) :: (27, .iconst 1, 1) :: (28, .iand, 1) :: (29, .ifCond .ne 6, 3) :: (32, .goto 73, 3) :: (35, .aload_n 0, 1) :: (36, .getfield 342, 3) :: (39, .istore 5, 2) :: (41, .aload_n 0, 1) :: (42, .getfield 310, 3) :: (45, .istore 6, 2) :: (47, .aload_n 0, 1) :: (48, .getfield 45, 3) :: (51, .iload 4, 2) :: (53, .iaload, 1) :: (54, .iconst (-1), 1) :: (55, .if_icmp .eq 12, 3) :: (58, .aload_n 0, 1) :: (59, .iload 4, 2) :: (61, .invokevirtual 375, 3) :: (64, .ifCond .eq 35, 3) :: (67, .aload_n 0, 1) :: (68, .getfield 91, 3) :: (71, .iload_n 2, 1) :: (72, .iload 4, 2) :: (74, .iastore, 1) :: (75, .aload_n 0, 1) :: (76, .iload_n 1, 1) :: (77, .iconst 1, 1) :: (78, .iload 4, 2) :: (80, .ishl, 1) :: (81, .iconst (-1), 1) :: (82, .ixor, 1) :: (83, .iand, 1) :: (84, .iload_n 2, 1) :: (85, .iconst 1, 1) :: (86, .iadd, 1) :: (87, .iload_n 3, 1) :: (88, .aload_n 0, 1) :: (89, .getfield 310, 3) :: (92, .iadd, 1) :: (93, .iload 6, 2) :: (95, .isub, 1) :: (96, .invokevirtual 393, 3) :: (99, .aload_n 0, 1) :: (100, .iload 5, 2) :: (102, .invokevirtual 378, 3) :: (105, .iinc 4 1, 3) :: (108, .goto (-94), 3) :: (111, .return_, 1) :: [])
set_option maxRecDepth 100000 in
def mX12_inStalls : zMeth := (yX12_inStalls, cX12_inStalls, 3, (some .int), 12, (0, .iconst 0, 1) :: (1, .istore_n 1, 1) :: (2, .iconst 0, 1) :: (3, .istore_n 2, 1) :: (4, .iload_n 2, 1) :: (5, .aload_n 0, 1) :: (6, .getfield 207, 3) :: (9, .if_icmp .ge 29, 3) :: (12, .iload_n 1, 1) :: (13, .aload_n 0, 1) :: (14, .getfield 45, 3) :: (17, .iload_n 2, 1) :: (18, .iaload, 1) :: (19, .iconst (-1), 1) :: (20, .if_icmp .ne 7, 3) :: (23, .iconst 0, 1) :: (24, .goto 6, 3) :: (27, .iconst 1, 1) :: (28, .iload_n 2, 1) :: (29, .ishl, 1) :: (30, .ior, 1) :: (31, .istore_n 1, 1) :: (32, .iinc 2 1, 3) :: (35, .goto (-31), 3) :: (38, .iload_n 1, 1) :: (39, .ireturn, 1) :: [])
set_option maxRecDepth 100000 in
def mX12_order : zMeth := (yX12_order, cX12_order, 2, (some .int), 12, (0, .aload_n 0, 1) :: (1, .iconst 0, 1) :: (2, .putfield 197, 3) :: (5, .iload_n 1, 1) :: (6, .ifCond .le 22, 3) :: (9, .iload_n 1, 1) :: (10, .aload_n 0, 1) :: (11, .invokevirtual 396, 3) :: (14, .iconst (-1), 1) :: (15, .ixor, 1) :: (16, .iand, 1) :: (17, .ifCond .ne 11, 3) :: (20, .iload_n 1, 1) :: (21, .invokestatic 399, 3) :: (24, .iconst 5, 1) :: (25, .if_icmp .le 5, 3) :: (28, .iconst (-1), 1) :: (29, .ireturn, 1) :: (30, .aload_n 0, 1) :: (31, .iconst (-1), 1) :: (32, .putfield 384, 3) :: (35, .aload_n 0, 1) :: (36, .iload_n 1, 1) :: (37, .iconst 0, 1) :: (38, .iconst 0, 1) :: (39, .invokevirtual 393, 3) :: (42, .aload_n 0, 1) :: (43, .getfield 384, 3) :: (46, .iconst (-1), 1) :: (47, .if_icmp .ne 6, 3) :: (50, .bipush (-2), 2) :: (52, .ireturn, 1) :: (53, .aload_n 0, 1) :: (54, .invokevirtual 404, 3) :: (57, .aload_n 0, 1) :: (58, .getfield 387, 3) :: (61, .ireturn, 1) :: [])
set_option maxRecDepth 100000 in
def mX12_clearFrom : zMeth := (yX12_clearFrom, cX12_clearFrom, 8, none, 12, (0, .aload_n 0, 1) :: (1, .getfield 27, 3) :: (4, .iload_n 1, 1) :: (5, .iaload, 1) :: (6, .iconst (-1), 1) :: (7, .if_icmp .eq 12, 3) :: (10, .aload_n 0, 1) :: (11, .getfield 27, 3) :: (14, .iload_n 1, 1) :: (15, .iaload, 1) :: (16, .goto 9, 3) :: (19, .aload_n 0, 1) :: (20, .getfield 24, 3) :: (23, .iload_n 1, 1) :: (24, .iaload, 1) :: (25, .istore 4, 2) :: (27, .iload 4, 2) :: (29, .iconst (-1), 1) :: (30, .if_icmp .ne 10, 3) :: (33, .aload_n 0, 1) :: (34, .iload_n 3, 1) :: (35, .iload_n 2, 1) :: (36, .invokevirtual 390, 3) :: (39, .return_, 1) :: (40, .iconst 0, 1) :: (41, .istore 5, 2) :: (43, .iload 5, 2) :: (45, .aload_n 0, 1) :: (46, .getfield 7, 3) :: (49, .if_icmp .gt 84, 3) :: (52, .aload_n 0, 1) :: (53, .iload 4, 2) :: (55, .invokevirtual 353, 3) :: (58, .ifCond .eq 69, 3) :: (61, .aload_n 0, 1) :: (62, .iload 4, 2) :: (64, .iload 5, 2) :: (66, .invokevirtual 356, 3) :: (69, .ifCond .ne 6, 3) :: (72, .goto 55, 3) :: (75, .aload_n 0, 1) :: (76, .getfield 342, 3) :: (79, .istore 6, 2) :: (81, .aload_n 0, 1) :: (82, .iload 4, 2) :: (84, .iload 5, 2) :: (86, .invokevirtual 359, 3) :: (89, .istore 7, 2) :: (91, .aload_n 0, 1) :: (92, .iload 4, 2) :: (94, .iload 5, 2) :: (96, .iload 7, 2) :: (98, .invokevirtual 362, 3) :: (101, .aload_n 0, 1) :: (102, .getfield 91, 3) :: (105, .iload_n 2, 1) :: (106, .iload 5, 2) :: (108, .iastore, 1) :: (109, .aload_n 0, 1) :: (110, .iload_n 1, 1) :: (111, .iload_n 2, 1) :: (112, .iconst 1, 1) :: (113, .iadd, 1) :: (114, .iload_n 3, 1) :: (115, .iload 7, 2) :: (117, .iadd, 1) :: (118, .invokevirtual 407, 3) :: (121, .aload_n 0, 1) :: (122, .iload 6, 2) :: (124, .invokevirtual 378, 3) :: (127, .iinc 5 1, 3) :: (130, .goto (-87), 3) :: (133, .return_, 1) :: [])
set_option maxRecDepth 100000 in
def mX12_clear : zMeth := (yX12_clear, cX12_clear, 2, (some .int), 12, (0, .aload_n 0, 1) :: (1, .iconst 0, 1) :: (2, .putfield 197, 3) :: (5, .aload_n 0, 1) :: (6, .iload_n 1, 1) :: (7, .invokevirtual 220, 3) :: (10, .ifCond .ne 5, 3) :: (13, .iconst (-1), 1) :: (14, .ireturn, 1) :: (15, .aload_n 0, 1) :: (16, .iconst (-1), 1) :: (17, .putfield 384, 3) :: (20, .aload_n 0, 1) :: (21, .iload_n 1, 1) :: (22, .iconst 0, 1) :: (23, .iconst 0, 1) :: (24, .invokevirtual 407, 3) :: (27, .aload_n 0, 1) :: (28, .getfield 384, 3) :: (31, .iconst (-1), 1) :: (32, .if_icmp .ne 6, 3) :: (35, .bipush (-2), 2) :: (37, .ireturn, 1) :: (38, .aload_n 0, 1) :: (39, .invokevirtual 404, 3) :: (42, .aload_n 0, 1) :: (43, .getfield 387, 3) :: (46, .ireturn, 1) :: [])
set_option maxRecDepth 100000 in
def mX12_underFrom : zMeth := (yX12_underFrom, cX12_underFrom, 8, none, 12, (0, .iload_n 1, 1) :: (1, .ifCond .ne 17, 3) :: (4, .aload_n 0, 1) :: (5, .invokevirtual 339, 3) :: (8, .ifCond .ne 9, 3) :: (11, .aload_n 0, 1) :: (12, .iload_n 3, 1) :: (13, .iload_n 2, 1) :: (14, .invokevirtual 390, 3) :: (17, .return_, 1) :: (18, .iconst 0, 1) :: (19, .istore 4, 2) :: (21, .iload 4, 2) :: (23, .aload_n 0, 1) :: (24, .getfield 207, 3) :: (27, .if_icmp .ge 114, 3) :: (30, .iconst 0, 1) :: (31, .istore 5, 2) :: (33, .iload 5, 2) :: (35, .aload_n 0, 1) :: (36, .getfield 7, 3) :: (39, .if_icmp .ge 96, 3) :: (42, .aload_n 0, 1) :: (43, .iload 4, 2) :: (45, .invokevirtual 353, 3) :: (48, .ifCond .eq 81, 3) :: (51, .aload_n 0, 1) :: (52, .iload 4, 2) :: (54, .iload 5, 2) :: (56, .invokevirtual 356, 3) :: (59, .ifCond .ne 6, 3) :: (62, .goto 67, 3) :: (65, .aload_n 0, 1) :: (66, .getfield 342, 3) :: (69, .istore 6, 2) :: (71, .aload_n 0, 1) :: (72, .iload 4, 2) :: (74, .iload 5, 2) :: (76, .invokevirtual 359, 3) :: (79, .istore 7, 2) :: (81, .aload_n 0, 1) :: (82, .iload 4, 2) :: (84, .iload 5, 2) :: (86, .iload 7, 2) :: (88, .invokevirtual 362, 3) :: (91, .aload_n 0, 1) :: (92, .getfield 91, 3) :: (95, .iload_n 2, 1) :: (96, .iload 4, 2) :: (98, .iastore, 1) :: (99, .aload_n 0, 1) :: (100, .getfield 91, 3) :: (103, .iload_n 2, 1) :: (104, .iconst 1, 1) :: (105, .iadd, 1) :: (106, .iload 5, 2) :: (108, .iastore, 1) :: (109, .aload_n 0, 1) :: (110, .iload_n 1, 1) :: (111, .iconst 1, 1) :: (112, .isub, 1) :: (113, .iload_n 2, 1) :: (114, .iconst 2, 1) :: (115, .iadd, 1) :: (116, .iload_n 3, 1) :: (117, .iload 7, 2) :: (119, .iadd, 1) :: (120, .invokevirtual 410, 3) :: (123, .aload_n 0, 1) :: (124, .iload 6, 2) :: (126, .invokevirtual 378, 3) :: (129, .iinc 5 1, 3) :: (132, .goto (-99), 3) :: (135, .iinc 4 1, 3) :: (138, .goto (-117), 3) :: (141, .return_, 1) :: [])
set_option maxRecDepth 100000 in
def mX12_under : zMeth := (yX12_under, cX12_under, 2, (some .int), 12, (0, .aload_n 0, 1) :: (1, .iconst 0, 1) :: (2, .putfield 197, 3) :: (5, .iconst 0, 1) :: (6, .istore_n 1, 1) :: (7, .iload_n 1, 1) :: (8, .iconst 2, 1) :: (9, .if_icmp .gt 38, 3) :: (12, .aload_n 0, 1) :: (13, .iconst (-1), 1) :: (14, .putfield 384, 3) :: (17, .aload_n 0, 1) :: (18, .iload_n 1, 1) :: (19, .iconst 0, 1) :: (20, .iconst 0, 1) :: (21, .invokevirtual 410, 3) :: (24, .aload_n 0, 1) :: (25, .getfield 384, 3) :: (28, .iconst (-1), 1) :: (29, .if_icmp .ne 6, 3) :: (32, .goto 9, 3) :: (35, .aload_n 0, 1) :: (36, .invokevirtual 404, 3) :: (39, .iload_n 1, 1) :: (40, .ireturn, 1) :: (41, .iinc 1 1, 3) :: (44, .goto (-37), 3) :: (47, .bipush (-2), 2) :: (49, .ireturn, 1) :: [])
set_option maxRecDepth 100000 in
def mX12_comes : zMeth := (yX12_comes, cX12_comes, 3, (some .int), 12, (0, .aload_n 0, 1) :: (1, .iconst 0, 1) :: (2, .putfield 197, 3) :: (5, .aload_n 0, 1) :: (6, .iload_n 1, 1) :: (7, .invokevirtual 313, 3) :: (10, .ifCond .eq 22, 3) :: (13, .aload_n 0, 1) :: (14, .getfield 45, 3) :: (17, .iload_n 1, 1) :: (18, .iaload, 1) :: (19, .iconst (-1), 1) :: (20, .if_icmp .ne 12, 3) :: (23, .aload_n 0, 1) :: (24, .getfield 413, 3) :: (27, .bipush 6, 2) :: (29, .if_icmp .ne 5, 3) :: (32, .iconst (-1), 1) :: (33, .ireturn, 1) :: (34, .iconst 0, 1) :: (35, .istore_n 2, 1) :: (36, .iload_n 2, 1) :: (37, .aload_n 0, 1) :: (38, .getfield 413, 3) :: (41, .if_icmp .ge 21, 3) :: (44, .aload_n 0, 1) :: (45, .getfield 72, 3) :: (48, .iload_n 2, 1) :: (49, .iaload, 1) :: (50, .iload_n 1, 1) :: (51, .if_icmp .ne 5, 3) :: (54, .iconst (-1), 1) :: (55, .ireturn, 1) :: (56, .iinc 2 1, 3) :: (59, .goto (-23), 3) :: (62, .aload_n 0, 1) :: (63, .getfield 72, 3) :: (66, .aload_n 0, 1) :: (67, .getfield 413, 3) :: (70, .iload_n 1, 1) :: (71, .iastore, 1) :: (72, .aload_n 0, 1) :: (73, .dup, 1) :: (74, .getfield 413, 3) :: (77, .iconst 1, 1) :: (78, .iadd, 1) :: (79, .putfield 413, 3) :: (82, .aload_n 0, 1) :: (83, .getfield 413, 3) :: (86, .ireturn, 1) :: [])
set_option maxRecDepth 100000 in
def mX12_leaves : zMeth := (yX12_leaves, cX12_leaves, 4, (some .int), 12, (0, .aload_n 0, 1) :: (1, .iconst 0, 1) :: (2, .putfield 197, 3) :: (5, .iconst 0, 1) :: (6, .istore_n 2, 1) :: (7, .iconst 0, 1) :: (8, .istore_n 3, 1) :: (9, .iload_n 3, 1) :: (10, .aload_n 0, 1) :: (11, .getfield 413, 3) :: (14, .if_icmp .ge 29, 3) :: (17, .iload_n 2, 1) :: (18, .ifCond .ne 13, 3) :: (21, .aload_n 0, 1) :: (22, .getfield 72, 3) :: (25, .iload_n 3, 1) :: (26, .iaload, 1) :: (27, .iload_n 1, 1) :: (28, .if_icmp .ne 7, 3) :: (31, .iconst 1, 1) :: (32, .goto 4, 3) :: (35, .iconst 0, 1) :: (36, .istore_n 2, 1) :: (37, .iinc 3 1, 3) :: (40, .goto (-31), 3) :: (43, .iload_n 2, 1) :: (44, .ifCond .eq 12, 3) :: (47, .aload_n 0, 1) :: (48, .iload_n 1, 1) :: (49, .invokevirtual 416, 3) :: (52, .iconst (-1), 1) :: (53, .if_icmp .eq 5, 3) :: (56, .iconst (-1), 1) :: (57, .ireturn, 1) :: (58, .aload_n 0, 1) :: (59, .getfield 75, 3) :: (62, .aload_n 0, 1) :: (63, .getfield 419, 3) :: (66, .iload_n 1, 1) :: (67, .iastore, 1) :: (68, .aload_n 0, 1) :: (69, .dup, 1) :: (70, .getfield 419, 3) :: (73, .iconst 1, 1) :: (74, .iadd, 1) :: (75, .putfield 419, 3) :: (78, .aload_n 0, 1) :: (79, .getfield 419, 3) :: (82, .ireturn, 1) :: [])
set_option maxRecDepth 100000 in
def mX12_leaveOf : zMeth := (yX12_leaveOf, cX12_leaveOf, 3, (some .int), 12, (0, .iconst 0, 1) :: (1, .istore_n 2, 1) :: (2, .iload_n 2, 1) :: (3, .aload_n 0, 1) :: (4, .getfield 419, 3) :: (7, .if_icmp .ge 21, 3) :: (10, .aload_n 0, 1) :: (11, .getfield 75, 3) :: (14, .iload_n 2, 1) :: (15, .iaload, 1) :: (16, .iload_n 1, 1) :: (17, .if_icmp .ne 5, 3) :: (20, .iload_n 2, 1) :: (21, .ireturn, 1) :: (22, .iinc 2 1, 3) :: (25, .goto (-23), 3) :: (28, .iconst (-1), 1) :: (29, .ireturn, 1) :: [])
set_option maxRecDepth 100000 in
def mX12_nobody : zMeth := (yX12_nobody, cX12_nobody, 2, (some .int), 12, (0, .aload_n 0, 1) :: (1, .iconst 0, 1) :: (2, .putfield 197, 3) :: (5, .aload_n 0, 1) :: (6, .getfield 413, 3) :: (9, .istore_n 1, 1) :: (10, .aload_n 0, 1) :: (11, .iconst 0, 1) :: (12, .putfield 413, 3) :: (15, .aload_n 0, 1) :: (16, .iconst 0, 1) :: (17, .putfield 419, 3) :: (20, .iload_n 1, 1) :: (21, .ireturn, 1) :: [])
set_option maxRecDepth 100000 in
def mX12_canStand : zMeth := (yX12_canStand, cX12_canStand, 4, (some .boolean), 12, (0, .aload_n 0, 1) :: (1, .getfield 106, 3) :: (4, .iload_n 2, 1) :: (5, .iaload, 1) :: (6, .istore_n 3, 1) :: (7, .iload_n 3, 1) :: (8, .iconst (-1), 1) :: (9, .if_icmp .ne 15, 3) :: (12, .aload_n 0, 1) :: (13, .getfield 97, 3) :: (16, .bipush 23, 2) :: (18, .iload_n 1, 1) :: (19, .imul, 1) :: (20, .iload_n 2, 1) :: (21, .iadd, 1) :: (22, .baload, 1) :: (23, .ireturn, 1) :: (24, .aload_n 0, 1) :: (25, .getfield 109, 3) :: (28, .iload_n 2, 1) :: (29, .iaload, 1) :: (30, .iconst (-1), 1) :: (31, .if_icmp .ne 17, 3) :: (34, .aload_n 0, 1) :: (35, .getfield 100, 3) :: (38, .bipush 23, 2) :: (40, .iload_n 1, 1) :: (41, .imul, 1) :: (42, .iload_n 2, 1) :: (43, .iadd, 1) :: (44, .baload, 1) :: (45, .ifCond .ne 5, 3) :: (48, .iconst 0, 1) :: (49, .ireturn, 1) :: (50, .aload_n 0, 1) :: (51, .getfield 30, 3) :: (54, .aload_n 0, 1) :: (55, .getfield 72, 3) :: (58, .iload_n 3, 1) :: (59, .iaload, 1) :: (60, .iaload, 1) :: (61, .aload_n 0, 1) :: (62, .getfield 30, 3) :: (65, .aload_n 0, 1) :: (66, .getfield 72, 3) :: (69, .iload_n 1, 1) :: (70, .iaload, 1) :: (71, .iaload, 1) :: (72, .iadd, 1) :: (73, .aload_n 0, 1) :: (74, .getfield 13, 3) :: (77, .iload_n 2, 1) :: (78, .iaload, 1) :: (79, .if_icmp .gt 30, 3) :: (82, .aload_n 0, 1) :: (83, .aload_n 0, 1) :: (84, .getfield 72, 3) :: (87, .iload_n 1, 1) :: (88, .iaload, 1) :: (89, .invokevirtual 416, 3) :: (92, .aload_n 0, 1) :: (93, .aload_n 0, 1) :: (94, .getfield 72, 3) :: (97, .iload_n 3, 1) :: (98, .iaload, 1) :: (99, .invokevirtual 416, 3) :: (102, .if_icmp .ge 7, 3) :: (105, .iconst 1, 1) :: (106, .goto 4, 3) :: (109, .iconst 0, 1) :: (110, .ireturn, 1) :: [])
set_option maxRecDepth 100000 in
def mX12_cheapest : zMeth := (yX12_cheapest, cX12_cheapest, 4, (some .int), 12, (0, .iconst 0, 1) :: (1, .istore_n 2, 1) :: (2, .iload_n 1, 1) :: (3, .istore_n 3, 1) :: (4, .iload_n 3, 1) :: (5, .aload_n 0, 1) :: (6, .getfield 413, 3) :: (9, .if_icmp .ge 18, 3) :: (12, .iload_n 2, 1) :: (13, .aload_n 0, 1) :: (14, .getfield 103, 3) :: (17, .iload_n 3, 1) :: (18, .iaload, 1) :: (19, .iadd, 1) :: (20, .istore_n 2, 1) :: (21, .iinc 3 1, 3) :: (24, .goto (-20), 3) :: (27, .iload_n 2, 1) :: (28, .ireturn, 1) :: [])
set_option maxRecDepth 100000 in
def mX12_stand : zMeth := (yX12_stand, cX12_stand, 4, none, 12, (0, .iload_n 3, 1) :: (1, .ifCond .ne 33, 3) :: (4, .aload_n 0, 1) :: (5, .getfield 109, 3) :: (8, .iload_n 2, 1) :: (9, .iaload, 1) :: (10, .iload_n 1, 1) :: (11, .if_icmp .ne 13, 3) :: (14, .aload_n 0, 1) :: (15, .getfield 109, 3) :: (18, .iload_n 2, 1) :: (19, .iconst (-1), 1) :: (20, .iastore, 1) :: (21, .goto 40, 3) :: (24, .aload_n 0, 1) :: (25, .getfield 106, 3) :: (28, .iload_n 2, 1) :: (29, .iconst (-1), 1) :: (30, .iastore, 1) :: (31, .goto 30, 3) :: (34, .aload_n 0, 1) :: (35, .getfield 106, 3) :: (38, .iload_n 2, 1) :: (39, .iaload, 1) :: (40, .iconst (-1), 1) :: (41, .if_icmp .ne 13, 3) :: (44, .aload_n 0, 1) :: (45, .getfield 106, 3) :: (48, .iload_n 2, 1) :: (49, .iload_n 1, 1) :: (50, .iastore, 1) :: (51, .goto 10, 3) :: (54, .aload_n 0, 1) :: (55, .getfield 109, 3) :: (58, .iload_n 2, 1) :: (59, .iload_n 1, 1) :: (60, .iastore, 1) :: (61, .return_, 1) :: [])
set_option maxRecDepth 100000 in
def mX12_findSum : zMeth := (yX12_findSum, cX12_findSum, 6, none, 12, (0, .iload_n 2, 1) :: (1, .aload_n 0, 1) :: (2, .iload_n 1, 1) :: (3, .invokevirtual 422, 3) :: (6, .iadd, 1) :: (7, .aload_n 0, 1) :: (8, .getfield 425, 3) :: (11, .if_icmp .lt 4, 3) :: (14, .return_, 1) :: (15, .iload_n 1, 1) :: (16, .aload_n 0, 1) :: (17, .getfield 413, 3) :: (20, .if_icmp .ne 9, 3) :: (23, .aload_n 0, 1) :: (24, .iload_n 2, 1) :: (25, .putfield 425, 3) :: (28, .return_, 1) :: (29, .iconst 1, 1) :: (30, .istore_n 3, 1) :: (31, .iconst 2, 1) :: (32, .iload_n 3, 1) :: (33, .imul, 1) :: (34, .aload_n 0, 1) :: (35, .getfield 7, 3) :: (38, .iconst 1, 1) :: (39, .iadd, 1) :: (40, .if_icmp .gt 98, 3) :: (43, .iconst 0, 1) :: (44, .istore 4, 2) :: (46, .iload 4, 2) :: (48, .iconst 2, 1) :: (49, .if_icmp .ge 83, 3) :: (52, .iload 4, 2) :: (54, .ifCond .ne 9, 3) :: (57, .iload_n 3, 1) :: (58, .iconst 1, 1) :: (59, .isub, 1) :: (60, .goto 9, 3) :: (63, .aload_n 0, 1) :: (64, .getfield 7, 3) :: (67, .iload_n 3, 1) :: (68, .isub, 1) :: (69, .istore 5, 2) :: (71, .iload 4, 2) :: (73, .iconst 1, 1) :: (74, .if_icmp .ne 11, 3) :: (77, .iload 5, 2) :: (79, .iload_n 3, 1) :: (80, .iconst 1, 1) :: (81, .isub, 1) :: (82, .if_icmp .le 44, 3) :: (85, .aload_n 0, 1) :: (86, .iload_n 1, 1) :: (87, .iload 5, 2) :: (89, .invokevirtual 428, 3) :: (92, .ifCond .ne 6, 3) :: (95, .goto 31, 3) :: (98, .aload_n 0, 1) :: (99, .iload_n 1, 1) :: (100, .iload 5, 2) :: (102, .iconst 1, 1) :: (103, .invokevirtual 431, 3) :: (106, .aload_n 0, 1) :: (107, .iload_n 1, 1) :: (108, .iconst 1, 1) :: (109, .iadd, 1) :: (110, .iload_n 2, 1) :: (111, .iconst 4, 1) :: (112, .iload_n 3, 1) :: (113, .imul, 1) :: (114, .iadd, 1) :: (115, .invokevirtual 435, 3) :: (118, .aload_n 0, 1) :: (119, .iload_n 1, 1) :: (120, .iload 5, 2) :: (122, .iconst 0, 1) :: (123, .invokevirtual 431, 3) :: (126, .iinc 4 1, 3) :: (129, .goto (-83), 3) :: (132, .iinc 3 1, 3) :: (135, .goto (-104), 3) :: (138, .return_, 1) :: [])
set_option maxRecDepth 100000 in
def mX12_findRow : zMeth := (yX12_findRow, cX12_findRow, 5, (some .boolean), 12, (0, .iload_n 2, 1) :: (1, .aload_n 0, 1) :: (2, .iload_n 1, 1) :: (3, .invokevirtual 422, 3) :: (6, .iadd, 1) :: (7, .aload_n 0, 1) :: (8, .getfield 425, 3) :: (11, .if_icmp .le 5, 3) :: (14, .iconst 0, 1) :: (15, .ireturn, 1) :: (16, .iload_n 1, 1) :: (17, .aload_n 0, 1) :: (18, .getfield 413, 3) :: (21, .if_icmp .ne 5, 3) :: (24, .iconst 1, 1) :: (25, .ireturn, 1) :: (26, .iconst 0, 1) :: (27, .istore_n 3, 1) :: (28, .iload_n 3, 1) :: (29, .aload_n 0, 1) :: (30, .getfield 7, 3) :: (33, .if_icmp .ge 71, 3) :: (36, .aload_n 0, 1) :: (37, .iload_n 1, 1) :: (38, .iload_n 3, 1) :: (39, .invokevirtual 428, 3) :: (42, .ifCond .ne 6, 3) :: (45, .goto 53, 3) :: (48, .aload_n 0, 1) :: (49, .iload_n 1, 1) :: (50, .iload_n 3, 1) :: (51, .iconst 1, 1) :: (52, .invokevirtual 431, 3) :: (55, .aload_n 0, 1) :: (56, .getfield 91, 3) :: (59, .iload_n 1, 1) :: (60, .iload_n 3, 1) :: (61, .iastore, 1) :: (62, .aload_n 0, 1) :: (63, .iload_n 1, 1) :: (64, .iconst 1, 1) :: (65, .iadd, 1) :: (66, .iload_n 2, 1) :: (67, .iconst 4, 1) :: (68, .aload_n 0, 1) :: (69, .aload_n 0, 1) :: (70, .getfield 7, 3) :: (73, .iload_n 3, 1) :: (74, .invokevirtual 243, 3) :: (77, .imul, 1) :: (78, .iadd, 1) :: (79, .invokevirtual 438, 3) :: (82, .istore 4, 2) :: (84, .aload_n 0, 1) :: (85, .iload_n 1, 1) :: (86, .iload_n 3, 1) :: (87, .iconst 0, 1) :: (88, .invokevirtual 431, 3) :: (91, .iload 4, 2) :: (93, .ifCond .eq 5, 3) :: (96, .iconst 1, 1) :: (97, .ireturn, 1) :: (98, .iinc 3 1, 3) :: (101, .goto (-73), 3) :: (104, .iconst 0, 1) :: (105, .ireturn, 1) :: [])
set_option maxRecDepth 100000 in
def mX12_put : zMeth := (yX12_put, cX12_put, 7, (some .int), 12, (0, .aload_n 0, 1) :: (1, .iconst 0, 1) :: (2, .putfield 197, 3) :: (5, .aload_n 0, 1) :: (6, .getfield 413, 3) :: (9, .ifCond .eq 14, 3) :: (12, .aload_n 0, 1) :: (13, .getfield 419, 3) :: (16, .aload_n 0, 1) :: (17, .getfield 413, 3) :: (20, .if_icmp .ge 5, 3) :: (23, .iconst (-1), 1) :: (24, .ireturn, 1) :: (25, .iconst 1, 1) :: (26, .istore_n 1, 1) :: (27, .iconst 0, 1) :: (28, .istore_n 2, 1) :: (29, .iload_n 2, 1) :: (30, .bipush 23, 2) :: (32, .if_icmp .ge 23, 3) :: (35, .aload_n 0, 1) :: (36, .getfield 106, 3) :: (39, .iload_n 2, 1) :: (40, .iconst (-1), 1) :: (41, .iastore, 1) :: (42, .aload_n 0, 1) :: (43, .getfield 109, 3) :: (46, .iload_n 2, 1) :: (47, .iconst (-1), 1) :: (48, .iastore, 1) :: (49, .iinc 2 1, 3) :: (52, .goto (-23), 3) :: (55, .iconst 0, 1) :: (56, .istore_n 2, 1) :: (57, .iload_n 2, 1) :: (58, .aload_n 0, 1) :: (59, .getfield 413, 3) :: (62, .if_icmp .ge 265, 3) :: (65, .aload_n 0, 1) :: (66, .getfield 72, 3) :: (69, .iload_n 2, 1) :: (70, .iaload, 1) :: (71, .istore_n 3, 1) :: (72, .aload_n 0, 1) :: (73, .getfield 103, 3) :: (76, .iload_n 2, 1) :: (77, .iconst (-1), 1) :: (78, .iastore, 1) :: (79, .iconst 0, 1) :: (80, .istore 4, 2) :: (82, .iload 4, 2) :: (84, .aload_n 0, 1) :: (85, .getfield 7, 3) :: (88, .if_icmp .ge 213, 3) :: (91, .aload_n 0, 1) :: (92, .getfield 45, 3) :: (95, .iload_n 3, 1) :: (96, .iaload, 1) :: (97, .iconst (-1), 1) :: (98, .if_icmp .ne 55, 3) :: (101, .aload_n 0, 1) :: (102, .getfield 24, 3) :: (105, .iload 4, 2) :: (107, .iaload, 1) :: (108, .iconst (-1), 1) :: (109, .if_icmp .ne 44, 3) :: (112, .aload_n 0, 1) :: (113, .getfield 27, 3) :: (116, .iload 4, 2) :: (118, .iaload, 1) :: (119, .iconst (-1), 1) :: (120, .if_icmp .ne 33, 3) :: (123, .aload_n 0, 1) :: (124, .getfield 20, 3) :: (127, .iload 4, 2) :: (129, .baload, 1) :: (130, .ifCond .ne 23, 3) :: (133, .aload_n 0, 1) :: (134, .getfield 30, 3) :: (137, .iload_n 3, 1) :: (138, .iaload, 1) :: (139, .aload_n 0, 1) :: (140, .getfield 13, 3) :: (143, .iload 4, 2) :: (145, .iaload, 1) :: (146, .if_icmp .gt 7, 3) :: (149, .iconst 1, 1) :: (150, .goto 4, 3) :: (153, .iconst 0, 1) :: (154, .istore 5, 2) :: (156, .aload_n 0, 1) :: (157, .getfield 97, 3) :: (160, .bipush 23, 2) :: (162, .iload_n 2, 1) :: (163, .imul, 1) :: (164, .iload 4, 2) :: (166, .iadd, 1) :: (167, .iload 5, 2) :: (169, .ifCond .eq 18, 3) :: (172, .aload_n 0, 1) :: (173, .iload_n 3, 1) :: (174, .iload 4, 2) :: (176, .iconst 1, 1) :: (177, .invokevirtual 331, 3) :: (180, .ifCond .eq 7, 3) :: (183, .iconst 1, 1) :: (184, .goto 4, 3) :: (187, .iconst 0, 1) :: (188, .bastore, 1) :: (189, .aload_n 0, 1) :: (190, .getfield 100, 3) :: (193, .bipush 23, 2) :: (195, .iload_n 2, 1) :: (196, .imul, 1) :: (197, .iload 4, 2) :: (199, .iadd, 1) :: (200, .iload 5, 2) :: (202, .ifCond .eq 18, 3) :: (205, .aload_n 0, 1) :: (206, .iload_n 3, 1) :: (207, .iload 4, 2) :: (209, .iconst 0, 1) :: (210, .invokevirtual 331, 3) :: (213, .ifCond .eq 7, 3) :: (216, .iconst 1, 1) :: (217, .goto 4, 3) :: (220, .iconst 0, 1) :: (221, .bastore, 1) :: (222, .iconst 4, 1) :: (223, .aload_n 0, 1) :: (224, .aload_n 0, 1) :: (225, .getfield 7, 3) :: (228, .iload 4, 2) :: (230, .invokevirtual 243, 3) :: (233, .imul, 1) :: (234, .istore 6, 2) :: (236, .aload_n 0, 1) :: (237, .getfield 97, 3) :: (240, .bipush 23, 2) :: (242, .iload_n 2, 1) :: (243, .imul, 1) :: (244, .iload 4, 2) :: (246, .iadd, 1) :: (247, .baload, 1) :: (248, .ifCond .ne 18, 3) :: (251, .aload_n 0, 1) :: (252, .getfield 100, 3) :: (255, .bipush 23, 2) :: (257, .iload_n 2, 1) :: (258, .imul, 1) :: (259, .iload 4, 2) :: (261, .iadd, 1) :: (262, .baload, 1) :: (263, .ifCond .eq 32, 3) :: (266, .aload_n 0, 1) :: (267, .getfield 103, 3) :: (270, .iload_n 2, 1) :: (271, .iaload, 1) :: (272, .iconst (-1), 1) :: (273, .if_icmp .eq 14, 3) :: (276, .iload 6, 2) :: (278, .aload_n 0, 1) :: (279, .getfield 103, 3) :: (282, .iload_n 2, 1) :: (283, .iaload, 1) :: (284, .if_icmp .ge 11, 3) :: (287, .aload_n 0, 1) :: (288, .getfield 103, 3) :: (291, .iload_n 2, 1) :: (292, .iload 6, 2) :: (294, .iastore, 1) :: (295, .iinc 4 1, 3) :: (298, .goto (-216), 3) :: (301, .iload_n 1, 1) :: (302, .ifCond .eq 17, 3) :: (305, .aload_n 0, 1) :: (306, .getfield 103, 3) :: (309, .iload_n 2, 1) :: (310, .iaload, 1) :: (311, .iconst (-1), 1) :: (312, .if_icmp .eq 7, 3) :: (315, .iconst 1, 1) :: (316, .goto 4, 3) :: (319, .iconst 0, 1) :: (320, .istore_n 1, 1) :: (321, .iinc 2 1, 3) :: (324, .goto (-267), 3) :: (327, .aload_n 0, 1) :: (328, .ldc_w 441, 3) :: (331, .putfield 425, 3) :: (334, .iload_n 1, 1) :: (335, .ifCond .eq 9, 3) :: (338, .aload_n 0, 1) :: (339, .iconst 0, 1) :: (340, .iconst 0, 1) :: (341, .invokevirtual 435, 3) :: (344, .aload_n 0, 1) :: (345, .getfield 425, 3) :: (348, .ldc_w 441, 3) :: (351, .if_icmp .ne 6, 3) :: (354, .bipush (-2), 2) :: (356, .ireturn, 1) :: (357, .aload_n 0, 1) :: (358, .iconst 0, 1) :: (359, .iconst 0, 1) :: (360, .invokevirtual 438, 3) :: (363, .pop, 1) :: (364, .aload_n 0, 1) :: (365, .iconst 0, 1) :: (366, .putfield 200, 3) :: (369, .iconst 0, 1) :: (370, .istore_n 2, 1) :: (371, .iload_n 2, 1) :: (372, .aload_n 0, 1) :: (373, .getfield 413, 3) :: (376, .if_icmp .ge 19, 3) :: (379, .aload_n 0, 1) :: (380, .aload_n 0, 1) :: (381, .getfield 91, 3) :: (384, .iload_n 2, 1) :: (385, .iaload, 1) :: (386, .invokevirtual 381, 3) :: (389, .iinc 2 1, 3) :: (392, .goto (-21), 3) :: (395, .aload_n 0, 1) :: (396, .getfield 425, 3) :: (399, .ireturn, 1) :: [])
set_option maxRecDepth 100000 in
def mX12_findsStall : zMeth := (yX12_findsStall, cX12_findsStall, 4, (some .boolean), 12, (0, .iconst 0, 1) :: (1, .istore_n 3, 1) :: (2, .iload_n 3, 1) :: (3, .aload_n 0, 1) :: (4, .getfield 7, 3) :: (7, .if_icmp .ge 80, 3) :: (10, .aload_n 0, 1) :: (11, .getfield 115, 3) :: (14, .iload_n 3, 1) :: (15, .baload, 1) :: (16, .ifCond .ne 65, 3) :: (19, .aload_n 0, 1) :: (20, .iload_n 3, 1) :: (21, .iload_n 1, 1) :: (22, .invokevirtual 335, 3) :: (25, .ifCond .ne 6, 3) :: (28, .goto 53, 3) :: (31, .aload_n 0, 1) :: (32, .getfield 115, 3) :: (35, .iload_n 3, 1) :: (36, .iconst 1, 1) :: (37, .bastore, 1) :: (38, .aload_n 0, 1) :: (39, .getfield 112, 3) :: (42, .iload_n 3, 1) :: (43, .iaload, 1) :: (44, .iconst (-1), 1) :: (45, .if_icmp .eq 27, 3) :: (48, .aload_n 0, 1) :: (49, .getfield 112, 3) :: (52, .iload_n 3, 1) :: (53, .iaload, 1) :: (54, .iload_n 2, 1) :: (55, .if_icmp .le 26, 3) :: (58, .aload_n 0, 1) :: (59, .aload_n 0, 1) :: (60, .getfield 112, 3) :: (63, .iload_n 3, 1) :: (64, .iaload, 1) :: (65, .iload_n 2, 1) :: (66, .invokevirtual 442, 3) :: (69, .ifCond .eq 12, 3) :: (72, .aload_n 0, 1) :: (73, .getfield 112, 3) :: (76, .iload_n 3, 1) :: (77, .iload_n 1, 1) :: (78, .iastore, 1) :: (79, .iconst 1, 1) :: (80, .ireturn, 1) :: (81, .iinc 3 1, 3) :: (84, .goto (-82), 3) :: (87, .iconst 0, 1) :: (88, .ireturn, 1) :: [])
set_option maxRecDepth 100000 in
def mX12_mostIn : zMeth := (yX12_mostIn, cX12_mostIn, 6, (some .int), 12, (0, .iconst 0, 1) :: (1, .istore_n 3, 1) :: (2, .iload_n 3, 1) :: (3, .aload_n 0, 1) :: (4, .getfield 7, 3) :: (7, .if_icmp .ge 26, 3) :: (10, .aload_n 0, 1) :: (11, .getfield 112, 3) :: (14, .iload_n 3, 1) :: (15, .iaload, 1) :: (16, .iload_n 2, 1) :: (17, .if_icmp .le 10, 3) :: (20, .aload_n 0, 1) :: (21, .getfield 112, 3) :: (24, .iload_n 3, 1) :: (25, .iconst (-1), 1) :: (26, .iastore, 1) :: (27, .iinc 3 1, 3) :: (30, .goto (-28), 3) :: (33, .iconst 0, 1) :: (34, .istore_n 3, 1) :: (35, .iload_n 2, 1) :: (36, .iconst 1, 1) :: (37, .iadd, 1) :: (38, .istore 4, 2) :: (40, .iload 4, 2) :: (42, .aload_n 0, 1) :: (43, .getfield 207, 3) :: (46, .if_icmp .ge 65, 3) :: (49, .iload_n 1, 1) :: (50, .iload 4, 2) :: (52, .ishr, 1) :: (53, .iconst 1, 1) :: (54, .iand, 1) :: (55, .ifCond .ne 6, 3) :: (58, .goto 47, 3) :: (61, .iconst 0, 1) :: (62, .istore 5, 2) :: (64, .iload 5, 2) :: (66, .aload_n 0, 1) :: (67, .getfield 7, 3) :: (70, .if_icmp .ge 17, 3) :: (73, .aload_n 0, 1) :: (74, .getfield 115, 3) :: (77, .iload 5, 2) :: (79, .iconst 0, 1) :: (80, .bastore, 1) :: (81, .iinc 5 1, 3) :: (84, .goto (-20), 3) :: (87, .iload_n 3, 1) :: (88, .aload_n 0, 1) :: (89, .iload 4, 2) :: (91, .iload_n 2, 1) :: (92, .invokevirtual 442, 3) :: (95, .ifCond .eq 7, 3) :: (98, .iconst 1, 1) :: (99, .goto 4, 3) :: (102, .iconst 0, 1) :: (103, .iadd, 1) :: (104, .istore_n 3, 1) :: (105, .iinc 4 1, 3) :: (108, .goto (-68), 3) :: (111, .iload_n 3, 1) :: (112, .ireturn, 1) :: [])
set_option maxRecDepth 100000 in
def mX12_room : zMeth := (yX12_room, cX12_room, 8, (some .int), 12, (0, .aload_n 0, 1) :: (1, .iconst 0, 1) :: (2, .putfield 197, 3) :: (5, .iload_n 1, 1) :: (6, .ifCond .le 22, 3) :: (9, .iload_n 1, 1) :: (10, .iconst 1, 1) :: (11, .aload_n 0, 1) :: (12, .getfield 207, 3) :: (15, .ishl, 1) :: (16, .if_icmp .ge 12, 3) :: (19, .iload_n 1, 1) :: (20, .aload_n 0, 1) :: (21, .invokevirtual 396, 3) :: (24, .iand, 1) :: (25, .ifCond .eq 5, 3) :: (28, .iconst (-1), 1) :: (29, .ireturn, 1) :: (30, .iconst 0, 1) :: (31, .istore_n 2, 1) :: (32, .iload_n 2, 1) :: (33, .aload_n 0, 1) :: (34, .getfield 7, 3) :: (37, .if_icmp .ge 16, 3) :: (40, .aload_n 0, 1) :: (41, .getfield 112, 3) :: (44, .iload_n 2, 1) :: (45, .iconst (-1), 1) :: (46, .iastore, 1) :: (47, .iinc 2 1, 3) :: (50, .goto (-18), 3) :: (53, .aload_n 0, 1) :: (54, .iload_n 1, 1) :: (55, .iconst (-1), 1) :: (56, .invokevirtual 445, 3) :: (59, .istore_n 2, 1) :: (60, .iload_n 2, 1) :: (61, .istore_n 3, 1) :: (62, .aload_n 0, 1) :: (63, .iconst 0, 1) :: (64, .putfield 200, 3) :: (67, .iconst 0, 1) :: (68, .istore 4, 2) :: (70, .iload 4, 2) :: (72, .aload_n 0, 1) :: (73, .getfield 7, 3) :: (76, .if_icmp .ge 17, 3) :: (79, .aload_n 0, 1) :: (80, .getfield 112, 3) :: (83, .iload 4, 2) :: (85, .iconst (-1), 1) :: (86, .iastore, 1) :: (87, .iinc 4 1, 3) :: (90, .goto (-20), 3) :: (93, .iconst 0, 1) :: (94, .istore 4, 2) :: (96, .iload 4, 2) :: (98, .aload_n 0, 1) :: (99, .getfield 207, 3) :: (102, .if_icmp .ge 206, 3) :: (105, .iload_n 1, 1) :: (106, .iload 4, 2) :: (108, .ishr, 1) :: (109, .iconst 1, 1) :: (110, .iand, 1) :: (111, .ifCond .ne 6, 3) :: (114, .goto 188, 3) :: (117, .iconst (-1), 1) :: (118, .istore 5, 2) :: (120, .iconst 0, 1) :: (121, .istore 6, 2) :: (123, .iload 6, 2) :: (125, .aload_n 0, 1) :: (126, .getfield 7, 3) :: (129, .if_icmp .ge 29, 3) :: (132, .aload_n 0, 1) :: (133, .getfield 112, 3) :: (136, .iload 6, 2) :: (138, .iaload, 1) :: (139, .iload 4, 2) :: (141, .if_icmp .lt 11, 3) :: (144, .aload_n 0, 1) :: (145, .getfield 112, 3) :: (148, .iload 6, 2) :: (150, .iconst (-1), 1) :: (151, .iastore, 1) :: (152, .iinc 6 1, 3) :: (155, .goto (-32), 3) :: (158, .aload_n 0, 1) :: (159, .iload_n 1, 1) :: (160, .iload 4, 2) :: (162, .invokevirtual 445, 3) :: (165, .iload_n 3, 1) :: (166, .if_icmp .ge 130, 3) :: (169, .iconst 0, 1) :: (170, .istore 6, 2) :: (172, .iload 6, 2) :: (174, .aload_n 0, 1) :: (175, .getfield 7, 3) :: (178, .if_icmp .ge 115, 3) :: (181, .iload 5, 2) :: (183, .iconst (-1), 1) :: (184, .if_icmp .ne 109, 3) :: (187, .iconst 0, 1) :: (188, .istore 7, 2) :: (190, .iload 7, 2) :: (192, .aload_n 0, 1) :: (193, .getfield 7, 3) :: (196, .if_icmp .ge 29, 3) :: (199, .aload_n 0, 1) :: (200, .getfield 112, 3) :: (203, .iload 7, 2) :: (205, .iaload, 1) :: (206, .iload 4, 2) :: (208, .if_icmp .le 11, 3) :: (211, .aload_n 0, 1) :: (212, .getfield 112, 3) :: (215, .iload 7, 2) :: (217, .iconst (-1), 1) :: (218, .iastore, 1) :: (219, .iinc 7 1, 3) :: (222, .goto (-32), 3) :: (225, .aload_n 0, 1) :: (226, .getfield 112, 3) :: (229, .iload 6, 2) :: (231, .iaload, 1) :: (232, .iconst (-1), 1) :: (233, .if_icmp .ne 54, 3) :: (236, .aload_n 0, 1) :: (237, .iload 6, 2) :: (239, .iload 4, 2) :: (241, .invokevirtual 335, 3) :: (244, .ifCond .ne 6, 3) :: (247, .goto 40, 3) :: (250, .aload_n 0, 1) :: (251, .getfield 112, 3) :: (254, .iload 6, 2) :: (256, .iload 4, 2) :: (258, .iastore, 1) :: (259, .aload_n 0, 1) :: (260, .iload_n 1, 1) :: (261, .iload 4, 2) :: (263, .invokevirtual 445, 3) :: (266, .iload_n 3, 1) :: (267, .iconst 1, 1) :: (268, .isub, 1) :: (269, .if_icmp .ne 10, 3) :: (272, .iload 6, 2) :: (274, .istore 5, 2) :: (276, .goto 11, 3) :: (279, .aload_n 0, 1) :: (280, .getfield 112, 3) :: (283, .iload 6, 2) :: (285, .iconst (-1), 1) :: (286, .iastore, 1) :: (287, .iinc 6 1, 3) :: (290, .goto (-118), 3) :: (293, .iinc 3 (-1), 3) :: (296, .aload_n 0, 1) :: (297, .iload 5, 2) :: (299, .invokevirtual 381, 3) :: (302, .iinc 4 1, 3) :: (305, .goto (-209), 3) :: (308, .iload_n 2, 1) :: (309, .ireturn, 1) :: [])
set_option maxRecDepth 100000 in
def mX12_coal : zMeth := (yX12_coal, cX12_coal, 5, (some .int), 12, (0, .aload_n 0, 1) :: (1, .iconst 0, 1) :: (2, .putfield 197, 3) :: (5, .iload_n 1, 1) :: (6, .iconst 0, 1) :: (7, .iconst 2, 1) :: (8, .invokestatic 203, 3) :: (11, .ifCond .eq 25, 3) :: (14, .iload_n 2, 1) :: (15, .iconst 0, 1) :: (16, .sipush 999, 3) :: (19, .invokestatic 203, 3) :: (22, .ifCond .eq 14, 3) :: (25, .iload_n 3, 1) :: (26, .iconst 0, 1) :: (27, .sipush 999, 3) :: (30, .invokestatic 203, 3) :: (33, .ifCond .ne 5, 3) :: (36, .iconst (-1), 1) :: (37, .ireturn, 1) :: (38, .aload_n 0, 1) :: (39, .getfield 118, 3) :: (42, .iload_n 1, 1) :: (43, .iaload, 1) :: (44, .istore 4, 2) :: (46, .aload_n 0, 1) :: (47, .getfield 118, 3) :: (50, .iload_n 1, 1) :: (51, .iload_n 2, 1) :: (52, .iastore, 1) :: (53, .aload_n 0, 1) :: (54, .getfield 121, 3) :: (57, .iload_n 1, 1) :: (58, .iload_n 3, 1) :: (59, .iastore, 1) :: (60, .iload 4, 2) :: (62, .ireturn, 1) :: [])
set_option maxRecDepth 100000 in
def mX12_wants : zMeth := (yX12_wants, cX12_wants, 4, (some .boolean), 12, (0, .aload_n 0, 1) :: (1, .iconst 0, 1) :: (2, .putfield 197, 3) :: (5, .aload_n 0, 1) :: (6, .iload_n 1, 1) :: (7, .invokevirtual 313, 3) :: (10, .ifCond .eq 22, 3) :: (13, .iload_n 2, 1) :: (14, .iconst 0, 1) :: (15, .bipush 40, 2) :: (17, .invokestatic 203, 3) :: (20, .ifCond .eq 12, 3) :: (23, .iload_n 3, 1) :: (24, .iconst 0, 1) :: (25, .iconst 2, 1) :: (26, .invokestatic 203, 3) :: (29, .ifCond .ne 5, 3) :: (32, .iconst 0, 1) :: (33, .ireturn, 1) :: (34, .aload_n 0, 1) :: (35, .getfield 124, 3) :: (38, .iload_n 1, 1) :: (39, .iload_n 2, 1) :: (40, .iastore, 1) :: (41, .aload_n 0, 1) :: (42, .getfield 127, 3) :: (45, .iload_n 1, 1) :: (46, .iload_n 3, 1) :: (47, .iastore, 1) :: (48, .iconst 1, 1) :: (49, .ireturn, 1) :: [])
set_option maxRecDepth 100000 in
def mX12_areEngines : zMeth := (yX12_areEngines, cX12_areEngines, 2, (some .boolean), 12, (0, .iload_n 1, 1) :: (1, .ifCond .le 26, 3) :: (4, .iload_n 1, 1) :: (5, .iconst 1, 1) :: (6, .aload_n 0, 1) :: (7, .getfield 207, 3) :: (10, .ishl, 1) :: (11, .if_icmp .ge 16, 3) :: (14, .iload_n 1, 1) :: (15, .invokestatic 399, 3) :: (18, .bipush 7, 2) :: (20, .if_icmp .gt 7, 3) :: (23, .iconst 1, 1) :: (24, .goto 4, 3) :: (27, .iconst 0, 1) :: (28, .ireturn, 1) :: [])
set_option maxRecDepth 100000 in
def mX12_coalFrom : zMeth := (yX12_coalFrom, cX12_coalFrom, 5, none, 12, (0, .iload_n 2, 1) :: (1, .aload_n 0, 1) :: (2, .getfield 207, 3) :: (5, .if_icmp .ne 77, 3) :: (8, .iconst 0, 1) :: (9, .istore 4, 2) :: (11, .iload 4, 2) :: (13, .iconst 3, 1) :: (14, .if_icmp .ge 45, 3) :: (17, .aload_n 0, 1) :: (18, .getfield 130, 3) :: (21, .iload 4, 2) :: (23, .iaload, 1) :: (24, .ifCond .le 29, 3) :: (27, .aload_n 0, 1) :: (28, .getfield 118, 3) :: (31, .iload 4, 2) :: (33, .iaload, 1) :: (34, .aload_n 0, 1) :: (35, .getfield 130, 3) :: (38, .iload 4, 2) :: (40, .iaload, 1) :: (41, .isub, 1) :: (42, .aload_n 0, 1) :: (43, .getfield 121, 3) :: (46, .iload 4, 2) :: (48, .iaload, 1) :: (49, .if_icmp .ge 4, 3) :: (52, .return_, 1) :: (53, .iinc 4 1, 3) :: (56, .goto (-45), 3) :: (59, .aload_n 0, 1) :: (60, .sipush 1000, 3) :: (63, .aload_n 0, 1) :: (64, .getfield 130, 3) :: (67, .iconst 2, 1) :: (68, .iaload, 1) :: (69, .imul, 1) :: (70, .aload_n 0, 1) :: (71, .getfield 130, 3) :: (74, .iconst 1, 1) :: (75, .iaload, 1) :: (76, .iadd, 1) :: (77, .iload_n 3, 1) :: (78, .invokevirtual 390, 3) :: (81, .return_, 1) :: (82, .iload_n 1, 1) :: (83, .iload_n 2, 1) :: (84, .ishr, 1) :: (85, .iconst 1, 1) :: (86, .iand, 1) :: (87, .ifCond .ne 13, 3) :: (90, .aload_n 0, 1) :: (91, .iload_n 1, 1) :: (92, .iload_n 2, 1) :: (93, .iconst 1, 1) :: (94, .iadd, 1) :: (95, .iload_n 3, 1) :: (96, .invokevirtual 448, 3) :: (99, .return_, 1) :: (100, .aload_n 0, 1) :: (101, .getfield 127, 3) :: (104, .iload_n 2, 1) :: (105, .iaload, 1) :: (106, .istore 4, 2) :: (108, .iload 4, 2) :: (110, .iconst 3, 1) :: (111, .if_icmp .ge 60, 3) :: (114, .aload_n 0, 1) :: (115, .getfield 130, 3) :: (118, .iload 4, 2) :: (120, .dup2, 1) :: (121, .iaload, 1) :: (122, .aload_n 0, 1) :: (123, .getfield 124, 3) :: (126, .iload_n 2, 1) :: (127, .iaload, 1) :: (128, .iadd, 1) :: (129, .iastore, 1) :: (130, .aload_n 0, 1) :: (131, .getfield 91, 3) :: (134, .iload_n 3, 1) :: (135, .iload 4, 2) :: (137, .iastore, 1) :: (138, .aload_n 0, 1) :: (139, .iload_n 1, 1) :: (140, .iload_n 2, 1) :: (141, .iconst 1, 1) :: (142, .iadd, 1) :: (143, .iload_n 3, 1) :: (144, .iconst 1, 1) :: (145, .iadd, 1) :: (146, .invokevirtual 448, 3) :: (149, .aload_n 0, 1) :: (150, .getfield 130, 3) :: (153, .iload 4, 2) :: (155, .dup2, 1) :: (156, .iaload, 1) :: (157, .aload_n 0, 1) :: (158, .getfield 124, 3) :: (161, .iload_n 2, 1) :: (162, .iaload, 1) :: (163, .isub, 1) :: (164, .iastore, 1) :: (165, .iinc 4 1, 3) :: (168, .goto (-60), 3) :: (171, .return_, 1) :: [])
set_option maxRecDepth 100000 in
def mX12_canCoal : zMeth := (yX12_canCoal, cX12_canCoal, 2, (some .boolean), 12, (0, .aload_n 0, 1) :: (1, .iconst (-1), 1) :: (2, .putfield 384, 3) :: (5, .aload_n 0, 1) :: (6, .iload_n 1, 1) :: (7, .iconst 0, 1) :: (8, .iconst 0, 1) :: (9, .invokevirtual 448, 3) :: (12, .aload_n 0, 1) :: (13, .getfield 384, 3) :: (16, .iconst (-1), 1) :: (17, .if_icmp .eq 7, 3) :: (20, .iconst 1, 1) :: (21, .goto 4, 3) :: (24, .iconst 0, 1) :: (25, .ireturn, 1) :: [])
set_option maxRecDepth 100000 in
def mX12_coaled : zMeth := (yX12_coaled, cX12_coaled, 2, (some .int), 12, (0, .aload_n 0, 1) :: (1, .iconst 0, 1) :: (2, .putfield 197, 3) :: (5, .aload_n 0, 1) :: (6, .iload_n 1, 1) :: (7, .invokevirtual 451, 3) :: (10, .ifCond .eq 12, 3) :: (13, .aload_n 0, 1) :: (14, .iload_n 1, 1) :: (15, .iconst 0, 1) :: (16, .invokevirtual 454, 3) :: (19, .goto 4, 3) :: (22, .iconst (-1), 1) :: (23, .ireturn, 1) :: [])
set_option maxRecDepth 100000 in
def mX12_fill : zMeth := (yX12_fill, cX12_fill, 2, (some .int), 12, (0, .aload_n 0, 1) :: (1, .iconst 0, 1) :: (2, .putfield 197, 3) :: (5, .aload_n 0, 1) :: (6, .iload_n 1, 1) :: (7, .invokevirtual 451, 3) :: (10, .ifCond .eq 12, 3) :: (13, .aload_n 0, 1) :: (14, .iload_n 1, 1) :: (15, .iconst 1, 1) :: (16, .invokevirtual 454, 3) :: (19, .goto 4, 3) :: (22, .iconst (-1), 1) :: (23, .ireturn, 1) :: [])
set_option maxRecDepth 100000 in
def mX12_coalBy : zMeth := (yX12_coalBy, cX12_coalBy, 6, (some .int), 12, (0, .aload_n 0, 1) :: (1, .iload_n 1, 1) :: (2, .invokevirtual 458, 3) :: (5, .ifCond .ne 6, 3) :: (8, .bipush (-2), 2) :: (10, .ireturn, 1) :: (11, .iconst 0, 1) :: (12, .istore_n 3, 1) :: (13, .iconst 0, 1) :: (14, .istore 4, 2) :: (16, .iconst 0, 1) :: (17, .istore 5, 2) :: (19, .iload 5, 2) :: (21, .iconst 3, 1) :: (22, .if_icmp .ge 17, 3) :: (25, .aload_n 0, 1) :: (26, .getfield 130, 3) :: (29, .iload 5, 2) :: (31, .iconst 0, 1) :: (32, .iastore, 1) :: (33, .iinc 5 1, 3) :: (36, .goto (-17), 3) :: (39, .iconst 0, 1) :: (40, .istore 5, 2) :: (42, .iload 5, 2) :: (44, .aload_n 0, 1) :: (45, .getfield 207, 3) :: (48, .if_icmp .ge 56, 3) :: (51, .iload_n 1, 1) :: (52, .iload 5, 2) :: (54, .ishr, 1) :: (55, .iconst 1, 1) :: (56, .iand, 1) :: (57, .ifCond .ne 6, 3) :: (60, .goto 38, 3) :: (63, .aload_n 0, 1) :: (64, .getfield 130, 3) :: (67, .aload_n 0, 1) :: (68, .getfield 94, 3) :: (71, .iload 4, 2) :: (73, .iaload, 1) :: (74, .dup2, 1) :: (75, .iaload, 1) :: (76, .aload_n 0, 1) :: (77, .getfield 124, 3) :: (80, .iload 5, 2) :: (82, .iaload, 1) :: (83, .iadd, 1) :: (84, .iastore, 1) :: (85, .iload_n 3, 1) :: (86, .aload_n 0, 1) :: (87, .getfield 124, 3) :: (90, .iload 5, 2) :: (92, .iaload, 1) :: (93, .iadd, 1) :: (94, .istore_n 3, 1) :: (95, .iinc 4 1, 3) :: (98, .iinc 5 1, 3) :: (101, .goto (-59), 3) :: (104, .aload_n 0, 1) :: (105, .invokevirtual 404, 3) :: (108, .iconst 0, 1) :: (109, .istore 5, 2) :: (111, .iload 5, 2) :: (113, .iconst 3, 1) :: (114, .if_icmp .ge 57, 3) :: (117, .aload_n 0, 1) :: (118, .aload_n 0, 1) :: (119, .getfield 118, 3) :: (122, .iload 5, 2) :: (124, .iaload, 1) :: (125, .aload_n 0, 1) :: (126, .getfield 130, 3) :: (129, .iload 5, 2) :: (131, .iaload, 1) :: (132, .isub, 1) :: (133, .invokevirtual 381, 3) :: (136, .iload_n 2, 1) :: (137, .ifCond .eq 20, 3) :: (140, .aload_n 0, 1) :: (141, .getfield 118, 3) :: (144, .iload 5, 2) :: (146, .dup2, 1) :: (147, .iaload, 1) :: (148, .aload_n 0, 1) :: (149, .getfield 130, 3) :: (152, .iload 5, 2) :: (154, .iaload, 1) :: (155, .isub, 1) :: (156, .iastore, 1) :: (157, .aload_n 0, 1) :: (158, .getfield 130, 3) :: (161, .iload 5, 2) :: (163, .iconst 0, 1) :: (164, .iastore, 1) :: (165, .iinc 5 1, 3) :: (168, .goto (-57), 3) :: (171, .iload_n 3, 1) :: (172, .ireturn, 1) :: [])
set_option maxRecDepth 100000 in
def mX12_burns : zMeth := (yX12_burns, cX12_burns, 4, (some .int), 12, (0, .aload_n 0, 1) :: (1, .iconst 0, 1) :: (2, .putfield 197, 3) :: (5, .aload_n 0, 1) :: (6, .iload_n 1, 1) :: (7, .invokevirtual 451, 3) :: (10, .ifCond .ne 5, 3) :: (13, .iconst (-1), 1) :: (14, .ireturn, 1) :: (15, .iconst 0, 1) :: (16, .istore_n 2, 1) :: (17, .iconst 1, 1) :: (18, .istore_n 3, 1) :: (19, .iload_n 3, 1) :: (20, .iload_n 1, 1) :: (21, .if_icmp .gt 41, 3) :: (24, .iload_n 3, 1) :: (25, .iload_n 1, 1) :: (26, .iconst (-1), 1) :: (27, .ixor, 1) :: (28, .iand, 1) :: (29, .ifCond .ne 27, 3) :: (32, .iload_n 3, 1) :: (33, .invokestatic 399, 3) :: (36, .iload_n 2, 1) :: (37, .invokestatic 399, 3) :: (40, .if_icmp .le 16, 3) :: (43, .aload_n 0, 1) :: (44, .iload_n 3, 1) :: (45, .invokevirtual 458, 3) :: (48, .ifCond .ne 6, 3) :: (51, .goto 5, 3) :: (54, .iload_n 3, 1) :: (55, .istore_n 2, 1) :: (56, .iinc 3 1, 3) :: (59, .goto (-40), 3) :: (62, .aload_n 0, 1) :: (63, .iconst 0, 1) :: (64, .putfield 200, 3) :: (67, .aload_n 0, 1) :: (68, .iload_n 2, 1) :: (69, .invokevirtual 381, 3) :: (72, .iload_n 2, 1) :: (73, .invokestatic 399, 3) :: (76, .ireturn, 1) :: [])
set_option maxRecDepth 100000 in
def mX12_train : zMeth := (yX12_train, cX12_train, 4, (some .int), 12, (0, .aload_n 0, 1) :: (1, .iconst 0, 1) :: (2, .putfield 197, 3) :: (5, .iload_n 1, 1) :: (6, .iconst 0, 1) :: (7, .sipush 2000, 3) :: (10, .invokestatic 203, 3) :: (13, .ifCond .eq 32, 3) :: (16, .iload_n 2, 1) :: (17, .iconst 0, 1) :: (18, .iconst 5, 1) :: (19, .invokestatic 203, 3) :: (22, .ifCond .eq 23, 3) :: (25, .iload_n 3, 1) :: (26, .iconst 1, 1) :: (27, .sipush 600, 3) :: (30, .invokestatic 203, 3) :: (33, .ifCond .eq 12, 3) :: (36, .aload_n 0, 1) :: (37, .getfield 210, 3) :: (40, .bipush 8, 2) :: (42, .if_icmp .ne 5, 3) :: (45, .iconst (-1), 1) :: (46, .ireturn, 1) :: (47, .aload_n 0, 1) :: (48, .getfield 60, 3) :: (51, .aload_n 0, 1) :: (52, .getfield 210, 3) :: (55, .iload_n 1, 1) :: (56, .iastore, 1) :: (57, .aload_n 0, 1) :: (58, .getfield 63, 3) :: (61, .aload_n 0, 1) :: (62, .getfield 210, 3) :: (65, .iload_n 2, 1) :: (66, .iastore, 1) :: (67, .aload_n 0, 1) :: (68, .getfield 66, 3) :: (71, .aload_n 0, 1) :: (72, .getfield 210, 3) :: (75, .iload_n 3, 1) :: (76, .iastore, 1) :: (77, .aload_n 0, 1) :: (78, .getfield 69, 3) :: (81, .aload_n 0, 1) :: (82, .getfield 210, 3) :: (85, .iconst (-1), 1) :: (86, .iastore, 1) :: (87, .aload_n 0, 1) :: (88, .dup, 1) :: (89, .getfield 210, 3) :: (92, .iconst 1, 1) :: (93, .iadd, 1) :: (94, .putfield 210, 3) :: (97, .aload_n 0, 1) :: (98, .getfield 210, 3) :: (101, .iconst 1, 1) :: (102, .isub, 1) :: (103, .ireturn, 1) :: [])
set_option maxRecDepth 100000 in
def mX12_trainOf : zMeth := (yX12_trainOf, cX12_trainOf, 3, (some .int), 12, (0, .iconst 0, 1) :: (1, .istore_n 2, 1) :: (2, .iload_n 2, 1) :: (3, .aload_n 0, 1) :: (4, .getfield 210, 3) :: (7, .if_icmp .ge 21, 3) :: (10, .aload_n 0, 1) :: (11, .getfield 69, 3) :: (14, .iload_n 2, 1) :: (15, .iaload, 1) :: (16, .iload_n 1, 1) :: (17, .if_icmp .ne 5, 3) :: (20, .iload_n 2, 1) :: (21, .ireturn, 1) :: (22, .iinc 2 1, 3) :: (25, .goto (-23), 3) :: (28, .iconst (-1), 1) :: (29, .ireturn, 1) :: [])
set_option maxRecDepth 100000 in
def mX12_plan : zMeth := (yX12_plan, cX12_plan, 3, (some .boolean), 12, (0, .aload_n 0, 1) :: (1, .iconst 0, 1) :: (2, .putfield 197, 3) :: (5, .aload_n 0, 1) :: (6, .iload_n 1, 1) :: (7, .invokevirtual 461, 3) :: (10, .ifCond .eq 34, 3) :: (13, .iload_n 2, 1) :: (14, .iconst (-1), 1) :: (15, .if_icmp .eq 31, 3) :: (18, .aload_n 0, 1) :: (19, .iload_n 2, 1) :: (20, .invokevirtual 313, 3) :: (23, .ifCond .eq 21, 3) :: (26, .aload_n 0, 1) :: (27, .iload_n 2, 1) :: (28, .invokevirtual 464, 3) :: (31, .iconst (-1), 1) :: (32, .if_icmp .eq 14, 3) :: (35, .aload_n 0, 1) :: (36, .iload_n 2, 1) :: (37, .invokevirtual 464, 3) :: (40, .iload_n 1, 1) :: (41, .if_icmp .eq 5, 3) :: (44, .iconst 0, 1) :: (45, .ireturn, 1) :: (46, .aload_n 0, 1) :: (47, .getfield 69, 3) :: (50, .iload_n 1, 1) :: (51, .iload_n 2, 1) :: (52, .iastore, 1) :: (53, .iconst 1, 1) :: (54, .ireturn, 1) :: [])
set_option maxRecDepth 100000 in
def mX12_isFit : zMeth := (yX12_isFit, cX12_isFit, 3, (some .boolean), 12, (0, .aload_n 0, 1) :: (1, .getfield 42, 3) :: (4, .iload_n 1, 1) :: (5, .baload, 1) :: (6, .ifCond .ne 61, 3) :: (9, .aload_n 0, 1) :: (10, .getfield 33, 3) :: (13, .iload_n 1, 1) :: (14, .iaload, 1) :: (15, .aload_n 0, 1) :: (16, .getfield 63, 3) :: (19, .iload_n 2, 1) :: (20, .iaload, 1) :: (21, .if_icmp .lt 46, 3) :: (24, .aload_n 0, 1) :: (25, .getfield 48, 3) :: (28, .iload_n 1, 1) :: (29, .iaload, 1) :: (30, .iconst (-1), 1) :: (31, .if_icmp .ne 10, 3) :: (34, .aload_n 0, 1) :: (35, .getfield 310, 3) :: (38, .goto 9, 3) :: (41, .aload_n 0, 1) :: (42, .getfield 48, 3) :: (45, .iload_n 1, 1) :: (46, .iaload, 1) :: (47, .aload_n 0, 1) :: (48, .getfield 36, 3) :: (51, .iload_n 1, 1) :: (52, .iaload, 1) :: (53, .iadd, 1) :: (54, .aload_n 0, 1) :: (55, .getfield 60, 3) :: (58, .iload_n 2, 1) :: (59, .iaload, 1) :: (60, .if_icmp .gt 7, 3) :: (63, .iconst 1, 1) :: (64, .goto 4, 3) :: (67, .iconst 0, 1) :: (68, .ireturn, 1) :: [])
set_option maxRecDepth 100000 in
def mX12_fits : zMeth := (yX12_fits, cX12_fits, 3, (some .int), 12, (0, .aload_n 0, 1) :: (1, .iconst 0, 1) :: (2, .putfield 197, 3) :: (5, .aload_n 0, 1) :: (6, .iload_n 1, 1) :: (7, .invokevirtual 313, 3) :: (10, .ifCond .eq 11, 3) :: (13, .aload_n 0, 1) :: (14, .iload_n 2, 1) :: (15, .invokevirtual 461, 3) :: (18, .ifCond .ne 7, 3) :: (21, .iconst (-1), 1) :: (22, .goto 17, 3) :: (25, .aload_n 0, 1) :: (26, .iload_n 1, 1) :: (27, .iload_n 2, 1) :: (28, .invokevirtual 467, 3) :: (31, .ifCond .eq 7, 3) :: (34, .iconst 1, 1) :: (35, .goto 4, 3) :: (38, .iconst 0, 1) :: (39, .ireturn, 1) :: [])
set_option maxRecDepth 100000 in
def mX12_worthOf : zMeth := (yX12_worthOf, cX12_worthOf, 4, (some .int), 12, (0, .iload_n 2, 1) :: (1, .iconst (-1), 1) :: (2, .if_icmp .ne 7, 3) :: (5, .iconst 0, 1) :: (6, .goto 5, 3) :: (9, .bipush 16, 2) :: (11, .iload_n 3, 1) :: (12, .ifCond .eq 17, 3) :: (15, .aload_n 0, 1) :: (16, .getfield 69, 3) :: (19, .iload_n 1, 1) :: (20, .iaload, 1) :: (21, .iload_n 2, 1) :: (22, .if_icmp .eq 7, 3) :: (25, .iconst 1, 1) :: (26, .goto 4, 3) :: (29, .iconst 0, 1) :: (30, .isub, 1) :: (31, .ireturn, 1) :: [])
set_option maxRecDepth 100000 in
def mX12_findRows : zMeth := (yX12_findRows, cX12_findRows, 8, (some .int), 12, (0, .iconst 1, 1) :: (1, .aload_n 0, 1) :: (2, .getfield 207, 3) :: (5, .ishl, 1) :: (6, .istore_n 3, 1) :: (7, .aload_n 0, 1) :: (8, .getfield 210, 3) :: (11, .istore 4, 2) :: (13, .iload 4, 2) :: (15, .ifCond .lt 173, 3) :: (18, .iconst 0, 1) :: (19, .istore 5, 2) :: (21, .iload 5, 2) :: (23, .iload_n 3, 1) :: (24, .if_icmp .ge 158, 3) :: (27, .iload 4, 2) :: (29, .aload_n 0, 1) :: (30, .getfield 210, 3) :: (33, .if_icmp .ne 7, 3) :: (36, .iconst 0, 1) :: (37, .goto 27, 3) :: (40, .aload_n 0, 1) :: (41, .getfield 134, 3) :: (44, .iload 4, 2) :: (46, .iconst 1, 1) :: (47, .iadd, 1) :: (48, .bipush 12, 2) :: (50, .ishl, 1) :: (51, .iload 5, 2) :: (53, .iadd, 1) :: (54, .iaload, 1) :: (55, .aload_n 0, 1) :: (56, .iload 4, 2) :: (58, .iconst (-1), 1) :: (59, .iload_n 2, 1) :: (60, .invokevirtual 470, 3) :: (63, .iadd, 1) :: (64, .istore 6, 2) :: (66, .iconst 0, 1) :: (67, .istore 7, 2) :: (69, .iload 7, 2) :: (71, .aload_n 0, 1) :: (72, .getfield 207, 3) :: (75, .if_icmp .ge 86, 3) :: (78, .iload 4, 2) :: (80, .aload_n 0, 1) :: (81, .getfield 210, 3) :: (84, .if_icmp .ge 77, 3) :: (87, .iload 5, 2) :: (89, .iload 7, 2) :: (91, .ishr, 1) :: (92, .iconst 1, 1) :: (93, .iand, 1) :: (94, .iconst 1, 1) :: (95, .if_icmp .eq 60, 3) :: (98, .iload 7, 2) :: (100, .iload_n 1, 1) :: (101, .if_icmp .eq 54, 3) :: (104, .aload_n 0, 1) :: (105, .iload 7, 2) :: (107, .iload 4, 2) :: (109, .invokevirtual 467, 3) :: (112, .ifCond .ne 6, 3) :: (115, .goto 40, 3) :: (118, .iload 6, 2) :: (120, .aload_n 0, 1) :: (121, .getfield 134, 3) :: (124, .iload 4, 2) :: (126, .iconst 1, 1) :: (127, .iadd, 1) :: (128, .bipush 12, 2) :: (130, .ishl, 1) :: (131, .iload 5, 2) :: (133, .iconst 1, 1) :: (134, .iload 7, 2) :: (136, .ishl, 1) :: (137, .ior, 1) :: (138, .iadd, 1) :: (139, .iaload, 1) :: (140, .aload_n 0, 1) :: (141, .iload 4, 2) :: (143, .iload 7, 2) :: (145, .iload_n 2, 1) :: (146, .invokevirtual 470, 3) :: (149, .iadd, 1) :: (150, .invokestatic 234, 3) :: (153, .istore 6, 2) :: (155, .iinc 7 1, 3) :: (158, .goto (-89), 3) :: (161, .aload_n 0, 1) :: (162, .getfield 134, 3) :: (165, .iload 4, 2) :: (167, .bipush 12, 2) :: (169, .ishl, 1) :: (170, .iload 5, 2) :: (172, .iadd, 1) :: (173, .iload 6, 2) :: (175, .iastore, 1) :: (176, .iinc 5 1, 3) :: (179, .goto (-158), 3) :: (182, .iinc 4 (-1), 3) :: (185, .goto (-172), 3) :: (188, .aload_n 0, 1) :: (189, .getfield 134, 3) :: (192, .iconst 0, 1) :: (193, .iaload, 1) :: (194, .ireturn, 1) :: [])
set_option maxRecDepth 100000 in
def mX12_tellRow : zMeth := (yX12_tellRow, cX12_tellRow, 8, none, 12, (0, .iconst 0, 1) :: (1, .istore_n 3, 1) :: (2, .iconst 0, 1) :: (3, .istore 4, 2) :: (5, .iload 4, 2) :: (7, .aload_n 0, 1) :: (8, .getfield 210, 3) :: (11, .if_icmp .ge 184, 3) :: (14, .iconst (-1), 1) :: (15, .istore 5, 2) :: (17, .aload_n 0, 1) :: (18, .getfield 134, 3) :: (21, .iload 4, 2) :: (23, .iconst 1, 1) :: (24, .iadd, 1) :: (25, .bipush 12, 2) :: (27, .ishl, 1) :: (28, .iload_n 3, 1) :: (29, .iadd, 1) :: (30, .iaload, 1) :: (31, .aload_n 0, 1) :: (32, .iload 4, 2) :: (34, .iconst (-1), 1) :: (35, .iload_n 2, 1) :: (36, .invokevirtual 470, 3) :: (39, .iadd, 1) :: (40, .aload_n 0, 1) :: (41, .getfield 134, 3) :: (44, .iload 4, 2) :: (46, .bipush 12, 2) :: (48, .ishl, 1) :: (49, .iload_n 3, 1) :: (50, .iadd, 1) :: (51, .iaload, 1) :: (52, .if_icmp .ne 7, 3) :: (55, .iconst 1, 1) :: (56, .goto 4, 3) :: (59, .iconst 0, 1) :: (60, .istore 6, 2) :: (62, .iconst 0, 1) :: (63, .istore 7, 2) :: (65, .iload 7, 2) :: (67, .aload_n 0, 1) :: (68, .getfield 207, 3) :: (71, .if_icmp .ge 99, 3) :: (74, .iload 6, 2) :: (76, .ifCond .ne 94, 3) :: (79, .iload_n 3, 1) :: (80, .iload 7, 2) :: (82, .ishr, 1) :: (83, .iconst 1, 1) :: (84, .iand, 1) :: (85, .iconst 1, 1) :: (86, .if_icmp .eq 78, 3) :: (89, .iload 7, 2) :: (91, .iload_n 1, 1) :: (92, .if_icmp .eq 72, 3) :: (95, .aload_n 0, 1) :: (96, .iload 7, 2) :: (98, .iload 4, 2) :: (100, .invokevirtual 467, 3) :: (103, .ifCond .ne 6, 3) :: (106, .goto 58, 3) :: (109, .aload_n 0, 1) :: (110, .getfield 134, 3) :: (113, .iload 4, 2) :: (115, .iconst 1, 1) :: (116, .iadd, 1) :: (117, .bipush 12, 2) :: (119, .ishl, 1) :: (120, .iload_n 3, 1) :: (121, .iconst 1, 1) :: (122, .iload 7, 2) :: (124, .ishl, 1) :: (125, .ior, 1) :: (126, .iadd, 1) :: (127, .iaload, 1) :: (128, .aload_n 0, 1) :: (129, .iload 4, 2) :: (131, .iload 7, 2) :: (133, .iload_n 2, 1) :: (134, .invokevirtual 470, 3) :: (137, .iadd, 1) :: (138, .aload_n 0, 1) :: (139, .getfield 134, 3) :: (142, .iload 4, 2) :: (144, .bipush 12, 2) :: (146, .ishl, 1) :: (147, .iload_n 3, 1) :: (148, .iadd, 1) :: (149, .iaload, 1) :: (150, .if_icmp .ne 7, 3) :: (153, .iconst 1, 1) :: (154, .goto 4, 3) :: (157, .iconst 0, 1) :: (158, .istore 6, 2) :: (160, .iload 7, 2) :: (162, .istore 5, 2) :: (164, .iinc 7 1, 3) :: (167, .goto (-102), 3) :: (170, .iload 5, 2) :: (172, .iconst (-1), 1) :: (173, .if_icmp .eq 10, 3) :: (176, .iload_n 3, 1) :: (177, .iconst 1, 1) :: (178, .iload 5, 2) :: (180, .ishl, 1) :: (181, .ior, 1) :: (182, .istore_n 3, 1) :: (183, .aload_n 0, 1) :: (184, .iload 5, 2) :: (186, .invokevirtual 381, 3) :: (189, .iinc 4 1, 3) :: (192, .goto (-187), 3) :: (195, .return_, 1) :: [])
set_option maxRecDepth 100000 in
def mX12_most : zMeth := (yX12_most, cX12_most, 2, (some .int), 12, (0, .aload_n 0, 1) :: (1, .iconst 0, 1) :: (2, .putfield 197, 3) :: (5, .aload_n 0, 1) :: (6, .iconst (-1), 1) :: (7, .iconst 0, 1) :: (8, .invokevirtual 474, 3) :: (11, .istore_n 1, 1) :: (12, .aload_n 0, 1) :: (13, .iconst 0, 1) :: (14, .putfield 200, 3) :: (17, .aload_n 0, 1) :: (18, .iconst (-1), 1) :: (19, .iconst 0, 1) :: (20, .invokevirtual 477, 3) :: (23, .iload_n 1, 1) :: (24, .bipush 16, 2) :: (26, .idiv, 1) :: (27, .ireturn, 1) :: [])
set_option maxRecDepth 100000 in
def mX12_fails : zMeth := (yX12_fails, cX12_fails, 4, (some .int), 12, (0, .aload_n 0, 1) :: (1, .iconst 0, 1) :: (2, .putfield 197, 3) :: (5, .aload_n 0, 1) :: (6, .iload_n 1, 1) :: (7, .invokevirtual 313, 3) :: (10, .ifCond .ne 5, 3) :: (13, .iconst (-1), 1) :: (14, .ireturn, 1) :: (15, .aload_n 0, 1) :: (16, .iload_n 1, 1) :: (17, .iconst 1, 1) :: (18, .invokevirtual 474, 3) :: (21, .istore_n 2, 1) :: (22, .iload_n 2, 1) :: (23, .bipush 15, 2) :: (25, .iadd, 1) :: (26, .bipush 16, 2) :: (28, .idiv, 1) :: (29, .istore_n 3, 1) :: (30, .aload_n 0, 1) :: (31, .iconst 0, 1) :: (32, .putfield 200, 3) :: (35, .aload_n 0, 1) :: (36, .iload_n 3, 1) :: (37, .invokevirtual 381, 3) :: (40, .aload_n 0, 1) :: (41, .iload_n 1, 1) :: (42, .iconst 1, 1) :: (43, .invokevirtual 477, 3) :: (46, .bipush 16, 2) :: (48, .iload_n 3, 1) :: (49, .imul, 1) :: (50, .iload_n 2, 1) :: (51, .isub, 1) :: (52, .ireturn, 1) :: [])
set_option maxRecDepth 100000 in
def mX12_soonest : zMeth := (yX12_soonest, cX12_soonest, 6, (some .int), 12, (0, .aload_n 0, 1) :: (1, .iconst 0, 1) :: (2, .putfield 197, 3) :: (5, .aload_n 0, 1) :: (6, .iload_n 1, 1) :: (7, .invokevirtual 461, 3) :: (10, .ifCond .ne 5, 3) :: (13, .iconst (-1), 1) :: (14, .ireturn, 1) :: (15, .bipush (-2), 2) :: (17, .istore_n 2, 1) :: (18, .iconst 0, 1) :: (19, .istore_n 3, 1) :: (20, .iconst 0, 1) :: (21, .istore 4, 2) :: (23, .iload 4, 2) :: (25, .aload_n 0, 1) :: (26, .getfield 207, 3) :: (29, .if_icmp .ge 83, 3) :: (32, .aload_n 0, 1) :: (33, .iload 4, 2) :: (35, .iload_n 1, 1) :: (36, .invokevirtual 467, 3) :: (39, .ifCond .ne 6, 3) :: (42, .goto 64, 3) :: (45, .iconst 0, 1) :: (46, .istore 5, 2) :: (48, .aload_n 0, 1) :: (49, .getfield 45, 3) :: (52, .iload 4, 2) :: (54, .iaload, 1) :: (55, .iconst (-1), 1) :: (56, .if_icmp .eq 31, 3) :: (59, .aload_n 0, 1) :: (60, .iload 4, 2) :: (62, .invokevirtual 375, 3) :: (65, .ifCond .ne 6, 3) :: (68, .goto 38, 3) :: (71, .aload_n 0, 1) :: (72, .getfield 369, 3) :: (75, .aload_n 0, 1) :: (76, .getfield 372, 3) :: (79, .iadd, 1) :: (80, .istore 5, 2) :: (82, .aload_n 0, 1) :: (83, .iconst 0, 1) :: (84, .invokevirtual 378, 3) :: (87, .iload_n 2, 1) :: (88, .ifCond .lt 12, 3) :: (91, .iload 5, 2) :: (93, .iload_n 3, 1) :: (94, .if_icmp .lt 6, 3) :: (97, .goto 9, 3) :: (100, .iload 4, 2) :: (102, .istore_n 2, 1) :: (103, .iload 5, 2) :: (105, .istore_n 3, 1) :: (106, .iinc 4 1, 3) :: (109, .goto (-86), 3) :: (112, .iload_n 2, 1) :: (113, .ifCond .ge 6, 3) :: (116, .bipush (-2), 2) :: (118, .ireturn, 1) :: (119, .aload_n 0, 1) :: (120, .iconst 0, 1) :: (121, .putfield 200, 3) :: (124, .aload_n 0, 1) :: (125, .iload_n 3, 1) :: (126, .invokevirtual 381, 3) :: (129, .iload_n 2, 1) :: (130, .ireturn, 1) :: [])
set_option maxRecDepth 100000 in
def mX12_wrong : zMeth := (yX12_wrong, cX12_wrong, 5, (some .int), 12, (0, .aload_n 0, 1) :: (1, .iconst 0, 1) :: (2, .putfield 197, 3) :: (5, .iconst 0, 1) :: (6, .istore_n 1, 1) :: (7, .iconst 0, 1) :: (8, .istore_n 2, 1) :: (9, .iload_n 2, 1) :: (10, .aload_n 0, 1) :: (11, .getfield 210, 3) :: (14, .if_icmp .ge 74, 3) :: (17, .aload_n 0, 1) :: (18, .getfield 69, 3) :: (21, .iload_n 2, 1) :: (22, .iaload, 1) :: (23, .istore_n 3, 1) :: (24, .iload_n 3, 1) :: (25, .iconst (-1), 1) :: (26, .if_icmp .ne 7, 3) :: (29, .iconst (-1), 1) :: (30, .goto 8, 3) :: (33, .aload_n 0, 1) :: (34, .iload_n 3, 1) :: (35, .invokevirtual 325, 3) :: (38, .istore 4, 2) :: (40, .iload 4, 2) :: (42, .iconst (-1), 1) :: (43, .if_icmp .eq 39, 3) :: (46, .aload_n 0, 1) :: (47, .iload 4, 2) :: (49, .invokevirtual 464, 3) :: (52, .iconst (-1), 1) :: (53, .if_icmp .eq 23, 3) :: (56, .aload_n 0, 1) :: (57, .getfield 60, 3) :: (60, .aload_n 0, 1) :: (61, .iload 4, 2) :: (63, .invokevirtual 464, 3) :: (66, .iaload, 1) :: (67, .aload_n 0, 1) :: (68, .getfield 60, 3) :: (71, .iload_n 2, 1) :: (72, .iaload, 1) :: (73, .if_icmp .le 9, 3) :: (76, .iload_n 1, 1) :: (77, .iconst 1, 1) :: (78, .iload_n 3, 1) :: (79, .ishl, 1) :: (80, .ior, 1) :: (81, .istore_n 1, 1) :: (82, .iinc 2 1, 3) :: (85, .goto (-76), 3) :: (88, .iload_n 1, 1) :: (89, .ireturn, 1) :: [])
set_option maxRecDepth 100000 in
def mX12_swap : zMeth := (yX12_swap, cX12_swap, 4, none, 12, (0, .aload_n 0, 1) :: (1, .getfield 69, 3) :: (4, .iload_n 1, 1) :: (5, .iaload, 1) :: (6, .istore_n 3, 1) :: (7, .aload_n 0, 1) :: (8, .getfield 69, 3) :: (11, .iload_n 1, 1) :: (12, .aload_n 0, 1) :: (13, .getfield 69, 3) :: (16, .iload_n 2, 1) :: (17, .iaload, 1) :: (18, .iastore, 1) :: (19, .aload_n 0, 1) :: (20, .getfield 69, 3) :: (23, .iload_n 2, 1) :: (24, .iload_n 3, 1) :: (25, .iastore, 1) :: (26, .return_, 1) :: [])
set_option maxRecDepth 100000 in
def mX12_exchange : zMeth := (yX12_exchange, cX12_exchange, 7, (some .int), 12, (0, .aload_n 0, 1) :: (1, .iconst 0, 1) :: (2, .putfield 197, 3) :: (5, .aload_n 0, 1) :: (6, .invokevirtual 481, 3) :: (9, .istore_n 1, 1) :: (10, .iconst (-1), 1) :: (11, .istore_n 2, 1) :: (12, .iconst (-1), 1) :: (13, .istore_n 3, 1) :: (14, .iconst 0, 1) :: (15, .istore 4, 2) :: (17, .iload 4, 2) :: (19, .aload_n 0, 1) :: (20, .getfield 210, 3) :: (23, .if_icmp .ge 127, 3) :: (26, .iload 4, 2) :: (28, .iconst 1, 1) :: (29, .iadd, 1) :: (30, .istore 5, 2) :: (32, .iload 5, 2) :: (34, .aload_n 0, 1) :: (35, .getfield 210, 3) :: (38, .if_icmp .ge 106, 3) :: (41, .aload_n 0, 1) :: (42, .getfield 69, 3) :: (45, .iload 4, 2) :: (47, .iaload, 1) :: (48, .iconst (-1), 1) :: (49, .if_icmp .eq 89, 3) :: (52, .aload_n 0, 1) :: (53, .getfield 69, 3) :: (56, .iload 5, 2) :: (58, .iaload, 1) :: (59, .iconst (-1), 1) :: (60, .if_icmp .eq 78, 3) :: (63, .aload_n 0, 1) :: (64, .aload_n 0, 1) :: (65, .getfield 69, 3) :: (68, .iload 4, 2) :: (70, .iaload, 1) :: (71, .iload 5, 2) :: (73, .invokevirtual 467, 3) :: (76, .ifCond .eq 62, 3) :: (79, .aload_n 0, 1) :: (80, .aload_n 0, 1) :: (81, .getfield 69, 3) :: (84, .iload 5, 2) :: (86, .iaload, 1) :: (87, .iload 4, 2) :: (89, .invokevirtual 467, 3) :: (92, .ifCond .ne 6, 3) :: (95, .goto 43, 3) :: (98, .aload_n 0, 1) :: (99, .iload 4, 2) :: (101, .iload 5, 2) :: (103, .invokevirtual 484, 3) :: (106, .aload_n 0, 1) :: (107, .invokevirtual 481, 3) :: (110, .istore 6, 2) :: (112, .aload_n 0, 1) :: (113, .iload 4, 2) :: (115, .iload 5, 2) :: (117, .invokevirtual 484, 3) :: (120, .iload 6, 2) :: (122, .iload_n 1, 1) :: (123, .if_icmp .lt 6, 3) :: (126, .goto 12, 3) :: (129, .iload 6, 2) :: (131, .istore_n 1, 1) :: (132, .iload 4, 2) :: (134, .istore_n 2, 1) :: (135, .iload 5, 2) :: (137, .istore_n 3, 1) :: (138, .iinc 5 1, 3) :: (141, .goto (-109), 3) :: (144, .iinc 4 1, 3) :: (147, .goto (-130), 3) :: (150, .aload_n 0, 1) :: (151, .iconst 0, 1) :: (152, .putfield 200, 3) :: (155, .iload_n 2, 1) :: (156, .iconst (-1), 1) :: (157, .if_icmp .eq 13, 3) :: (160, .aload_n 0, 1) :: (161, .iload_n 2, 1) :: (162, .invokevirtual 381, 3) :: (165, .aload_n 0, 1) :: (166, .iload_n 3, 1) :: (167, .invokevirtual 381, 3) :: (170, .iload_n 1, 1) :: (171, .ireturn, 1) :: [])
set_option maxRecDepth 100000 in
def mX12_areOnes : zMeth := (yX12_areOnes, cX12_areOnes, 7, (some .boolean), 12, (0, .aload_n 0, 1) :: (1, .getfield 60, 3) :: (4, .iload_n 1, 1) :: (5, .iaload, 1) :: (6, .aload_n 0, 1) :: (7, .getfield 60, 3) :: (10, .iload_n 2, 1) :: (11, .iaload, 1) :: (12, .if_icmp .gt 7, 3) :: (15, .iload_n 1, 1) :: (16, .goto 4, 3) :: (19, .iload_n 2, 1) :: (20, .istore 5, 2) :: (22, .iload 5, 2) :: (24, .iload_n 1, 1) :: (25, .if_icmp .ne 7, 3) :: (28, .iload_n 2, 1) :: (29, .goto 4, 3) :: (32, .iload_n 1, 1) :: (33, .istore 6, 2) :: (35, .aload_n 0, 1) :: (36, .getfield 60, 3) :: (39, .iload 6, 2) :: (41, .iaload, 1) :: (42, .aload_n 0, 1) :: (43, .getfield 60, 3) :: (46, .iload 5, 2) :: (48, .iaload, 1) :: (49, .isub, 1) :: (50, .aload_n 0, 1) :: (51, .getfield 66, 3) :: (54, .iload 5, 2) :: (56, .iaload, 1) :: (57, .isub, 1) :: (58, .iload_n 3, 1) :: (59, .if_icmp .lt 35, 3) :: (62, .aload_n 0, 1) :: (63, .getfield 60, 3) :: (66, .iload 6, 2) :: (68, .iaload, 1) :: (69, .aload_n 0, 1) :: (70, .getfield 66, 3) :: (73, .iload 6, 2) :: (75, .iaload, 1) :: (76, .iadd, 1) :: (77, .aload_n 0, 1) :: (78, .getfield 60, 3) :: (81, .iload 5, 2) :: (83, .iaload, 1) :: (84, .isub, 1) :: (85, .iload 4, 2) :: (87, .if_icmp .gt 7, 3) :: (90, .iconst 1, 1) :: (91, .goto 4, 3) :: (94, .iconst 0, 1) :: (95, .ireturn, 1) :: [])
set_option maxRecDepth 100000 in
def mX12_findMen : zMeth := (yX12_findMen, cX12_findMen, 9, (some .boolean), 12, (0, .iload_n 1, 1) :: (1, .aload_n 0, 1) :: (2, .getfield 210, 3) :: (5, .if_icmp .ne 5, 3) :: (8, .iconst 1, 1) :: (9, .ireturn, 1) :: (10, .iconst 0, 1) :: (11, .istore 6, 2) :: (13, .iload 6, 2) :: (15, .iload_n 2, 1) :: (16, .if_icmp .gt 124, 3) :: (19, .iload 6, 2) :: (21, .iload_n 3, 1) :: (22, .if_icmp .ge 118, 3) :: (25, .aload_n 0, 1) :: (26, .getfield 66, 3) :: (29, .iload_n 1, 1) :: (30, .iaload, 1) :: (31, .iload 5, 2) :: (33, .if_icmp .gt 7, 3) :: (36, .iconst 1, 1) :: (37, .goto 4, 3) :: (40, .iconst 0, 1) :: (41, .istore 7, 2) :: (43, .iconst 0, 1) :: (44, .istore 8, 2) :: (46, .iload 8, 2) :: (48, .iload_n 1, 1) :: (49, .if_icmp .ge 47, 3) :: (52, .iload 7, 2) :: (54, .ifCond .eq 33, 3) :: (57, .aload_n 0, 1) :: (58, .getfield 137, 3) :: (61, .iload 8, 2) :: (63, .iaload, 1) :: (64, .iload 6, 2) :: (66, .if_icmp .ne 17, 3) :: (69, .aload_n 0, 1) :: (70, .iload 8, 2) :: (72, .iload_n 1, 1) :: (73, .iload 4, 2) :: (75, .iload 5, 2) :: (77, .invokevirtual 487, 3) :: (80, .ifCond .eq 7, 3) :: (83, .iconst 1, 1) :: (84, .goto 4, 3) :: (87, .iconst 0, 1) :: (88, .istore 7, 2) :: (90, .iinc 8 1, 3) :: (93, .goto (-47), 3) :: (96, .aload_n 0, 1) :: (97, .getfield 137, 3) :: (100, .iload_n 1, 1) :: (101, .iload 6, 2) :: (103, .iastore, 1) :: (104, .iload 7, 2) :: (106, .ifCond .eq 28, 3) :: (109, .aload_n 0, 1) :: (110, .iload_n 1, 1) :: (111, .iconst 1, 1) :: (112, .iadd, 1) :: (113, .iload_n 2, 1) :: (114, .iload 6, 2) :: (116, .iconst 1, 1) :: (117, .iadd, 1) :: (118, .invokestatic 234, 3) :: (121, .iload_n 3, 1) :: (122, .iload 4, 2) :: (124, .iload 5, 2) :: (126, .invokevirtual 491, 3) :: (129, .ifCond .eq 5, 3) :: (132, .iconst 1, 1) :: (133, .ireturn, 1) :: (134, .iinc 6 1, 3) :: (137, .goto (-124), 3) :: (140, .iconst 0, 1) :: (141, .ireturn, 1) :: [])
set_option maxRecDepth 100000 in
def mX12_crews : zMeth := (yX12_crews, cX12_crews, 5, (some .int), 12, (0, .aload_n 0, 1) :: (1, .iconst 0, 1) :: (2, .putfield 197, 3) :: (5, .iload_n 1, 1) :: (6, .iconst 0, 1) :: (7, .sipush 600, 3) :: (10, .invokestatic 203, 3) :: (13, .ifCond .eq 14, 3) :: (16, .iload_n 2, 1) :: (17, .iconst 1, 1) :: (18, .sipush 2000, 3) :: (21, .invokestatic 203, 3) :: (24, .ifCond .ne 5, 3) :: (27, .iconst (-1), 1) :: (28, .ireturn, 1) :: (29, .iconst 0, 1) :: (30, .istore_n 3, 1) :: (31, .iload_n 3, 1) :: (32, .aload_n 0, 1) :: (33, .getfield 210, 3) :: (36, .if_icmp .gt 60, 3) :: (39, .aload_n 0, 1) :: (40, .iconst 0, 1) :: (41, .iconst 0, 1) :: (42, .iload_n 3, 1) :: (43, .iload_n 1, 1) :: (44, .iload_n 2, 1) :: (45, .invokevirtual 491, 3) :: (48, .ifCond .ne 6, 3) :: (51, .goto 39, 3) :: (54, .aload_n 0, 1) :: (55, .iconst 0, 1) :: (56, .putfield 200, 3) :: (59, .iconst 0, 1) :: (60, .istore 4, 2) :: (62, .iload 4, 2) :: (64, .aload_n 0, 1) :: (65, .getfield 210, 3) :: (68, .if_icmp .ge 20, 3) :: (71, .aload_n 0, 1) :: (72, .aload_n 0, 1) :: (73, .getfield 137, 3) :: (76, .iload 4, 2) :: (78, .iaload, 1) :: (79, .invokevirtual 381, 3) :: (82, .iinc 4 1, 3) :: (85, .goto (-23), 3) :: (88, .iload_n 3, 1) :: (89, .ireturn, 1) :: (90, .iinc 3 1, 3) :: (93, .goto (-62), 3) :: (96, .bipush (-2), 2) :: (98, .ireturn, 1) :: [])
set_option maxRecDepth 100000 in
def mX12_lightFires : zMeth := (yX12_lightFires, cX12_lightFires, 8, (some .int), 12, (0, .iconst 0, 1) :: (1, .istore_n 3, 1) :: (2, .iload_n 3, 1) :: (3, .aload_n 0, 1) :: (4, .getfield 210, 3) :: (7, .if_icmp .ge 16, 3) :: (10, .aload_n 0, 1) :: (11, .getfield 140, 3) :: (14, .iload_n 3, 1) :: (15, .iconst (-1), 1) :: (16, .iastore, 1) :: (17, .iinc 3 1, 3) :: (20, .goto (-18), 3) :: (23, .iconst 0, 1) :: (24, .istore_n 3, 1) :: (25, .iload_n 3, 1) :: (26, .iload_n 2, 1) :: (27, .if_icmp .ge 18, 3) :: (30, .aload_n 0, 1) :: (31, .getfield 143, 3) :: (34, .iload_n 3, 1) :: (35, .ldc_w 495, 3) :: (38, .iastore, 1) :: (39, .iinc 3 1, 3) :: (42, .goto (-17), 3) :: (45, .iconst 0, 1) :: (46, .istore_n 3, 1) :: (47, .ldc_w 495, 3) :: (50, .istore 4, 2) :: (52, .iconst (-1), 1) :: (53, .istore 5, 2) :: (55, .iconst 0, 1) :: (56, .istore 6, 2) :: (58, .iload 6, 2) :: (60, .aload_n 0, 1) :: (61, .getfield 210, 3) :: (64, .if_icmp .ge 74, 3) :: (67, .aload_n 0, 1) :: (68, .getfield 69, 3) :: (71, .iload 6, 2) :: (73, .iaload, 1) :: (74, .iconst (-1), 1) :: (75, .if_icmp .eq 57, 3) :: (78, .aload_n 0, 1) :: (79, .getfield 48, 3) :: (82, .aload_n 0, 1) :: (83, .getfield 69, 3) :: (86, .iload 6, 2) :: (88, .iaload, 1) :: (89, .iaload, 1) :: (90, .iconst (-1), 1) :: (91, .if_icmp .ne 41, 3) :: (94, .iload_n 3, 1) :: (95, .iload 6, 2) :: (97, .ishr, 1) :: (98, .iconst 1, 1) :: (99, .iand, 1) :: (100, .iconst 1, 1) :: (101, .if_icmp .ne 6, 3) :: (104, .goto 28, 3) :: (107, .iload 5, 2) :: (109, .iconst (-1), 1) :: (110, .if_icmp .eq 18, 3) :: (113, .aload_n 0, 1) :: (114, .iload 6, 2) :: (116, .invokevirtual 496, 3) :: (119, .aload_n 0, 1) :: (120, .iload 5, 2) :: (122, .invokevirtual 496, 3) :: (125, .if_icmp .lt 7, 3) :: (128, .iload 6, 2) :: (130, .istore 5, 2) :: (132, .iinc 6 1, 3) :: (135, .goto (-77), 3) :: (138, .iload 5, 2) :: (140, .iconst (-1), 1) :: (141, .if_icmp .ne 20, 3) :: (144, .iload 4, 2) :: (146, .ldc_w 495, 3) :: (149, .if_icmp .ne 9, 3) :: (152, .sipush (-5000), 3) :: (155, .goto 5, 3) :: (158, .iload 4, 2) :: (160, .ireturn, 1) :: (161, .iload_n 3, 1) :: (162, .iconst 1, 1) :: (163, .iload 5, 2) :: (165, .ishl, 1) :: (166, .ior, 1) :: (167, .istore_n 3, 1) :: (168, .iconst 0, 1) :: (169, .istore 6, 2) :: (171, .iconst 1, 1) :: (172, .istore 7, 2) :: (174, .iload 7, 2) :: (176, .iload_n 2, 1) :: (177, .if_icmp .ge 30, 3) :: (180, .aload_n 0, 1) :: (181, .getfield 143, 3) :: (184, .iload 7, 2) :: (186, .iaload, 1) :: (187, .aload_n 0, 1) :: (188, .getfield 143, 3) :: (191, .iload 6, 2) :: (193, .iaload, 1) :: (194, .if_icmp .le 7, 3) :: (197, .iload 7, 2) :: (199, .istore 6, 2) :: (201, .iinc 7 1, 3) :: (204, .goto (-30), 3) :: (207, .aload_n 0, 1) :: (208, .getfield 140, 3) :: (211, .iload 5, 2) :: (213, .aload_n 0, 1) :: (214, .iload 5, 2) :: (216, .invokevirtual 496, 3) :: (219, .aload_n 0, 1) :: (220, .getfield 143, 3) :: (223, .iload 6, 2) :: (225, .iaload, 1) :: (226, .invokestatic 228, 3) :: (229, .iload_n 1, 1) :: (230, .isub, 1) :: (231, .iastore, 1) :: (232, .aload_n 0, 1) :: (233, .getfield 143, 3) :: (236, .iload 6, 2) :: (238, .aload_n 0, 1) :: (239, .getfield 140, 3) :: (242, .iload 5, 2) :: (244, .iaload, 1) :: (245, .iastore, 1) :: (246, .iload 4, 2) :: (248, .aload_n 0, 1) :: (249, .getfield 140, 3) :: (252, .iload 5, 2) :: (254, .iaload, 1) :: (255, .invokestatic 228, 3) :: (258, .istore 4, 2) :: (260, .goto (-208), 3) :: [])
set_option maxRecDepth 100000 in
def mX12_endOf : zMeth := (yX12_endOf, cX12_endOf, 2, (some .int), 12, (0, .aload_n 0, 1) :: (1, .getfield 60, 3) :: (4, .iload_n 1, 1) :: (5, .iaload, 1) :: (6, .aload_n 0, 1) :: (7, .getfield 36, 3) :: (10, .aload_n 0, 1) :: (11, .getfield 69, 3) :: (14, .iload_n 1, 1) :: (15, .iaload, 1) :: (16, .iaload, 1) :: (17, .isub, 1) :: (18, .ireturn, 1) :: [])
set_option maxRecDepth 100000 in
def mX12_fires : zMeth := (yX12_fires, cX12_fires, 5, (some .int), 12, (0, .aload_n 0, 1) :: (1, .iconst 0, 1) :: (2, .putfield 197, 3) :: (5, .iload_n 1, 1) :: (6, .iconst 1, 1) :: (7, .bipush 120, 2) :: (9, .invokestatic 203, 3) :: (12, .ifCond .eq 13, 3) :: (15, .iload_n 2, 1) :: (16, .iconst 1, 1) :: (17, .bipush 6, 2) :: (19, .invokestatic 203, 3) :: (22, .ifCond .ne 7, 3) :: (25, .sipush (-5001), 3) :: (28, .ireturn, 1) :: (29, .aload_n 0, 1) :: (30, .iload_n 1, 1) :: (31, .iload_n 2, 1) :: (32, .invokevirtual 499, 3) :: (35, .istore_n 3, 1) :: (36, .iload_n 3, 1) :: (37, .sipush (-5000), 3) :: (40, .if_icmp .ne 5, 3) :: (43, .iload_n 3, 1) :: (44, .ireturn, 1) :: (45, .aload_n 0, 1) :: (46, .iconst 0, 1) :: (47, .putfield 200, 3) :: (50, .iconst 0, 1) :: (51, .istore 4, 2) :: (53, .iload 4, 2) :: (55, .aload_n 0, 1) :: (56, .getfield 210, 3) :: (59, .if_icmp .ge 20, 3) :: (62, .aload_n 0, 1) :: (63, .aload_n 0, 1) :: (64, .getfield 140, 3) :: (67, .iload 4, 2) :: (69, .iaload, 1) :: (70, .invokevirtual 381, 3) :: (73, .iinc 4 1, 3) :: (76, .goto (-23), 3) :: (79, .iload_n 3, 1) :: (80, .ireturn, 1) :: [])
set_option maxRecDepth 100000 in
def mX12_men : zMeth := (yX12_men, cX12_men, 4, (some .int), 12, (0, .aload_n 0, 1) :: (1, .iconst 0, 1) :: (2, .putfield 197, 3) :: (5, .iload_n 1, 1) :: (6, .iconst 1, 1) :: (7, .bipush 120, 2) :: (9, .invokestatic 203, 3) :: (12, .ifCond .ne 5, 3) :: (15, .iconst (-1), 1) :: (16, .ireturn, 1) :: (17, .iconst 1, 1) :: (18, .istore_n 2, 1) :: (19, .iload_n 2, 1) :: (20, .bipush 6, 2) :: (22, .if_icmp .gt 33, 3) :: (25, .aload_n 0, 1) :: (26, .iload_n 1, 1) :: (27, .iload_n 2, 1) :: (28, .invokevirtual 499, 3) :: (31, .istore_n 3, 1) :: (32, .iload_n 3, 1) :: (33, .sipush (-5000), 3) :: (36, .if_icmp .eq 11, 3) :: (39, .iload_n 3, 1) :: (40, .aload_n 0, 1) :: (41, .getfield 310, 3) :: (44, .if_icmp .lt 5, 3) :: (47, .iload_n 2, 1) :: (48, .ireturn, 1) :: (49, .iinc 2 1, 3) :: (52, .goto (-33), 3) :: (55, .bipush (-2), 2) :: (57, .ireturn, 1) :: [])
set_option maxRecDepth 100000 in
def mX12_frost : zMeth := (yX12_frost, cX12_frost, 7, (some .int), 12, (0, .aload_n 0, 1) :: (1, .iconst 0, 1) :: (2, .putfield 197, 3) :: (5, .iload_n 1, 1) :: (6, .iconst 0, 1) :: (7, .bipush 12, 2) :: (9, .invokestatic 203, 3) :: (12, .ifCond .ne 5, 3) :: (15, .iconst (-1), 1) :: (16, .ireturn, 1) :: (17, .aload_n 0, 1) :: (18, .invokevirtual 396, 3) :: (21, .istore_n 2, 1) :: (22, .iconst (-1), 1) :: (23, .istore_n 3, 1) :: (24, .iconst 0, 1) :: (25, .istore 4, 2) :: (27, .iload 4, 2) :: (29, .iload_n 2, 1) :: (30, .if_icmp .gt 102, 3) :: (33, .iload 4, 2) :: (35, .iload_n 2, 1) :: (36, .iconst (-1), 1) :: (37, .ixor, 1) :: (38, .iand, 1) :: (39, .ifCond .ne 87, 3) :: (42, .iload_n 3, 1) :: (43, .iconst (-1), 1) :: (44, .if_icmp .eq 18, 3) :: (47, .iload 4, 2) :: (49, .invokestatic 399, 3) :: (52, .iload_n 3, 1) :: (53, .invokestatic 399, 3) :: (56, .if_icmp .lt 6, 3) :: (59, .goto 67, 3) :: (62, .iconst 1, 1) :: (63, .istore 5, 2) :: (65, .iconst 0, 1) :: (66, .istore 6, 2) :: (68, .iload 6, 2) :: (70, .aload_n 0, 1) :: (71, .getfield 207, 3) :: (74, .if_icmp .ge 44, 3) :: (77, .iload 5, 2) :: (79, .ifCond .eq 39, 3) :: (82, .aload_n 0, 1) :: (83, .getfield 45, 3) :: (86, .iload 6, 2) :: (88, .iaload, 1) :: (89, .iconst (-1), 1) :: (90, .if_icmp .eq 15, 3) :: (93, .aload_n 0, 1) :: (94, .iload 6, 2) :: (96, .iload 4, 2) :: (98, .iload_n 1, 1) :: (99, .invokevirtual 502, 3) :: (102, .ifCond .eq 7, 3) :: (105, .iconst 1, 1) :: (106, .goto 4, 3) :: (109, .iconst 0, 1) :: (110, .istore 5, 2) :: (112, .iinc 6 1, 3) :: (115, .goto (-47), 3) :: (118, .iload 5, 2) :: (120, .ifCond .eq 6, 3) :: (123, .iload 4, 2) :: (125, .istore_n 3, 1) :: (126, .iinc 4 1, 3) :: (129, .goto (-102), 3) :: (132, .aload_n 0, 1) :: (133, .iconst 0, 1) :: (134, .putfield 200, 3) :: (137, .aload_n 0, 1) :: (138, .iload_n 3, 1) :: (139, .invokevirtual 381, 3) :: (142, .iload_n 3, 1) :: (143, .invokestatic 399, 3) :: (146, .ireturn, 1) :: [])
set_option maxRecDepth 100000 in
def mX12_isWarm : zMeth := (yX12_isWarm, cX12_isWarm, 6, (some .boolean), 12, (0, .iconst 0, 1) :: (1, .istore 4, 2) :: (3, .iload 4, 2) :: (5, .aload_n 0, 1) :: (6, .getfield 207, 3) :: (9, .if_icmp .ge 58, 3) :: (12, .iload_n 2, 1) :: (13, .iload 4, 2) :: (15, .ishr, 1) :: (16, .iconst 1, 1) :: (17, .iand, 1) :: (18, .ifCond .ne 6, 3) :: (21, .goto 40, 3) :: (24, .aload_n 0, 1) :: (25, .getfield 45, 3) :: (28, .iload_n 1, 1) :: (29, .iaload, 1) :: (30, .aload_n 0, 1) :: (31, .getfield 45, 3) :: (34, .iload 4, 2) :: (36, .iaload, 1) :: (37, .isub, 1) :: (38, .invokestatic 237, 3) :: (41, .istore 5, 2) :: (43, .iload 5, 2) :: (45, .aload_n 0, 1) :: (46, .getfield 7, 3) :: (49, .iload 5, 2) :: (51, .isub, 1) :: (52, .invokestatic 228, 3) :: (55, .iload_n 3, 1) :: (56, .if_icmp .gt 5, 3) :: (59, .iconst 1, 1) :: (60, .ireturn, 1) :: (61, .iinc 4 1, 3) :: (64, .goto (-61), 3) :: (67, .iconst 0, 1) :: (68, .ireturn, 1) :: [])
set_option maxRecDepth 100000 in
def mX12_lightNow : zMeth := (yX12_lightNow, cX12_lightNow, 2, none, 12, (0, .iload_n 1, 1) :: (1, .iconst (-1), 1) :: (2, .if_icmp .eq 23, 3) :: (5, .aload_n 0, 1) :: (6, .getfield 48, 3) :: (9, .iload_n 1, 1) :: (10, .iaload, 1) :: (11, .iconst (-1), 1) :: (12, .if_icmp .ne 13, 3) :: (15, .aload_n 0, 1) :: (16, .getfield 48, 3) :: (19, .iload_n 1, 1) :: (20, .aload_n 0, 1) :: (21, .getfield 310, 3) :: (24, .iastore, 1) :: (25, .return_, 1) :: [])
set_option maxRecDepth 100000 in
def mX12_goThrough : zMeth := (yX12_goThrough, cX12_goThrough, 8, (some .int), 12, (0, .aload_n 0, 1) :: (1, .getfield 310, 3) :: (4, .istore_n 1, 1) :: (5, .iconst 0, 1) :: (6, .istore_n 2, 1) :: (7, .iload_n 2, 1) :: (8, .aload_n 0, 1) :: (9, .getfield 207, 3) :: (12, .if_icmp .ge 21, 3) :: (15, .aload_n 0, 1) :: (16, .getfield 149, 3) :: (19, .iload_n 2, 1) :: (20, .aload_n 0, 1) :: (21, .getfield 48, 3) :: (24, .iload_n 2, 1) :: (25, .iaload, 1) :: (26, .iastore, 1) :: (27, .iinc 2 1, 3) :: (30, .goto (-23), 3) :: (33, .iconst 0, 1) :: (34, .istore_n 2, 1) :: (35, .iload_n 2, 1) :: (36, .aload_n 0, 1) :: (37, .getfield 210, 3) :: (40, .if_icmp .ge 46, 3) :: (43, .aload_n 0, 1) :: (44, .getfield 69, 3) :: (47, .iload_n 2, 1) :: (48, .iaload, 1) :: (49, .iconst (-1), 1) :: (50, .if_icmp .ne 6, 3) :: (53, .goto 27, 3) :: (56, .aload_n 0, 1) :: (57, .aload_n 0, 1) :: (58, .getfield 69, 3) :: (61, .iload_n 2, 1) :: (62, .iaload, 1) :: (63, .invokevirtual 505, 3) :: (66, .aload_n 0, 1) :: (67, .aload_n 0, 1) :: (68, .aload_n 0, 1) :: (69, .getfield 69, 3) :: (72, .iload_n 2, 1) :: (73, .iaload, 1) :: (74, .invokevirtual 325, 3) :: (77, .invokevirtual 505, 3) :: (80, .iinc 2 1, 3) :: (83, .goto (-48), 3) :: (86, .aload_n 0, 1) :: (87, .getfield 310, 3) :: (90, .istore_n 2, 1) :: (91, .iconst 0, 1) :: (92, .istore_n 3, 1) :: (93, .iconst 0, 1) :: (94, .istore 4, 2) :: (96, .iconst 0, 1) :: (97, .istore 5, 2) :: (99, .iload 5, 2) :: (101, .aload_n 0, 1) :: (102, .getfield 210, 3) :: (105, .if_icmp .ge 121, 3) :: (108, .iconst (-1), 1) :: (109, .istore 6, 2) :: (111, .iconst 0, 1) :: (112, .istore 7, 2) :: (114, .iload 7, 2) :: (116, .aload_n 0, 1) :: (117, .getfield 210, 3) :: (120, .if_icmp .ge 45, 3) :: (123, .iload_n 3, 1) :: (124, .iload 7, 2) :: (126, .ishr, 1) :: (127, .iconst 1, 1) :: (128, .iand, 1) :: (129, .ifCond .ne 30, 3) :: (132, .iload 6, 2) :: (134, .iconst (-1), 1) :: (135, .if_icmp .eq 20, 3) :: (138, .aload_n 0, 1) :: (139, .getfield 60, 3) :: (142, .iload 7, 2) :: (144, .iaload, 1) :: (145, .aload_n 0, 1) :: (146, .getfield 60, 3) :: (149, .iload 6, 2) :: (151, .iaload, 1) :: (152, .if_icmp .ge 7, 3) :: (155, .iload 7, 2) :: (157, .istore 6, 2) :: (159, .iinc 7 1, 3) :: (162, .goto (-48), 3) :: (165, .iload_n 3, 1) :: (166, .iconst 1, 1) :: (167, .iload 6, 2) :: (169, .ishl, 1) :: (170, .ior, 1) :: (171, .istore_n 3, 1) :: (172, .aload_n 0, 1) :: (173, .getfield 146, 3) :: (176, .iload 6, 2) :: (178, .bipush (-2), 2) :: (180, .iastore, 1) :: (181, .aload_n 0, 1) :: (182, .getfield 69, 3) :: (185, .iload 6, 2) :: (187, .iaload, 1) :: (188, .iconst (-1), 1) :: (189, .if_icmp .ne 6, 3) :: (192, .goto 28, 3) :: (195, .aload_n 0, 1) :: (196, .iload 6, 2) :: (198, .iload_n 1, 1) :: (199, .iload_n 2, 1) :: (200, .invokevirtual 508, 3) :: (203, .istore_n 2, 1) :: (204, .iload 4, 2) :: (206, .iconst 0, 1) :: (207, .aload_n 0, 1) :: (208, .getfield 146, 3) :: (211, .iload 6, 2) :: (213, .iaload, 1) :: (214, .invokestatic 234, 3) :: (217, .iadd, 1) :: (218, .istore 4, 2) :: (220, .iinc 5 1, 3) :: (223, .goto (-124), 3) :: (226, .aload_n 0, 1) :: (227, .iconst 0, 1) :: (228, .invokevirtual 378, 3) :: (231, .aload_n 0, 1) :: (232, .iload_n 1, 1) :: (233, .putfield 310, 3) :: (236, .iconst 0, 1) :: (237, .istore 5, 2) :: (239, .iload 5, 2) :: (241, .aload_n 0, 1) :: (242, .getfield 207, 3) :: (245, .if_icmp .ge 23, 3) :: (248, .aload_n 0, 1) :: (249, .getfield 48, 3) :: (252, .iload 5, 2) :: (254, .aload_n 0, 1) :: (255, .getfield 149, 3) :: (258, .iload 5, 2) :: (260, .iaload, 1) :: (261, .iastore, 1) :: (262, .iinc 5 1, 3) :: (265, .goto (-26), 3) :: (268, .iload 4, 2) :: (270, .ireturn, 1) :: [])
set_option maxRecDepth 100000 in
def mX12_goTrain : zMeth := (yX12_goTrain, cX12_goTrain, 6, (some .int), 12, (0, .aload_n 0, 1) :: (1, .getfield 69, 3) :: (4, .iload_n 1, 1) :: (5, .iaload, 1) :: (6, .istore 4, 2) :: (8, .aload_n 0, 1) :: (9, .iload 4, 2) :: (11, .invokevirtual 325, 3) :: (14, .istore 5, 2) :: (16, .aload_n 0, 1) :: (17, .getfield 152, 3) :: (20, .iload_n 1, 1) :: (21, .iload_n 3, 1) :: (22, .iastore, 1) :: (23, .aload_n 0, 1) :: (24, .getfield 155, 3) :: (27, .iload_n 1, 1) :: (28, .iload_n 2, 1) :: (29, .aload_n 0, 1) :: (30, .getfield 48, 3) :: (33, .iload 4, 2) :: (35, .iaload, 1) :: (36, .aload_n 0, 1) :: (37, .getfield 36, 3) :: (40, .iload 4, 2) :: (42, .iaload, 1) :: (43, .iadd, 1) :: (44, .invokestatic 234, 3) :: (47, .iastore, 1) :: (48, .aload_n 0, 1) :: (49, .getfield 164, 3) :: (52, .iload_n 1, 1) :: (53, .aload_n 0, 1) :: (54, .getfield 45, 3) :: (57, .iload 4, 2) :: (59, .iaload, 1) :: (60, .iconst (-1), 1) :: (61, .if_icmp .eq 7, 3) :: (64, .iconst 1, 1) :: (65, .goto 4, 3) :: (68, .iconst 0, 1) :: (69, .bastore, 1) :: (70, .aload_n 0, 1) :: (71, .getfield 158, 3) :: (74, .iload_n 1, 1) :: (75, .iconst 0, 1) :: (76, .iastore, 1) :: (77, .aload_n 0, 1) :: (78, .getfield 161, 3) :: (81, .iload_n 1, 1) :: (82, .iconst 0, 1) :: (83, .iastore, 1) :: (84, .aload_n 0, 1) :: (85, .getfield 146, 3) :: (88, .iload_n 1, 1) :: (89, .iconst (-1), 1) :: (90, .iastore, 1) :: (91, .aload_n 0, 1) :: (92, .getfield 42, 3) :: (95, .iload 4, 2) :: (97, .baload, 1) :: (98, .ifCond .ne 30, 3) :: (101, .iload 5, 2) :: (103, .iconst (-1), 1) :: (104, .if_icmp .eq 26, 3) :: (107, .aload_n 0, 1) :: (108, .getfield 42, 3) :: (111, .iload 5, 2) :: (113, .baload, 1) :: (114, .ifCond .ne 14, 3) :: (117, .aload_n 0, 1) :: (118, .getfield 48, 3) :: (121, .iload 5, 2) :: (123, .iaload, 1) :: (124, .iconst (-1), 1) :: (125, .if_icmp .ne 5, 3) :: (128, .iload_n 3, 1) :: (129, .ireturn, 1) :: (130, .aload_n 0, 1) :: (131, .getfield 164, 3) :: (134, .iload_n 1, 1) :: (135, .baload, 1) :: (136, .ifCond .ne 28, 3) :: (139, .aload_n 0, 1) :: (140, .getfield 146, 3) :: (143, .iload_n 1, 1) :: (144, .iconst 0, 1) :: (145, .aload_n 0, 1) :: (146, .getfield 155, 3) :: (149, .iload_n 1, 1) :: (150, .iaload, 1) :: (151, .aload_n 0, 1) :: (152, .getfield 60, 3) :: (155, .iload_n 1, 1) :: (156, .iaload, 1) :: (157, .isub, 1) :: (158, .invokestatic 234, 3) :: (161, .iastore, 1) :: (162, .iload_n 3, 1) :: (163, .ireturn, 1) :: (164, .iload 5, 2) :: (166, .iconst (-1), 1) :: (167, .if_icmp .eq 33, 3) :: (170, .aload_n 0, 1) :: (171, .getfield 155, 3) :: (174, .iload_n 1, 1) :: (175, .aload_n 0, 1) :: (176, .getfield 155, 3) :: (179, .iload_n 1, 1) :: (180, .iaload, 1) :: (181, .aload_n 0, 1) :: (182, .getfield 48, 3) :: (185, .iload 5, 2) :: (187, .iaload, 1) :: (188, .aload_n 0, 1) :: (189, .getfield 36, 3) :: (192, .iload 5, 2) :: (194, .iaload, 1) :: (195, .iadd, 1) :: (196, .invokestatic 234, 3) :: (199, .iastore, 1) :: (200, .aload_n 0, 1) :: (201, .iload_n 3, 1) :: (202, .aload_n 0, 1) :: (203, .getfield 155, 3) :: (206, .iload_n 1, 1) :: (207, .iaload, 1) :: (208, .invokestatic 234, 3) :: (211, .putfield 310, 3) :: (214, .aload_n 0, 1) :: (215, .iload 4, 2) :: (217, .invokevirtual 375, 3) :: (220, .ifCond .ne 5, 3) :: (223, .iload_n 3, 1) :: (224, .ireturn, 1) :: (225, .aload_n 0, 1) :: (226, .getfield 158, 3) :: (229, .iload_n 1, 1) :: (230, .aload_n 0, 1) :: (231, .getfield 372, 3) :: (234, .iastore, 1) :: (235, .aload_n 0, 1) :: (236, .getfield 161, 3) :: (239, .iload_n 1, 1) :: (240, .aload_n 0, 1) :: (241, .getfield 369, 3) :: (244, .iastore, 1) :: (245, .aload_n 0, 1) :: (246, .getfield 146, 3) :: (249, .iload_n 1, 1) :: (250, .iconst 0, 1) :: (251, .aload_n 0, 1) :: (252, .getfield 310, 3) :: (255, .aload_n 0, 1) :: (256, .getfield 60, 3) :: (259, .iload_n 1, 1) :: (260, .iaload, 1) :: (261, .isub, 1) :: (262, .invokestatic 234, 3) :: (265, .iastore, 1) :: (266, .aload_n 0, 1) :: (267, .getfield 310, 3) :: (270, .ireturn, 1) :: [])
set_option maxRecDepth 100000 in
def mX12_morning : zMeth := (yX12_morning, cX12_morning, 3, (some .int), 12, (0, .aload_n 0, 1) :: (1, .iconst 0, 1) :: (2, .putfield 197, 3) :: (5, .aload_n 0, 1) :: (6, .invokevirtual 481, 3) :: (9, .istore_n 1, 1) :: (10, .aload_n 0, 1) :: (11, .iconst 0, 1) :: (12, .putfield 200, 3) :: (15, .iconst 0, 1) :: (16, .istore_n 2, 1) :: (17, .iload_n 2, 1) :: (18, .aload_n 0, 1) :: (19, .getfield 210, 3) :: (22, .if_icmp .ge 19, 3) :: (25, .aload_n 0, 1) :: (26, .aload_n 0, 1) :: (27, .getfield 146, 3) :: (30, .iload_n 2, 1) :: (31, .iaload, 1) :: (32, .invokevirtual 381, 3) :: (35, .iinc 2 1, 3) :: (38, .goto (-21), 3) :: (41, .iload_n 1, 1) :: (42, .ireturn, 1) :: [])
set_option maxRecDepth 100000 in
def mX12_why : zMeth := (yX12_why, cX12_why, 6, (some .int), 12, (0, .aload_n 0, 1) :: (1, .iconst 0, 1) :: (2, .putfield 197, 3) :: (5, .aload_n 0, 1) :: (6, .iload_n 1, 1) :: (7, .invokevirtual 461, 3) :: (10, .ifCond .ne 5, 3) :: (13, .iconst (-1), 1) :: (14, .ireturn, 1) :: (15, .aload_n 0, 1) :: (16, .getfield 69, 3) :: (19, .iload_n 1, 1) :: (20, .iaload, 1) :: (21, .iconst (-1), 1) :: (22, .if_icmp .ne 6, 3) :: (25, .bipush (-2), 2) :: (27, .ireturn, 1) :: (28, .aload_n 0, 1) :: (29, .invokevirtual 481, 3) :: (32, .pop, 1) :: (33, .aload_n 0, 1) :: (34, .getfield 146, 3) :: (37, .iload_n 1, 1) :: (38, .iaload, 1) :: (39, .iconst (-1), 1) :: (40, .if_icmp .ne 5, 3) :: (43, .iconst 5, 1) :: (44, .ireturn, 1) :: (45, .aload_n 0, 1) :: (46, .getfield 146, 3) :: (49, .iload_n 1, 1) :: (50, .iaload, 1) :: (51, .ifCond .ne 5, 3) :: (54, .iconst 0, 1) :: (55, .ireturn, 1) :: (56, .aload_n 0, 1) :: (57, .getfield 60, 3) :: (60, .iload_n 1, 1) :: (61, .iaload, 1) :: (62, .aload_n 0, 1) :: (63, .getfield 158, 3) :: (66, .iload_n 1, 1) :: (67, .iaload, 1) :: (68, .isub, 1) :: (69, .istore_n 2, 1) :: (70, .aload_n 0, 1) :: (71, .getfield 164, 3) :: (74, .iload_n 1, 1) :: (75, .baload, 1) :: (76, .ifCond .eq 18, 3) :: (79, .iconst 0, 1) :: (80, .aload_n 0, 1) :: (81, .getfield 152, 3) :: (84, .iload_n 1, 1) :: (85, .iaload, 1) :: (86, .iload_n 2, 1) :: (87, .isub, 1) :: (88, .invokestatic 234, 3) :: (91, .goto 4, 3) :: (94, .iconst 0, 1) :: (95, .istore_n 3, 1) :: (96, .iconst 0, 1) :: (97, .aload_n 0, 1) :: (98, .getfield 155, 3) :: (101, .iload_n 1, 1) :: (102, .iaload, 1) :: (103, .iload_n 2, 1) :: (104, .isub, 1) :: (105, .invokestatic 234, 3) :: (108, .istore 4, 2) :: (110, .aload_n 0, 1) :: (111, .getfield 161, 3) :: (114, .iload_n 1, 1) :: (115, .iaload, 1) :: (116, .istore 5, 2) :: (118, .aload_n 0, 1) :: (119, .iconst 0, 1) :: (120, .putfield 200, 3) :: (123, .aload_n 0, 1) :: (124, .iload_n 3, 1) :: (125, .invokevirtual 381, 3) :: (128, .aload_n 0, 1) :: (129, .iload 4, 2) :: (131, .invokevirtual 381, 3) :: (134, .aload_n 0, 1) :: (135, .iload 5, 2) :: (137, .invokevirtual 381, 3) :: (140, .iload_n 3, 1) :: (141, .iload 4, 2) :: (143, .if_icmp .lt 13, 3) :: (146, .iload_n 3, 1) :: (147, .iload 5, 2) :: (149, .if_icmp .lt 7, 3) :: (152, .iconst 1, 1) :: (153, .goto 15, 3) :: (156, .iload 4, 2) :: (158, .iload 5, 2) :: (160, .if_icmp .lt 7, 3) :: (163, .iconst 2, 1) :: (164, .goto 4, 3) :: (167, .iconst 3, 1) :: (168, .ireturn, 1) :: [])
set_option maxRecDepth 100000 in
def mX12_keep : zMeth := (yX12_keep, cX12_keep, 3, (some .boolean), 12, (0, .aload_n 0, 1) :: (1, .iconst 0, 1) :: (2, .putfield 197, 3) :: (5, .iload_n 1, 1) :: (6, .iconst 0, 1) :: (7, .iconst 2, 1) :: (8, .invokestatic 203, 3) :: (11, .ifCond .ne 5, 3) :: (14, .iconst 0, 1) :: (15, .ireturn, 1) :: (16, .aload_n 0, 1) :: (17, .getfield 167, 3) :: (20, .iload_n 1, 1) :: (21, .iconst 1, 1) :: (22, .bastore, 1) :: (23, .aload_n 0, 1) :: (24, .getfield 170, 3) :: (27, .iload_n 1, 1) :: (28, .aload_n 0, 1) :: (29, .getfield 217, 3) :: (32, .iastore, 1) :: (33, .aload_n 0, 1) :: (34, .getfield 188, 3) :: (37, .iload_n 1, 1) :: (38, .aload_n 0, 1) :: (39, .getfield 51, 3) :: (42, .iastore, 1) :: (43, .aload_n 0, 1) :: (44, .getfield 191, 3) :: (47, .iload_n 1, 1) :: (48, .aload_n 0, 1) :: (49, .getfield 310, 3) :: (52, .iastore, 1) :: (53, .iconst 0, 1) :: (54, .istore_n 2, 1) :: (55, .iload_n 2, 1) :: (56, .bipush 23, 2) :: (58, .if_icmp .ge 43, 3) :: (61, .aload_n 0, 1) :: (62, .getfield 173, 3) :: (65, .bipush 23, 2) :: (67, .iload_n 1, 1) :: (68, .imul, 1) :: (69, .iload_n 2, 1) :: (70, .iadd, 1) :: (71, .aload_n 0, 1) :: (72, .getfield 24, 3) :: (75, .iload_n 2, 1) :: (76, .iaload, 1) :: (77, .iastore, 1) :: (78, .aload_n 0, 1) :: (79, .getfield 176, 3) :: (82, .bipush 23, 2) :: (84, .iload_n 1, 1) :: (85, .imul, 1) :: (86, .iload_n 2, 1) :: (87, .iadd, 1) :: (88, .aload_n 0, 1) :: (89, .getfield 27, 3) :: (92, .iload_n 2, 1) :: (93, .iaload, 1) :: (94, .iastore, 1) :: (95, .iinc 2 1, 3) :: (98, .goto (-43), 3) :: (101, .iconst 0, 1) :: (102, .istore_n 2, 1) :: (103, .iload_n 2, 1) :: (104, .bipush 12, 2) :: (106, .if_icmp .ge 60, 3) :: (109, .aload_n 0, 1) :: (110, .getfield 179, 3) :: (113, .bipush 12, 2) :: (115, .iload_n 1, 1) :: (116, .imul, 1) :: (117, .iload_n 2, 1) :: (118, .iadd, 1) :: (119, .aload_n 0, 1) :: (120, .getfield 45, 3) :: (123, .iload_n 2, 1) :: (124, .iaload, 1) :: (125, .iastore, 1) :: (126, .aload_n 0, 1) :: (127, .getfield 182, 3) :: (130, .bipush 12, 2) :: (132, .iload_n 1, 1) :: (133, .imul, 1) :: (134, .iload_n 2, 1) :: (135, .iadd, 1) :: (136, .aload_n 0, 1) :: (137, .getfield 48, 3) :: (140, .iload_n 2, 1) :: (141, .iaload, 1) :: (142, .iastore, 1) :: (143, .aload_n 0, 1) :: (144, .getfield 185, 3) :: (147, .bipush 12, 2) :: (149, .iload_n 1, 1) :: (150, .imul, 1) :: (151, .iload_n 2, 1) :: (152, .iadd, 1) :: (153, .aload_n 0, 1) :: (154, .getfield 42, 3) :: (157, .iload_n 2, 1) :: (158, .baload, 1) :: (159, .bastore, 1) :: (160, .iinc 2 1, 3) :: (163, .goto (-60), 3) :: (166, .iconst 1, 1) :: (167, .ireturn, 1) :: [])
set_option maxRecDepth 100000 in
def mX12_again : zMeth := (yX12_again, cX12_again, 3, (some .boolean), 12, (0, .aload_n 0, 1) :: (1, .iconst 0, 1) :: (2, .putfield 197, 3) :: (5, .iload_n 1, 1) :: (6, .iconst 0, 1) :: (7, .iconst 2, 1) :: (8, .invokestatic 203, 3) :: (11, .ifCond .eq 25, 3) :: (14, .aload_n 0, 1) :: (15, .getfield 167, 3) :: (18, .iload_n 1, 1) :: (19, .baload, 1) :: (20, .ifCond .eq 16, 3) :: (23, .aload_n 0, 1) :: (24, .getfield 170, 3) :: (27, .iload_n 1, 1) :: (28, .iaload, 1) :: (29, .aload_n 0, 1) :: (30, .getfield 217, 3) :: (33, .if_icmp .eq 5, 3) :: (36, .iconst 0, 1) :: (37, .ireturn, 1) :: (38, .aload_n 0, 1) :: (39, .aload_n 0, 1) :: (40, .getfield 188, 3) :: (43, .iload_n 1, 1) :: (44, .iaload, 1) :: (45, .putfield 51, 3) :: (48, .aload_n 0, 1) :: (49, .aload_n 0, 1) :: (50, .getfield 191, 3) :: (53, .iload_n 1, 1) :: (54, .iaload, 1) :: (55, .putfield 310, 3) :: (58, .iconst 0, 1) :: (59, .istore_n 2, 1) :: (60, .iload_n 2, 1) :: (61, .bipush 23, 2) :: (63, .if_icmp .ge 43, 3) :: (66, .aload_n 0, 1) :: (67, .getfield 24, 3) :: (70, .iload_n 2, 1) :: (71, .aload_n 0, 1) :: (72, .getfield 173, 3) :: (75, .bipush 23, 2) :: (77, .iload_n 1, 1) :: (78, .imul, 1) :: (79, .iload_n 2, 1) :: (80, .iadd, 1) :: (81, .iaload, 1) :: (82, .iastore, 1) :: (83, .aload_n 0, 1) :: (84, .getfield 27, 3) :: (87, .iload_n 2, 1) :: (88, .aload_n 0, 1) :: (89, .getfield 176, 3) :: (92, .bipush 23, 2) :: (94, .iload_n 1, 1) :: (95, .imul, 1) :: (96, .iload_n 2, 1) :: (97, .iadd, 1) :: (98, .iaload, 1) :: (99, .iastore, 1) :: (100, .iinc 2 1, 3) :: (103, .goto (-43), 3) :: (106, .iconst 0, 1) :: (107, .istore_n 2, 1) :: (108, .iload_n 2, 1) :: (109, .bipush 12, 2) :: (111, .if_icmp .ge 60, 3) :: (114, .aload_n 0, 1) :: (115, .getfield 45, 3) :: (118, .iload_n 2, 1) :: (119, .aload_n 0, 1) :: (120, .getfield 179, 3) :: (123, .bipush 12, 2) :: (125, .iload_n 1, 1) :: (126, .imul, 1) :: (127, .iload_n 2, 1) :: (128, .iadd, 1) :: (129, .iaload, 1) :: (130, .iastore, 1) :: (131, .aload_n 0, 1) :: (132, .getfield 48, 3) :: (135, .iload_n 2, 1) :: (136, .aload_n 0, 1) :: (137, .getfield 182, 3) :: (140, .bipush 12, 2) :: (142, .iload_n 1, 1) :: (143, .imul, 1) :: (144, .iload_n 2, 1) :: (145, .iadd, 1) :: (146, .iaload, 1) :: (147, .iastore, 1) :: (148, .aload_n 0, 1) :: (149, .getfield 42, 3) :: (152, .iload_n 2, 1) :: (153, .aload_n 0, 1) :: (154, .getfield 185, 3) :: (157, .bipush 12, 2) :: (159, .iload_n 1, 1) :: (160, .imul, 1) :: (161, .iload_n 2, 1) :: (162, .iadd, 1) :: (163, .baload, 1) :: (164, .bastore, 1) :: (165, .iinc 2 1, 3) :: (168, .goto (-60), 3) :: (171, .iconst 1, 1) :: (172, .ireturn, 1) :: [])
set_option maxRecDepth 100000 in
def mX12_count : zMeth := (yX12_count, cX12_count, 4, (some .int), 12, (0, .aload_n 0, 1) :: (1, .iconst 0, 1) :: (2, .putfield 197, 3) :: (5, .iconst 0, 1) :: (6, .istore_n 2, 1) :: (7, .iload_n 1, 1) :: (8, .tableswitch 189 0 11 #[64, 69, 74, 79, 84, 89, 94, 99, 104, 142, 179, 184], 64) :: (72, .aload_n 0, 1) :: (73, .getfield 7, 3) :: (76, .ireturn, 1) :: (77, .aload_n 0, 1) :: (78, .getfield 207, 3) :: (81, .ireturn, 1) :: (82, .aload_n 0, 1) :: (83, .getfield 310, 3) :: (86, .ireturn, 1) :: (87, .aload_n 0, 1) :: (88, .getfield 51, 3) :: (91, .ireturn, 1) :: (92, .aload_n 0, 1) :: (93, .getfield 210, 3) :: (96, .ireturn, 1) :: (97, .aload_n 0, 1) :: (98, .getfield 413, 3) :: (101, .ireturn, 1) :: (102, .aload_n 0, 1) :: (103, .getfield 419, 3) :: (106, .ireturn, 1) :: (107, .aload_n 0, 1) :: (108, .invokevirtual 396, 3) :: (111, .ireturn, 1) :: (112, .iconst 0, 1) :: (113, .istore_n 3, 1) :: (114, .iload_n 3, 1) :: (115, .aload_n 0, 1) :: (116, .getfield 207, 3) :: (119, .if_icmp .ge 29, 3) :: (122, .iload_n 2, 1) :: (123, .aload_n 0, 1) :: (124, .getfield 48, 3) :: (127, .iload_n 3, 1) :: (128, .iaload, 1) :: (129, .iconst (-1), 1) :: (130, .if_icmp .ne 7, 3) :: (133, .iconst 0, 1) :: (134, .goto 6, 3) :: (137, .iconst 1, 1) :: (138, .iload_n 3, 1) :: (139, .ishl, 1) :: (140, .ior, 1) :: (141, .istore_n 2, 1) :: (142, .iinc 3 1, 3) :: (145, .goto (-31), 3) :: (148, .iload_n 2, 1) :: (149, .ireturn, 1) :: (150, .iconst 0, 1) :: (151, .istore_n 3, 1) :: (152, .iload_n 3, 1) :: (153, .aload_n 0, 1) :: (154, .getfield 207, 3) :: (157, .if_icmp .ge 28, 3) :: (160, .iload_n 2, 1) :: (161, .aload_n 0, 1) :: (162, .getfield 42, 3) :: (165, .iload_n 3, 1) :: (166, .baload, 1) :: (167, .ifCond .eq 9, 3) :: (170, .iconst 1, 1) :: (171, .iload_n 3, 1) :: (172, .ishl, 1) :: (173, .goto 4, 3) :: (176, .iconst 0, 1) :: (177, .ior, 1) :: (178, .istore_n 2, 1) :: (179, .iinc 3 1, 3) :: (182, .goto (-30), 3) :: (185, .iload_n 2, 1) :: (186, .ireturn, 1) :: (187, .aload_n 0, 1) :: (188, .getfield 200, 3) :: (191, .ireturn, 1) :: (192, .aload_n 0, 1) :: (193, .getfield 246, 3) :: (196, .ireturn, 1) :: (197, .iconst (-1), 1) :: (198, .ireturn, 1) :: [])
set_option maxRecDepth 100000 in
def mX12_inside : zMeth := (yX12_inside, cX12_inside, 2, (some .int), 12, (0, .aload_n 0, 1) :: (1, .iconst 0, 1) :: (2, .putfield 197, 3) :: (5, .aload_n 0, 1) :: (6, .iload_n 1, 1) :: (7, .invokevirtual 220, 3) :: (10, .ifCond .ne 5, 3) :: (13, .iconst (-1), 1) :: (14, .ireturn, 1) :: (15, .aload_n 0, 1) :: (16, .iconst 0, 1) :: (17, .putfield 200, 3) :: (20, .aload_n 0, 1) :: (21, .getfield 24, 3) :: (24, .iload_n 1, 1) :: (25, .iaload, 1) :: (26, .iconst (-1), 1) :: (27, .if_icmp .eq 13, 3) :: (30, .aload_n 0, 1) :: (31, .aload_n 0, 1) :: (32, .getfield 24, 3) :: (35, .iload_n 1, 1) :: (36, .iaload, 1) :: (37, .invokevirtual 381, 3) :: (40, .aload_n 0, 1) :: (41, .getfield 27, 3) :: (44, .iload_n 1, 1) :: (45, .iaload, 1) :: (46, .iconst (-1), 1) :: (47, .if_icmp .eq 13, 3) :: (50, .aload_n 0, 1) :: (51, .aload_n 0, 1) :: (52, .getfield 27, 3) :: (55, .iload_n 1, 1) :: (56, .iaload, 1) :: (57, .invokevirtual 381, 3) :: (60, .aload_n 0, 1) :: (61, .getfield 200, 3) :: (64, .ireturn, 1) :: [])
set_option maxRecDepth 100000 in
def mX12_row : zMeth := (yX12_row, cX12_row, 2, (some .int), 12, (0, .aload_n 0, 1) :: (1, .iconst 0, 1) :: (2, .putfield 197, 3) :: (5, .iload_n 1, 1) :: (6, .iconst 0, 1) :: (7, .aload_n 0, 1) :: (8, .getfield 200, 3) :: (11, .iconst 1, 1) :: (12, .isub, 1) :: (13, .invokestatic 203, 3) :: (16, .ifCond .eq 12, 3) :: (19, .aload_n 0, 1) :: (20, .getfield 85, 3) :: (23, .iload_n 1, 1) :: (24, .iaload, 1) :: (25, .goto 7, 3) :: (28, .aload_n 0, 1) :: (29, .invokevirtual 319, 3) :: (32, .ireturn, 1) :: [])
set_option maxRecDepth 100000 in
def mJ6_numberOfTrailingZeros_0f7a4 : zMeth := (yJ6_numberOfTrailingZeros_0f7a4, cJ6_numberOfTrailingZeros_0f7a4, 2, (some .int), 14, (0, .iload_n 0, 1) :: (1, .iconst (-1), 1) :: (2, .ixor, 1) :: (3, .iload_n 0, 1) :: (4, .iconst 1, 1) :: (5, .isub, 1) :: (6, .iand, 1) :: (7, .istore_n 0, 1) :: (8, .iload_n 0, 1) :: (9, .ifCond .gt 8, 3) :: (12, .iload_n 0, 1) :: (13, .bipush 32, 2) :: (15, .iand, 1) :: (16, .ireturn, 1) :: (17, .iconst 1, 1) :: (18, .istore_n 1, 1) :: (19, .iload_n 0, 1) :: (20, .ldc_w 264, 3) :: (23, .if_icmp .le 11, 3) :: (26, .iinc 1 16, 3) :: (29, .iload_n 0, 1) :: (30, .bipush 16, 2) :: (32, .iushr, 1) :: (33, .istore_n 0, 1) :: (34, .iload_n 0, 1) :: (35, .sipush 256, 3) :: (38, .if_icmp .le 11, 3) :: (41, .iinc 1 8, 3) :: (44, .iload_n 0, 1) :: (45, .bipush 8, 2) :: (47, .iushr, 1) :: (48, .istore_n 0, 1) :: (49, .iload_n 0, 1) :: (50, .bipush 16, 2) :: (52, .if_icmp .le 10, 3) :: (55, .iinc 1 4, 3) :: (58, .iload_n 0, 1) :: (59, .iconst 4, 1) :: (60, .iushr, 1) :: (61, .istore_n 0, 1) :: (62, .iload_n 0, 1) :: (63, .iconst 4, 1) :: (64, .if_icmp .le 10, 3) :: (67, .iinc 1 2, 3) :: (70, .iload_n 0, 1) :: (71, .iconst 2, 1) :: (72, .iushr, 1) :: (73, .istore_n 0, 1) :: (74, .iload_n 1, 1) :: (75, .iload_n 0, 1) :: (76, .iconst 1, 1) :: (77, .iushr, 1) :: (78, .iadd, 1) :: (79, .ireturn, 1) :: [])
set_option maxRecDepth 100000 in
def mJ6_bitCount_0f7a4 : zMeth := (yJ6_bitCount_0f7a4, cJ6_bitCount_0f7a4, 1, (some .int), 14, (0, .iload_n 0, 1) :: (1, .iload_n 0, 1) :: (2, .iconst 1, 1) :: (3, .iushr, 1) :: (4, .ldc_w 265, 3) :: (7, .iand, 1) :: (8, .isub, 1) :: (9, .istore_n 0, 1) :: (10, .iload_n 0, 1) :: (11, .ldc_w 266, 3) :: (14, .iand, 1) :: (15, .iload_n 0, 1) :: (16, .iconst 2, 1) :: (17, .iushr, 1) :: (18, .ldc_w 266, 3) :: (21, .iand, 1) :: (22, .iadd, 1) :: (23, .istore_n 0, 1) :: (24, .iload_n 0, 1) :: (25, .iload_n 0, 1) :: (26, .iconst 4, 1) :: (27, .iushr, 1) :: (28, .iadd, 1) :: (29, .ldc_w 267, 3) :: (32, .iand, 1) :: (33, .istore_n 0, 1) :: (34, .iload_n 0, 1) :: (35, .iload_n 0, 1) :: (36, .bipush 8, 2) :: (38, .iushr, 1) :: (39, .iadd, 1) :: (40, .istore_n 0, 1) :: (41, .iload_n 0, 1) :: (42, .iload_n 0, 1) :: (43, .bipush 16, 2) :: (45, .iushr, 1) :: (46, .iadd, 1) :: (47, .istore_n 0, 1) :: (48, .iload_n 0, 1) :: (49, .bipush 63, 2) :: (51, .iand, 1) :: (52, .ireturn, 1) :: [])
set_option maxRecDepth 100000 in
def mJ7_fill_d0a16 : zMeth := (yJ7_fill_d0a16, cJ7_fill_d0a16, 5, none, 15, (0, .iconst 0, 1) :: (1, .istore_n 3, 1) :: (2, .aload_n 0, 1) :: (3, .arraylength, 1) :: (4, .istore 4, 2) :: (6, .iload_n 3, 1) :: (7, .iload 4, 2) :: (9, .if_icmp .ge 13, 3) :: (12, .aload_n 0, 1) :: (13, .iload_n 3, 1) :: (14, .lload_n 1, 1) :: (15, .lastore, 1) :: (16, .iinc 3 1, 3) :: (19, .goto (-13), 3) :: (22, .return_, 1) :: [])
set_option maxRecDepth 100000 in
def mJ7_fill_53178 : zMeth := (yJ7_fill_53178, cJ7_fill_53178, 4, none, 15, (0, .iconst 0, 1) :: (1, .istore_n 2, 1) :: (2, .aload_n 0, 1) :: (3, .arraylength, 1) :: (4, .istore_n 3, 1) :: (5, .iload_n 2, 1) :: (6, .iload_n 3, 1) :: (7, .if_icmp .ge 13, 3) :: (10, .aload_n 0, 1) :: (11, .iload_n 2, 1) :: (12, .iload_n 1, 1) :: (13, .iastore, 1) :: (14, .iinc 2 1, 3) :: (17, .goto (-12), 3) :: (20, .return_, 1) :: [])
def zMt_0 : List zMeth := [mX0_isComing, mX0_tellComing, mX0_tellLeaving, mX0_forget, mX0_bestPut, mX0_offerStall, mX0_foreLets, mX0_weight, mX0_joinTo, mX0_mostSeated, mX0_stallsFor, mX0_canSeat, mX0_canSeatAnother, mX0_fixLeast, mX1_canCount, mX1_callUp, mX1_canTake, mX1_share, mX1_tryGrades, mX1_isBetter, mX1_mostTogether, mX1_canCoal, mX2_goThrough, mX2_lightAll, mX2_lightOne]
def zMt_1 : List zMeth := [mX2_waitOnRoad, mX2_comeFromStall, mX2_causeOf, mX2_bestExchange, mX2_canExchange, mX2_swap, mX3_has, mX3_hasOthers, mX3_enlist, mX4_renew, mX4_hasStall, mX4_hasPoint, mX4_stepsBetween, mX4_stallsBetween, mX4_isHood, mX4_readSheet, mX4_asLength, mX5_empty, mX5_tell, mX5_tellOne, mX5_tellTwo, mX6_append, mX6_cut, mX6_adopt, mX6_readLevel]
def zMt_2 : List zMeth := [mX6_readThing, mX6_readCore, mX6_readNumber, mX6_isDigit, mX6_joining, mX6_write, mX6_value, mX7_takeFrom, mX7_onRoad, mX7_isDead, mX7_atBack, mX7_inFrontOf, mX7_inStalls, mX7_lit, mX7_bring, mX8_has, mX8_enlist, mX8_trainOf, mX8_suits, mX8_bestRow, mX8_offerEngine, mX8_tellChosen, mX8_soonestFor, mX8_badlyBehind, mX8_fewestCrews]
def zMt_3 : List zMeth := [mX8_canShare, mX8_canCrew, mX8_beginFires, mX8_litBy, mX8_latestOf, mX8_tellFires, mX8_fewestMen, mX9_bestOrder, mX9_tryOrders, mX9_emptied, mX9_tryBothAway, mX9_tryLastAway, mX9_underHoods, mX9_tryTwoUnder, mX9_tryUnderHood, mX9_fewestWarm, mX9_canWarm, mX10_pointOf, mX10_lengthIn, mX10_inSteamFrom, mX10_inSteam, mX10_mayGo, mX10_isHooded, mX10_isNextHooded, mX10_smoking]
def zMt_4 : List zMeth := [mX10_takesIt, mX10_ruleLets, mX10_minutes, mX10_canStandAt, mX10_canGoTo, mX10_shift, mX10_freeing, mX10_sendOut, mX11_ring, mX11_stall, mX11_sheet, mX11_shut, mX11_set, mX11_steps, mX11_sign, mX11_end, mX11_rule, mX11_engine, mX11_light, mX11_drop, mX11_dead, mX11_of, mX11_takes, mX11_smoke, mX11_pass]
def zMt_5 : List zMeth := [mX11_move, mX11_drag, mX11_free, mX11_order, mX11_clear, mX11_under, mX11_comes, mX11_leaves, mX11_nobody, mX11_put, mX11_room, mX11_coal, mX11_wants, mX11_coaled, mX11_fill, mX11_burns, mX11_train, mX11_plan, mX11_fits, mX11_most, mX11_fails, mX11_soonest, mX11_wrong, mX11_exchange, mX11_crews]
def zMt_6 : List zMeth := [mX11_fires, mX11_men, mX11_frost, mX11_morning, mX11_why, mX11_keep, mX11_again, mX11_count, mX11_inside, mX11_row, mX12_thrown, mX12_in, mX12_lost, mX12_tell, mX12_fresh, mX12_isStall, mX12_isPoint, mX12_isEngine, mX12_isTrain, mX12_isAnyIn, mX12_ring, mX12_lengthIn, mX12_stall, mX12_sheet, mX12_shut]
def zMt_7 : List zMeth := [mX12_set, mX12_stepsOf, mX12_steps, mX12_sign, mX12_end, mX12_here, mX12_fine, mX12_isWrong, mX12_passes, mX12_either, mX12_both, mX12_held, mX12_sum, mX12_thing, mX12_letter, mX12_rule, mX12_isLet, mX12_engine, mX12_isSteaming, mX12_mayGo, mX12_light, mX12_drop, mX12_dead, mX12_pointOf, mX12_isAtBack]
def zMt_8 : List zMeth := [mX12_ahead, mX12_isHooded, mX12_of, mX12_isTaking, mX12_takes, mX12_smoking, mX12_smoke, mX12_pass, mX12_cost, mX12_takeOut, mX12_putIn, mX12_canBe, mX12_bring, mX12_undo, mX12_move, mX12_drag, mX12_freeNow, mX12_free, mX12_offer, mX12_tellBest, mX12_orderFrom, mX12_inStalls, mX12_order, mX12_clearFrom, mX12_clear]
def zMt_9 : List zMeth := [mX12_underFrom, mX12_under, mX12_comes, mX12_leaves, mX12_leaveOf, mX12_nobody, mX12_canStand, mX12_cheapest, mX12_stand, mX12_findSum, mX12_findRow, mX12_put, mX12_findsStall, mX12_mostIn, mX12_room, mX12_coal, mX12_wants, mX12_areEngines, mX12_coalFrom, mX12_canCoal, mX12_coaled, mX12_fill, mX12_coalBy, mX12_burns, mX12_train]
def zMt_10 : List zMeth := [mX12_trainOf, mX12_plan, mX12_isFit, mX12_fits, mX12_worthOf, mX12_findRows, mX12_tellRow, mX12_most, mX12_fails, mX12_soonest, mX12_wrong, mX12_swap, mX12_exchange, mX12_areOnes, mX12_findMen, mX12_crews, mX12_lightFires, mX12_endOf, mX12_fires, mX12_men, mX12_frost, mX12_isWarm, mX12_lightNow, mX12_goThrough, mX12_goTrain]
def zMt_11 : List zMeth := [mX12_morning, mX12_why, mX12_keep, mX12_again, mX12_count, mX12_inside, mX12_row, mJ6_numberOfTrailingZeros_0f7a4, mJ6_bitCount_0f7a4, mJ7_fill_d0a16, mJ7_fill_53178]
def zMts : List zMeth := zMt_0 ++ (zMt_1 ++ (zMt_2 ++ (zMt_3 ++ (zMt_4 ++ (zMt_5 ++ (zMt_6 ++ (zMt_7 ++ (zMt_8 ++ (zMt_9 ++ (zMt_10 ++ (zMt_11)))))))))))
def zMt (k : Nat) : zMeth := zMts.getD k mX0_isComing
/- the numbers of the methods: 0 X0_isComing, 1 X0_tellComing, 2 X0_tellLeaving, 3 X0_forget, 4 X0_bestPut, 5 X0_offerStall, 6 X0_foreLets, 7 X0_weight, 8 X0_joinTo, 9 X0_mostSeated, 10 X0_stallsFor, 11 X0_canSeat, 12 X0_canSeatAnother, 13 X0_fixLeast, 14 X1_canCount, 15 X1_callUp, 16 X1_canTake, 17 X1_share, 18 X1_tryGrades, 19 X1_isBetter, 20 X1_mostTogether, 21 X1_canCoal, 22 X2_goThrough, 23 X2_lightAll, 24 X2_lightOne, 25 X2_waitOnRoad, 26 X2_comeFromStall, 27 X2_causeOf, 28 X2_bestExchange, 29 X2_canExchange, 30 X2_swap, 31 X3_has, 32 X3_hasOthers, 33 X3_enlist, 34 X4_renew, 35 X4_hasStall, 36 X4_hasPoint, 37 X4_stepsBetween, 38 X4_stallsBetween, 39 X4_isHood, 40 X4_readSheet, 41 X4_asLength, 42 X5_empty, 43 X5_tell, 44 X5_tellOne, 45 X5_tellTwo, 46 X6_append, 47 X6_cut, 48 X6_adopt, 49 X6_readLevel, 50 X6_readThing, 51 X6_readCore, 52 X6_readNumber, 53 X6_isDigit, 54 X6_joining, 55 X6_write, 56 X6_value, 57 X7_takeFrom, 58 X7_onRoad, 59 X7_isDead, 60 X7_atBack, 61 X7_inFrontOf, 62 X7_inStalls, 63 X7_lit, 64 X7_bring, 65 X8_has, 66 X8_enlist, 67 X8_trainOf, 68 X8_suits, 69 X8_bestRow, 70 X8_offerEngine, 71 X8_tellChosen, 72 X8_soonestFor, 73 X8_badlyBehind, 74 X8_fewestCrews, 75 X8_canShare, 76 X8_canCrew, 77 X8_beginFires, 78 X8_litBy, 79 X8_latestOf, 80 X8_tellFires, 81 X8_fewestMen, 82 X9_bestOrder, 83 X9_tryOrders, 84 X9_emptied, 85 X9_tryBothAway, 86 X9_tryLastAway, 87 X9_underHoods, 88 X9_tryTwoUnder, 89 X9_tryUnderHood, 90 X9_fewestWarm, 91 X9_canWarm, 92 X10_pointOf, 93 X10_lengthIn, 94 X10_inSteamFrom, 95 X10_inSteam, 96 X10_mayGo, 97 X10_isHooded, 98 X10_isNextHooded, 99 X10_smoking, 100 X10_takesIt, 101 X10_ruleLets, 102 X10_minutes, 103 X10_canStandAt, 104 X10_canGoTo, 105 X10_shift, 106 X10_freeing, 107 X10_sendOut, 108 X11_ring, 109 X11_stall, 110 X11_sheet, 111 X11_shut, 112 X11_set, 113 X11_steps, 114 X11_sign, 115 X11_end, 116 X11_rule, 117 X11_engine, 118 X11_light, 119 X11_drop, 120 X11_dead, 121 X11_of, 122 X11_takes, 123 X11_smoke, 124 X11_pass, 125 X11_move, 126 X11_drag, 127 X11_free, 128 X11_order, 129 X11_clear, 130 X11_under, 131 X11_comes, 132 X11_leaves, 133 X11_nobody, 134 X11_put, 135 X11_room, 136 X11_coal, 137 X11_wants, 138 X11_coaled, 139 X11_fill, 140 X11_burns, 141 X11_train, 142 X11_plan, 143 X11_fits, 144 X11_most, 145 X11_fails, 146 X11_soonest, 147 X11_wrong, 148 X11_exchange, 149 X11_crews, 150 X11_fires, 151 X11_men, 152 X11_frost, 153 X11_morning, 154 X11_why, 155 X11_keep, 156 X11_again, 157 X11_count, 158 X11_inside, 159 X11_row, 160 X12_thrown, 161 X12_in, 162 X12_lost, 163 X12_tell, 164 X12_fresh, 165 X12_isStall, 166 X12_isPoint, 167 X12_isEngine, 168 X12_isTrain, 169 X12_isAnyIn, 170 X12_ring, 171 X12_lengthIn, 172 X12_stall, 173 X12_sheet, 174 X12_shut, 175 X12_set, 176 X12_stepsOf, 177 X12_steps, 178 X12_sign, 179 X12_end, 180 X12_here, 181 X12_fine, 182 X12_isWrong, 183 X12_passes, 184 X12_either, 185 X12_both, 186 X12_held, 187 X12_sum, 188 X12_thing, 189 X12_letter, 190 X12_rule, 191 X12_isLet, 192 X12_engine, 193 X12_isSteaming, 194 X12_mayGo, 195 X12_light, 196 X12_drop, 197 X12_dead, 198 X12_pointOf, 199 X12_isAtBack, 200 X12_ahead, 201 X12_isHooded, 202 X12_of, 203 X12_isTaking, 204 X12_takes, 205 X12_smoking, 206 X12_smoke, 207 X12_pass, 208 X12_cost, 209 X12_takeOut, 210 X12_putIn, 211 X12_canBe, 212 X12_bring, 213 X12_undo, 214 X12_move, 215 X12_drag, 216 X12_freeNow, 217 X12_free, 218 X12_offer, 219 X12_tellBest, 220 X12_orderFrom, 221 X12_inStalls, 222 X12_order, 223 X12_clearFrom, 224 X12_clear, 225 X12_underFrom, 226 X12_under, 227 X12_comes, 228 X12_leaves, 229 X12_leaveOf, 230 X12_nobody, 231 X12_canStand, 232 X12_cheapest, 233 X12_stand, 234 X12_findSum, 235 X12_findRow, 236 X12_put, 237 X12_findsStall, 238 X12_mostIn, 239 X12_room, 240 X12_coal, 241 X12_wants, 242 X12_areEngines, 243 X12_coalFrom, 244 X12_canCoal, 245 X12_coaled, 246 X12_fill, 247 X12_coalBy, 248 X12_burns, 249 X12_train, 250 X12_trainOf, 251 X12_plan, 252 X12_isFit, 253 X12_fits, 254 X12_worthOf, 255 X12_findRows, 256 X12_tellRow, 257 X12_most, 258 X12_fails, 259 X12_soonest, 260 X12_wrong, 261 X12_swap, 262 X12_exchange, 263 X12_areOnes, 264 X12_findMen, 265 X12_crews, 266 X12_lightFires, 267 X12_endOf, 268 X12_fires, 269 X12_men, 270 X12_frost, 271 X12_isWarm, 272 X12_lightNow, 273 X12_goThrough, 274 X12_goTrain, 275 X12_morning, 276 X12_why, 277 X12_keep, 278 X12_again, 279 X12_count, 280 X12_inside, 281 X12_row, 282 J6_numberOfTrailingZeros_0f7a4, 283 J6_bitCount_0f7a4, 284 J7_fill_d0a16, 285 J7_fill_53178 -/
end
section
/-! THE FRAME: a method's memory as whole numbers, its walk as a condition that is computed out of its code ('zwp'). What it means on the machine: 'zT', 'zCall'. -/
def zget : zL → Nat → Option zV
  | [], _ => none
  | v :: _, 0 => v
  | _ :: l, n + 1 => zget l n
def zset : zL → Nat → Option zV → zL
  | [], _, _ => []
  | _ :: l, 0, v => v :: l
  | a :: l, n + 1, v => a :: zset l n v
/-- a long at the place below goes -/
def zkill (lv : zL) (i : Nat) : zL := match i with
  | 0 => lv
  | j + 1 => match zget lv j with
    | some (.inr (.inl _)) => zset lv j none
    | _ => lv
def zst1 (lv : zL) (i : Nat) (v : zV) : zL := zset (zkill lv i) i (some v)
def zst2 (lv : zL) (i : Nat) (v : zV) : zL := zset (zset (zkill lv i) i (some v)) (i + 1) none
def znth {α : Type} : List α → Nat → Option α
  | [], _ => none
  | v :: _, 0 => some v
  | _ :: l, n + 1 => znth l n
def zlook {α : Type} : List (Nat × α) → Nat → Option α
  | [], _ => none
  | q :: l, n => match Nat.beq q.1 n with
    | true => some q.2
    | false => zlook l n
/-- the code from a place on -/
def zto : zC → Nat → zC
  | [], _ => []
  | q :: l, n => match Nat.beq q.1 n with
    | true => q :: l
    | false => zto l n
-- numbers
def zw (x : Int) : Int := (x + 2147483648) % 4294967296 - 2147483648
def zx (x : Int) : Int := (x + 9223372036854775808) % 18446744073709551616 - 9223372036854775808
def zI32 (x : Int) : Prop := -2147483648 ≤ x ∧ x ≤ 2147483647
def zI64 (x : Int) : Prop := -9223372036854775808 ≤ x ∧ x ≤ 9223372036854775807
def zand (x y : Int) : Int := (Int32.ofInt x &&& Int32.ofInt y).toInt
def zor (x y : Int) : Int := (Int32.ofInt x ||| Int32.ofInt y).toInt
def zxor (x y : Int) : Int := (Int32.ofInt x ^^^ Int32.ofInt y).toInt
def zshl (x y : Int) : Int := (Int32.ofInt x <<< (Int32.ofInt y &&& 31)).toInt
def zshr (x y : Int) : Int := (Int32.ofInt x >>> (Int32.ofInt y &&& 31)).toInt
def zushr (x y : Int) : Int := ((Int32.ofInt x).toUInt32 >>> ((Int32.ofInt y).toUInt32 &&& Int32.toUInt32 31)).toInt32.toInt
def zi2b (x : Int) : Int := (Int32.ofInt x).toInt8.toInt32.toInt
def zi2s (x : Int) : Int := (Int32.ofInt x).toInt16.toInt32.toInt
def zi2c (x : Int) : Int := ((Int32.ofInt x).toUInt32 % 65536).toInt32.toInt
def zabs (x : Int) : Int := if 0 ≤ x then x else zw (0 - x)
def zcmp (x y : Int) : Int := if y < x then 1 else if x = y then 0 else -1
-- memory
def zU (μ : zM) (j : Nat) (i v : Int) : zM := fun a b => if a = j ∧ b = i then v else μ a b
/-- cells from sp on of j' come to j from dp on -/
def zcp (μ : zM) (j' : Nat) (sp : Int) (j : Nat) (dp n : Int) : zM := fun a b => if a = j ∧ dp ≤ b ∧ b < dp + n then μ j' (b - dp + sp) else μ a b
-- what stands on the stack
def z1 (st : List zV) (f : Int → List zV → Prop) : Prop := match st with
  | .inl x :: r => f x r
  | _ => False
def z2 (st : List zV) (f : Int → Int → List zV → Prop) : Prop := match st with
  | .inl y :: .inl x :: r => f x y r
  | _ => False
def zl1 (st : List zV) (f : Int → List zV → Prop) : Prop := match st with
  | .inr (.inl x) :: r => f x r
  | _ => False
def zl2 (st : List zV) (f : Int → Int → List zV → Prop) : Prop := match st with
  | .inr (.inl y) :: .inr (.inl x) :: r => f x y r
  | _ => False
def zr1 (st : List zV) (f : zT0 → Nat → List zV → Prop) : Prop := match st with
  | .inr (.inr (t, j)) :: r => f t j r
  | _ => False
/-- an array and an index -/
def zai (st : List zV) (f : Int → Nat → Nat → Nat → List zV → Prop) : Prop := match st with
  | .inl i :: .inr (.inr ((t, n), j)) :: r => f i t n j r
  | _ => False
/-- an array, an index, an int -/
def zaii (st : List zV) (f : Int → Int → Nat → Nat → Nat → List zV → Prop) : Prop := match st with
  | .inl x :: .inl i :: .inr (.inr ((t, n), j)) :: r => f x i t n j r
  | _ => False
def zail (st : List zV) (f : Int → Int → Nat → Nat → Nat → List zV → Prop) : Prop := match st with
  | .inr (.inl x) :: .inl i :: .inr (.inr ((t, n), j)) :: r => f x i t n j r
  | _ => False
def zon (b : Bool) (P : Prop) : Prop := match b with
  | true => P
  | false => False
def zis (t : zT0) (a b : Nat) : Bool := match Nat.beq t.1 a with
  | true => Nat.beq t.2 b
  | false => false
def zcat : zV → Nat
  | .inr (.inl _) => 2
  | _ => 1
def zcats : List zV → Nat
  | [] => 0
  | v :: r => zcat v + zcats r
def zpop : Nat → List zV → List zV → Option (List zV × List zV)
  | 0, st, acc => some (acc, st)
  | _ + 1, [], _ => none
  | n + 1, v :: st, acc => zpop n st (v :: acc)
def zcond (c : ClassFile.Cond) (x y : Int) (A B : Prop) : Prop := match c with
  | .eq => (x = y → A) ∧ (¬ x = y → B)
  | .ne => (¬ x = y → A) ∧ (x = y → B)
  | .lt => (x < y → A) ∧ (y ≤ x → B)
  | .ge => (y ≤ x → A) ∧ (x < y → B)
  | .gt => (y < x → A) ∧ (x ≤ y → B)
  | .le => (x ≤ y → A) ∧ (y < x → B)
def ztab (x : Int) (f : Int → Prop) : Int → List Int → Prop
  | _, [] => True
  | v, o :: os => (x = v → f o) ∧ ztab x f (v + 1) os
def zlsw (x : Int) (f : Int → Prop) (dflt : Int) : List (Int × Int) → Prop
  | [] => f dflt
  | q :: ps => (x = q.1 → f q.2) ∧ (¬ x = q.1 → zlsw x f dflt ps)
def zalts (v : Int) (f : zT0 → Nat → Prop) : List (zT0 × Nat) → Prop
  | [] => False
  | (t, a) :: l => (v = (a : Int) ∧ f t a) ∨ zalts v f l
def zfi (c k : Nat) : Option zFI := match znth zFl c with
  | some l => znth l k
  | none => none
def zpe (own idx : Nat) : Option zPE := match znth zPl own with
  | some l => zlook l idx
  | none => none
def zmask (ms : List Nat) : Nat → zL → zL
  | _, [] => []
  | k, v :: l => (match ms.contains k with
    | true => v
    | false => none) :: zmask ms (k + 1) l
def zcut : List (Nat × List Nat) → Nat → Option (List Nat)
  | [], _ => none
  | q :: l, pc => match Nat.beq q.1 pc with
    | true => some q.2
    | false => zcut l pc
end
section
/-! WHAT THE FRAME MEANS on the machine -/
/-- the launch; class numbers and slots of vwCl; the classes of my arrays; where my cells lie; how many cells there were -/
abbrev zG : Type := Launch × (Nat → ClassId) × (Nat → Nat → Nat) × (Nat → ClassId) × (Nat → Nat) × Nat
abbrev zD (g : zG) : va_G := (g.2.1, g.2.2.1)
abbrev zcA (g : zG) : Nat → ClassId := g.2.2.2.1
abbrev zad (g : zG) : Nat → Nat := g.2.2.2.2.1
def zA (g : zG) : Nat → Prop := fun q => g.2.2.2.2.2 ≤ q
def zR (g : zG) : zV → Value
  | .inl x => .int (Int32.ofInt x)
  | .inr (.inl x) => .long (Int64.ofInt x)
  | .inr (.inr q) => .ref (zad g q.2)
def zok : zV → Prop
  | .inl x => zI32 x
  | .inr (.inl x) => zI64 x
  | .inr (.inr q) => zSh[q.2]? = some q.1 ∨ q = ((6, 6), 1000) ∨ q = ((6, 8), 1001)
def zFv (g : zG) (j : Nat) (m : Int → Int) (k : Nat) : zFI → Value
  | .inl _ => .int (Int32.ofInt (m k))
  | .inr (.inl (_, .inl a)) => .ref (zad g a)
  | .inr (.inl (_, .inr o)) => .ref (zad g (j + o))
  | .inr (.inr _) => if m k < 0 then .null else .ref (zad g (m k).toNat)
def zFs (g : zG) (j : Nat) (m : Int → Int) : Nat → List zFI → List Value
  | _, [] => []
  | k, fi :: l => zFv g j m k fi :: zFs g j m (k + 1) l
def zE (g : zG) (j : Nat) (t : zT0) (m : Int → Int) : va_E := match t.1 with
  | 0 => .inr (t.2, zFs g j m 0 (zFl.getD t.2 []))
  | 1 => .inl (zcA g 0, t.2, .inl (fun i => Int32.ofInt (m i)))
  | 2 => .inl (zcA g 1, t.2, .inl (fun i => Int32.ofInt (m i)))
  | 3 => .inl (zcA g 2, t.2, .inl (fun i => Int32.ofInt (m i)))
  | 4 => .inl (zcA g 3, t.2, .inr (.inl (fun i => Int64.ofInt (m i))))
  | _ => .inl (zcA g 4, t.2, .inr (.inr (.inr (.inr (fun i => some (zad g (zBs j + 5 * i)))))))
def zWs (g : zG) (μ : zM) : Nat → List zT0 → va_W
  | _, [] => []
  | k, t :: l => (zad g k, zE g k t (μ k)) :: zWs g μ (k + 1) l
def zW (g : zG) (μ : zM) : va_W := zWs g μ 0 zSh
/-- what a number at that place may be -/
def zfit (t : zT0) (i : Int) (v : Int) : Prop := match t.1 with
  | 0 => match (zFl.getD t.2 [])[i.toNat]? with
    | some (.inl 0) => zI32 v
    | some (.inl _) => v = 0 ∨ v = 1
    | _ => True
  | 1 => zI32 v
  | 2 => v = 0 ∨ v = 1
  | 3 => -128 ≤ v ∧ v ≤ 127
  | 4 => zI64 v
  | _ => True
def zMok (μ : zM) : Prop := ∀ (j : Nat) (t : zT0) (i : Int), zSh[j]? = some t → 0 ≤ i → (t.1 = 0 → i.toNat < (zFl.getD t.2 []).length) → (¬ t.1 = 0 → i < t.2) → zfit t i (μ j i)
def zRel (g : zG) (μ : zM) (H : Heap) : Prop := va_P (zD g) vwCl (zW g μ) H ∧ zMok μ
def zTy (g : zG) : List (ClassId × FieldType) := [(zcA g 0, .int), (zcA g 1, .boolean), (zcA g 2, .byte), (zcA g 3, .long), (zcA g 4, .object RX7)]
def zRW (g : zG) : va_W := [(zad g 1000, .inl (zcA g 3, 6, .inr (.inl (fun i => Int64.ofInt (zRo 1000 i))))), (zad g 1001, .inl (zcA g 3, 8, .inr (.inl (fun i => Int64.ofInt (zRo 1001 i)))))]
def zAd (g : zG) : Prop := (∀ i j : Nat, i < 177 → j < 177 → zad g i = zad g j → i = j) ∧ (∀ i : Nat, i < 177 → zA g (zad g i)) ∧ ¬ zA g (zad g 1000) ∧ ¬ zA g (zad g 1001)
def zNst : Cond → Bool
  | .fieldLinkNest _ _ _ _ _ _ => true
  | _ => false
/-- the words of nest mates' fields -/
def zNw : List Cond := lw_tbl.filter zNst
def zSt (g : zG) (U : State) : Prop := va_K (zD g) vwCl (zTy g) U ∧ zAd g ∧ va_Z RX0 "PLACE" "[J" (.ref (zad g 1000)) (zA g) U U.heap ∧ va_Z RX8 "PLACE" "[J" (.ref (zad g 1001)) (zA g) U U.heap ∧ va_P (zD g) vwCl (zRW g) U.heap ∧ ∀ w ∈ zNw, va_Nw w U
def zTb : List Cond := lw_tbl.filter goodWord
def zCx (g : zG) (d : Nat) (M : zMeth) (p : Program) (R : Room) (s : State) (m : MethodId) (args : Array Value) (c : Code) (cells slots : Nat) : Prop :=
  p.tables.exec = Jvm.exec ∧ c.code = M.2.1 ∧ c.maxLocals = M.2.2.1 ∧ s.vm.findClass (zOwn.getD M.2.2.2.2.1 "") = some m.cls ∧ (∀ w ∈ zTb, w.before args s = true) ∧ zSt g s ∧ d ≤ R.frames ∧ 64 * d ≤ R.locals ∧ cells ≤ R.cells ∧ slots ≤ R.slots
def zHas (g : zG) (ls : Array Slot) (nL : Nat) (lv : zL) : Prop := ls.size = nL ∧ lv_wf ls ∧ ∀ (i : Nat) (v : zV), zget lv i = some v → ls[i]? = some (.val (zR g v))
def zret (M : zMeth) (pc : Nat) : Option zV → Prop
  | none => decode M.2.1 pc = .ok (.return_, 1) ∧ M.2.2.2.1 = none
  | some (.inl x) => decode M.2.1 pc = .ok (.ireturn, 1) ∧ (M.2.2.2.1 = some .int ∨ M.2.2.2.1 = some .boolean ∧ (x = 0 ∨ x = 1))
  | some (.inr (.inl _)) => decode M.2.1 pc = .ok (.lreturn, 1) ∧ M.2.2.2.1 = some .long
  | _ => False
def zokO (v : Option zV) : Prop := ∀ x, v = some x → zok x
/-- from this place of the method's code, with these locals and this stack, it comes to a return with K -/
def zTm (g : zG) (d : Nat) (M : zMeth) (K : Option zV → zM → Prop) (pc : Nat) (lv : zL) (st : List zV) (μ : zM) : Prop :=
  ∀ (p : Program) (e : Env) (R : Room) (s : State) (m : MethodId) (args : Array Value) (below : List Frame) (meth : Method) (c : Code) (H : Heap) (locs : List Loc) (cells slots : Nat) (Q : State → Prop) (ls : Array Slot),
    zCx g d M p R s m args c cells slots → zHas g ls M.2.2.1 lv → (∀ v ∈ st, zok v) → (∀ (i : Nat) (v : zV), zget lv i = some v → zok v) → zRel g μ H → va_S (zA g) s.heap H locs →
    (∀ (v : Option zV) (μ' : zM) (H' : Heap) (locs' : List Loc) (ls' : Array Slot) (pc' : Nat), zRel g μ' H' → va_S (zA g) s.heap H' locs' → zokO v → K v μ' → zret M pc' v → W p g.1 e R s m args below meth c H' locs' cells slots Q (F0 m pc' ls' (v.toList.map (zR g)))) →
    W p g.1 e R s m args below meth c H locs cells slots Q (F0 m pc ls (st.map (zR g)))
def zws (M : zMeth) : List Cond := Cond.code M.1 M.2.1 M.2.2.1 M.2.2.2.1 :: zTb
def zrm (d : Nat) : Room := { frames := d, cells := 0, slots := 0, locals := 64 * d }
def zPc (g : zG) (av : List zV) (μ : zM) : Array Value → State → Prop := fun a U => a = (av.map (zR g)).toArray ∧ (∀ v ∈ av, zok v) ∧ zRel g μ U.heap ∧ zSt g U
def zQc (g : zG) (K : Option zV → zM → Prop) : Array Value → State → Outcome → State → Prop := fun _ st o t => ∃ (v : Option zV) (μ' : zM), o = .returned (v.map (zR g)) ∧ zokO v ∧ zRel g μ' t.heap ∧ K v μ' ∧ va_F (zA g) st t
/-- a call of the method: it returns with K -/
def zCal0 (g : zG) (d : Nat) (k : Nat) (av : List zV) (μ : zM) (K : Option zV → zM → Prop) : Prop := Met g.1 (zMt k).1 (zws (zMt k)) (zrm d) (zPc g av μ) (zQc g K) 0 0 (zA g)
/-- (what a walk comes to, shut so that it is not opened by chance) -/
def zT (g : zG) (d : Nat) (M : zMeth) (K : Option zV → zM → Prop) (pc : Nat) (lv : zL) (st : List zV) (μ : zM) : Prop := zTm g d M K pc lv st μ ∨ False
def zCall (g : zG) (d : Nat) (k : Nat) (av : List zV) (μ : zM) (K : Option zV → zM → Prop) : Prop := zCal0 g d k av μ K ∨ False
/-- one instruction -/
def zgo (g : zG) (d : Nat) (M : zMeth) (K : Option zV → zM → Prop) (k : zC → zL → List zV → zM → Prop) (pc : Nat) (ins : Instr) (r : zC) (lv : zL) (st : List zV) (μ : zM) : Prop := match ins with
  | .iconst n => k r lv (.inl n :: st) μ
  | .bipush n => k r lv (.inl n :: st) μ
  | .sipush n => k r lv (.inl n :: st) μ
  | .lconst n => k r lv (.inr (.inl (n : Nat)) :: st) μ
  | .ldc i => match zpe M.2.2.2.2.1 i with
    | some (4, _, v) => k r lv (.inl v :: st) μ
    | _ => False
  | .ldc_w i => match zpe M.2.2.2.2.1 i with
    | some (4, _, v) => k r lv (.inl v :: st) μ
    | _ => False
  | .ldc2_w i => match zpe M.2.2.2.2.1 i with
    | some (5, _, v) => k r lv (.inr (.inl v) :: st) μ
    | _ => False
  | .iload_n n => match zget lv n with
    | some (.inl x) => k r lv (.inl x :: st) μ
    | _ => False
  | .iload n => match zget lv n with
    | some (.inl x) => k r lv (.inl x :: st) μ
    | _ => False
  | .lload_n n => match zget lv n with
    | some (.inr (.inl x)) => k r lv (.inr (.inl x) :: st) μ
    | _ => False
  | .lload n => match zget lv n with
    | some (.inr (.inl x)) => k r lv (.inr (.inl x) :: st) μ
    | _ => False
  | .aload_n n => match zget lv n with
    | some (.inr (.inr q)) => k r lv (.inr (.inr q) :: st) μ
    | _ => False
  | .aload n => match zget lv n with
    | some (.inr (.inr q)) => k r lv (.inr (.inr q) :: st) μ
    | _ => False
  | .istore_n n => z1 st fun x st => k r (zst1 lv n (.inl x)) st μ
  | .istore n => z1 st fun x st => k r (zst1 lv n (.inl x)) st μ
  | .lstore n => zl1 st fun x st => k r (zst2 lv n (.inr (.inl x))) st μ
  | .astore_n n => zr1 st fun t j st => k r (zst1 lv n (.inr (.inr (t, j)))) st μ
  | .astore n => zr1 st fun t j st => k r (zst1 lv n (.inr (.inr (t, j)))) st μ
  | .iinc i n => match zget lv i with
    | some (.inl x) => k r (zst1 lv i (.inl (zw (x + n)))) st μ
    | _ => False
  | .iadd => z2 st fun x y st => k r lv (.inl (zw (x + y)) :: st) μ
  | .isub => z2 st fun x y st => k r lv (.inl (zw (x - y)) :: st) μ
  | .imul => z2 st fun x y st => k r lv (.inl (zw (x * y)) :: st) μ
  | .idiv => z2 st fun x y st => ¬ y = 0 ∧ k r lv (.inl (zw (Int.tdiv x y)) :: st) μ
  | .ineg => z1 st fun x st => k r lv (.inl (zw (-x)) :: st) μ
  | .iand => z2 st fun x y st => k r lv (.inl (zand x y) :: st) μ
  | .ior => z2 st fun x y st => k r lv (.inl (zor x y) :: st) μ
  | .ixor => z2 st fun x y st => k r lv (.inl (zxor x y) :: st) μ
  | .ishl => z2 st fun x y st => k r lv (.inl (zshl x y) :: st) μ
  | .ishr => z2 st fun x y st => k r lv (.inl (zshr x y) :: st) μ
  | .iushr => z2 st fun x y st => k r lv (.inl (zushr x y) :: st) μ
  | .i2b => z1 st fun x st => k r lv (.inl (zi2b x) :: st) μ
  | .i2s => z1 st fun x st => k r lv (.inl (zi2s x) :: st) μ
  | .i2c => z1 st fun x st => k r lv (.inl (zi2c x) :: st) μ
  | .i2l => z1 st fun x st => k r lv (.inr (.inl x) :: st) μ
  | .l2i => zl1 st fun x st => k r lv (.inl (zw x) :: st) μ
  | .ladd => zl2 st fun x y st => k r lv (.inr (.inl (zx (x + y))) :: st) μ
  | .lsub => zl2 st fun x y st => k r lv (.inr (.inl (zx (x - y))) :: st) μ
  | .lmul => zl2 st fun x y st => k r lv (.inr (.inl (zx (x * y))) :: st) μ
  | .ldiv => zl2 st fun x y st => ¬ y = 0 ∧ k r lv (.inr (.inl (zx (Int.tdiv x y))) :: st) μ
  | .lrem => zl2 st fun x y st => ¬ y = 0 ∧ k r lv (.inr (.inl (zx (Int.tmod x y))) :: st) μ
  | .lcmp => zl2 st fun x y st => k r lv (.inl (zcmp x y) :: st) μ
  | .dup => match st with
    | .inl x :: st => k r lv (.inl x :: .inl x :: st) μ
    | .inr (.inr q) :: st => k r lv (.inr (.inr q) :: .inr (.inr q) :: st) μ
    | _ => False
  | .dup_x1 => match st with
    | .inl x :: .inr (.inr q) :: st => k r lv (.inl x :: .inr (.inr q) :: .inl x :: st) μ
    | _ => False
  | .dup2 => match st with
    | .inl i :: .inr (.inr q) :: st => k r lv (.inl i :: .inr (.inr q) :: .inl i :: .inr (.inr q) :: st) μ
    | _ => False
  | .pop => match st with
    | .inl _ :: st => k r lv st μ
    | _ => False
  | .goto o => k (zto M.2.2.2.2.2 ((pc : Int) + o).toNat) lv st μ
  | .ifCond c o => z1 st fun x st => zcond c x 0 (k (zto M.2.2.2.2.2 ((pc : Int) + o).toNat) lv st μ) (k r lv st μ)
  | .if_icmp c o => z2 st fun x y st => zcond c x y (k (zto M.2.2.2.2.2 ((pc : Int) + o).toNat) lv st μ) (k r lv st μ)
  | .tableswitch dflt lo hi offs => z1 st fun x st => (x < lo ∨ hi < x → k (zto M.2.2.2.2.2 ((pc : Int) + dflt).toNat) lv st μ) ∧ ztab x (fun o => k (zto M.2.2.2.2.2 ((pc : Int) + o).toNat) lv st μ) lo offs.toList
  | .lookupswitch dflt ps => z1 st fun x st => zlsw x (fun o => k (zto M.2.2.2.2.2 ((pc : Int) + o).toNat) lv st μ) dflt ps.toList
  | .getfield i => match zpe M.2.2.2.2.1 i with
    | some (_, c, f) => zr1 st fun t j st => zon (zis t 0 c) (match zfi c f.toNat with
      | some (.inl _) => k r lv (.inl (μ j f) :: st) μ
      | some (.inr (.inl (t', .inl a))) => k r lv (.inr (.inr (t', a)) :: st) μ
      | some (.inr (.inl (t', .inr o))) => k r lv (.inr (.inr (t', j + o)) :: st) μ
      | some (.inr (.inr l)) => zalts (μ j f) (fun t' a => k r lv (.inr (.inr (t', a)) :: st) μ) l
      | none => False)
    | none => False
  | .putfield i => match zpe M.2.2.2.2.1 i with
    | some (_, c, f) => match st with
      | .inl x :: .inr (.inr (t, j)) :: st => zon (zis t 0 c) (match zfi c f.toNat with
        | some (.inl 0) => k r lv st (zU μ j f x)
        | some (.inl _) => (x = 0 ∨ x = 1) ∧ k r lv st (zU μ j f x)
        | _ => False)
      | .inr (.inr (tw, w)) :: .inr (.inr (t, j)) :: st => zon (zis t 0 c) (match zfi c f.toNat with
        | some (.inr (.inr l)) => zon (l.contains (tw, w)) (k r lv st (zU μ j f w))
        | _ => False)
      | _ => False
    | none => False
  | .getstatic i => match zpe M.2.2.2.2.1 i with
    | some (6, 1000, _) => k r lv (.inr (.inr ((6, 6), 1000)) :: st) μ
    | some (6, _, _) => k r lv (.inr (.inr ((6, 8), 1001)) :: st) μ
    | _ => False
  | .iaload => zai st fun i t n j st => zon (Nat.beq t 1) ((0 ≤ i ∧ i < n) ∧ k r lv (.inl (μ j i) :: st) μ)
  | .baload => zai st fun i t n j st => zon (Nat.beq t 2 || Nat.beq t 3) ((0 ≤ i ∧ i < n) ∧ k r lv (.inl (μ j i) :: st) μ)
  | .laload => zai st fun i t n j st => match t with
    | 4 => (0 ≤ i ∧ i < n) ∧ k r lv (.inr (.inl (μ j i)) :: st) μ
    | 6 => (0 ≤ i ∧ i < n) ∧ k r lv (.inr (.inl (zRo j i)) :: st) μ
    | _ => False
  | .aaload => zai st fun i t n j st => zon (Nat.beq t 5) ((0 ≤ i ∧ i < n) ∧ k r lv (.inr (.inr ((0, 7), zBs j + 5 * i.toNat)) :: st) μ)
  | .iastore => zaii st fun x i t n j st => zon (Nat.beq t 1) ((0 ≤ i ∧ i < n) ∧ k r lv st (zU μ j i x))
  | .bastore => zaii st fun x i t n j st => match t with
    | 2 => (0 ≤ i ∧ i < n) ∧ (x = 0 ∨ x = 1) ∧ k r lv st (zU μ j i x)
    | 3 => (0 ≤ i ∧ i < n) ∧ (-128 ≤ x ∧ x ≤ 127) ∧ k r lv st (zU μ j i x)
    | _ => False
  | .lastore => zail st fun x i t n j st => zon (Nat.beq t 4) ((0 ≤ i ∧ i < n) ∧ k r lv st (zU μ j i x))
  | .arraylength => zr1 st fun t _ st => zon (Nat.beq t.1 1 || Nat.beq t.1 4) (k r lv (.inl t.2 :: st) μ)
  | .invokevirtual i => match zpe M.2.2.2.2.1 i with
    | some (2, id, n) => match zpop (n.toNat % 100 + 1) st [] with
      | some (.inr (.inr q) :: as, rest) => zon (zis q.1 0 (n.toNat / 100) && Nat.ble (zcats rest) 8) (0 < d ∧ zCall g (d - 1) id (.inr (.inr q) :: as) μ (fun v μ' => k r lv (v.toList ++ rest) μ'))
      | _ => False
    | _ => False
  | .invokestatic i => match zpe M.2.2.2.2.1 i with
    | some (3, id, n) => match zpop n.toNat st [] with
      | some (as, rest) => zon (Nat.ble (zcats rest) 8) (0 < d ∧ zCall g (d - 1) id as μ (fun v μ' => k r lv (v.toList ++ rest) μ'))
      | none => False
    | some (7, 0, _) => z2 st fun x y st => zon (Nat.ble (zcats st) 8) (0 < d ∧ k r lv (.inl (max x y) :: st) μ)
    | some (7, 1, _) => z2 st fun x y st => zon (Nat.ble (zcats st) 8) (0 < d ∧ k r lv (.inl (min x y) :: st) μ)
    | some (7, 2, _) => z1 st fun x st => zon (Nat.ble (zcats st) 8) (0 < d ∧ k r lv (.inl (zabs x) :: st) μ)
    | some (7, 4, _) => zl2 st fun x y st => zon (Nat.ble (zcats st) 8) (0 < d ∧ k r lv (.inr (.inl (min x y)) :: st) μ)
    | some (7, 3, _) => match st with
      | .inl n :: .inl dp :: .inr (.inr ((k1, m1), j)) :: .inl sp :: .inr (.inr ((k2, m2), j')) :: st => zon (Nat.ble (zcats st) 8 && (Nat.beq k1 1 && Nat.beq k2 1 || Nat.beq k1 4 && Nat.beq k2 4))
          (0 < d ∧ ¬ j = j' ∧ (0 ≤ sp ∧ 0 ≤ dp ∧ 0 ≤ n ∧ sp + n ≤ m2 ∧ dp + n ≤ m1) ∧ k r lv st (zcp μ j' sp j dp n))
      | _ => False
    | _ => False
  | .ireturn => match st, M.2.2.2.1 with
    | [.inl x], some .int => K (some (.inl x)) μ
    | [.inl x], some .boolean => (x = 0 ∨ x = 1) ∧ K (some (.inl x)) μ
    | _, _ => False
  | .lreturn => match st, M.2.2.2.1 with
    | [.inr (.inl x)], some .long => K (some (.inr (.inl x))) μ
    | _, _ => False
  | .return_ => match st, M.2.2.2.1 with
    | [], none => K none μ
    | _, _ => False
  | _ => False
/-- the walk from a place on: to returns, to the cuts, or till n instructions are through -/
def zwp (g : zG) (d : Nat) (M : zMeth) (cuts : List (Nat × List Nat)) (K : Option zV → zM → Prop) : Nat → zC → zL → List zV → zM → Prop
  | _, [], _, _, _ => False
  | 0, q :: _, lv, st, μ => zT g d M K q.1 lv st μ
  | n + 1, q :: r, lv, st, μ => match zcut cuts q.1 with
    | some ms => zT g d M K q.1 (zmask ms 0 lv) st μ
    | none => zgo g d M K (zwp g d M cuts K n) q.1 q.2.1 r lv st μ
/-- the same, whose first instruction is no cut -/
def zrun (g : zG) (d : Nat) (M : zMeth) (cuts : List (Nat × List Nat)) (K : Option zV → zM → Prop) (n : Nat) (C : zC) (lv : zL) (st : List zV) (μ : zM) : Prop := match C with
  | [] => False
  | q :: r => zgo g d M K (zwp g d M cuts K n) q.1 q.2.1 r lv st μ
end
section
/-! numbers and lists under the frame -/
theorem zof_w (x : Int) : Int32.ofInt (zw x) = Int32.ofInt x := by
  rw [Int32.ofInt_eq_iff_bmod_eq_toInt, Int32.toInt_ofInt]
  simp only [zw, Int.bmod, Int32.size]
  omega
theorem zI32_w (x : Int) : zI32 (zw x) := by
  unfold zI32 zw
  omega
theorem zto_of {x : Int} (h : zI32 x) : (Int32.ofInt x).toInt = x := Int32.toInt_ofInt_of_le (by have := h.1; omega) (by have := h.2; omega)
theorem zI32_to (x : Int32) : zI32 x.toInt := ⟨by have := x.le_toInt; omega, by have := x.toInt_lt; omega⟩
theorem zw_id {x : Int} (h : zI32 x) : zw x = x := by
  unfold zI32 at h
  unfold zw
  omega
theorem zof_x (x : Int) : Int64.ofInt (zx x) = Int64.ofInt x := by
  rw [Int64.ofInt_eq_iff_bmod_eq_toInt, Int64.toInt_ofInt]
  simp only [zx, Int.bmod, Int64.size]
  omega
theorem zI64_x (x : Int) : zI64 (zx x) := by
  unfold zI64 zx
  omega
theorem zto_ofL {x : Int} (h : zI64 x) : (Int64.ofInt x).toInt = x := Int64.toInt_ofInt_of_le (by have := h.1; omega) (by have := h.2; omega)
theorem zx_id {x : Int} (h : zI64 x) : zx x = x := by
  unfold zI64 at h
  unfold zx
  omega
theorem zI64_32 {x : Int} (h : zI32 x) : zI64 x := by
  unfold zI32 at h
  unfold zI64
  omega
theorem zof_inj {x y : Int} (hx : zI32 x) (hy : zI32 y) : Int32.ofInt x = Int32.ofInt y ↔ x = y := ⟨fun h => by rw [← zto_of hx, ← zto_of hy, h], fun h => by rw [h]⟩
theorem zof_lt {x y : Int} (hx : zI32 x) (hy : zI32 y) : Int32.ofInt x < Int32.ofInt y ↔ x < y := by
  rw [Int32.lt_iff_toInt_lt, zto_of hx, zto_of hy]
theorem zof_le {x y : Int} (hx : zI32 x) (hy : zI32 y) : Int32.ofInt x ≤ Int32.ofInt y ↔ x ≤ y := by
  rw [Int32.le_iff_toInt_le, zto_of hx, zto_of hy]
theorem zI32_0 : zI32 0 := by unfold zI32; omega
theorem zof_0 : Int32.ofInt 0 = 0 := rfl
theorem zof_toN {x : Int} (h : zI32 x) : (Int32.ofInt x).toNatClampNeg = x.toNat := Int32.toNatClampNeg_ofInt_of_le (by have := h.1; omega) (by have := h.2; omega)
theorem zofL_inj {x y : Int} (hx : zI64 x) (hy : zI64 y) : Int64.ofInt x = Int64.ofInt y ↔ x = y := ⟨fun h => by rw [← zto_ofL hx, ← zto_ofL hy, h], fun h => by rw [h]⟩
theorem zofL_lt {x y : Int} (hx : zI64 x) (hy : zI64 y) : Int64.ofInt x < Int64.ofInt y ↔ x < y := by
  rw [Int64.lt_iff_toInt_lt, zto_ofL hx, zto_ofL hy]
theorem zdiv_of {x y : Int} (hx : zI32 x) (hy : zI32 y) : Int32.ofInt x / Int32.ofInt y = Int32.ofInt (zw (Int.tdiv x y)) := by
  rw [zof_w]
  apply Int32.toInt_inj.1
  rw [Int32.toInt_div, zto_of hx, zto_of hy, Int32.toInt_ofInt]
theorem zdivL_of {x y : Int} (hx : zI64 x) (hy : zI64 y) : Int64.ofInt x / Int64.ofInt y = Int64.ofInt (zx (Int.tdiv x y)) := by
  rw [zof_x]
  apply Int64.toInt_inj.1
  rw [Int64.toInt_div, zto_ofL hx, zto_ofL hy, Int64.toInt_ofInt]
theorem zmodL2 {x y : Int} (hx : zI64 x) (hy : zI64 y) : Int64.ofInt x - Int64.ofInt x / Int64.ofInt y * Int64.ofInt y = Int64.ofInt (zx (Int.tmod x y)) := by
  rw [zdivL_of hx hy, zof_x, zof_x, ← Int64.ofInt_mul, ← Int64.ofInt_sub, Int.tmod_def, Int.mul_comm]
theorem zcmp_of {x y : Int} (hx : zI64 x) (hy : zI64 y) : lg_cmp (Int64.ofInt x) (Int64.ofInt y) = Int32.ofInt (zcmp x y) := by
  unfold lg_cmp zcmp
  have e1 : (Int64.ofInt x > Int64.ofInt y) ↔ y < x := zofL_lt hy hx
  have e2 := zofL_inj hx hy
  by_cases h1 : y < x
  · rw [if_pos (e1.mpr h1), if_pos h1]; rfl
  · rw [if_neg (fun h => h1 (e1.mp h)), if_neg h1]
    by_cases h2 : x = y
    · rw [if_pos (e2.mpr h2), if_pos h2]; rfl
    · rw [if_neg (fun h => h2 (e2.mp h)), if_neg h2]; rfl
theorem zI32_cmp (x y : Int) : zI32 (zcmp x y) := by
  unfold zI32 zcmp
  split
  · omega
  · split <;> omega
theorem znth_eq {α : Type} (l : List α) (k : Nat) : znth l k = l[k]? := by
  induction l generalizing k with
  | nil => simp [znth]
  | cons a l ih => cases k with
    | zero => simp [znth]
    | succ n => simp [znth, ih]
theorem zget_set (lv : zL) (i j : Nat) (v : Option zV) : zget (zset lv i v) j = if j = i ∧ i < lv.length then v else zget lv j := by
  induction lv generalizing i j with
  | nil => simp [zset, zget]
  | cons a l ih => cases i with
    | zero => cases j with
      | zero => simp [zset, zget]
      | succ n => simp [zset, zget]
    | succ i => cases j with
      | zero => simp [zset, zget]
      | succ j => simp [zset, zget, ih]
theorem zset_length (lv : zL) (i : Nat) (v : Option zV) : (zset lv i v).length = lv.length := by
  induction lv generalizing i with
  | nil => simp [zset]
  | cons a l ih => cases i <;> simp [zset, ih]
theorem zkill_get {lv : zL} {i j : Nat} {v : zV} (h : zget (zkill lv i) j = some v) : zget lv j = some v ∧ (j + 1 = i → ∀ x, ¬ v = .inr (.inl x)) := by
  unfold zkill at h
  cases i with
  | zero => exact ⟨h, fun e => by omega⟩
  | succ n =>
    simp only at h
    cases hn : zget lv n with
    | none =>
      rw [hn] at h
      refine ⟨h, fun e x => ?_⟩
      obtain rfl : j = n := by omega
      rw [hn] at h; cases h
    | some w =>
      rw [hn] at h
      rcases w with x0 | x0 | q0
      · refine ⟨h, fun e x e2 => ?_⟩
        obtain rfl : j = n := by omega
        subst e2
        have h : zget lv j = some _ := h
        rw [hn] at h; cases h
      · have h : zget (zset lv n none) j = some v := h
        rw [zget_set] at h
        split at h
        · cases h
        · rename_i hne
          refine ⟨h, fun e x e2 => ?_⟩
          obtain rfl : j = n := by omega
          apply hne
          refine ⟨rfl, ?_⟩
          by_cases hl : j < lv.length
          · exact hl
          · exfalso
            have hz : ∀ (l : zL) (i : Nat), l.length ≤ i → zget l i = none := by
              intro l
              induction l with
              | nil => intro i _; rfl
              | cons a l ih => intro i hi; cases i with
                | zero => simp at hi
                | succ i => simp only [zget]; exact ih i (by simpa using hi)
            rw [hz lv j (by omega)] at hn; cases hn
      · refine ⟨h, fun e x e2 => ?_⟩
        obtain rfl : j = n := by omega
        subst e2
        have h : zget lv j = some _ := h
        rw [hn] at h; cases h
end
section
/-! THE FRAME ON THE MACHINE, a row an instruction (laid in part by program) -/
section ZS
variable {g : zG} {d : Nat} {M : zMeth} {K : Option zV → zM → Prop} {pc : Nat} {lv : zL} {st : List zV} {μ : zM} {x y : Int}
theorem zok1 {v w : zV} (hs : ∀ v ∈ w :: st, zok v) (hv : zok v) : ∀ u ∈ v :: st, zok u := fun u hu => by
  rcases List.mem_cons.mp hu with rfl | h
  · exact hv
  · exact hs _ (List.mem_cons_of_mem _ h)
theorem zok2 {v w1 w2 : zV} (hs : ∀ v ∈ w1 :: w2 :: st, zok v) (hv : zok v) : ∀ u ∈ v :: st, zok u := fun u hu => by
  rcases List.mem_cons.mp hu with rfl | h
  · exact hv
  · exact hs _ (List.mem_cons_of_mem _ (List.mem_cons_of_mem _ h))
theorem zok0 {v : zV} (hs : ∀ v ∈ st, zok v) (hv : zok v) : ∀ u ∈ v :: st, zok u := fun u hu => by
  rcases List.mem_cons.mp hu with rfl | h
  · exact hv
  · exact hs _ h
theorem zokt {v : zV} (hs : ∀ u ∈ v :: st, zok u) : ∀ u ∈ st, zok u := fun u hu => hs _ (List.mem_cons_of_mem _ hu)
theorem zokh {v : zV} (hs : ∀ u ∈ v :: st, zok u) : zok v := hs _ List.mem_cons_self
theorem zokh2 {v w : zV} (hs : ∀ u ∈ w :: v :: st, zok u) : zok v := hs _ (List.mem_cons_of_mem _ List.mem_cons_self)
theorem zTm.keep {pc' : Nat} {st' : List zV} (h : zTm g d M K pc' lv st' μ) (hok : (∀ v ∈ st, zok v) → (∀ (i : Nat) (v : zV), zget lv i = some v → zok v) → zMok μ → ∀ v ∈ st', zok v)
    (hw : ∀ (p : Program) (e : Env) (R : Room) (s : State) (m : MethodId) (args : Array Value) (below : List Frame) (meth : Method) (c : Code) (H : Heap) (locs : List Loc) (cells slots : Nat) (Q : State → Prop) (ls : Array Slot),
      zCx g d M p R s m args c cells slots → zHas g ls M.2.2.1 lv → (∀ v ∈ st, zok v) → zRel g μ H → va_S (zA g) s.heap H locs → W p g.1 e R s m args below meth c H locs cells slots Q (F0 m pc' ls (st'.map (zR g))) → W p g.1 e R s m args below meth c H locs cells slots Q (F0 m pc ls (st.map (zR g)))) : zTm g d M K pc lv st μ := by
  intro p e R s m args below meth c H locs cells slots Q ls C hl hs hv hr hS hret
  exact hw p e R s m args below meth c H locs cells slots Q ls C hl hs hr hS (h p e R s m args below meth c H locs cells slots Q ls C hl (hok hs hv hr.2) hv hr hS hret)
/-- what the memory holds may be used -/
theorem zTm.mem (h : zMok μ → zTm g d M K pc lv st μ) : zTm g d M K pc lv st μ := by
  intro p e R s m args below meth c H locs cells slots Q ls C hl hs hv hr hS hret
  exact h hr.2 p e R s m args below meth c H locs cells slots Q ls C hl hs hv hr hS hret
/-- what the locals hold may be used -/
theorem zTm.loc (h : (∀ (i : Nat) (v : zV), zget lv i = some v → zok v) → zTm g d M K pc lv st μ) : zTm g d M K pc lv st μ := by
  intro p e R s m args below meth c H locs cells slots Q ls C hl hs hv hr hS hret
  exact h hv p e R s m args below meth c H locs cells slots Q ls C hl hs hv hr hS hret
/-- fewer locals -/
theorem zTm.less {lv' : zL} (h : zTm g d M K pc lv' st μ) (hl' : ∀ (i : Nat) (v : zV), zget lv' i = some v → zget lv i = some v) : zTm g d M K pc lv st μ := by
  intro p e R s m args below meth c H locs cells slots Q ls C hl hs hv hr hS hret
  exact h p e R s m args below meth c H locs cells slots Q ls C ⟨hl.1, hl.2.1, fun i v hi => hl.2.2 i v (hl' i v hi)⟩ hs (fun i v hi => hv i v (hl' i v hi)) hr hS hret
theorem zTm.imp {K' : Option zV → zM → Prop} (h : zTm g d M K' pc lv st μ) (hK : ∀ v μ', K' v μ' → K v μ') : zTm g d M K pc lv st μ := by
  intro p e R s m args below meth c H locs cells slots Q ls C hl hs hv hr hS hret
  exact h p e R s m args below meth c H locs cells slots Q ls C hl hs hv hr hS (fun v μ' H' locs' ls' pc' h1 h2 h3 h4 h5 => hret v μ' H' locs' ls' pc' h1 h2 h3 (hK _ _ h4) h5)
theorem zs_iconst {n : Int} (hd : decode M.2.1 pc = .ok (.iconst n, 1)) (hn : zI32 n) (h : zTm g d M K (pc + 1) lv (.inl n :: st) μ) : zTm g d M K pc lv st μ := h.keep (fun hs _ _ => zok0 hs hn) (fun p e R s m args below meth c H locs cells slots Q ls C hl hs hr hS k => lv_iconst (v := Int32.ofInt n) C.1 C.2.1 hd rfl k)
theorem zof_8 {n : Int} (h : -128 ≤ n ∧ n ≤ 127) : (Int8.ofInt n).toInt32 = Int32.ofInt n := by
  rw [← Int32.ofInt_int8ToInt, Int8.toInt_ofInt_of_le (by omega) (by omega)]
theorem zof_16 {n : Int} (h : -32768 ≤ n ∧ n ≤ 32767) : (Int16.ofInt n).toInt32 = Int32.ofInt n := by
  rw [← Int32.ofInt_int16ToInt, Int16.toInt_ofInt_of_le (by omega) (by omega)]
theorem zs_bipush {n : Int} (hd : decode M.2.1 pc = .ok (.bipush n, 2)) (hn : -128 ≤ n ∧ n ≤ 127) (h : zTm g d M K (pc + 2) lv (.inl n :: st) μ) : zTm g d M K pc lv st μ := h.keep (fun hs _ _ => zok0 hs (by show zI32 n; unfold zI32; omega)) (fun p e R s m args below meth c H locs cells slots Q ls C hl hs hr hS k => lv_bipush (v := Int32.ofInt n) C.1 C.2.1 hd (zof_8 hn) k)
theorem zs_sipush {n : Int} (hd : decode M.2.1 pc = .ok (.sipush n, 3)) (hn : -32768 ≤ n ∧ n ≤ 32767) (h : zTm g d M K (pc + 3) lv (.inl n :: st) μ) : zTm g d M K pc lv st μ := h.keep (fun hs _ _ => zok0 hs (by show zI32 n; unfold zI32; omega)) (fun p e R s m args below meth c H locs cells slots Q ls C hl hs hr hS k => lv_sipush (v := Int32.ofInt n) C.1 C.2.1 hd (zof_16 hn) k)
theorem zs_lconst {n : Fin 2} (hd : decode M.2.1 pc = .ok (.lconst n, 1)) (h : zTm g d M K (pc + 1) lv (.inr (.inl (n : Nat)) :: st) μ) : zTm g d M K pc lv st μ := h.keep (fun hs _ _ => zok0 hs (by show zI64 ((n : Nat) : Int); have := n.isLt; unfold zI64; omega)) (fun p e R s m args below meth c H locs cells slots Q ls C hl hs hr hS k => lv_lconst (v := Int64.ofInt (n : Nat)) C.1 C.2.1 hd rfl k)
theorem zs_iload_n {n : Fin 4} (hd : decode M.2.1 pc = .ok (.iload_n n, 1)) (hx : zget lv n = some (.inl x)) (h : zTm g d M K (pc + 1) lv (.inl x :: st) μ) : zTm g d M K pc lv st μ := h.keep (fun hs hv _ => zok0 hs (hv _ _ hx)) (fun p e R s m args below meth c H locs cells slots Q ls C hl hs hr hS k => lv_iload_n C.1 C.2.1 hd rfl (hl.2.2 _ _ hx) k)
theorem zs_iload {n : Nat} (hd : decode M.2.1 pc = .ok (.iload n, 2)) (hx : zget lv n = some (.inl x)) (h : zTm g d M K (pc + 2) lv (.inl x :: st) μ) : zTm g d M K pc lv st μ := h.keep (fun hs hv _ => zok0 hs (hv _ _ hx)) (fun p e R s m args below meth c H locs cells slots Q ls C hl hs hr hS k => lv_iload C.1 C.2.1 hd (hl.2.2 _ _ hx) k)
theorem zs_lload_n {n : Fin 4} (hd : decode M.2.1 pc = .ok (.lload_n n, 1)) (hx : zget lv n = some (.inr (.inl x))) (h : zTm g d M K (pc + 1) lv (.inr (.inl x) :: st) μ) : zTm g d M K pc lv st μ := h.keep (fun hs hv _ => zok0 hs (hv _ _ hx)) (fun p e R s m args below meth c H locs cells slots Q ls C hl hs hr hS k => lv_lload_n C.1 C.2.1 hd rfl (hl.2.2 _ _ hx) k)
theorem zs_lload {n : Nat} (hd : decode M.2.1 pc = .ok (.lload n, 2)) (hx : zget lv n = some (.inr (.inl x))) (h : zTm g d M K (pc + 2) lv (.inr (.inl x) :: st) μ) : zTm g d M K pc lv st μ := h.keep (fun hs hv _ => zok0 hs (hv _ _ hx)) (fun p e R s m args below meth c H locs cells slots Q ls C hl hs hr hS k => lv_lload C.1 C.2.1 hd (hl.2.2 _ _ hx) k)
theorem zs_aload_n {n : Fin 4} {q : zT0 × Nat} (hd : decode M.2.1 pc = .ok (.aload_n n, 1)) (hx : zget lv n = some (.inr (.inr q))) (h : zTm g d M K (pc + 1) lv (.inr (.inr q) :: st) μ) : zTm g d M K pc lv st μ := h.keep (fun hs hv _ => zok0 hs (hv _ _ hx)) (fun p e R s m args below meth c H locs cells slots Q ls C hl hs hr hS k => lv_aload_n C.1 C.2.1 hd rfl (hl.2.2 _ _ hx) k)
theorem zs_aload {n : Nat} {q : zT0 × Nat} (hd : decode M.2.1 pc = .ok (.aload n, 2)) (hx : zget lv n = some (.inr (.inr q))) (h : zTm g d M K (pc + 2) lv (.inr (.inr q) :: st) μ) : zTm g d M K pc lv st μ := h.keep (fun hs hv _ => zok0 hs (hv _ _ hx)) (fun p e R s m args below meth c H locs cells slots Q ls C hl hs hr hS k => lv_aload C.1 C.2.1 hd (hl.2.2 _ _ hx) k)
theorem zs_iadd (hd : decode M.2.1 pc = .ok (.iadd, 1)) (h : zTm g d M K (pc + 1) lv (.inl (zw (x + y)) :: st) μ) : zTm g d M K pc lv (.inl y :: .inl x :: st) μ := h.keep (fun hs _ _ => zok2 hs (zI32_w _)) (fun p e R s m args below meth c H locs cells slots Q ls C hl hs hr hS k => lv_iadd (x := Int32.ofInt x) (y := Int32.ofInt y) C.1 C.2.1 hd (by have e9 : Int32.ofInt x + Int32.ofInt y = Int32.ofInt (zw (x + y)) := (by rw [zof_w, Int32.ofInt_add]); rw [e9]; exact k))
theorem zs_isub (hd : decode M.2.1 pc = .ok (.isub, 1)) (h : zTm g d M K (pc + 1) lv (.inl (zw (x - y)) :: st) μ) : zTm g d M K pc lv (.inl y :: .inl x :: st) μ := h.keep (fun hs _ _ => zok2 hs (zI32_w _)) (fun p e R s m args below meth c H locs cells slots Q ls C hl hs hr hS k => lv_isub (x := Int32.ofInt x) (y := Int32.ofInt y) C.1 C.2.1 hd (by have e9 : Int32.ofInt x - Int32.ofInt y = Int32.ofInt (zw (x - y)) := (by rw [zof_w, Int32.ofInt_sub]); rw [e9]; exact k))
theorem zs_imul (hd : decode M.2.1 pc = .ok (.imul, 1)) (h : zTm g d M K (pc + 1) lv (.inl (zw (x * y)) :: st) μ) : zTm g d M K pc lv (.inl y :: .inl x :: st) μ := h.keep (fun hs _ _ => zok2 hs (zI32_w _)) (fun p e R s m args below meth c H locs cells slots Q ls C hl hs hr hS k => lv_imul (x := Int32.ofInt x) (y := Int32.ofInt y) C.1 C.2.1 hd (by have e9 : Int32.ofInt x * Int32.ofInt y = Int32.ofInt (zw (x * y)) := (by rw [zof_w, Int32.ofInt_mul]); rw [e9]; exact k))
theorem zs_iand (hd : decode M.2.1 pc = .ok (.iand, 1)) (h : zTm g d M K (pc + 1) lv (.inl (zand x y) :: st) μ) : zTm g d M K pc lv (.inl y :: .inl x :: st) μ := h.keep (fun hs _ _ => zok2 hs (zI32_to _)) (fun p e R s m args below meth c H locs cells slots Q ls C hl hs hr hS k => lv_iand (x := Int32.ofInt x) (y := Int32.ofInt y) C.1 C.2.1 hd (by have e9 : Int32.ofInt x &&& Int32.ofInt y = Int32.ofInt (zand x y) := (by rw [zand, Int32.ofInt_toInt]); rw [e9]; exact k))
theorem zs_ior (hd : decode M.2.1 pc = .ok (.ior, 1)) (h : zTm g d M K (pc + 1) lv (.inl (zor x y) :: st) μ) : zTm g d M K pc lv (.inl y :: .inl x :: st) μ := h.keep (fun hs _ _ => zok2 hs (zI32_to _)) (fun p e R s m args below meth c H locs cells slots Q ls C hl hs hr hS k => lv_ior (x := Int32.ofInt x) (y := Int32.ofInt y) C.1 C.2.1 hd (by have e9 : Int32.ofInt x ||| Int32.ofInt y = Int32.ofInt (zor x y) := (by rw [zor, Int32.ofInt_toInt]); rw [e9]; exact k))
theorem zs_ixor (hd : decode M.2.1 pc = .ok (.ixor, 1)) (h : zTm g d M K (pc + 1) lv (.inl (zxor x y) :: st) μ) : zTm g d M K pc lv (.inl y :: .inl x :: st) μ := h.keep (fun hs _ _ => zok2 hs (zI32_to _)) (fun p e R s m args below meth c H locs cells slots Q ls C hl hs hr hS k => lv_ixor (x := Int32.ofInt x) (y := Int32.ofInt y) C.1 C.2.1 hd (by have e9 : Int32.ofInt x ^^^ Int32.ofInt y = Int32.ofInt (zxor x y) := (by rw [zxor, Int32.ofInt_toInt]); rw [e9]; exact k))
theorem zs_ishl (hd : decode M.2.1 pc = .ok (.ishl, 1)) (h : zTm g d M K (pc + 1) lv (.inl (zshl x y) :: st) μ) : zTm g d M K pc lv (.inl y :: .inl x :: st) μ := h.keep (fun hs _ _ => zok2 hs (zI32_to _)) (fun p e R s m args below meth c H locs cells slots Q ls C hl hs hr hS k => lv_ishl (x := Int32.ofInt x) (y := Int32.ofInt y) C.1 C.2.1 hd (by have e9 : Int32.ofInt x <<< (Int32.ofInt y &&& 31) = Int32.ofInt (zshl x y) := (by rw [zshl, Int32.ofInt_toInt]); rw [e9]; exact k))
theorem zs_ishr (hd : decode M.2.1 pc = .ok (.ishr, 1)) (h : zTm g d M K (pc + 1) lv (.inl (zshr x y) :: st) μ) : zTm g d M K pc lv (.inl y :: .inl x :: st) μ := h.keep (fun hs _ _ => zok2 hs (zI32_to _)) (fun p e R s m args below meth c H locs cells slots Q ls C hl hs hr hS k => lv_ishr (x := Int32.ofInt x) (y := Int32.ofInt y) C.1 C.2.1 hd (by have e9 : Int32.ofInt x >>> (Int32.ofInt y &&& 31) = Int32.ofInt (zshr x y) := (by rw [zshr, Int32.ofInt_toInt]); rw [e9]; exact k))
theorem zs_iushr (hd : decode M.2.1 pc = .ok (.iushr, 1)) (h : zTm g d M K (pc + 1) lv (.inl (zushr x y) :: st) μ) : zTm g d M K pc lv (.inl y :: .inl x :: st) μ := h.keep (fun hs _ _ => zok2 hs (zI32_to _)) (fun p e R s m args below meth c H locs cells slots Q ls C hl hs hr hS k => lv_iushr (x := Int32.ofInt x) (y := Int32.ofInt y) (v := Int32.ofInt (zushr x y)) C.1 C.2.1 hd (by rw [zushr, Int32.ofInt_toInt]) k)
theorem zs_idiv (hd : decode M.2.1 pc = .ok (.idiv, 1)) (hy : ¬ y = 0) (h : zTm g d M K (pc + 1) lv (.inl (zw (Int.tdiv x y)) :: st) μ) : zTm g d M K pc lv (.inl y :: .inl x :: st) μ := h.keep (fun hs _ _ => zok2 hs (zI32_w _)) (fun p e R s m args below meth c H locs cells slots Q ls C hl hs hr hS k => lv_idiv (x := Int32.ofInt x) (y := Int32.ofInt y) C.1 C.2.1 hd (fun e9 => hy ((zof_inj (zokh hs) zI32_0).mp e9)) (by rw [zdiv_of (zokh2 hs) (zokh hs)]; exact k))
theorem zs_ineg (hd : decode M.2.1 pc = .ok (.ineg, 1)) (h : zTm g d M K (pc + 1) lv (.inl (zw (-x)) :: st) μ) : zTm g d M K pc lv (.inl x :: st) μ := h.keep (fun hs _ _ => zok1 hs (zI32_w _)) (fun p e R s m args below meth c H locs cells slots Q ls C hl hs hr hS k => lv_ineg (x := Int32.ofInt x) C.1 C.2.1 hd (by have e9 : - Int32.ofInt x = Int32.ofInt (zw (-x)) := (by rw [zof_w, Int32.ofInt_neg]); rw [e9]; exact k))
theorem zs_i2b (hd : decode M.2.1 pc = .ok (.i2b, 1)) (h : zTm g d M K (pc + 1) lv (.inl (zi2b x) :: st) μ) : zTm g d M K pc lv (.inl x :: st) μ := h.keep (fun hs _ _ => zok1 hs (zI32_to _)) (fun p e R s m args below meth c H locs cells slots Q ls C hl hs hr hS k => lv_i2b (x := Int32.ofInt x) (v := Int32.ofInt (zi2b x)) C.1 C.2.1 hd (by rw [zi2b, Int32.ofInt_toInt]) k)
theorem zs_i2s (hd : decode M.2.1 pc = .ok (.i2s, 1)) (h : zTm g d M K (pc + 1) lv (.inl (zi2s x) :: st) μ) : zTm g d M K pc lv (.inl x :: st) μ := h.keep (fun hs _ _ => zok1 hs (zI32_to _)) (fun p e R s m args below meth c H locs cells slots Q ls C hl hs hr hS k => lv_i2s (x := Int32.ofInt x) (v := Int32.ofInt (zi2s x)) C.1 C.2.1 hd (by rw [zi2s, Int32.ofInt_toInt]) k)
theorem zs_i2c (hd : decode M.2.1 pc = .ok (.i2c, 1)) (h : zTm g d M K (pc + 1) lv (.inl (zi2c x) :: st) μ) : zTm g d M K pc lv (.inl x :: st) μ := h.keep (fun hs _ _ => zok1 hs (zI32_to _)) (fun p e R s m args below meth c H locs cells slots Q ls C hl hs hr hS k => lv_i2c (x := Int32.ofInt x) (v := Int32.ofInt (zi2c x)) C.1 C.2.1 hd (by rw [zi2c, Int32.ofInt_toInt]) k)
theorem zs_i2l (hd : decode M.2.1 pc = .ok (.i2l, 1)) (h : zTm g d M K (pc + 1) lv (.inr (.inl x) :: st) μ) : zTm g d M K pc lv (.inl x :: st) μ := h.keep (fun hs _ _ => zok1 hs (zI64_32 (zokh hs))) (fun p e R s m args below meth c H locs cells slots Q ls C hl hs hr hS k => lv_i2l (x := Int32.ofInt x) (v := Int64.ofInt x) C.1 C.2.1 hd (by rw [← Int64.ofInt_int32ToInt, zto_of (zokh hs)]) k)
theorem zs_l2i (hd : decode M.2.1 pc = .ok (.l2i, 1)) (h : zTm g d M K (pc + 1) lv (.inl (zw x) :: st) μ) : zTm g d M K pc lv (.inr (.inl x) :: st) μ := h.keep (fun hs _ _ => zok1 hs (zI32_w _)) (fun p e R s m args below meth c H locs cells slots Q ls C hl hs hr hS k => lv_l2i (x := Int64.ofInt x) (v := Int32.ofInt (zw x)) C.1 C.2.1 hd (by rw [Int64.toInt32_ofInt, zof_w]) k)
theorem zs_ladd (hd : decode M.2.1 pc = .ok (.ladd, 1)) (h : zTm g d M K (pc + 1) lv (.inr (.inl (zx (x + y))) :: st) μ) : zTm g d M K pc lv (.inr (.inl y) :: .inr (.inl x) :: st) μ := h.keep (fun hs _ _ => zok2 hs (zI64_x _)) (fun p e R s m args below meth c H locs cells slots Q ls C hl hs hr hS k => lv_ladd (x := Int64.ofInt x) (y := Int64.ofInt y) C.1 C.2.1 hd (by have e9 : Int64.ofInt x + Int64.ofInt y = Int64.ofInt (zx (x + y)) := (by rw [zof_x, Int64.ofInt_add]); rw [e9]; exact k))
theorem zs_lsub (hd : decode M.2.1 pc = .ok (.lsub, 1)) (h : zTm g d M K (pc + 1) lv (.inr (.inl (zx (x - y))) :: st) μ) : zTm g d M K pc lv (.inr (.inl y) :: .inr (.inl x) :: st) μ := h.keep (fun hs _ _ => zok2 hs (zI64_x _)) (fun p e R s m args below meth c H locs cells slots Q ls C hl hs hr hS k => lv_lsub (x := Int64.ofInt x) (y := Int64.ofInt y) C.1 C.2.1 hd (by have e9 : Int64.ofInt x - Int64.ofInt y = Int64.ofInt (zx (x - y)) := (by rw [zof_x, Int64.ofInt_sub]); rw [e9]; exact k))
theorem zs_lmul (hd : decode M.2.1 pc = .ok (.lmul, 1)) (h : zTm g d M K (pc + 1) lv (.inr (.inl (zx (x * y))) :: st) μ) : zTm g d M K pc lv (.inr (.inl y) :: .inr (.inl x) :: st) μ := h.keep (fun hs _ _ => zok2 hs (zI64_x _)) (fun p e R s m args below meth c H locs cells slots Q ls C hl hs hr hS k => lv_lmul (x := Int64.ofInt x) (y := Int64.ofInt y) C.1 C.2.1 hd (by have e9 : Int64.ofInt x * Int64.ofInt y = Int64.ofInt (zx (x * y)) := (by rw [zof_x, Int64.ofInt_mul]); rw [e9]; exact k))
theorem zs_ldiv (hd : decode M.2.1 pc = .ok (.ldiv, 1)) (hy : ¬ y = 0) (h : zTm g d M K (pc + 1) lv (.inr (.inl (zx (Int.tdiv x y))) :: st) μ) : zTm g d M K pc lv (.inr (.inl y) :: .inr (.inl x) :: st) μ := h.keep (fun hs _ _ => zok2 hs (zI64_x _)) (fun p e R s m args below meth c H locs cells slots Q ls C hl hs hr hS k => lv_ldiv (x := Int64.ofInt x) (y := Int64.ofInt y) C.1 C.2.1 hd (fun e9 => hy ((zofL_inj (zokh hs) (by unfold zI64; omega)).mp e9)) (by rw [zdivL_of (zokh2 hs) (zokh hs)]; exact k))
theorem zs_lrem (hd : decode M.2.1 pc = .ok (.lrem, 1)) (hy : ¬ y = 0) (h : zTm g d M K (pc + 1) lv (.inr (.inl (zx (Int.tmod x y))) :: st) μ) : zTm g d M K pc lv (.inr (.inl y) :: .inr (.inl x) :: st) μ := h.keep (fun hs _ _ => zok2 hs (zI64_x _)) (fun p e R s m args below meth c H locs cells slots Q ls C hl hs hr hS k => lv_lrem (x := Int64.ofInt x) (y := Int64.ofInt y) C.1 C.2.1 hd (fun e9 => hy ((zofL_inj (zokh hs) (by unfold zI64; omega)).mp e9)) (by rw [zmodL2 (zokh2 hs) (zokh hs)]; exact k))
theorem zs_lcmp (hd : decode M.2.1 pc = .ok (.lcmp, 1)) (h : zTm g d M K (pc + 1) lv (.inl (zcmp x y) :: st) μ) : zTm g d M K pc lv (.inr (.inl y) :: .inr (.inl x) :: st) μ := h.keep (fun hs _ _ => zok2 hs (zI32_cmp _ _)) (fun p e R s m args below meth c H locs cells slots Q ls C hl hs hr hS k => W.lcmp (x := Int64.ofInt x) (y := Int64.ofInt y) C.1 C.2.1 hd (by rw [zcmp_of (zokh2 hs) (zokh hs)]; exact k))
theorem zcat_of {v : zV} (h : zcat v = 1) : (zR g v).category = 1 := by rcases v with a | a | a <;> first | rfl | cases h
theorem zs_dup {v : zV} (hd : decode M.2.1 pc = .ok (.dup, 1)) (hc : zcat v = 1) (h : zTm g d M K (pc + 1) lv (v :: v :: st) μ) : zTm g d M K pc lv (v :: st) μ := h.keep (fun hs _ _ => zok0 hs (zokh hs)) (fun p e R s m args below meth c H locs cells slots Q ls C hl hs hr hS k => lv_dup C.1 C.2.1 hd (zcat_of hc) k)
theorem zs_pop {v : zV} (hd : decode M.2.1 pc = .ok (.pop, 1)) (hc : zcat v = 1) (h : zTm g d M K (pc + 1) lv st μ) : zTm g d M K pc lv (v :: st) μ := h.keep (fun hs _ _ => zokt hs) (fun p e R s m args below meth c H locs cells slots Q ls C hl hs hr hS k => lv_pop C.1 C.2.1 hd (zcat_of hc) k)
theorem zs_dup_x1 {v w : zV} (hd : decode M.2.1 pc = .ok (.dup_x1, 1)) (hc : zcat v = 1) (hc2 : zcat w = 1) (h : zTm g d M K (pc + 1) lv (v :: w :: v :: st) μ) : zTm g d M K pc lv (v :: w :: st) μ := h.keep (fun hs _ _ => zok0 (zok0 (zok0 (zokt (zokt hs)) (zokh hs)) (zokh2 hs)) (zokh hs)) (fun p e R s m args below meth c H locs cells slots Q ls C hl hs hr hS k => lv_dup_x1 C.1 C.2.1 hd (zcat_of hc) (zcat_of hc2) k)
theorem zs_dup2 {v w : zV} (hd : decode M.2.1 pc = .ok (.dup2, 1)) (hc : zcat v = 1) (hc2 : zcat w = 1) (h : zTm g d M K (pc + 1) lv (v :: w :: v :: w :: st) μ) : zTm g d M K pc lv (v :: w :: st) μ := h.keep (fun hs _ _ => zok0 (zok0 hs (zokh2 hs)) (zokh hs)) (fun p e R s m args below meth c H locs cells slots Q ls C hl hs hr hS k => lv_dup2_11 C.1 C.2.1 hd (zcat_of hc) (zcat_of hc2) k)
theorem zs_goto {o : Int} {tgt : Nat} (hd : decode M.2.1 pc = .ok (.goto o, 3)) (ht : (pc : Int) + o = (tgt : Int)) (h : zTm g d M K tgt lv st μ) : zTm g d M K pc lv st μ := h.keep (fun hs _ _ => hs) (fun p e R s m args below meth c H locs cells slots Q ls C hl hs hr hS k => lv_goto C.1 C.2.1 hd ht k)
theorem zs_if {cnd : ClassFile.Cond} {o : Int} {tgt : Nat} (hd : decode M.2.1 pc = .ok (.ifCond cnd o, 3)) (ht : (pc : Int) + o = (tgt : Int)) (h : zcond cnd x 0 (zTm g d M K tgt lv st μ) (zTm g d M K (pc + 3) lv st μ)) : zTm g d M K pc lv (.inl x :: st) μ := by
  intro p e R s m args below meth c H locs cells slots Q ls C hl hs hv hr hS hret
  have hx := zokh hs
  have hy := zI32_0
  have hs2 := zokt hs
  have go : ∀ {pc9 : Nat}, zTm g d M K pc9 lv st μ → W p g.1 e R s m args below meth c H locs cells slots Q (F0 m pc9 ls (st.map (zR g))) := fun hT => hT p e R s m args below meth c H locs cells slots Q ls C hl hs2 hv hr hS hret
  cases cnd
  · exact lv_if_eq (x := Int32.ofInt x) C.1 C.2.1 hd ht (fun hc => go (h.1 ((zof_inj hx hy).mp hc))) (fun hc => go (h.2 (fun e9 => hc ((zof_inj hx hy).mpr e9))))
  · exact lv_if_ne (x := Int32.ofInt x) C.1 C.2.1 hd ht (fun hc => go (h.1 (fun e9 => hc ((zof_inj hx hy).mpr e9)))) (fun hc => go (h.2 ((zof_inj hx hy).mp hc)))
  · exact lv_if_lt (x := Int32.ofInt x) C.1 C.2.1 hd ht (fun hc => go (h.1 ((zof_lt hx hy).mp hc))) (fun hc => go (h.2 (Int.not_lt.mp (fun e9 => hc ((zof_lt hx hy).mpr e9)))))
  · exact lv_if_ge (x := Int32.ofInt x) C.1 C.2.1 hd ht (fun hc => go (h.1 ((zof_le hy hx).mp hc))) (fun hc => go (h.2 (Int.not_le.mp (fun e9 => hc ((zof_le hy hx).mpr e9)))))
  · exact lv_if_gt (x := Int32.ofInt x) C.1 C.2.1 hd ht (fun hc => go (h.1 ((zof_lt hy hx).mp hc))) (fun hc => go (h.2 (Int.not_lt.mp (fun e9 => hc ((zof_lt hy hx).mpr e9)))))
  · exact lv_if_le (x := Int32.ofInt x) C.1 C.2.1 hd ht (fun hc => go (h.1 ((zof_le hx hy).mp hc))) (fun hc => go (h.2 (Int.not_le.mp (fun e9 => hc ((zof_le hx hy).mpr e9)))))
theorem zs_icmp {cnd : ClassFile.Cond} {o : Int} {tgt : Nat} (hd : decode M.2.1 pc = .ok (.if_icmp cnd o, 3)) (ht : (pc : Int) + o = (tgt : Int)) (h : zcond cnd x y (zTm g d M K tgt lv st μ) (zTm g d M K (pc + 3) lv st μ)) : zTm g d M K pc lv (.inl y :: .inl x :: st) μ := by
  intro p e R s m args below meth c H locs cells slots Q ls C hl hs hv hr hS hret
  have hx := zokh2 hs
  have hy := zokh hs
  have hs2 := zokt (zokt hs)
  have go : ∀ {pc9 : Nat}, zTm g d M K pc9 lv st μ → W p g.1 e R s m args below meth c H locs cells slots Q (F0 m pc9 ls (st.map (zR g))) := fun hT => hT p e R s m args below meth c H locs cells slots Q ls C hl hs2 hv hr hS hret
  cases cnd
  · exact lv_icmp_eq (x := Int32.ofInt x) (y := Int32.ofInt y) C.1 C.2.1 hd ht (fun hc => go (h.1 ((zof_inj hx hy).mp hc))) (fun hc => go (h.2 (fun e9 => hc ((zof_inj hx hy).mpr e9))))
  · exact lv_icmp_ne (x := Int32.ofInt x) (y := Int32.ofInt y) C.1 C.2.1 hd ht (fun hc => go (h.1 (fun e9 => hc ((zof_inj hx hy).mpr e9)))) (fun hc => go (h.2 ((zof_inj hx hy).mp hc)))
  · exact lv_icmp_lt (x := Int32.ofInt x) (y := Int32.ofInt y) C.1 C.2.1 hd ht (fun hc => go (h.1 ((zof_lt hx hy).mp hc))) (fun hc => go (h.2 (Int.not_lt.mp (fun e9 => hc ((zof_lt hx hy).mpr e9)))))
  · exact lv_icmp_ge (x := Int32.ofInt x) (y := Int32.ofInt y) C.1 C.2.1 hd ht (fun hc => go (h.1 ((zof_le hy hx).mp hc))) (fun hc => go (h.2 (Int.not_le.mp (fun e9 => hc ((zof_le hy hx).mpr e9)))))
  · exact lv_icmp_gt (x := Int32.ofInt x) (y := Int32.ofInt y) C.1 C.2.1 hd ht (fun hc => go (h.1 ((zof_lt hy hx).mp hc))) (fun hc => go (h.2 (Int.not_lt.mp (fun e9 => hc ((zof_lt hy hx).mpr e9)))))
  · exact lv_icmp_le (x := Int32.ofInt x) (y := Int32.ofInt y) C.1 C.2.1 hd ht (fun hc => go (h.1 ((zof_le hx hy).mp hc))) (fun hc => go (h.2 (Int.not_le.mp (fun e9 => hc ((zof_le hx hy).mpr e9)))))
end ZS
end
section
/-! cells: the world as numbers -/
section ZC
variable {g : zG} {d : Nat} {M : zMeth} {K : Option zV → zM → Prop} {pc : Nat} {lv : zL} {st : List zV} {μ : zM} {x y : Int}
theorem zget_none : ∀ (l : zL) (i : Nat), l.length ≤ i → zget l i = none
  | [], _, _ => rfl
  | _ :: _, 0, h => by simp at h
  | _ :: l, i + 1, h => by simp only [zget]; exact zget_none l i (by simpa using h)
def zlv (g : zG) : Nat → zL → List (Nat × Value)
  | _, [] => []
  | k, none :: l => zlv g (k + 1) l
  | k, some v :: l => (k, zR g v) :: zlv g (k + 1) l
theorem zlv_mem (g : zG) : ∀ (l : zL) (k : Nat) (q : Nat × Value), q ∈ zlv g k l ↔ ∃ (i : Nat) (v : zV), zget l i = some v ∧ q = (k + i, zR g v)
  | [], k, q => by simp [zlv, zget]
  | none :: l, k, q => by
    simp only [zlv]
    rw [zlv_mem g l (k + 1) q]
    constructor
    · rintro ⟨i, v, h, rfl⟩
      exact ⟨i + 1, v, h, by rw [show k + 1 + i = k + (i + 1) from by omega]⟩
    · rintro ⟨i, v, h, rfl⟩
      cases i with
      | zero => simp [zget] at h
      | succ i => exact ⟨i, v, h, by rw [show k + 1 + i = k + (i + 1) from by omega]⟩
  | some w :: l, k, q => by
    simp only [zlv, List.mem_cons]
    rw [zlv_mem g l (k + 1) q]
    constructor
    · rintro (rfl | ⟨i, v, h, rfl⟩)
      · exact ⟨0, w, rfl, rfl⟩
      · exact ⟨i + 1, v, h, by rw [show k + 1 + i = k + (i + 1) from by omega]⟩
    · rintro ⟨i, v, h, rfl⟩
      cases i with
      | zero => left; simp only [zget] at h; cases h; rfl
      | succ i => right; exact ⟨i, v, h, by rw [show k + 1 + i = k + (i + 1) from by omega]⟩
theorem zHas.toLv {ls : Array Slot} {nL : Nat} (h : zHas g ls nL lv) : lv_has ls nL (zlv g 0 lv) := ⟨h.1, h.2.1, fun q hq => by
  obtain ⟨i, v, hi, rfl⟩ := (zlv_mem g lv 0 q).mp hq
  rw [Nat.zero_add]
  exact h.2.2 i v hi⟩
theorem zcat_2 {v : zV} (h : (zR g v).category = 2) : ∃ z, v = .inr (.inl z) := by
  rcases v with a | a | a
  · cases h
  · exact ⟨a, rfl⟩
  · cases h
theorem zHas.st1 {ls : Array Slot} {nL i : Nat} {v : zV} (h : lv_has ls nL ((i, zR g v) :: (zlv g 0 lv).filter (fun q => !(q.1 == i) && !(q.1 + 1 == i && q.2.category == 2)))) : zHas g ls nL (zst1 lv i v) := by
  refine ⟨h.1, h.2.1, fun j w hj => ?_⟩
  unfold zst1 at hj
  rw [zget_set] at hj
  split at hj
  · rename_i hc
    cases hj
    rw [hc.1]
    exact h.2.2 (i, zR g v) List.mem_cons_self
  · rename_i hc
    obtain ⟨h1, h2⟩ := zkill_get hj
    have hne : ¬ j = i := fun e => hc ⟨e, by
      by_cases hl : i < (zkill lv i).length
      · exact hl
      · rw [zget_none _ j (by omega)] at hj; cases hj⟩
    refine h.2.2 (j, zR g w) (List.mem_cons_of_mem _ (List.mem_filter.mpr ⟨(zlv_mem g lv 0 _).mpr ⟨j, w, h1, by rw [Nat.zero_add]⟩, ?_⟩))
    have e1 : (j == i) = false := by simpa using hne
    have e2 : (j + 1 == i && (zR g w).category == 2) = false := by
      by_cases e3 : j + 1 = i
      · have : ¬ (zR g w).category = 2 := fun e4 => by
          obtain ⟨z, hz⟩ := zcat_2 e4
          exact h2 e3 z hz
        simp [this]
      · simp [e3]
    simp only [e1, e2]
    rfl
theorem zHas.st2 {ls : Array Slot} {nL i : Nat} {v : zV} (h : lv_has ls nL ((i, zR g v) :: (zlv g 0 lv).filter (fun q => !(q.1 == i) && (!(q.1 == i + 1) && !(q.1 + 1 == i && q.2.category == 2))))) : zHas g ls nL (zst2 lv i v) := by
  refine ⟨h.1, h.2.1, fun j w hj => ?_⟩
  unfold zst2 at hj
  rw [zget_set] at hj
  split at hj
  · cases hj
  · rename_i hc0
    rw [zget_set] at hj
    split at hj
    · rename_i hc
      cases hj
      rw [hc.1]
      exact h.2.2 (i, zR g v) List.mem_cons_self
    · rename_i hc
      obtain ⟨h1, h2⟩ := zkill_get hj
      have hl : j < (zkill lv i).length := by
        by_cases hl : j < (zkill lv i).length
        · exact hl
        · rw [zget_none _ j (by omega)] at hj; cases hj
      have hne : ¬ j = i := fun e => hc ⟨e, by omega⟩
      have hne2 : ¬ j = i + 1 := fun e => hc0 ⟨e, by rw [zset_length]; omega⟩
      refine h.2.2 (j, zR g w) (List.mem_cons_of_mem _ (List.mem_filter.mpr ⟨(zlv_mem g lv 0 _).mpr ⟨j, w, h1, by rw [Nat.zero_add]⟩, ?_⟩))
      have e1 : (j == i) = false := by simpa using hne
      have e0 : (j == i + 1) = false := by simpa using hne2
      have e2 : (j + 1 == i && (zR g w).category == 2) = false := by
        by_cases e3 : j + 1 = i
        · have : ¬ (zR g w).category = 2 := fun e4 => by
            obtain ⟨z, hz⟩ := zcat_2 e4
            exact h2 e3 z hz
          simp [this]
        · simp [e3]
      simp only [e0, e1, e2]
      rfl
theorem zst1_ok {i : Nat} {v : zV} (hv : ∀ (i : Nat) (v : zV), zget lv i = some v → zok v) (h : zok v) (j : Nat) (w : zV) (hj : zget (zst1 lv i v) j = some w) : zok w := by
  unfold zst1 at hj
  rw [zget_set] at hj
  split at hj
  · cases hj; exact h
  · exact hv _ _ (zkill_get hj).1
theorem zst2_ok {i : Nat} {v : zV} (hv : ∀ (i : Nat) (v : zV), zget lv i = some v → zok v) (h : zok v) (j : Nat) (w : zV) (hj : zget (zst2 lv i v) j = some w) : zok w := by
  unfold zst2 at hj
  rw [zget_set] at hj
  split at hj
  · cases hj
  · rw [zget_set] at hj
    split at hj
    · cases hj; exact h
    · exact hv _ _ (zkill_get hj).1
theorem zs_istore_n {n : Fin 4} (hd : decode M.2.1 pc = .ok (.istore_n n, 1)) (hn : (n : Nat) < M.2.2.1) (h : zTm g d M K (pc + 1) (zst1 lv n (.inl x)) st μ) : zTm g d M K pc lv (.inl x :: st) μ := by
  intro p e R s m args below meth c H locs cells slots Q ls C hl hs hv hr hS hret
  exact lv_istore_n (x := Int32.ofInt x) C.1 C.2.1 hd rfl hl.toLv hn rfl (fun ls' h' => h p e R s m args below meth c H locs cells slots Q ls' C (zHas.st1 (v := .inl x) h') (zokt hs) (zst1_ok hv (zokh hs)) hr hS hret)
theorem zs_istore {n : Nat} (hd : decode M.2.1 pc = .ok (.istore n, 2)) (hn : n < M.2.2.1) (h : zTm g d M K (pc + 2) (zst1 lv n (.inl x)) st μ) : zTm g d M K pc lv (.inl x :: st) μ := by
  intro p e R s m args below meth c H locs cells slots Q ls C hl hs hv hr hS hret
  exact lv_istore (x := Int32.ofInt x) C.1 C.2.1 hd hl.toLv hn rfl (fun ls' h' => h p e R s m args below meth c H locs cells slots Q ls' C (zHas.st1 (v := .inl x) h') (zokt hs) (zst1_ok hv (zokh hs)) hr hS hret)
theorem zs_astore_n {n : Fin 4} {q : zT0 × Nat} (hd : decode M.2.1 pc = .ok (.astore_n n, 1)) (hn : (n : Nat) < M.2.2.1) (h : zTm g d M K (pc + 1) (zst1 lv n (.inr (.inr q))) st μ) : zTm g d M K pc lv (.inr (.inr q) :: st) μ := by
  intro p e R s m args below meth c H locs cells slots Q ls C hl hs hv hr hS hret
  exact lv_astore_n (x := zad g q.2) C.1 C.2.1 hd rfl hl.toLv hn rfl (fun ls' h' => h p e R s m args below meth c H locs cells slots Q ls' C (zHas.st1 (v := .inr (.inr q)) h') (zokt hs) (zst1_ok hv (zokh hs)) hr hS hret)
theorem zs_astore {n : Nat} {q : zT0 × Nat} (hd : decode M.2.1 pc = .ok (.astore n, 2)) (hn : n < M.2.2.1) (h : zTm g d M K (pc + 2) (zst1 lv n (.inr (.inr q))) st μ) : zTm g d M K pc lv (.inr (.inr q) :: st) μ := by
  intro p e R s m args below meth c H locs cells slots Q ls C hl hs hv hr hS hret
  exact lv_astore (x := zad g q.2) C.1 C.2.1 hd hl.toLv hn rfl (fun ls' h' => h p e R s m args below meth c H locs cells slots Q ls' C (zHas.st1 (v := .inr (.inr q)) h') (zokt hs) (zst1_ok hv (zokh hs)) hr hS hret)
theorem zs_lstore {n : Nat} (hd : decode M.2.1 pc = .ok (.lstore n, 2)) (hn : n + 1 < M.2.2.1) (h : zTm g d M K (pc + 2) (zst2 lv n (.inr (.inl x))) st μ) : zTm g d M K pc lv (.inr (.inl x) :: st) μ := by
  intro p e R s m args below meth c H locs cells slots Q ls C hl hs hv hr hS hret
  exact lv_lstore (x := Int64.ofInt x) C.1 C.2.1 hd hl.toLv hn rfl (fun ls' h' => h p e R s m args below meth c H locs cells slots Q ls' C (zHas.st2 (v := .inr (.inl x)) h') (zokt hs) (zst2_ok hv (zokh hs)) hr hS hret)
theorem zs_iinc {i : Nat} {n : Int} (hd : decode M.2.1 pc = .ok (.iinc i n, 3)) (hn : i < M.2.2.1) (hx : zget lv i = some (.inl x)) (h : zTm g d M K (pc + 3) (zst1 lv i (.inl (zw (x + n)))) st μ) : zTm g d M K pc lv st μ := by
  intro p e R s m args below meth c H locs cells slots Q ls C hl hs hv hr hS hret
  obtain ⟨k, hk⟩ := List.getElem?_of_mem ((zlv_mem g lv 0 (i, .int (Int32.ofInt x))).mpr ⟨i, .inl x, hx, by rw [Nat.zero_add]; rfl⟩)
  exact lv_iinc (x := Int32.ofInt x) (v := Int32.ofInt (zw (x + n))) C.1 C.2.1 hd hl.toLv hk (by rw [zof_w, Int32.ofInt_add]) hn rfl (fun ls' h' => h p e R s m args below meth c H locs cells slots Q ls' C (zHas.st1 (v := .inl (zw (x + n))) h') hs (zst1_ok hv (zI32_w _)) hr hS hret)
-- the world
theorem zWs_get (g : zG) (μ : zM) : ∀ (l : List zT0) (k i : Nat), (zWs g μ k l)[i]? = (l[i]?).map (fun t => (zad g (k + i), zE g (k + i) t (μ (k + i))))
  | [], k, i => by simp [zWs]
  | t :: l, k, 0 => by simp [zWs]
  | t :: l, k, i + 1 => by
    simp only [zWs, List.getElem?_cons_succ]
    rw [zWs_get g μ l (k + 1) i, show k + 1 + i = k + (i + 1) from by omega]
theorem zW_get {j : Nat} {t : zT0} (h : zSh[j]? = some t) : (zW g μ)[j]? = some (zad g j, zE g j t (μ j)) := by
  unfold zW
  rw [zWs_get, h, Nat.zero_add]
  rfl
theorem zWs_len (g : zG) (μ : zM) : ∀ (l : List zT0) (k : Nat), (zWs g μ k l).length = l.length
  | [], _ => rfl
  | _ :: l, k => by simp [zWs, zWs_len g μ l]
theorem zSh_len : zSh.length = 177 := by decide +kernel
theorem zSh_lt {j : Nat} {t : zT0} (h : zSh[j]? = some t) : j < 177 := by
  have := (List.getElem?_eq_some_iff.mp h).1
  rw [zSh_len] at this
  exact this
theorem zW_upd {j : Nat} {t : zT0} {μ' : zM} (h : zSh[j]? = some t) (hne : ∀ a, ¬ a = j → μ' a = μ a) : (zW g μ).set j (zad g j, zE g j t (μ' j)) = zW g μ' := by
  apply List.ext_getElem?
  intro a
  rw [List.getElem?_set]
  have hlen : (zW g μ).length = 177 := by unfold zW; rw [zWs_len, zSh_len]
  by_cases e : j = a
  · subst e
    rw [if_pos rfl, if_pos (by rw [hlen]; exact zSh_lt h), zW_get h]
  · rw [if_neg e]
    unfold zW
    rw [zWs_get, zWs_get, Nat.zero_add, hne a (fun e2 => e e2.symm)]
theorem zW_D (h : zAd g) (μ : zM) : va_D (zA g) (zW g μ) := by
  have key : ∀ (i : Nat) (q : Nat × va_E), (zW g μ)[i]? = some q → i < 177 ∧ q.1 = zad g i := by
    intro i q hq
    have hlen : (zW g μ).length = 177 := by unfold zW; rw [zWs_len, zSh_len]
    have hi := (List.getElem?_eq_some_iff.mp hq).1
    rw [hlen] at hi
    have hs : i < zSh.length := by rw [zSh_len]; exact hi
    rw [zW_get (List.getElem?_eq_getElem hs)] at hq
    cases hq
    exact ⟨hi, rfl⟩
  refine ⟨fun i j p q hp hq e => ?_, fun k q hq => ?_⟩
  · obtain ⟨h1, e1⟩ := key i p hp
    obtain ⟨h2, e2⟩ := key j q hq
    exact h.1 i j h1 h2 (by rw [← e1, ← e2]; exact e)
  · obtain ⟨h1, e1⟩ := key k q hq
    rw [e1]
    exact h.2.1 k h1
theorem zFs_get (g : zG) (j : Nat) (m : Int → Int) : ∀ (l : List zFI) (k i : Nat), (zFs g j m k l)[i]? = (l[i]?).map (zFv g j m (k + i))
  | [], k, i => by simp [zFs]
  | f :: l, k, 0 => by simp [zFs]
  | f :: l, k, i + 1 => by
    simp only [zFs, List.getElem?_cons_succ]
    rw [zFs_get g j m l (k + 1) i, show k + 1 + i = k + (i + 1) from by omega]
theorem zFs_len (g : zG) (j : Nat) (m : Int → Int) : ∀ (l : List zFI) (k : Nat), (zFs g j m k l).length = l.length
  | [], _ => rfl
  | _ :: l, k => by simp [zFs, zFs_len g j m l]
theorem zfi_eq (c k : Nat) : zfi c k = (zFl.getD c [])[k]? := by
  unfold zfi
  rw [znth_eq, List.getD_eq_getElem?_getD]
  cases zFl[c]? with
  | none => simp
  | some l => simp [znth_eq]
theorem zU_off {j : Nat} {i v : Int} (a : Nat) (h : ¬ a = j) : zU μ j i v a = μ a := by
  funext b
  simp [zU, h]
theorem zU_at (j : Nat) (i v b : Int) : zU μ j i v j b = if b = i then v else μ j b := by
  simp [zU]
theorem zMok_U {j : Nat} {t : zT0} {i v : Int} (h : zMok μ) (ht : zSh[j]? = some t) (hv : zfit t i v) : zMok (zU μ j i v) := by
  intro j' t' i' h1 h2 h3 h4
  by_cases e : j' = j
  · subst e
    rw [ht] at h1; cases h1
    rw [zU_at]
    split
    · rename_i e2; rw [e2]; exact hv
    · exact h _ _ _ ht h2 h3 h4
  · rw [zU_off _ e]
    exact h _ _ _ h1 h2 h3 h4
theorem zvp_in {i : Int} {n : Nat} (hi : zI32 i) (h : 0 ≤ i ∧ i < n) : vp_in (Int32.ofInt i) n := by
  unfold vp_in
  rw [zof_toN hi, ← zof_0, zof_lt hi zI32_0]
  omega
theorem zs_iaload {i : Int} {n j : Nat} (hd : decode M.2.1 pc = .ok (.iaload, 1)) (hi : 0 ≤ i ∧ i < n) (h : zTm g d M K (pc + 1) lv (.inl (μ j i) :: st) μ) : zTm g d M K pc lv (.inl i :: .inr (.inr ((1, n), j)) :: st) μ := by
  refine h.keep (fun hs _ hm => zok2 hs ?_) ?_
  · rcases zokh2 hs with h1 | h1 | h1
    · exact hm j (1, n) i h1 hi.1 (fun e => by cases e) (fun _ => hi.2)
    · cases h1
    · cases h1
  intro p e R s m args below meth c H locs cells slots Q ls C hl hs hr hS k
  rcases zokh2 hs with h1 | h1 | h1
  · refine va_iald (D := zD g) (a := zad g j) (f := fun a => Int32.ofInt (μ j a)) (i := Int32.ofInt i) C.1 C.2.1 C.2.2.2.2.2.1.1 hr.1 j 0 (zW_get h1) rfl (zvp_in (zokh hs) hi) hd ?_
    rw [zof_toN (zokh hs), show ((i.toNat : Nat) : Int) = i from by omega]
    exact k
  · cases h1
  · cases h1
theorem zs_baload2 {i : Int} {n j : Nat} (hd : decode M.2.1 pc = .ok (.baload, 1)) (hi : 0 ≤ i ∧ i < n) (h : zTm g d M K (pc + 1) lv (.inl (μ j i) :: st) μ) : zTm g d M K pc lv (.inl i :: .inr (.inr ((2, n), j)) :: st) μ := by
  refine h.keep (fun hs _ hm => zok2 hs ?_) ?_
  · rcases zokh2 hs with h1 | h1 | h1
    · have := hm j (2, n) i h1 hi.1 (fun e => by cases e) (fun _ => hi.2)
      rcases this with h2 | h2 <;> (show zI32 _; rw [h2]; unfold zI32; omega)
    · cases h1
    · cases h1
  intro p e R s m args below meth c H locs cells slots Q ls C hl hs hr hS k
  rcases zokh2 hs with h1 | h1 | h1
  · refine va_zald (D := zD g) (a := zad g j) (f := fun a => Int32.ofInt (μ j a)) (i := Int32.ofInt i) C.1 C.2.1 C.2.2.2.2.2.1.1 hr.1 j 1 (zW_get h1) rfl (zvp_in (zokh hs) hi) hd ?_
    rw [zof_toN (zokh hs), show ((i.toNat : Nat) : Int) = i from by omega]
    exact k
  · cases h1
  · cases h1
theorem zs_baload3 {i : Int} {n j : Nat} (hd : decode M.2.1 pc = .ok (.baload, 1)) (hi : 0 ≤ i ∧ i < n) (h : zTm g d M K (pc + 1) lv (.inl (μ j i) :: st) μ) : zTm g d M K pc lv (.inl i :: .inr (.inr ((3, n), j)) :: st) μ := by
  refine h.keep (fun hs _ hm => zok2 hs ?_) ?_
  · rcases zokh2 hs with h1 | h1 | h1
    · have := hm j (3, n) i h1 hi.1 (fun e => by cases e) (fun _ => hi.2)
      show zI32 _
      have h2 : -128 ≤ μ j i ∧ μ j i ≤ 127 := this
      unfold zI32; omega
    · cases h1
    · cases h1
  intro p e R s m args below meth c H locs cells slots Q ls C hl hs hr hS k
  rcases zokh2 hs with h1 | h1 | h1
  · refine va_bald (D := zD g) (a := zad g j) (f := fun a => Int32.ofInt (μ j a)) (i := Int32.ofInt i) C.1 C.2.1 C.2.2.2.2.2.1.1 hr.1 j 2 (zW_get h1) rfl (zvp_in (zokh hs) hi) hd ?_
    rw [zof_toN (zokh hs), show ((i.toNat : Nat) : Int) = i from by omega]
    exact k
  · cases h1
  · cases h1
theorem zs_laload4 {i : Int} {n j : Nat} (hd : decode M.2.1 pc = .ok (.laload, 1)) (hi : 0 ≤ i ∧ i < n) (h : zTm g d M K (pc + 1) lv (.inr (.inl (μ j i)) :: st) μ) : zTm g d M K pc lv (.inl i :: .inr (.inr ((4, n), j)) :: st) μ := by
  refine h.keep (fun hs _ hm => zok2 hs ?_) ?_
  · rcases zokh2 hs with h1 | h1 | h1
    · exact hm j (4, n) i h1 hi.1 (fun e => by cases e) (fun _ => hi.2)
    · cases h1
    · cases h1
  intro p e R s m args below meth c H locs cells slots Q ls C hl hs hr hS k
  rcases zokh2 hs with h1 | h1 | h1
  · refine va_lald (D := zD g) (a := zad g j) (f := fun a => Int64.ofInt (μ j a)) (i := Int32.ofInt i) C.1 C.2.1 C.2.2.2.2.2.1.1 hr.1 j 3 (zW_get h1) rfl (zvp_in (zokh hs) hi) hd ?_
    rw [zof_toN (zokh hs), show ((i.toNat : Nat) : Int) = i from by omega]
    exact k
  · cases h1
  · cases h1
theorem zBs_ok {j n i : Nat} (h : zSh[j]? = some (5, n)) (hi : i < n) : zSh[zBs j + 5 * i]? = some (0, 7) := by
  have key0 : (List.range 177).all (fun j => (List.range 7).all (fun n => (List.range 7).all (fun i => !(decide (zSh[j]? = some (5, n)) && decide (i < n)) || decide (zSh[zBs j + 5 * i]? = some (0, 7))))) = true := by decide +kernel
  have key : ∀ j, j < 177 → ∀ n, n < 7 → ∀ i, i < 7 → zSh[j]? = some (5, n) → i < n → zSh[zBs j + 5 * i]? = some (0, 7) := by
    intro j hj n hn i hi h1 h2
    have := List.all_eq_true.mp (List.all_eq_true.mp (List.all_eq_true.mp key0 j (List.mem_range.mpr hj)) n (List.mem_range.mpr hn)) i (List.mem_range.mpr hi)
    simpa [h1, h2] using this
  have h7 : ∀ j, j < 177 → ((zSh[j]?).getD (0, 0)).1 = 5 → ((zSh[j]?).getD (0, 0)).2 < 7 := by decide +kernel
  have := h7 j (zSh_lt h) (by rw [h]; rfl)
  rw [h] at this
  have this : n < 7 := this
  exact key j (zSh_lt h) n this i (by omega) h hi
theorem zs_aaload {i : Int} {n j : Nat} (hd : decode M.2.1 pc = .ok (.aaload, 1)) (hi : 0 ≤ i ∧ i < n) (h : zTm g d M K (pc + 1) lv (.inr (.inr ((0, 7), zBs j + 5 * i.toNat)) :: st) μ) : zTm g d M K pc lv (.inl i :: .inr (.inr ((5, n), j)) :: st) μ := by
  refine h.keep (fun hs _ hm => zok2 hs ?_) ?_
  · rcases zokh2 hs with h1 | h1 | h1
    · exact Or.inl (zBs_ok h1 (by omega))
    · cases h1
    · cases h1
  intro p e R s m args below meth c H locs cells slots Q ls C hl hs hr hS k
  rcases zokh2 hs with h1 | h1 | h1
  · refine va_aldq (D := zD g) (a := zad g j) (C := RX7) (f := fun a => some (zad g (zBs j + 5 * a))) (i := Int32.ofInt i) C.1 C.2.1 C.2.2.2.2.2.1.1 hr.1 j 4 (zW_get h1) rfl (zvp_in (zokh hs) hi) hd ?_
    rw [zof_toN (zokh hs)]
    exact k
  · cases h1
  · cases h1
theorem zRW_kept {s : State} {H : Heap} {locs : List Loc} (h : zSt g s) (hS : va_S (zA g) s.heap H locs) : va_P (zD g) vwCl (zRW g) H := by
  intro k q hk
  have h1 := h.2.2.2.2.1 k q hk
  refine h1.kept (hS.2.1 q.1 h1.lt ?_)
  match k, hk with
  | 0, hk => cases hk; exact h.2.1.2.2.1
  | 1, hk => cases hk; exact h.2.1.2.2.2
theorem zRo_ok (j : Nat) (i : Int) : zI64 (zRo j i) := by
  unfold zRo
  have key : ∀ (l : List Int), (∀ x ∈ l, zI64 x) → ∀ n, zI64 (l.getD n 0) := by
    intro l hl n
    rw [List.getD_eq_getElem?_getD]
    cases hx : l[n]? with
    | none => show zI64 0; unfold zI64; omega
    | some x => exact hl x (List.mem_of_getElem? hx)
  split
  · exact key _ (by intro x hx; simp at hx; unfold zI64; omega) _
  · exact key _ (by intro x hx; simp at hx; unfold zI64; omega) _
theorem zs_laload6 {i : Int} {n j : Nat} (hd : decode M.2.1 pc = .ok (.laload, 1)) (hi : 0 ≤ i ∧ i < n) (h : zTm g d M K (pc + 1) lv (.inr (.inl (zRo j i)) :: st) μ) : zTm g d M K pc lv (.inl i :: .inr (.inr ((6, n), j)) :: st) μ := by
  refine h.keep (fun hs _ hm => zok2 hs (zRo_ok _ _)) ?_
  intro p e R s m args below meth c H locs cells slots Q ls C hl hs hr hS k
  have h6 : ∀ j, j < 177 → ¬ ((zSh[j]?).getD (0, 0)).1 = 6 := by decide +kernel
  rcases zokh2 hs with h1 | h1 | h1
  · exact absurd (by rw [h1]; rfl) (h6 j (zSh_lt h1))
  · cases h1
    refine va_lald (D := zD g) (a := zad g 1000) (f := fun a => Int64.ofInt (zRo 1000 a)) (i := Int32.ofInt i) C.1 C.2.1 C.2.2.2.2.2.1.1 (zRW_kept C.2.2.2.2.2.1 hS) 0 3 rfl rfl (zvp_in (zokh hs) hi) hd ?_
    rw [zof_toN (zokh hs), show ((i.toNat : Nat) : Int) = i from by omega]
    exact k
  · cases h1
    refine va_lald (D := zD g) (a := zad g 1001) (f := fun a => Int64.ofInt (zRo 1001 a)) (i := Int32.ofInt i) C.1 C.2.1 C.2.2.2.2.2.1.1 (zRW_kept C.2.2.2.2.2.1 hS) 1 3 rfl rfl (zvp_in (zokh hs) hi) hd ?_
    rw [zof_toN (zokh hs), show ((i.toNat : Nat) : Int) = i from by omega]
    exact k
end ZC
end
section
/-! stores, fields -/
section ZD
variable {g : zG} {d : Nat} {M : zMeth} {K : Option zV → zM → Prop} {pc : Nat} {lv : zL} {st : List zV} {μ : zM} {x y : Int}
theorem zupd_i {j : Nat} {i : Int} (hi : zI32 i) (h0 : 0 ≤ i) : (fun a : Nat => Int32.ofInt (zU μ j i x j a)) = upd (fun a : Nat => Int32.ofInt (μ j a)) (Int32.ofInt i).toNatClampNeg (Int32.ofInt x) := by
  funext a
  unfold upd
  rw [zU_at, zof_toN hi]
  by_cases e : a = i.toNat
  · rw [if_pos e, if_pos (by omega)]
  · rw [if_neg e, if_neg (by omega)]
theorem zupd_l {j : Nat} {i : Int} (hi : zI32 i) (h0 : 0 ≤ i) : (fun a : Nat => Int64.ofInt (zU μ j i x j a)) = vp_updL (fun a : Nat => Int64.ofInt (μ j a)) (Int32.ofInt i).toNatClampNeg (Int64.ofInt x) := by
  funext a
  unfold vp_updL
  rw [zU_at, zof_toN hi]
  by_cases e : a = i.toNat
  · rw [if_pos e, if_pos (by omega)]
  · rw [if_neg e, if_neg (by omega)]
theorem zokh3 {u v w : zV} (hs : ∀ z ∈ u :: v :: w :: st, zok z) : zok w := hs _ (List.mem_cons_of_mem _ (List.mem_cons_of_mem _ List.mem_cons_self))
theorem zs_iastore {i : Int} {n j : Nat} (hd : decode M.2.1 pc = .ok (.iastore, 1)) (hi : 0 ≤ i ∧ i < n) (h : zTm g d M K (pc + 1) lv st (zU μ j i x)) : zTm g d M K pc lv (.inl x :: .inl i :: .inr (.inr ((1, n), j)) :: st) μ := by
  intro p e R s m args below meth c H locs cells slots Q ls C hl hs hv hr hS hret
  rcases zokh3 hs with h1 | h1 | h1
  · refine va_iast (D := zD g) (a := zad g j) (f := fun a => Int32.ofInt (μ j a)) (i := Int32.ofInt i) (x := Int32.ofInt x) C.1 C.2.1 C.2.2.2.2.2.1.1 hr.1 (zW_D C.2.2.2.2.2.1.2.1 μ) hS j 0 (zW_get h1) rfl (zvp_in (zokh2 hs) hi) hd (fun H1 locs1 hP hD hS1 => ?_)
    rw [← zupd_i (zokh2 hs) hi.1] at hP
    have hP := (zW_upd (g := g) (μ := μ) h1 (fun a ha => zU_off (i := i) (v := x) a ha)) ▸ hP
    exact h p e R s m args below meth c H1 locs1 cells slots Q ls C hl (zokt (zokt (zokt hs))) hv ⟨hP, zMok_U hr.2 h1 (zokh hs)⟩ hS1 hret
  · cases h1
  · cases h1
theorem znar_z {x : Int} (h : x = 0 ∨ x = 1) : vp_nar .boolean (Int32.ofInt x) = Int32.ofInt x := by
  rcases h with rfl | rfl <;> rfl
theorem znar_b {x : Int} (h : -128 ≤ x ∧ x ≤ 127) : vp_nar .byte (Int32.ofInt x) = Int32.ofInt x := by
  show (Int32.ofInt x).toInt8.toInt32 = Int32.ofInt x
  have e1 : (Int32.ofInt x).toInt = x := zto_of (by unfold zI32; omega)
  have e2 : (Int32.ofInt x).toInt8 = Int8.ofInt x := by rw [← Int8.ofInt_int32ToInt, e1]
  rw [e2, zof_8 h]
theorem zs_bastore2 {i : Int} {n j : Nat} (hd : decode M.2.1 pc = .ok (.bastore, 1)) (hi : 0 ≤ i ∧ i < n) (hx : x = 0 ∨ x = 1) (h : zTm g d M K (pc + 1) lv st (zU μ j i x)) : zTm g d M K pc lv (.inl x :: .inl i :: .inr (.inr ((2, n), j)) :: st) μ := by
  intro p e R s m args below meth c H locs cells slots Q ls C hl hs hv hr hS hret
  rcases zokh3 hs with h1 | h1 | h1
  · refine va_zast (D := zD g) (a := zad g j) (f := fun a => Int32.ofInt (μ j a)) (i := Int32.ofInt i) (x := Int32.ofInt x) C.1 C.2.1 C.2.2.2.2.2.1.1 hr.1 (zW_D C.2.2.2.2.2.1.2.1 μ) hS j 1 (zW_get h1) rfl (zvp_in (zokh2 hs) hi) hd (fun H1 locs1 hP hD hS1 => ?_)
    rw [znar_z hx, ← zupd_i (zokh2 hs) hi.1] at hP
    have hP := (zW_upd (g := g) (μ := μ) h1 (fun a ha => zU_off (i := i) (v := x) a ha)) ▸ hP
    exact h p e R s m args below meth c H1 locs1 cells slots Q ls C hl (zokt (zokt (zokt hs))) hv ⟨hP, zMok_U hr.2 h1 hx⟩ hS1 hret
  · cases h1
  · cases h1
theorem zs_bastore3 {i : Int} {n j : Nat} (hd : decode M.2.1 pc = .ok (.bastore, 1)) (hi : 0 ≤ i ∧ i < n) (hx : -128 ≤ x ∧ x ≤ 127) (h : zTm g d M K (pc + 1) lv st (zU μ j i x)) : zTm g d M K pc lv (.inl x :: .inl i :: .inr (.inr ((3, n), j)) :: st) μ := by
  intro p e R s m args below meth c H locs cells slots Q ls C hl hs hv hr hS hret
  rcases zokh3 hs with h1 | h1 | h1
  · refine va_bast (D := zD g) (a := zad g j) (f := fun a => Int32.ofInt (μ j a)) (i := Int32.ofInt i) (x := Int32.ofInt x) C.1 C.2.1 C.2.2.2.2.2.1.1 hr.1 (zW_D C.2.2.2.2.2.1.2.1 μ) hS j 2 (zW_get h1) rfl (zvp_in (zokh2 hs) hi) hd (fun H1 locs1 hP hD hS1 => ?_)
    rw [znar_b hx, ← zupd_i (zokh2 hs) hi.1] at hP
    have hP := (zW_upd (g := g) (μ := μ) h1 (fun a ha => zU_off (i := i) (v := x) a ha)) ▸ hP
    exact h p e R s m args below meth c H1 locs1 cells slots Q ls C hl (zokt (zokt (zokt hs))) hv ⟨hP, zMok_U hr.2 h1 hx⟩ hS1 hret
  · cases h1
  · cases h1
theorem zs_lastore {i : Int} {n j : Nat} (hd : decode M.2.1 pc = .ok (.lastore, 1)) (hi : 0 ≤ i ∧ i < n) (h : zTm g d M K (pc + 1) lv st (zU μ j i x)) : zTm g d M K pc lv (.inr (.inl x) :: .inl i :: .inr (.inr ((4, n), j)) :: st) μ := by
  intro p e R s m args below meth c H locs cells slots Q ls C hl hs hv hr hS hret
  rcases zokh3 hs with h1 | h1 | h1
  · refine va_last (D := zD g) (a := zad g j) (f := fun a => Int64.ofInt (μ j a)) (i := Int32.ofInt i) (x := Int64.ofInt x) C.1 C.2.1 C.2.2.2.2.2.1.1 hr.1 (zW_D C.2.2.2.2.2.1.2.1 μ) hS j 3 (zW_get h1) rfl (zvp_in (zokh2 hs) hi) hd (fun H1 locs1 hP hD hS1 => ?_)
    rw [← zupd_l (zokh2 hs) hi.1] at hP
    have hP := (zW_upd (g := g) (μ := μ) h1 (fun a ha => zU_off (i := i) (v := x) a ha)) ▸ hP
    exact h p e R s m args below meth c H1 locs1 cells slots Q ls C hl (zokt (zokt (zokt hs))) hv ⟨hP, zMok_U hr.2 h1 (zokh hs)⟩ hS1 hret
  · cases h1
  · cases h1
theorem zlen_ok {j : Nat} {t : zT0} (h : zSh[j]? = some t) : t.2 < 100000 := by
  have key : (List.range 177).all (fun j => decide (((zSh[j]?).getD (0, 0)).2 < 100000)) = true := by decide +kernel
  have := List.all_eq_true.mp key j (List.mem_range.mpr (zSh_lt h))
  rw [h] at this
  exact of_decide_eq_true this
theorem zofN (n : Nat) : Int32.ofNat n = Int32.ofInt n := Int32.toInt_inj.1 (by simp)
theorem zs_alen1 {n j : Nat} (hd : decode M.2.1 pc = .ok (.arraylength, 1)) (h : zTm g d M K (pc + 1) lv (.inl n :: st) μ) : zTm g d M K pc lv (.inr (.inr ((1, n), j)) :: st) μ := by
  refine h.keep (fun hs _ hm => zok1 hs ?_) ?_
  · rcases zokh hs with h1 | h1 | h1
    · have := zlen_ok h1
      show zI32 n
      have this : n < 100000 := this
      unfold zI32; omega
    · cases h1
    · cases h1
  intro p e R s m args below meth c H locs cells slots Q ls C hl hs hr hS k
  rcases zokh hs with h1 | h1 | h1
  · exact va_alen (D := zD g) (a := zad g j) (v := Int32.ofInt n) C.1 C.2.1 C.2.2.2.2.2.1.1 hr.1 j 0 (zW_get h1) (ty := .int) rfl (zofN n) hd k
  · cases h1
  · cases h1
theorem zs_alen4 {n j : Nat} (hd : decode M.2.1 pc = .ok (.arraylength, 1)) (h : zTm g d M K (pc + 1) lv (.inl n :: st) μ) : zTm g d M K pc lv (.inr (.inr ((4, n), j)) :: st) μ := by
  refine h.keep (fun hs _ hm => zok1 hs ?_) ?_
  · rcases zokh hs with h1 | h1 | h1
    · have := zlen_ok h1
      show zI32 n
      have this : n < 100000 := this
      unfold zI32; omega
    · cases h1
    · cases h1
  intro p e R s m args below meth c H locs cells slots Q ls C hl hs hr hS k
  rcases zokh hs with h1 | h1 | h1
  · exact va_alen (D := zD g) (a := zad g j) (v := Int32.ofInt n) C.1 C.2.1 C.2.2.2.2.2.1.1 hr.1 j 3 (zW_get h1) (ty := .long) rfl (zofN n) hd k
  · cases h1
  · cases h1
-- a field of my table on the machine
/-- what the tables say of a field's place in a pool -/
def zPf (own idx b c k : Nat) : Prop := ∃ (C : String) (T : u_T) (N : Nat), vwCl[c]? = some (C, T, N) ∧ k < N ∧ (zFl.getD c []).length = N ∧
  ((b = 0 ∧ Cond.fieldLink (zOwn.getD own "") idx (T k).1 (T k).2.1 (T k).2.2.1 ∈ zTb) ∨ (b = 1 ∧ Cond.fieldLinkNest (zOwn.getD own "") idx (T k).1 (T k).2.1 (T k).2.2.1 "EnginesAsleep" ∈ zNw)) ∧
  (zfi c k = some (.inl 0) → parseFieldDescriptor (T k).2.2.1 = some .int ∧ (T k).2.2.2 = false) ∧ (zfi c k = some (.inl 1) → parseFieldDescriptor (T k).2.2.1 = some .boolean ∧ (T k).2.2.2 = false) ∧
  (∀ l, zfi c k = some (.inr (.inr l)) → (parseFieldDescriptor (T k).2.2.1 = some (.array .int) ∨ parseFieldDescriptor (T k).2.2.1 = some (.array .byte)) ∧ (T k).2.2.2 = false) ∧ ∀ n, zfi c k = some (.inl n) → n < 2
/-- what they say of a class -/
def zCf : Prop := ∀ (c : Nat) (C : String) (T : u_T) (N : Nat), vwCl[c]? = some (C, T, N) → (∀ w ∈ u_ws C T N, w ∈ zTb) ∧ (∀ a, a < N → ∀ b, b < N → a ≠ b → (T a).2.1 ≠ (T b).2.1) ∧ ∃ ty0 : Nat → FieldType, ∀ k, k < N → parseFieldDescriptor (T k).2.2.1 = some (ty0 k)
theorem zs_getfield {i b c k j : Nat} {fi : zFI} {v : zV} (cf : zCf) (hd : decode M.2.1 pc = .ok (.getfield i, 3)) (hp : zPf M.2.2.2.2.1 i b c k) (hfi : zfi c k = some fi) (hv : zR g v = zFv g j (μ j) k fi) (hok : zMok μ → zSh[j]? = some (0, c) → zok v)
    (h : zTm g d M K (pc + 3) lv (v :: st) μ) : zTm g d M K pc lv (.inr (.inr ((0, c), j)) :: st) μ := by
  refine h.keep (fun hs _ hm => zok1 hs ?_) ?_
  · rcases zokh hs with h1 | h1 | h1
    · exact hok hm h1
    · cases h1
    · cases h1
  intro p e R s m args below meth cc H locs cells slots Q ls C hl hs hr hS kk
  obtain ⟨CN, T, N, hc, hk, hlen, hlink, -⟩ := hp
  rcases zokh hs with h1 | h1 | h1
  · have he : (zW g μ)[j]? = some (zad g j, .inr (c, zFs g j (μ j) 0 (zFl.getD c []))) := zW_get h1
    have hfs : (zFs g j (μ j) 0 (zFl.getD c []))[k]? = some (zR g v) := by
      rw [zFs_get, ← zfi_eq, hfi, Nat.zero_add, hv]; rfl
    rcases hlink with ⟨-, hlink⟩ | ⟨-, hlink⟩
    · exact va_get (D := zD g) (ci := c) (v := zR g v) (C := CN) (T := T) (N := N) (ref := (T k).1) C.1 C.2.1 C.2.2.2.2.1 (cf c CN T N hc).1 C.2.2.2.1 C.2.2.2.2.2.1.1 hr.1 j he hc k hk (C.2.2.2.2.1 _ hlink) (fun _ h9 => h9) hfs hd kk
    · exact va_getN (D := zD g) (ci := c) (v := zR g v) (C := CN) (T := T) (N := N) (ref := (T k).1) C.1 C.2.1 C.2.2.2.2.1 (cf c CN T N hc).1 C.2.2.2.1 C.2.2.2.2.2.1.1 hr.1 j he hc k hk (va_Nw.use rfl (C.2.2.2.2.2.1.2.2.2.2.2 _ hlink)) (fun _ h9 => h9) hfs hd kk
  · cases h1
  · cases h1
theorem zFs_upd {j k : Nat} {m m' : Int → Int} {V : Value} : ∀ (l : List zFI) (k0 : Nat), (∀ (i : Nat) (fi : zFI), l[i]? = some fi → zFv g j m' (k0 + i) fi = if k0 + i = k then V else zFv g j m (k0 + i) fi) → k0 ≤ k → zFs g j m' k0 l = (zFs g j m k0 l).set (k - k0) V
  | [], k0, h, hk => by simp [zFs]
  | f :: l, k0, h, hk => by
    have h0 := h 0 f rfl
    rw [Nat.add_zero] at h0
    by_cases e : k0 = k
    · subst e
      rw [if_pos rfl] at h0
      simp only [zFs, Nat.sub_self, List.set_cons_zero, h0]
      congr 1
      apply List.ext_getElem?
      intro a
      rw [zFs_get, zFs_get]
      cases ha : l[a]? with
      | none => rfl
      | some fi =>
        have := h (a + 1) fi ha
        rw [if_neg (by omega)] at this
        rw [show k0 + 1 + a = k0 + (a + 1) from by omega]
        simp only [Option.map_some, this]
    · rw [if_neg e] at h0
      have ih := zFs_upd l (k0 + 1) (fun i fi hi => by
        have := h (i + 1) fi hi
        rw [show k0 + 1 + i = k0 + (i + 1) from by omega]
        exact this) (by omega)
      simp only [zFs, h0, ih]
      rw [show k - k0 = (k - (k0 + 1)) + 1 from by omega, List.set_cons_succ]
theorem zs_putfield {i b c k j : Nat} {fi : zFI} {f : Int} {v : zV} {ty : FieldType} (cf : zCf) (hf : f = (k : Int)) (hd : decode M.2.1 pc = .ok (.putfield i, 3)) (hp : zPf M.2.2.2.2.1 i b c k) (hfi : zfi c k = some fi)
    (hv : ∀ m' : Int → Int, m' k = x → zFv g j m' k fi = zR g v) (hfit : zok v → zfit (0, c) f x)
    (hty : ∀ (C : String) (T : u_T) (N : Nat), vwCl[c]? = some (C, T, N) → zPf M.2.2.2.2.1 i b c k → parseFieldDescriptor (T k).2.2.1 = some ty ∧ (T k).2.2.2 = false) (hn : narrow ty (zR g v) = zR g v) (hft : fits ty (zR g v) = true)
    (h : zTm g d M K (pc + 3) lv st (zU μ j f x)) : zTm g d M K pc lv (v :: .inr (.inr ((0, c), j)) :: st) μ := by
  intro p e R s m args below meth cc H locs cells slots Q ls C hl hs hvv hr hS hret
  have hp0 := hp
  obtain ⟨CN, T, N, hc, hk, hlen, hlink, -⟩ := hp
  obtain ⟨hty, hfin⟩ := hty CN T N hc hp0
  obtain ⟨c1, c2, ty0, c3⟩ := cf c CN T N hc
  rcases zokh2 hs with h1 | h1 | h1
  · have he : (zW g μ)[j]? = some (zad g j, .inr (c, zFs g j (μ j) 0 (zFl.getD c []))) := zW_get h1
    have hkl : k < (zFs g j (μ j) 0 (zFl.getD c [])).length := by rw [zFs_len, hlen]; exact hk
    have hfs : zFs g j (zU μ j f x j) 0 (zFl.getD c []) = (zFs g j (μ j) 0 (zFl.getD c [])).set k (zR g v) := by
      have := zFs_upd (g := g) (j := j) (k := k) (m := μ j) (m' := zU μ j f x j) (V := zR g v) (zFl.getD c []) 0 (fun a fa ha => by
        rw [Nat.zero_add]
        by_cases e1 : a = k
        · subst e1
          rw [if_pos rfl]
          rw [← zfi_eq, hfi] at ha
          cases ha
          exact hv _ (by rw [zU_at, if_pos hf.symm])
        · rw [if_neg e1]
          have e2 : zU μ j f x j (a : Int) = μ j (a : Int) := by rw [zU_at, if_neg (by omega)]
          rcases fa with fa | ⟨t, fa | fa⟩ | fa <;> simp only [zFv, e2]) (Nat.zero_le _)
      rw [Nat.sub_zero] at this
      exact this
    have fin : ∀ (H1 : Heap) (locs1 : List Loc), va_P (zD g) vwCl ((zW g μ).set j (zad g j, .inr (c, (zFs g j (μ j) 0 (zFl.getD c [])).set k (zR g v)))) H1 → va_D (zA g) ((zW g μ).set j (zad g j, .inr (c, (zFs g j (μ j) 0 (zFl.getD c [])).set k (zR g v)))) → va_S (zA g) s.heap H1 locs1 → W p g.1 e R s m args below meth cc H1 locs1 cells slots Q (F0 m (pc + 3) ls (st.map (zR g))) := by
      intro H1 locs1 hP hD hS1
      rw [← hfs] at hP
      have hP := (zW_upd (g := g) (μ := μ) h1 (fun a ha => zU_off (i := f) (v := x) a ha)) ▸ hP
      exact h p e R s m args below meth cc H1 locs1 cells slots Q ls C hl (zokt (zokt hs)) hvv ⟨hP, zMok_U hr.2 h1 (hfit (zokh hs))⟩ hS1 hret
    rcases hlink with ⟨-, hlink⟩ | ⟨-, hlink⟩
    · exact va_put (D := zD g) (ci := c) (v := zR g v) (ty := ty) (C := CN) (T := T) (N := N) (ref := (T k).1) C.1 C.2.1 C.2.2.2.2.1 c1 ty0 c3 c2 C.2.2.2.1 C.2.2.2.2.2.1.1 hr.1 (zW_D C.2.2.2.2.2.1.2.1 μ) hS j he hc k hk (C.2.2.2.2.1 _ hlink) (fun _ h9 => h9) hfin hty hn hft hkl hd fin
    · exact va_putN (D := zD g) (ci := c) (v := zR g v) (ty := ty) (C := CN) (T := T) (N := N) (ref := (T k).1) C.1 C.2.1 C.2.2.2.2.1 c1 ty0 c3 c2 C.2.2.2.1 C.2.2.2.2.2.1.1 hr.1 (zW_D C.2.2.2.2.2.1.2.1 μ) hS j he hc k hk (va_Nw.use rfl (C.2.2.2.2.2.1.2.2.2.2.2 _ hlink)) (fun _ h9 => h9) hfin hty hn hft hkl hd fin
  · cases h1
  · cases h1
end ZD
end
section
/-! constants of pools, switches, calls -/
section ZF
variable {g : zG} {d : Nat} {M : zMeth} {K : Option zV → zM → Prop} {pc : Nat} {lv : zL} {st : List zV} {μ : zM} {x y : Int}
theorem zs_ldc {i : Nat} {v : Int} (hd : decode M.2.1 pc = .ok (.ldc i, 2)) (hv : zI32 v) (hw : Cond.constant (zOwn.getD M.2.2.2.2.1 "") i (Int32.ofInt v) ∈ zTb) (h : zTm g d M K (pc + 2) lv (.inl v :: st) μ) : zTm g d M K pc lv st μ :=
  h.keep (fun hs _ _ => zok0 hs hv) (fun p e R s m args below meth c H locs cells slots Q ls C hl hs hr hS k => lv_ldc C.1 C.2.1 C.2.2.2.1 (C.2.2.2.2.1 _ hw) hd k)
theorem zs_ldcw {i : Nat} {v : Int} (hd : decode M.2.1 pc = .ok (.ldc_w i, 3)) (hv : zI32 v) (hw : Cond.constant (zOwn.getD M.2.2.2.2.1 "") i (Int32.ofInt v) ∈ zTb) (h : zTm g d M K (pc + 3) lv (.inl v :: st) μ) : zTm g d M K pc lv st μ :=
  h.keep (fun hs _ _ => zok0 hs hv) (fun p e R s m args below meth c H locs cells slots Q ls C hl hs hr hS k => lv_ldcw C.1 C.2.1 C.2.2.2.1 (C.2.2.2.2.1 _ hw) hd k)
theorem zs_ldc2 {i : Nat} {v : Int} (hd : decode M.2.1 pc = .ok (.ldc2_w i, 3)) (hv : zI64 v) (hw : Cond.constantLong (zOwn.getD M.2.2.2.2.1 "") i (Int64.ofInt v) ∈ zTb) (h : zTm g d M K (pc + 3) lv (.inr (.inl v) :: st) μ) : zTm g d M K pc lv st μ :=
  h.keep (fun hs _ _ => zok0 hs hv) (fun p e R s m args below meth c H locs cells slots Q ls C hl hs hr hS k => lv_ldc2 C.1 C.2.1 C.2.2.2.1 (C.2.2.2.2.1 _ hw) hd k)
theorem zs_stat0 {i : Nat} (hd : decode M.2.1 pc = .ok (.getstatic i, 3)) (hw : Cond.fieldLink (zOwn.getD M.2.2.2.2.1 "") i RX0 "PLACE" "[J" ∈ zTb) (h : zTm g d M K (pc + 3) lv (.inr (.inr ((6, 6), 1000)) :: st) μ) : zTm g d M K pc lv st μ :=
  h.keep (fun hs _ _ => zok0 hs (Or.inr (Or.inl rfl))) (fun p e R s m args below meth c H locs cells slots Q ls C hl hs hr hS k => va_gets (ref := RX0) C.1 C.2.1 C.2.2.2.2.2.1.2.2.1 hS C.2.2.2.1 (C.2.2.2.2.1 _ hw) (fun _ h9 => h9) hd k)
theorem zs_stat1 {i : Nat} (hd : decode M.2.1 pc = .ok (.getstatic i, 3)) (hw : Cond.fieldLink (zOwn.getD M.2.2.2.2.1 "") i RX8 "PLACE" "[J" ∈ zTb) (h : zTm g d M K (pc + 3) lv (.inr (.inr ((6, 8), 1001)) :: st) μ) : zTm g d M K pc lv st μ :=
  h.keep (fun hs _ _ => zok0 hs (Or.inr (Or.inr rfl))) (fun p e R s m args below meth c H locs cells slots Q ls C hl hs hr hS k => va_gets (ref := RX8) C.1 C.2.1 C.2.2.2.2.2.1.2.2.2.1 hS C.2.2.2.1 (C.2.2.2.2.1 _ hw) (fun _ h9 => h9) hd k)
theorem ztab_get {f : Int → Prop} : ∀ (os : List Int) (v : Int), ztab x f v os → v ≤ x → ∀ o, os[(x - v).toNat]? = some o → f o
  | [], v, h, hv, o, ho => by simp at ho
  | a :: os, v, h, hv, o, ho => by
    by_cases e : x = v
    · subst e
      rw [Int.sub_self] at ho
      cases ho
      exact h.1 rfl
    · have e2 : (x - v).toNat = (x - (v + 1)).toNat + 1 := by omega
      rw [e2, List.getElem?_cons_succ] at ho
      exact ztab_get os (v + 1) h.2 (by omega) o ho
theorem zs_tab {dflt lo hi : Int} {offs : Array Int} {len : Nat} (hd : decode M.2.1 pc = .ok (.tableswitch dflt lo hi offs, len)) (hn : (offs.toList.length : Int) = hi - lo + 1) (hall : ∀ o ∈ dflt :: offs.toList, 0 ≤ (pc : Int) + o)
    (h1 : x < lo ∨ hi < x → zTm g d M K ((pc : Int) + dflt).toNat lv st μ) (h2 : ztab x (fun o => zTm g d M K ((pc : Int) + o).toNat lv st μ) lo offs.toList) : zTm g d M K pc lv (.inl x :: st) μ := by
  intro p e R s m args below meth c H locs cells slots Q ls C hl hs hv hr hS hret
  have go : ∀ {pc9 : Nat}, zTm g d M K pc9 lv st μ → W p g.1 e R s m args below meth c H locs cells slots Q (F0 m pc9 ls (st.map (zR g))) := fun hT => hT p e R s m args below meth c H locs cells slots Q ls C hl (zokt hs) hv hr hS hret
  have hx : (Int32.ofInt x).toInt = x := zto_of (zokh hs)
  by_cases hc : x < lo ∨ hi < x
  · have h0 := hall dflt List.mem_cons_self
    exact lv_tableOut (x := Int32.ofInt x) C.1 C.2.1 hd (by rw [hx]; exact hc) (by omega) (go (h1 hc))
  · have hlt : (x - lo).toNat < offs.toList.length := by omega
    have ho : offs.toList[(x - lo).toNat]? = some offs.toList[(x - lo).toNat] := List.getElem?_eq_getElem hlt
    have h0 := hall _ (List.mem_cons_of_mem _ (List.mem_of_getElem? ho))
    exact lv_tableIn (x := Int32.ofInt x) (off := offs.toList[(x - lo).toNat]) C.1 C.2.1 hd (by rw [hx]; omega) (by rw [hx]; omega) (by rw [hx, ← Array.getElem?_toList]; exact ho) (by omega) (go (ztab_get offs.toList lo h2 (by omega) _ ho))
theorem zs_lsw {dflt : Int} {ps : Array (Int × Int)} {len : Nat} (hd : decode M.2.1 pc = .ok (.lookupswitch dflt ps, len)) (hp : (ps.toList.zip (ps.toList.drop 1)).all (fun (a, next) => a.1 < next.1) = true) (hall : ∀ o ∈ dflt :: ps.toList.map (·.2), 0 ≤ (pc : Int) + o)
    (h : zlsw x (fun o => zTm g d M K ((pc : Int) + o).toNat lv st μ) dflt ps.toList) : zTm g d M K pc lv (.inl x :: st) μ := by
  intro p e R s m args below meth c H locs cells slots Q ls C hl hs hv hr hS hret
  have go : ∀ {pc9 : Nat}, zTm g d M K pc9 lv st μ → W p g.1 e R s m args below meth c H locs cells slots Q (F0 m pc9 ls (st.map (zR g))) := fun hT => hT p e R s m args below meth c H locs cells slots Q ls C hl (zokt hs) hv hr hS hret
  have hx : (Int32.ofInt x).toInt = x := zto_of (zokh hs)
  have key : ∀ l : List (Int × Int), (∀ o ∈ dflt :: l.map (·.2), 0 ≤ (pc : Int) + o) → zlsw x (fun o => zTm g d M K ((pc : Int) + o).toNat lv st μ) dflt l → 0 ≤ (pc : Int) + Op.lookupswitch.offset l dflt x ∧ zTm g d M K ((pc : Int) + Op.lookupswitch.offset l dflt x).toNat lv st μ := by
    intro l
    induction l with
    | nil => intro ha h; exact ⟨ha _ List.mem_cons_self, h⟩
    | cons q l ih =>
      intro ha h
      rw [show q :: l = (q.1, q.2) :: l from rfl, Op.lookupswitch.offset_cons]
      by_cases e : x = q.1
      · rw [if_pos (by simpa using e.symm)]
        exact ⟨ha q.2 (by simp), h.1 e⟩
      · rw [if_neg (by simpa using fun e9 => e e9.symm)]
        exact ih (fun o ho => ha o (by
          rcases List.mem_cons.mp ho with rfl | ho
          · exact List.mem_cons_self
          · exact List.mem_cons_of_mem _ (by simpa using Or.inr (by simpa using ho)))) (h.2 e)
  obtain ⟨k1, k2⟩ := key ps.toList hall h
  exact lv_lookup (x := Int32.ofInt x) (off := Op.lookupswitch.offset ps.toList dflt x) C.1 C.2.1 hd hp (by rw [hx]) (by omega) (go k2)
-- Math
theorem zcats_eq (g : zG) : ∀ l : List zV, ((l.map (zR g)).map fun v => v.category).sum = zcats l
  | [] => rfl
  | v :: l => by
    rw [List.map_cons, List.map_cons, List.sum_cons, zcats_eq g l]
    rcases v with a | a | a <;> rfl
/-- the words of Math's methods that a pool names -/
def zPm (own i : Nat) (y : MethodName) (code : ByteArray) (n : Nat) : Prop := Cond.methodLink (zOwn.getD own "") i y ∈ zTb ∧ Cond.static y ∈ zTb ∧ Cond.initialized "java/lang/Math" ∈ zTb ∧ Cond.code y code n (some .int) ∈ zTb
theorem zs_max {i : Nat} (hd : decode M.2.1 pc = .ok (.invokestatic i, 3)) (hp : zPm M.2.2.2.2.1 i Lib.Math.max.name Lib.Math.max.code 2) (hc : zcats st ≤ 8) (hd0 : 0 < d) (h : zTm g d M K (pc + 3) lv (.inl (max x y) :: st) μ) : zTm g d M K pc lv (.inl y :: .inl x :: st) μ := by
  refine h.keep (fun hs _ hm => zok2 hs ?_) ?_
  · have h1 : zI32 y := zokh hs
    have h2 : zI32 x := zokh2 hs
    show zI32 (max x y)
    unfold zI32 at *
    omega
  intro p e R s m args below meth c H locs cells slots Q ls C hl hs hr hS k
  obtain ⟨p1, p2, p3, p4⟩ := hp
  have hw := C.2.2.2.2.1
  have hfr : d ≤ R.frames := C.2.2.2.2.2.2.1
  have hlo : 64 * d ≤ R.locals := C.2.2.2.2.2.2.2.1
  refine va_mmax (x := Int32.ofInt x) (y := Int32.ofInt y) C.1 C.2.1 (C.2.2.1.trans hl.1.symm) C.2.2.2.1 (hw _ p1) (hw _ p2) (hw _ p3) (hw _ p4) (by omega) (by rw [zcats_eq]; omega) C.2.2.2.2.2.2.2.2.1 C.2.2.2.2.2.2.2.2.2 hd ?_
  have e9 : (if Int32.ofInt x < Int32.ofInt y then Int32.ofInt y else Int32.ofInt x) = Int32.ofInt (max x y) := by
    by_cases hlt : x < y
    · rw [if_pos ((zof_lt (zokh2 hs) (zokh hs)).mpr hlt), show max x y = y from by omega]
    · rw [if_neg (fun q => hlt ((zof_lt (zokh2 hs) (zokh hs)).mp q)), show max x y = x from by omega]
  rw [e9]
  exact k
theorem zs_min {i : Nat} (hd : decode M.2.1 pc = .ok (.invokestatic i, 3)) (hp : zPm M.2.2.2.2.1 i Lib.Math.min.name Lib.Math.min.code 2) (hc : zcats st ≤ 8) (hd0 : 0 < d) (h : zTm g d M K (pc + 3) lv (.inl (min x y) :: st) μ) : zTm g d M K pc lv (.inl y :: .inl x :: st) μ := by
  refine h.keep (fun hs _ hm => zok2 hs ?_) ?_
  · have h1 : zI32 y := zokh hs
    have h2 : zI32 x := zokh2 hs
    show zI32 (min x y)
    unfold zI32 at *
    omega
  intro p e R s m args below meth c H locs cells slots Q ls C hl hs hr hS k
  obtain ⟨p1, p2, p3, p4⟩ := hp
  have hw := C.2.2.2.2.1
  have hfr : d ≤ R.frames := C.2.2.2.2.2.2.1
  have hlo : 64 * d ≤ R.locals := C.2.2.2.2.2.2.2.1
  refine va_mmin (x := Int32.ofInt x) (y := Int32.ofInt y) C.1 C.2.1 (C.2.2.1.trans hl.1.symm) C.2.2.2.1 (hw _ p1) (hw _ p2) (hw _ p3) (hw _ p4) (by omega) (by rw [zcats_eq]; omega) C.2.2.2.2.2.2.2.2.1 C.2.2.2.2.2.2.2.2.2 hd ?_
  have e9 : (if Int32.ofInt y < Int32.ofInt x then Int32.ofInt y else Int32.ofInt x) = Int32.ofInt (min x y) := by
    by_cases hlt : y < x
    · rw [if_pos ((zof_lt (zokh hs) (zokh2 hs)).mpr hlt), show min x y = y from by omega]
    · rw [if_neg (fun q => hlt ((zof_lt (zokh hs) (zokh2 hs)).mp q)), show min x y = x from by omega]
  rw [e9]
  exact k
theorem zs_abs {i : Nat} (hd : decode M.2.1 pc = .ok (.invokestatic i, 3)) (hp : zPm M.2.2.2.2.1 i Lib.Math.abs.name Lib.Math.abs.code 1) (hc : zcats st ≤ 8) (hd0 : 0 < d) (h : zTm g d M K (pc + 3) lv (.inl (zabs x) :: st) μ) : zTm g d M K pc lv (.inl x :: st) μ := by
  refine h.keep (fun hs _ hm => zok1 hs ?_) ?_
  · have h2 : zI32 x := zokh hs
    show zI32 (zabs x)
    unfold zabs
    split
    · exact h2
    · exact zI32_w _
  intro p e R s m args below meth c H locs cells slots Q ls C hl hs hr hS k
  obtain ⟨p1, p2, p3, p4⟩ := hp
  have hw := C.2.2.2.2.1
  have hfr : d ≤ R.frames := C.2.2.2.2.2.2.1
  have hlo : 64 * d ≤ R.locals := C.2.2.2.2.2.2.2.1
  refine va_mabs (x := Int32.ofInt x) C.1 C.2.1 (C.2.2.1.trans hl.1.symm) C.2.2.2.1 (hw _ p1) (hw _ p2) (hw _ p3) (hw _ p4) (by omega) (by rw [zcats_eq]; omega) C.2.2.2.2.2.2.2.2.1 C.2.2.2.2.2.2.2.2.2 hd ?_
  have e9 : (if 0 ≤ Int32.ofInt x then Int32.ofInt x else 0 - Int32.ofInt x) = Int32.ofInt (zabs x) := by
    unfold zabs
    by_cases hlt : 0 ≤ x
    · rw [if_pos (show (0 : Int32) ≤ Int32.ofInt x from (zof_le zI32_0 (zokh hs)).mpr hlt), if_pos hlt]
    · rw [if_neg (show ¬ (0 : Int32) ≤ Int32.ofInt x from fun q => hlt ((zof_le zI32_0 (zokh hs)).mp q)), if_neg hlt, zof_w, Int32.ofInt_sub]; rfl
  rw [e9]
  exact k
def zPn (own i : Nat) : Prop := Cond.methodLink (zOwn.getD own "") i Lib.MathLoose.min_long.x ∈ zTb ∧ Cond.static Lib.MathLoose.min_long.x ∈ zTb ∧ Cond.initialized "java/lang/Math" ∈ zTb ∧ Cond.code Lib.MathLoose.min_long.x Lib.MathLoose.min_long.code 4 (some .long) ∈ zTb
theorem zs_minL {i : Nat} (hd : decode M.2.1 pc = .ok (.invokestatic i, 3)) (hp : zPn M.2.2.2.2.1 i) (hc : zcats st ≤ 8) (hd0 : 0 < d) (h : zTm g d M K (pc + 3) lv (.inr (.inl (min x y)) :: st) μ) : zTm g d M K pc lv (.inr (.inl y) :: .inr (.inl x) :: st) μ := by
  refine h.keep (fun hs _ hm => zok2 hs ?_) ?_
  · have h1 : zI64 y := zokh hs
    have h2 : zI64 x := zokh2 hs
    show zI64 (min x y)
    unfold zI64 at *
    omega
  intro p e R s m args below meth c H locs cells slots Q ls C hl hs hr hS k
  obtain ⟨p1, p2, p3, p4⟩ := hp
  have hw := C.2.2.2.2.1
  have hfr : d ≤ R.frames := C.2.2.2.2.2.2.1
  have hlo : 64 * d ≤ R.locals := C.2.2.2.2.2.2.2.1
  refine va_mmin_long (x := Int64.ofInt x) (y := Int64.ofInt y) C.1 C.2.1 (C.2.2.1.trans hl.1.symm) C.2.2.2.1 (hw _ p1) (hw _ p2) (hw _ p3) (hw _ p4) (by omega) (by rw [zcats_eq]; omega) C.2.2.2.2.2.2.2.2.1 C.2.2.2.2.2.2.2.2.2 hd ?_
  have e9 : (if Int64.ofInt y < Int64.ofInt x then Int64.ofInt y else Int64.ofInt x) = Int64.ofInt (min x y) := by
    have e8 := zofL_lt (zokh hs) (zokh2 hs)
    by_cases hlt : y < x
    · rw [if_pos (e8.mpr hlt), show min x y = y from by omega]
    · rw [if_neg (fun q => hlt (e8.mp q)), show min x y = x from by omega]
  rw [e9]
  exact k
-- arraycopy
theorem zcp_off {j j' : Nat} {sp dp n : Int} (a : Nat) (h : ¬ a = j) : zcp μ j' sp j dp n a = μ a := by
  funext b
  simp [zcp, h]
theorem zcp_at (j j' : Nat) (sp dp n b : Int) : zcp μ j' sp j dp n j b = if dp ≤ b ∧ b < dp + n then μ j' (b - dp + sp) else μ j b := by
  simp [zcp]
theorem zMok_cp {j j' : Nat} {kd m1 m2 : Nat} {sp dp n : Int} (h : zMok μ) (hk : kd = 1 ∨ kd = 4) (ht : zSh[j]? = some (kd, m1)) (ht' : zSh[j']? = some (kd, m2)) (h1 : 0 ≤ sp) (h2 : 0 ≤ dp) (h3 : sp + n ≤ m2) : zMok (zcp μ j' sp j dp n) := by
  intro a t i g1 g2 g3 g4
  by_cases e : a = j
  · subst e
    rw [ht] at g1; cases g1
    rw [zcp_at]
    split
    · rename_i e2
      have hk0 : ¬ kd = 0 := by omega
      have := h j' (kd, m2) (i - dp + sp) ht' (by omega) (fun e => absurd e hk0) (fun _ => by show i - dp + sp < (m2 : Int); omega)
      rcases hk with rfl | rfl <;> exact this
    · exact h _ _ _ ht g2 g3 g4
  · rw [zcp_off _ e]
    exact h _ _ _ g1 g2 g3 g4
def zPa (own i : Nat) : Prop := Cond.methodLink (zOwn.getD own "") i arraycopyName ∈ zTb ∧ Cond.native arraycopyName ∈ zTb ∧ Cond.static arraycopyName ∈ zTb ∧ Cond.initialized "java/lang/System" ∈ zTb
theorem zs_copy {i j j' kd m1 m2 : Nat} {sp dp n : Int} (hkd : kd = 1 ∨ kd = 4) (hd : decode M.2.1 pc = .ok (.invokestatic i, 3)) (hp : zPa M.2.2.2.2.1 i) (hc : zcats st ≤ 8) (hd0 : 0 < d) (hne : ¬ j = j') (hb : 0 ≤ sp ∧ 0 ≤ dp ∧ 0 ≤ n ∧ sp + n ≤ m2 ∧ dp + n ≤ m1)
    (h : zTm g d M K (pc + 3) lv st (zcp μ j' sp j dp n)) : zTm g d M K pc lv (.inl n :: .inl dp :: .inr (.inr ((kd, m1), j)) :: .inl sp :: .inr (.inr ((kd, m2), j')) :: st) μ := by
  intro p e R s m args below meth c H locs cells slots Q ls C hl hs hv hr hS hret
  obtain ⟨p1, p2, p3, p4⟩ := hp
  have hw := C.2.2.2.2.1
  have hfr : d ≤ R.frames := C.2.2.2.2.2.2.1
  have hlo : 64 * d ≤ R.locals := C.2.2.2.2.2.2.2.1
  have hn : zI32 n := zokh hs
  have hdp : zI32 dp := zokh2 hs
  have hsp : zI32 sp := zokh2 (zokt (zokt hs))
  have h6 : ¬ kd = 6 := by omega
  have r1 : zSh[j]? = some (kd, m1) := by
    rcases zokh3 hs with h1 | h1 | h1
    · exact h1
    · have := congrArg (fun q => q.1.1) h1; exact absurd this h6
    · have := congrArg (fun q => q.1.1) h1; exact absurd this h6
  have r2 : zSh[j']? = some (kd, m2) := by
    rcases zokh3 (zokt (zokt hs)) with h1 | h1 | h1
    · exact h1
    · have := congrArg (fun q => q.1.1) h1; exact absurd this h6
    · have := congrArg (fun q => q.1.1) h1; exact absurd this h6
  have neg : ∀ {z : Int}, zI32 z → 0 ≤ z → ¬ Int32.ofInt z < 0 := fun hz h0 q => by
    have := (zof_lt hz zI32_0).mp q
    omega
  have hf5 : nativeFrameWords "java/lang/System" "arraycopy" 5 = 7 := by decide +kernel
  have fin : ∀ (H1 : Heap) (locs1 : List Loc), va_P (zD g) vwCl ((zW g μ).set j (zad g j, zE g j (kd, m1) (zcp μ j' sp j dp n j))) H1 → va_S (zA g) s.heap H1 locs1 → W p g.1 e R s m args below meth c H1 locs1 cells slots Q (F0 m (pc + 3) ls (st.map (zR g))) := by
    intro H1 locs1 hP hS1
    have hP := (zW_upd (g := g) (μ := μ) r1 (fun a ha => zcp_off (j' := j') (sp := sp) (dp := dp) (n := n) a ha)) ▸ hP
    exact h p e R s m args below meth c H1 locs1 cells slots Q ls C hl (zokt (zokt (zokt (zokt (zokt hs))))) hv ⟨hP, zMok_cp hr.2 hkd r1 r2 hb.1 hb.2.1 hb.2.2.2.1⟩ hS1 hret
  have hfun : ∀ {α : Type} (f : Int → α), (fun a : Nat => f (zcp μ j' sp j dp n j a)) = va_cpy (fun a : Nat => f (μ j' a)) (fun a : Nat => f (μ j a)) (Int32.ofInt sp).toNatClampNeg (Int32.ofInt dp).toNatClampNeg (Int32.ofInt n).toNatClampNeg := by
    intro α f
    funext a
    unfold va_cpy
    rw [zcp_at, zof_toN hsp, zof_toN hdp, zof_toN hn]
    by_cases e1 : dp ≤ a ∧ (a : Int) < dp + n
    · rw [if_pos e1, if_pos (by omega)]
      congr 2
      omega
    · rw [if_neg e1, if_neg (by omega)]
  rcases hkd with rfl | rfl
  · refine va_copyi (D := zD g) (a := zad g j) (a0 := zad g j') (f := fun a => Int32.ofInt (μ j' a)) (g := fun a => Int32.ofInt (μ j a)) (sp := Int32.ofInt sp) (dp := Int32.ofInt dp) (n := Int32.ofInt n) C.1 C.2.1 (C.2.2.1.trans hl.1.symm) C.2.2.2.1 (hw _ p1) (hw _ p2) (hw _ p3) (hw _ p4) C.2.2.2.2.2.1.1 hr.1 (zW_D C.2.2.2.2.2.1.2.1 μ) hS j' j 0 0 (zW_get r2) (zW_get r1) (ty := .int) rfl rfl rfl
      (neg hsp hb.1) (neg hdp hb.2.1) (neg hn hb.2.2.1) (by rw [zof_toN hsp, zof_toN hn]; omega) (by rw [zof_toN hdp, zof_toN hn]; omega) (fun _ _ => rfl) (by omega) (by rw [zcats_eq, hf5]; omega) hd (fun H1 locs1 hP hD hS1 => fin H1 locs1 ?_ hS1)
    rw [← hfun Int32.ofInt] at hP
    exact hP
  · refine va_copyl (D := zD g) (a := zad g j) (a0 := zad g j') (f := fun a => Int64.ofInt (μ j' a)) (g := fun a => Int64.ofInt (μ j a)) (sp := Int32.ofInt sp) (dp := Int32.ofInt dp) (n := Int32.ofInt n) C.1 C.2.1 (C.2.2.1.trans hl.1.symm) C.2.2.2.1 (hw _ p1) (hw _ p2) (hw _ p3) (hw _ p4) C.2.2.2.2.2.1.1 hr.1 (zW_D C.2.2.2.2.2.1.2.1 μ) hS j' j 3 3 (zW_get r2) (zW_get r1) (ty := .long) rfl rfl rfl
      (neg hsp hb.1) (neg hdp hb.2.1) (neg hn hb.2.2.1) (by rw [zof_toN hsp, zof_toN hn]; omega) (by rw [zof_toN hdp, zof_toN hn]; omega) (fun _ _ => rfl) (by omega) (by rw [zcats_eq, hf5]; omega) hd (fun H1 locs1 hP hD hS1 => fin H1 locs1 ?_ hS1)
    rw [← hfun Int64.ofInt] at hP
    exact hP
end ZF
end
section
/-! calls of methods, and their beginning -/
section ZH
variable {g : zG} {d : Nat} {M : zMeth} {K : Option zV → zM → Prop} {pc : Nat} {lv : zL} {st : List zV} {μ : zM} {x y : Int}
theorem zNw_form {w : Cond} (h : w ∈ zNw) : ∃ a i b n d e, w = .fieldLinkNest a i b n d e := by
  have h2 := (List.mem_filter.mp h).2
  unfold zNst at h2
  split at h2
  · exact ⟨_, _, _, _, _, _, rfl⟩
  · cases h2
theorem zSt_moved {s U : State} {locs : List Loc} (h : zSt g s) (hvm : s.WarmedH U.vm) (hS : va_S (zA g) s.heap U.heap locs) : zSt g U := by
  refine ⟨va_K.moved hvm.alike h.1, h.2.1, ?_, ?_, zRW_kept h hS, fun w hw => ?_⟩
  · exact (h.2.2.1.moved hvm.alike).kept hS.2.1
  · exact (h.2.2.2.1.moved hvm.alike).kept hS.2.1
  · have h9 := h.2.2.2.2.2 w hw
    obtain ⟨a, i, b, n, d, e, rfl⟩ := zNw_form hw
    exact va_Nw.warmF hvm h9
theorem zPc_blind (g : zG) (av : List zV) (μ : zM) : FrameBlind (zPc g av μ) := by
  intro a U f mk h
  obtain ⟨h1, h2, h3, h4⟩ := h
  refine ⟨h1, h2, h3, va_K.moved (u := U) (U := U.calling f mk a) (Vm.Alike.refl U.vm) h4.1, h4.2.1, ?_, ?_, h4.2.2.2.2.1, fun w hw => ?_⟩
  · exact va_Z.moved (u := U) (U := U.calling f mk a) (Vm.Alike.refl U.vm) h4.2.2.1
  · exact va_Z.moved (u := U) (U := U.calling f mk a) (Vm.Alike.refl U.vm) h4.2.2.2.1
  · have h9 := h4.2.2.2.2.2 w hw
    obtain ⟨a, i, b, n, d, e, rfl⟩ := zNw_form hw
    exact va_Nw.same rfl rfl h9
/-- what the tables say of a method that is called -/
def zPi (own i id n : Nat) : Prop := Cond.methodLink (zOwn.getD own "") i (zMt id).1 ∈ zTb ∧ Cond.initialized (zMt id).1.cls ∈ zTb ∧ Cond.code (zMt id).1 (zMt id).2.1 (zMt id).2.2.1 (zMt id).2.2.2.1 ∈ zTb ∧
  ((zMt id).1.cls ≠ "java/lang/invoke/MethodHandle" ∧ (zMt id).1.cls ≠ "java/lang/invoke/VarHandle" ∧ (parseMethodDescriptor (zMt id).1.desc).map (fun q => q.parameters.length) = some n) ∧ (zMt id).2.2.1 ≤ 45
theorem zTb_good {w : Cond} (h : w ∈ zTb) : (w.onTables && w.keeps) = true ∨ ∃ ty, w = .arrayClass ty := good_of_word (List.mem_filter.mp h).2
theorem zgoodIn {id : Nat} (h : Cond.code (zMt id).1 (zMt id).2.1 (zMt id).2.2.1 (zMt id).2.2.2.1 ∈ zTb) : GoodIn zTb (zws (zMt id)) := fun w hw => by
  rcases List.mem_cons.mp hw with rfl | hw
  · exact ⟨h, zTb_good h⟩
  · exact ⟨hw, zTb_good hw⟩
theorem zpop_spec : ∀ (n : Nat) (st acc as rest : List zV), zpop n st acc = some (as, rest) → ∃ l : List zV, l.length = n ∧ as = l ++ acc ∧ st = l.reverse ++ rest
  | 0, st, acc, as, rest, h => by
    cases h
    exact ⟨[], rfl, rfl, rfl⟩
  | n + 1, [], acc, as, rest, h => by cases h
  | n + 1, v :: st, acc, as, rest, h => by
    obtain ⟨l, h1, h2, h3⟩ := zpop_spec n st (v :: acc) as rest h
    exact ⟨l ++ [v], by simp [h1], by simp [h2], by simp [h3]⟩
/-- a call is through -/
theorem zs_ran {p : Program} {e : Env} {R : Room} {s : State} {m : MethodId} {args : Array Value} {below : List Frame} {meth : Method} {c : Code} {H : Heap} {locs : List Loc} {cells slots : Nat} {Q : State → Prop} {ls : Array Slot} {rest : List zV} {st0 : List Value} {a : Array Value}
    (hrun : va_Run p g.1 e R s m args below meth c H locs cells slots 0 0 (F0 m pc ls st0) (rest.map (zR g)) (zQc g (fun v μ' => zTm g d M K (pc + 3) lv (v.toList ++ rest) μ') a) (zA g))
    (C : zCx g d M p R s m args c cells slots) (hl : zHas g ls M.2.2.1 lv) (hs : ∀ v ∈ rest, zok v) (hv : ∀ (i : Nat) (v : zV), zget lv i = some v → zok v) (hS : va_S (zA g) s.heap H locs)
    (hret : ∀ (v : Option zV) (μ' : zM) (H' : Heap) (locs' : List Loc) (ls' : Array Slot) (pc' : Nat), zRel g μ' H' → va_S (zA g) s.heap H' locs' → zokO v → K v μ' → zret M pc' v → W p g.1 e R s m args below meth c H' locs' cells slots Q (F0 m pc' ls' (v.toList.map (zR g)))) :
    W p g.1 e R s m args below meth c H locs cells slots Q (F0 m pc ls st0) := by
  intro T hT X
  obtain ⟨v, st₀, t, T', L, h0, X', hL, e1, e2, ⟨v', μ', hv', hok, hrel, hK, hz, hk⟩, st⟩ := hrun T hT X
  have hv2 : v = v'.map (zR g) := Outcome.returned.inj hv'
  subst hv2
  rw [h0] at hz hk
  have hS1 : va_S (zA g) s.heap T'.heap (locs ++ L) := by
    rw [e1]
    refine ⟨Nat.le_trans hS.1 hz, fun q h1 h2 => ?_, fun q hq => ?_⟩
    · rw [hk q (Nat.lt_of_lt_of_le h1 hS.1) h2]
      exact hS.2.1 q h1 h2
    · rcases List.mem_append.mp hq with h | h
      · exact hS.2.2 q h
      · exact hL q h
  have hst : ∀ z ∈ v'.toList ++ rest, zok z := by
    intro z hz2
    rcases List.mem_append.mp hz2 with h | h
    · cases v' with
      | none => cases h
      | some w =>
        have : z = w := by simpa using h
        exact hok z (by rw [this])
    · exact hs z h
  obtain ⟨t2, a1, b1⟩ := hK p e R s m args below meth c T'.heap (locs ++ L) cells slots Q ls C hl hst hv (by rw [e1]; exact hrel) hS1 hret T' rfl X'
  have hmap : (v'.toList ++ rest).map (zR g) = (v'.map (zR g)).toList ++ rest.map (zR g) := by
    cases v' <;> rfl
  rw [hmap] at a1
  exact ⟨t2, st t2 a1, b1⟩
theorem zs_callV {i id n c : Nat} {q : zT0 × Nat} {as rest : List zV} (hq : q.1 = (0, c)) (hd : decode M.2.1 pc = .ok (.invokevirtual i, 3)) (hp : zPi M.2.2.2.2.1 i id n) (hp2 : Cond.instanceMethod (zMt id).1 ∈ zTb ∧ Cond.selects (zMt id).1.cls (zMt id).1 (zMt id).1 ∈ zTb ∧ ∃ T N, vwCl[c]? = some ((zMt id).1.cls, T, N))
    (hn : as.length = n) (hst : st = as.reverse ++ .inr (.inr q) :: rest) (hc : zcats rest ≤ 8) (hd0 : 0 < d) (h : zCal0 g (d - 1) id (.inr (.inr q) :: as) μ (fun v μ' => zTm g d M K (pc + 3) lv (v.toList ++ rest) μ')) : zTm g d M K pc lv st μ := by
  intro p e R s m args below meth cc H locs cells slots Q ls C hl hs hv hr hS hret
  obtain ⟨p1, p2, p3, p4, p5⟩ := hp
  obtain ⟨p6, p7, T, N, p8⟩ := hp2
  have hw := C.2.2.2.2.1
  have hfr : d ≤ R.frames := C.2.2.2.2.2.2.1
  have hlo : 64 * d ≤ R.locals := C.2.2.2.2.2.2.2.1
  have hoks : ∀ v ∈ (.inr (.inr q) : zV) :: as, zok v := fun v hv9 => hs v (by
    rw [hst]
    rcases List.mem_cons.mp hv9 with rfl | h9
    · exact List.mem_append_right _ List.mem_cons_self
    · exact List.mem_append_left _ (List.mem_reverse.mpr h9))
  have hrest : ∀ v ∈ rest, zok v := fun v hv9 => hs v (by rw [hst]; exact List.mem_append_right _ (List.mem_cons_of_mem _ hv9))
  have hq1 : zSh[q.2]? = some (0, c) := by
    rcases hoks _ List.mem_cons_self with h1 | h1 | h1
    · rw [h1, hq]
    · rw [h1] at hq; cases hq
    · rw [h1] at hq; cases hq
  have he : (zW g μ)[q.2]? = some (zad g q.2, .inr (c, zFs g q.2 (μ q.2) 0 (zFl.getD c []))) := zW_get hq1
  have hrecv := va_recv C.2.2.2.2.2.1.1 hr.1 p8 he
  have hmap : st.map (zR g) = (as.map (zR g)).reverse ++ Value.ref (zad g q.2) :: rest.map (zR g) := by
    rw [hst, List.map_append, List.map_reverse]
    rfl
  have hrun : va_Run p g.1 e R s m args below meth cc H locs cells slots 0 0 (F0 m pc ls (st.map (zR g))) (rest.map (zR g)) (zQc g (fun v μ' => zTm g d M K (pc + 3) lv (v.toList ++ rest) μ') (Value.ref (zad g q.2) :: as.map (zR g)).toArray) (zA g) := by
    refine va_runV (C := (zMt id).1.cls) (Ts := zTb) (own := zOwn.getD M.2.2.2.2.1 "") (index := i) (n := n) (bytes := (zMt id).2.1) (maxL := (zMt id).2.2.1) (ret := (zMt id).2.2.2.1) ⟨C.1, C.2.1, C.2.2.1, C.2.2.2.1, hw⟩ h ⟨?_, hw _ p6, hw _ p7⟩ ⟨zPc_blind g _ μ, hrecv, ?_⟩ rfl (by rw [List.length_map]; exact hn) hl.1 hmap ?_ hd ⟨C.2.2.2.2.2.2.2.2.1, C.2.2.2.2.2.2.2.2.2⟩
    · exact callB_of n hw (zgoodIn p3) rfl rfl rfl (hw _ p2) (hw _ p1) p4 ⟨by show d - 1 + 1 ≤ R.frames; omega, by show 8 + ((zMt id).2.2.1 + 11) + 64 * (d - 1) ≤ R.locals; omega⟩
    · intro U hU hWm
      refine ⟨rfl, hoks, by rw [hU]; exact hr, zSt_moved (locs := locs) C.2.2.2.2.2.1 hWm (by rw [hU]; exact hS)⟩
    · exact lv_room (by rw [zcats_eq]; exact hc)
  exact zs_ran hrun C hl hrest hv hS hret
theorem zs_callS {i id n : Nat} {as rest : List zV} (hd : decode M.2.1 pc = .ok (.invokestatic i, 3)) (hp : zPi M.2.2.2.2.1 i id n) (hp2 : Cond.static (zMt id).1 ∈ zTb)
    (hn : as.length = n) (hst : st = as.reverse ++ rest) (hc : zcats rest ≤ 8) (hd0 : 0 < d) (h : zCal0 g (d - 1) id as μ (fun v μ' => zTm g d M K (pc + 3) lv (v.toList ++ rest) μ')) : zTm g d M K pc lv st μ := by
  intro p e R s m args below meth cc H locs cells slots Q ls C hl hs hv hr hS hret
  obtain ⟨p1, p2, p3, p4, p5⟩ := hp
  have hw := C.2.2.2.2.1
  have hfr : d ≤ R.frames := C.2.2.2.2.2.2.1
  have hlo : 64 * d ≤ R.locals := C.2.2.2.2.2.2.2.1
  have hoks : ∀ v ∈ as, zok v := fun v hv9 => hs v (by rw [hst]; exact List.mem_append_left _ (List.mem_reverse.mpr hv9))
  have hrest : ∀ v ∈ rest, zok v := fun v hv9 => hs v (by rw [hst]; exact List.mem_append_right _ hv9)
  have hmap : st.map (zR g) = (as.map (zR g)).reverse ++ rest.map (zR g) := by
    rw [hst, List.map_append, List.map_reverse]
  have hrun : va_Run p g.1 e R s m args below meth cc H locs cells slots 0 0 (F0 m pc ls (st.map (zR g))) (rest.map (zR g)) (zQc g (fun v μ' => zTm g d M K (pc + 3) lv (v.toList ++ rest) μ') (as.map (zR g)).toArray) (zA g) := by
    refine va_runS (Ts := zTb) (own := zOwn.getD M.2.2.2.2.1 "") (index := i) (n := n) (bytes := (zMt id).2.1) (maxL := (zMt id).2.2.1) (ret := (zMt id).2.2.2.1) ⟨C.1, C.2.1, C.2.2.1, C.2.2.2.1, hw⟩ h ⟨?_, hw _ hp2⟩ ⟨zPc_blind g _ μ, ?_⟩ rfl (by rw [List.length_map]; exact hn) hl.1 hmap ?_ hd ⟨C.2.2.2.2.2.2.2.2.1, C.2.2.2.2.2.2.2.2.2⟩
    · exact callB_of n hw (zgoodIn p3) rfl rfl rfl (hw _ p2) (hw _ p1) p4 ⟨by show d - 1 + 1 ≤ R.frames; omega, by show 8 + ((zMt id).2.2.1 + 11) + 64 * (d - 1) ≤ R.locals; omega⟩
    · intro U hU hWm
      refine ⟨rfl, hoks, by rw [hU]; exact hr, zSt_moved (locs := locs) C.2.2.2.2.2.1 hWm (by rw [hU]; exact hS)⟩
    · exact lv_room (by rw [zcats_eq]; exact hc)
  exact zs_ran hrun C hl hrest hv hS hret
-- the beginning
def zent : List zV → zL
  | [] => []
  | .inl x :: l => some (.inl x) :: zent l
  | .inr (.inl x) :: l => some (.inr (.inl x)) :: none :: zent l
  | .inr (.inr q) :: l => some (.inr (.inr q)) :: zent l
def zpad : Nat → zL → zL
  | 0, l => l
  | n + 1, [] => none :: zpad n []
  | n + 1, v :: l => v :: zpad n l
theorem zget_pad : ∀ (n : Nat) (l : zL) (i : Nat), zget (zpad n l) i = zget l i
  | 0, l, i => rfl
  | n + 1, [], i => by
    cases i with
    | zero => rfl
    | succ i => simp only [zpad, zget]; rw [zget_pad n [] i]; rfl
  | n + 1, v :: l, i => by
    cases i with
    | zero => rfl
    | succ i => simp only [zpad, zget]; exact zget_pad n l i
theorem zent_args (g : zG) : ∀ (l : List zV) (k i : Nat) (v : zV), zget (zent l) i = some v → (k + i, zR g v) ∈ lv_args k (l.map (zR g))
  | [], k, i, v, h => by cases h
  | .inl x :: l, k, i, v, h => by
    cases i with
    | zero => cases h; exact List.mem_cons_self
    | succ i =>
      have := zent_args g l (k + 1) i v h
      refine List.mem_cons_of_mem _ ?_
      rw [show k + (i + 1) = k + 1 + i from by omega]
      exact this
  | .inr (.inr q) :: l, k, i, v, h => by
    cases i with
    | zero => cases h; exact List.mem_cons_self
    | succ i =>
      have := zent_args g l (k + 1) i v h
      refine List.mem_cons_of_mem _ ?_
      rw [show k + (i + 1) = k + 1 + i from by omega]
      exact this
  | .inr (.inl x) :: l, k, i, v, h => by
    match i, h with
    | 0, h => cases h; exact List.mem_cons_self
    | 1, h => cases h
    | i + 2, h =>
      have := zent_args g l (k + 2) i v h
      refine List.mem_cons_of_mem _ ?_
      rw [show k + (i + 2) = k + 2 + i from by omega]
      exact this
theorem zent_len (g : zG) : ∀ l : List zV, (lg_sl (l.map (zR g))).length = (zent l).length
  | [] => rfl
  | .inl x :: l => by
    have := zent_len g l
    simp only [lg_sl, List.map_cons, List.flatMap_cons, zent, List.length_append, List.length_cons] at this ⊢
    rw [this]
    show 1 + _ = _
    omega
  | .inr (.inr q) :: l => by
    have := zent_len g l
    simp only [lg_sl, List.map_cons, List.flatMap_cons, zent, List.length_append, List.length_cons] at this ⊢
    rw [this]
    show 1 + _ = _
    omega
  | .inr (.inl x) :: l => by
    have := zent_len g l
    simp only [lg_sl, List.map_cons, List.flatMap_cons, zent, List.length_append, List.length_cons] at this ⊢
    rw [this]
    show 2 + _ = _
    omega
theorem zent_ok {av : List zV} (h : ∀ v ∈ av, zok v) : ∀ (i : Nat) (v : zV), zget (zent av) i = some v → zok v := by
  induction av with
  | nil => intro i v hi; cases hi
  | cons a l ih =>
    have ih := ih (fun v hv => h v (List.mem_cons_of_mem _ hv))
    intro i v hi
    rcases a with a | a | a
    · cases i with
      | zero => cases hi; exact h _ List.mem_cons_self
      | succ i => exact ih i v hi
    · match i, hi with
      | 0, hi => cases hi; exact h _ List.mem_cons_self
      | 1, hi => cases hi
      | i + 2, hi => exact ih i v hi
    · cases i with
      | zero => cases hi; exact h _ List.mem_cons_self
      | succ i => exact ih i v hi
/-- what must hold of a method's record -/
def zMr (id : Nat) : Prop := plainName (zMt id).1.cls = true ∧ (zMt id).1.cls = zOwn.getD (zMt id).2.2.2.2.1 ""
theorem zCal0.intro {id : Nat} {av : List zV} (hr : zMr id) (hn : (zent av).length ≤ (zMt id).2.2.1) (h : (∀ v ∈ av, zok v) → zMok μ → zTm g d (zMt id) K 0 (zpad (zMt id).2.2.1 (zent av)) [] μ) : zCal0 g d id av μ K := by
  refine Met.ofW (cc := (zMt id).2.1) (maxL := (zMt id).2.2.1) (ret := (zMt id).2.2.2.1) hr.1 rfl ?_
  intro p e s m args below meth c s₁ B hml hv
  obtain ⟨rfl, hoks, hrel, hst⟩ := hv
  have hx := B.exec
  have hb := B.bytes
  have hrt := B.returns
  have hts := atoms_spec (ws := zws (zMt id)) B.pre
  have hown : s.vm.findClass (zMt id).1.cls = some m.cls := findClass_of_methodNamed B.named
  have hlocks := B.notSynchronized
  have hl := lv_entry (av.map (zR g)) (n := (zMt id).2.2.1) (by rw [zent_len]; exact hn)
  rw [lg_entry_eq]
  generalize (lg_sl (av.map (zR g)) ++ List.replicate ((zMt id).2.2.1 - (lg_sl (av.map (zR g))).length) Slot.unset).toArray = ls at hl ⊢
  have C : zCx g d (zMt id) p (zrm d) s m (av.map (zR g)).toArray c 0 0 := ⟨hx, hb, hml, by rw [← hr.2]; exact hown, fun w hw => hts w (List.mem_cons_of_mem _ hw), hst, Nat.le_refl _, Nat.le_refl _, Nat.le_refl _, Nat.le_refl _⟩
  have hH : zHas g ls (zMt id).2.2.1 (zpad (zMt id).2.2.1 (zent av)) := ⟨hl.1, hl.2.1, fun i v hi => by
    rw [zget_pad] at hi
    have := zent_args g av 0 i v hi
    rw [Nat.zero_add] at this
    exact hl.2.2 _ this⟩
  refine h hoks hrel.2 p e (zrm d) s m _ below meth c s.heap [] 0 0 _ ls C hH (fun v hv => by cases hv) (fun i v hi => by rw [zget_pad] at hi; exact zent_ok hoks i v hi) hrel va_S.rf ?_
  intro v μ' H' locs' ls' pc' hrel' hS' hok' hK hret
  have hq : ∀ {o : Option Value} (_ : o = v.map (zR g)) (t : State), t.heap = H' → s.WarmedH t.vm → zQc g K (av.map (zR g)).toArray s (.returned o) t := fun ho t ht hW => ⟨v, μ', by rw [ho], hok', by rw [ht]; exact hrel', hK, by rw [ht]; exact hS'.1, by rw [ht]; exact hS'.2.1⟩
  rcases v with - | x | x | x
  · obtain ⟨r1, r2⟩ := hret
    exact W.vret hx hb (hrt.trans r2) (hq rfl) hS'.2.2 r1
  · obtain ⟨r1, r2 | ⟨r2, r3⟩⟩ := hret
    · exact W.iret hx hb (hrt.trans r2) (hq rfl) hS'.2.2 r1
    · exact W.zret (ty := .boolean) hx hb (hrt.trans r2) (by rcases r3 with rfl | rfl <;> rfl) (hq rfl) hS'.2.2 r1
  · obtain ⟨r1, r2⟩ := hret
    exact W.lret hx hb (hrt.trans r2) (hq rfl) hS'.2.2 r1
  · exact hret.elim
theorem zCal0.imp {id : Nat} {av : List zV} {K' : Option zV → zM → Prop} (h : zCal0 g d id av μ K') (hK : ∀ v μ', K' v μ' → K v μ') : zCal0 g d id av μ K := by
  unfold zCal0 Met at *
  exact MetFree.mono h (fun _ _ h9 => h9) (fun _ _ _ _ _ h9 => h9) (fun a s o s' _ hq => ⟨by
    obtain ⟨v, μ', q1, q2, q3, q4, q5⟩ := hq.1
    exact ⟨v, μ', q1, q2, q3, hK _ _ q4, q5⟩, hq.2⟩)
end ZH
end
section
/-! THE WALK IS SOUND: what is computed out of the code holds on the machine -/
section ZK
variable {g : zG} {d : Nat} {M : zMeth} {K : Option zV → zM → Prop} {pc : Nat} {lv : zL} {st : List zV} {μ : zM} {x y : Int}
theorem z1_e {f : Int → List zV → Prop} (h : z1 st f) : ∃ x r, st = .inl x :: r ∧ f x r := by
  unfold z1 at h
  split at h
  · exact ⟨_, _, rfl, h⟩
  · exact h.elim
theorem z2_e {f : Int → Int → List zV → Prop} (h : z2 st f) : ∃ x y r, st = .inl y :: .inl x :: r ∧ f x y r := by
  unfold z2 at h
  split at h
  · exact ⟨_, _, _, rfl, h⟩
  · exact h.elim
theorem zl1_e {f : Int → List zV → Prop} (h : zl1 st f) : ∃ x r, st = .inr (.inl x) :: r ∧ f x r := by
  unfold zl1 at h
  split at h
  · exact ⟨_, _, rfl, h⟩
  · exact h.elim
theorem zl2_e {f : Int → Int → List zV → Prop} (h : zl2 st f) : ∃ x y r, st = .inr (.inl y) :: .inr (.inl x) :: r ∧ f x y r := by
  unfold zl2 at h
  split at h
  · exact ⟨_, _, _, rfl, h⟩
  · exact h.elim
theorem zr1_e {f : zT0 → Nat → List zV → Prop} (h : zr1 st f) : ∃ t j r, st = .inr (.inr (t, j)) :: r ∧ f t j r := by
  unfold zr1 at h
  split at h
  · exact ⟨_, _, _, rfl, h⟩
  · exact h.elim
theorem zai_e {f : Int → Nat → Nat → Nat → List zV → Prop} (h : zai st f) : ∃ i t n j r, st = .inl i :: .inr (.inr ((t, n), j)) :: r ∧ f i t n j r := by
  unfold zai at h
  split at h
  · exact ⟨_, _, _, _, _, rfl, h⟩
  · exact h.elim
theorem zaii_e {f : Int → Int → Nat → Nat → Nat → List zV → Prop} (h : zaii st f) : ∃ x i t n j r, st = .inl x :: .inl i :: .inr (.inr ((t, n), j)) :: r ∧ f x i t n j r := by
  unfold zaii at h
  split at h
  · exact ⟨_, _, _, _, _, _, rfl, h⟩
  · exact h.elim
theorem zail_e {f : Int → Int → Nat → Nat → Nat → List zV → Prop} (h : zail st f) : ∃ x i t n j r, st = .inr (.inl x) :: .inl i :: .inr (.inr ((t, n), j)) :: r ∧ f x i t n j r := by
  unfold zail at h
  split at h
  · exact ⟨_, _, _, _, _, _, rfl, h⟩
  · exact h.elim
theorem zon_e {b : Bool} {P : Prop} (h : zon b P) : b = true ∧ P := by
  cases b
  · exact h.elim
  · exact ⟨rfl, h⟩
theorem zis_e {t : zT0} {a b : Nat} (h : zis t a b = true) : t = (a, b) := by
  unfold zis at h
  obtain ⟨t1, t2⟩ := t
  simp only at h
  cases h1 : Nat.beq t1 a with
  | false => rw [h1] at h; cases h
  | true =>
    rw [h1] at h
    rw [Nat.eq_of_beq_eq_true h1, Nat.eq_of_beq_eq_true h]
/-- what a program sees of an instruction at its place: its length, its numbers, its jumps, its pool's entry -/
def zchk (own nL pc : Nat) (ins : Instr) (len : Nat) : Bool := match ins with
  | .iconst n => Nat.beq len 1 && decide (-1 ≤ n ∧ n ≤ 5)
  | .bipush n => Nat.beq len 2 && decide (-128 ≤ n ∧ n ≤ 127)
  | .sipush n => Nat.beq len 3 && decide (-32768 ≤ n ∧ n ≤ 32767)
  | .ldc _ => Nat.beq len 2
  | .ldc_w _ => Nat.beq len 3
  | .ldc2_w _ => Nat.beq len 3
  | .iload _ => Nat.beq len 2
  | .lload _ => Nat.beq len 2
  | .aload _ => Nat.beq len 2
  | .istore_n n => Nat.beq len 1 && Nat.blt n nL
  | .astore_n n => Nat.beq len 1 && Nat.blt n nL
  | .istore n => Nat.beq len 2 && Nat.blt n nL
  | .astore n => Nat.beq len 2 && Nat.blt n nL
  | .lstore n => Nat.beq len 2 && Nat.blt (n + 1) nL
  | .iinc i _ => Nat.beq len 3 && Nat.blt i nL
  | .goto o => Nat.beq len 3 && decide (0 ≤ (pc : Int) + o)
  | .ifCond _ o => Nat.beq len 3 && decide (0 ≤ (pc : Int) + o)
  | .if_icmp _ o => Nat.beq len 3 && decide (0 ≤ (pc : Int) + o)
  | .tableswitch dflt lo hi offs => decide ((offs.toList.length : Int) = hi - lo + 1) && (dflt :: offs.toList).all (fun o => decide (0 ≤ (pc : Int) + o))
  | .lookupswitch dflt ps => (ps.toList.zip (ps.toList.drop 1)).all (fun (a, next) => decide (a.1 < next.1)) && (dflt :: ps.toList.map (·.2)).all (fun o => decide (0 ≤ (pc : Int) + o))
  | .getfield i => Nat.beq len 3 && (match zpe own i with
    | some (b, _, _) => Nat.ble b 1
    | none => true)
  | .putfield i => Nat.beq len 3 && (match zpe own i with
    | some (b, _, _) => Nat.ble b 1
    | none => true)
  | .getstatic _ => Nat.beq len 3
  | .invokevirtual _ => Nat.beq len 3
  | .invokestatic _ => Nat.beq len 3
  | .new _ => true
  | .invokespecial _ => true
  | .newarray _ => true
  | .anewarray _ => true
  | _ => Nat.beq len 1
/-- what the tables say of a place in a pool -/
def zPok (own idx : Nat) : zPE → Prop
  | (0, c, f) => zPf own idx 0 c f.toNat ∧ 0 ≤ f
  | (1, c, f) => zPf own idx 1 c f.toNat ∧ 0 ≤ f
  | (2, id, n) => zPi own idx id (n.toNat % 100) ∧ Cond.instanceMethod (zMt id).1 ∈ zTb ∧ Cond.selects (zMt id).1.cls (zMt id).1 (zMt id).1 ∈ zTb ∧ ∃ T N, vwCl[n.toNat / 100]? = some ((zMt id).1.cls, T, N)
  | (3, id, n) => zPi own idx id n.toNat ∧ Cond.static (zMt id).1 ∈ zTb
  | (4, _, v) => zI32 v ∧ Cond.constant (zOwn.getD own "") idx (Int32.ofInt v) ∈ zTb
  | (5, _, v) => zI64 v ∧ Cond.constantLong (zOwn.getD own "") idx (Int64.ofInt v) ∈ zTb
  | (6, 1000, _) => Cond.fieldLink (zOwn.getD own "") idx RX0 "PLACE" "[J" ∈ zTb
  | (6, _, _) => Cond.fieldLink (zOwn.getD own "") idx RX8 "PLACE" "[J" ∈ zTb
  | (7, 0, _) => zPm own idx Lib.Math.max.name Lib.Math.max.code 2
  | (7, 1, _) => zPm own idx Lib.Math.min.name Lib.Math.min.code 2
  | (7, 2, _) => zPm own idx Lib.Math.abs.name Lib.Math.abs.code 1
  | (7, 4, _) => zPn own idx
  | (7, 3, _) => zPa own idx
  | _ => True
def zPool : Prop := ∀ own idx e, zpe own idx = some e → zPok own idx e
/-- the references that stay lead to cells of their kind; those that change have such cells to choose from -/
def zLay : Prop := ∀ (c k j : Nat) (t : zT0), zSh[j]? = some (0, c) → (∀ a, zfi c k = some (.inr (.inl (t, .inl a))) → zSh[a]? = some t) ∧ (∀ o, zfi c k = some (.inr (.inl (t, .inr o))) → zSh[j + o]? = some t) ∧ ∀ l a, zfi c k = some (.inr (.inr l)) → (t, a) ∈ l → zSh[a]? = some t
def zchain : zC → Bool
  | [] => true
  | [_] => true
  | q :: q2 :: r => Nat.beq q2.1 (q.1 + q.2.2) && zchain (q2 :: r)
/-- what a program sees of a method -/
def zMchk (M : zMeth) : Bool := M.2.2.2.2.2.all (fun q => decide (decode M.2.1 q.1 = .ok (q.2.1, q.2.2)) && zchk M.2.2.2.2.1 M.2.2.1 q.1 q.2.1 q.2.2) && zchain M.2.2.2.2.2
theorem zchain_next : ∀ (C : zC) (q : Nat × Instr × Nat) (r : zC), zchain (C ++ q :: r) = true → ∀ q2 r2, r = q2 :: r2 → q2.1 = q.1 + q.2.2
  | [], q, r, h, q2, r2, e => by
    subst e
    simp only [List.nil_append, zchain, Bool.and_eq_true] at h
    exact Nat.eq_of_beq_eq_true h.1
  | [a], q, r, h, q2, r2, e => by
    simp only [List.cons_append, List.nil_append, zchain, Bool.and_eq_true] at h
    exact zchain_next [] q r h.2 q2 r2 e
  | a :: b :: C, q, r, h, q2, r2, e => by
    simp only [List.cons_append, zchain, Bool.and_eq_true] at h
    exact zchain_next (b :: C) q r h.2 q2 r2 e
theorem zto_suf : ∀ (C : zC) (n : Nat), (∃ p, C = p ++ zto C n) ∧ ∀ q r, zto C n = q :: r → q.1 = n
  | [], n => ⟨⟨[], rfl⟩, fun q r h => by cases h⟩
  | a :: C, n => by
    unfold zto
    cases h : Nat.beq a.1 n with
    | true => exact ⟨⟨[], rfl⟩, fun q r e => by cases e; exact Nat.eq_of_beq_eq_true h⟩
    | false =>
      obtain ⟨⟨p, hp⟩, h2⟩ := zto_suf C n
      exact ⟨⟨a :: p, by rw [List.cons_append, ← hp]⟩, h2⟩
theorem zfit_int {c k : Nat} {v : Int} (h : zfi c k = some (.inl 0)) (hf : zfit (0, c) (k : Int) v) : zI32 v := by
  unfold zfit at hf
  simp only [Int.toNat_natCast] at hf
  rw [← zfi_eq, h] at hf
  exact hf
theorem zfit_bool {c k n : Nat} {v : Int} (h : zfi c k = some (.inl (n + 1))) (hf : zfit (0, c) (k : Int) v) : v = 0 ∨ v = 1 := by
  unfold zfit at hf
  simp only [Int.toNat_natCast] at hf
  rw [← zfi_eq, h] at hf
  exact hf
theorem zbq {a b : Nat} (h : Nat.beq a b = true) : a = b := Nat.eq_of_beq_eq_true h
theorem zbl {a b : Nat} (h : Nat.blt a b = true) : a < b := Nat.le_of_ble_eq_true h

set_option maxHeartbeats 4000000 in
theorem zgo_sound (cf : zCf) (pf : zPool) (ly : zLay) (hM : zMchk M = true) {P r : zC} {pc len : Nat} {ins : Instr} (hc : M.2.2.2.2.2 = P ++ (pc, ins, len) :: r) {k : zC → zL → List zV → zM → Prop}
    (hk : ∀ (C : zC) (lv : zL) (st : List zV) (μ : zM), (∃ p, M.2.2.2.2.2 = p ++ C) → k C lv st μ → ∃ q r, C = q :: r ∧ zTm g d M K q.1 lv st μ)
    (h : zgo g d M K k pc ins r lv st μ) : zTm g d M K pc lv st μ := by
  have hM2 := hM
  unfold zMchk at hM2
  rw [Bool.and_eq_true] at hM2
  have hq := List.all_eq_true.mp hM2.1 (pc, ins, len) (by rw [hc]; exact List.mem_append_right _ List.mem_cons_self)
  rw [Bool.and_eq_true] at hq
  have hdec : decode M.2.1 pc = .ok (ins, len) := of_decide_eq_true hq.1
  have hck : zchk M.2.2.2.2.1 M.2.2.1 pc ins len = true := hq.2
  have next : ∀ {lv : zL} {st : List zV} {μ : zM}, k r lv st μ → zTm g d M K (pc + len) lv st μ := by
    intro lv st μ hh
    obtain ⟨q2, r2, e, hT⟩ := hk r lv st μ ⟨P ++ [(pc, ins, len)], by rw [hc]; simp⟩ hh
    have := zchain_next P (pc, ins, len) r (by rw [← hc]; exact hM2.2) q2 r2 e
    rw [this] at hT
    exact hT
  have jump : ∀ {o : Int} {lv : zL} {st : List zV} {μ : zM}, k (zto M.2.2.2.2.2 ((pc : Int) + o).toNat) lv st μ → zTm g d M K ((pc : Int) + o).toNat lv st μ := by
    intro o lv st μ hh
    obtain ⟨h1, h2⟩ := zto_suf M.2.2.2.2.2 ((pc : Int) + o).toNat
    obtain ⟨q2, r2, e, hT⟩ := hk _ lv st μ h1 hh
    rw [h2 q2 r2 e] at hT
    exact hT
  clear hk hq hM2 hM
  cases ins with
  | iconst n =>
    simp only [zchk, Bool.and_eq_true] at hck
    obtain ⟨hl, hb⟩ := hck
    obtain rfl := zbq hl
    have hb := of_decide_eq_true hb
    exact zs_iconst hdec (by unfold zI32; omega) (next h)
  | bipush n =>
    simp only [zchk, Bool.and_eq_true] at hck
    obtain ⟨hl, hb⟩ := hck
    obtain rfl := zbq hl
    exact zs_bipush hdec (of_decide_eq_true hb) (next h)
  | sipush n =>
    simp only [zchk, Bool.and_eq_true] at hck
    obtain ⟨hl, hb⟩ := hck
    obtain rfl := zbq hl
    exact zs_sipush hdec (of_decide_eq_true hb) (next h)
  | lconst n =>
    obtain rfl := zbq (by simpa [zchk] using hck)
    exact zs_lconst hdec (next h)
  | ldc i =>
    obtain rfl := zbq (by simpa [zchk] using hck)
    simp only [zgo] at h
    split at h
    · rename_i v e
      have hp := pf _ _ _ e
      exact zs_ldc hdec hp.1 hp.2 (next h)
    · exact h.elim
  | ldc_w i =>
    obtain rfl := zbq (by simpa [zchk] using hck)
    simp only [zgo] at h
    split at h
    · rename_i v e
      have hp := pf _ _ _ e
      exact zs_ldcw hdec hp.1 hp.2 (next h)
    · exact h.elim
  | ldc2_w i =>
    obtain rfl := zbq (by simpa [zchk] using hck)
    simp only [zgo] at h
    split at h
    · rename_i v e
      have hp := pf _ _ _ e
      exact zs_ldc2 hdec hp.1 hp.2 (next h)
    · exact h.elim
  | iload_n n =>
    obtain rfl := zbq (by simpa [zchk] using hck)
    simp only [zgo] at h
    split at h
    · rename_i e
      exact zs_iload_n hdec e (next h)
    · exact h.elim
  | iload n =>
    obtain rfl := zbq (by simpa [zchk] using hck)
    simp only [zgo] at h
    split at h
    · rename_i e
      exact zs_iload hdec e (next h)
    · exact h.elim
  | lload_n n =>
    obtain rfl := zbq (by simpa [zchk] using hck)
    simp only [zgo] at h
    split at h
    · rename_i e
      exact zs_lload_n hdec e (next h)
    · exact h.elim
  | lload n =>
    obtain rfl := zbq (by simpa [zchk] using hck)
    simp only [zgo] at h
    split at h
    · rename_i e
      exact zs_lload hdec e (next h)
    · exact h.elim
  | aload_n n =>
    obtain rfl := zbq (by simpa [zchk] using hck)
    simp only [zgo] at h
    split at h
    · rename_i e
      exact zs_aload_n hdec e (next h)
    · exact h.elim
  | aload n =>
    obtain rfl := zbq (by simpa [zchk] using hck)
    simp only [zgo] at h
    split at h
    · rename_i e
      exact zs_aload hdec e (next h)
    · exact h.elim
  | istore_n n =>
    simp only [zchk, Bool.and_eq_true] at hck
    obtain ⟨hl, hb⟩ := hck
    obtain rfl := zbq hl
    obtain ⟨x, st, rfl, h9⟩ := z1_e h
    replace h := h9
    clear h9
    exact zs_istore_n hdec (zbl hb) (next h)
  | istore n =>
    simp only [zchk, Bool.and_eq_true] at hck
    obtain ⟨hl, hb⟩ := hck
    obtain rfl := zbq hl
    obtain ⟨x, st, rfl, h9⟩ := z1_e h
    replace h := h9
    clear h9
    exact zs_istore hdec (zbl hb) (next h)
  | lstore n =>
    simp only [zchk, Bool.and_eq_true] at hck
    obtain ⟨hl, hb⟩ := hck
    obtain rfl := zbq hl
    obtain ⟨x, st, rfl, h9⟩ := zl1_e h
    replace h := h9
    clear h9
    exact zs_lstore hdec (zbl hb) (next h)
  | astore_n n =>
    simp only [zchk, Bool.and_eq_true] at hck
    obtain ⟨hl, hb⟩ := hck
    obtain rfl := zbq hl
    simp only [zgo] at h
    obtain ⟨t, j, st, rfl, h9⟩ := zr1_e h
    replace h := h9
    clear h9
    exact zs_astore_n hdec (zbl hb) (next h)
  | astore n =>
    simp only [zchk, Bool.and_eq_true] at hck
    obtain ⟨hl, hb⟩ := hck
    obtain rfl := zbq hl
    simp only [zgo] at h
    obtain ⟨t, j, st, rfl, h9⟩ := zr1_e h
    replace h := h9
    clear h9
    exact zs_astore hdec (zbl hb) (next h)
  | iinc i n =>
    simp only [zchk, Bool.and_eq_true] at hck
    obtain ⟨hl, hb⟩ := hck
    obtain rfl := zbq hl
    simp only [zgo] at h
    split at h
    · rename_i e
      exact zs_iinc hdec (zbl hb) e (next h)
    · exact h.elim
  | iadd =>
    obtain rfl := zbq (by simpa [zchk] using hck)
    obtain ⟨x, y, st, rfl, h9⟩ := z2_e h
    replace h := h9
    clear h9
    exact zs_iadd hdec (next h)
  | isub =>
    obtain rfl := zbq (by simpa [zchk] using hck)
    obtain ⟨x, y, st, rfl, h9⟩ := z2_e h
    replace h := h9
    clear h9
    exact zs_isub hdec (next h)
  | imul =>
    obtain rfl := zbq (by simpa [zchk] using hck)
    obtain ⟨x, y, st, rfl, h9⟩ := z2_e h
    replace h := h9
    clear h9
    exact zs_imul hdec (next h)
  | iand =>
    obtain rfl := zbq (by simpa [zchk] using hck)
    obtain ⟨x, y, st, rfl, h9⟩ := z2_e h
    replace h := h9
    clear h9
    exact zs_iand hdec (next h)
  | ior =>
    obtain rfl := zbq (by simpa [zchk] using hck)
    obtain ⟨x, y, st, rfl, h9⟩ := z2_e h
    replace h := h9
    clear h9
    exact zs_ior hdec (next h)
  | ixor =>
    obtain rfl := zbq (by simpa [zchk] using hck)
    obtain ⟨x, y, st, rfl, h9⟩ := z2_e h
    replace h := h9
    clear h9
    exact zs_ixor hdec (next h)
  | ishl =>
    obtain rfl := zbq (by simpa [zchk] using hck)
    obtain ⟨x, y, st, rfl, h9⟩ := z2_e h
    replace h := h9
    clear h9
    exact zs_ishl hdec (next h)
  | ishr =>
    obtain rfl := zbq (by simpa [zchk] using hck)
    obtain ⟨x, y, st, rfl, h9⟩ := z2_e h
    replace h := h9
    clear h9
    exact zs_ishr hdec (next h)
  | iushr =>
    obtain rfl := zbq (by simpa [zchk] using hck)
    obtain ⟨x, y, st, rfl, h9⟩ := z2_e h
    replace h := h9
    clear h9
    exact zs_iushr hdec (next h)
  | idiv =>
    obtain rfl := zbq (by simpa [zchk] using hck)
    obtain ⟨x, y, st, rfl, h9⟩ := z2_e h
    replace h := h9
    clear h9
    exact zs_idiv hdec h.1 (next h.2)
  | ineg =>
    obtain rfl := zbq (by simpa [zchk] using hck)
    obtain ⟨x, st, rfl, h9⟩ := z1_e h
    replace h := h9
    clear h9
    exact zs_ineg hdec (next h)
  | i2b =>
    obtain rfl := zbq (by simpa [zchk] using hck)
    obtain ⟨x, st, rfl, h9⟩ := z1_e h
    replace h := h9
    clear h9
    exact zs_i2b hdec (next h)
  | i2s =>
    obtain rfl := zbq (by simpa [zchk] using hck)
    obtain ⟨x, st, rfl, h9⟩ := z1_e h
    replace h := h9
    clear h9
    exact zs_i2s hdec (next h)
  | i2c =>
    obtain rfl := zbq (by simpa [zchk] using hck)
    obtain ⟨x, st, rfl, h9⟩ := z1_e h
    replace h := h9
    clear h9
    exact zs_i2c hdec (next h)
  | i2l =>
    obtain rfl := zbq (by simpa [zchk] using hck)
    obtain ⟨x, st, rfl, h9⟩ := z1_e h
    replace h := h9
    clear h9
    exact zs_i2l hdec (next h)
  | l2i =>
    obtain rfl := zbq (by simpa [zchk] using hck)
    obtain ⟨x, st, rfl, h9⟩ := zl1_e h
    replace h := h9
    clear h9
    exact zs_l2i hdec (next h)
  | ladd =>
    obtain rfl := zbq (by simpa [zchk] using hck)
    obtain ⟨x, y, st, rfl, h9⟩ := zl2_e h
    replace h := h9
    clear h9
    exact zs_ladd hdec (next h)
  | lsub =>
    obtain rfl := zbq (by simpa [zchk] using hck)
    obtain ⟨x, y, st, rfl, h9⟩ := zl2_e h
    replace h := h9
    clear h9
    exact zs_lsub hdec (next h)
  | lmul =>
    obtain rfl := zbq (by simpa [zchk] using hck)
    obtain ⟨x, y, st, rfl, h9⟩ := zl2_e h
    replace h := h9
    clear h9
    exact zs_lmul hdec (next h)
  | lcmp =>
    obtain rfl := zbq (by simpa [zchk] using hck)
    obtain ⟨x, y, st, rfl, h9⟩ := zl2_e h
    replace h := h9
    clear h9
    exact zs_lcmp hdec (next h)
  | ldiv =>
    obtain rfl := zbq (by simpa [zchk] using hck)
    obtain ⟨x, y, st, rfl, h9⟩ := zl2_e h
    replace h := h9
    clear h9
    exact zs_ldiv hdec h.1 (next h.2)
  | lrem =>
    obtain rfl := zbq (by simpa [zchk] using hck)
    obtain ⟨x, y, st, rfl, h9⟩ := zl2_e h
    replace h := h9
    clear h9
    exact zs_lrem hdec h.1 (next h.2)
  | dup =>
    obtain rfl := zbq (by simpa [zchk] using hck)
    simp only [zgo] at h
    split at h
    · exact zs_dup hdec rfl (next h)
    · exact zs_dup hdec rfl (next h)
    · exact h.elim
  | dup_x1 =>
    obtain rfl := zbq (by simpa [zchk] using hck)
    simp only [zgo] at h
    split at h
    · exact zs_dup_x1 hdec rfl rfl (next h)
    · exact h.elim
  | dup2 =>
    obtain rfl := zbq (by simpa [zchk] using hck)
    simp only [zgo] at h
    split at h
    · exact zs_dup2 hdec rfl rfl (next h)
    · exact h.elim
  | pop =>
    obtain rfl := zbq (by simpa [zchk] using hck)
    simp only [zgo] at h
    split at h
    · exact zs_pop hdec rfl (next h)
    · exact h.elim
  | goto o =>
    simp only [zchk, Bool.and_eq_true] at hck
    obtain ⟨hl, hb⟩ := hck
    obtain rfl := zbq hl
    have hb := of_decide_eq_true hb
    exact zs_goto hdec (by omega) (jump h)
  | ifCond c o =>
    simp only [zchk, Bool.and_eq_true] at hck
    obtain ⟨hl, hb⟩ := hck
    obtain rfl := zbq hl
    have hb := of_decide_eq_true hb
    have ht : (pc : Int) + o = ((((pc : Int) + o).toNat : Nat) : Int) := by omega
    obtain ⟨x, st, rfl, h9⟩ := z1_e h
    replace h := h9
    clear h9
    refine zs_if hdec ht ?_
    cases c <;> exact ⟨fun q => jump (h.1 q), fun q => next (h.2 q)⟩
  | if_icmp c o =>
    simp only [zchk, Bool.and_eq_true] at hck
    obtain ⟨hl, hb⟩ := hck
    obtain rfl := zbq hl
    have hb := of_decide_eq_true hb
    have ht : (pc : Int) + o = ((((pc : Int) + o).toNat : Nat) : Int) := by omega
    obtain ⟨x, y, st, rfl, h9⟩ := z2_e h
    replace h := h9
    clear h9
    refine zs_icmp hdec ht ?_
    cases c <;> exact ⟨fun q => jump (h.1 q), fun q => next (h.2 q)⟩
  | tableswitch dflt lo hi offs =>
    simp only [zchk, Bool.and_eq_true] at hck
    obtain ⟨x, st, rfl, h9⟩ := z1_e h
    replace h := h9
    clear h9
    refine zs_tab hdec (of_decide_eq_true hck.1) (fun o ho => of_decide_eq_true (List.all_eq_true.mp hck.2 o ho)) (fun q => jump (h.1 q)) ?_
    have key : ∀ (os : List Int) (v : Int), ztab x (fun o => k (zto M.2.2.2.2.2 ((pc : Int) + o).toNat) lv st μ) v os → ztab x (fun o => zTm g d M K ((pc : Int) + o).toNat lv st μ) v os := by
      intro os
      induction os with
      | nil => intro v _; trivial
      | cons a l ih => intro v hh; exact ⟨fun q => jump (hh.1 q), ih (v + 1) hh.2⟩
    exact key _ _ h.2
  | lookupswitch dflt ps =>
    simp only [zchk, Bool.and_eq_true] at hck
    obtain ⟨x, st, rfl, h9⟩ := z1_e h
    replace h := h9
    clear h9
    refine zs_lsw hdec hck.1 (fun o ho => of_decide_eq_true (List.all_eq_true.mp hck.2 o ho)) ?_
    have key : ∀ (os : List (Int × Int)), zlsw x (fun o => k (zto M.2.2.2.2.2 ((pc : Int) + o).toNat) lv st μ) dflt os → zlsw x (fun o => zTm g d M K ((pc : Int) + o).toNat lv st μ) dflt os := by
      intro os
      induction os with
      | nil => intro hh; exact jump hh
      | cons a l ih => intro hh; exact ⟨fun q => jump (hh.1 q), fun q => ih (hh.2 q)⟩
    exact key _ h
  | getfield i =>
    simp only [zchk, Bool.and_eq_true] at hck
    obtain ⟨hl, hb⟩ := hck
    obtain rfl := zbq hl
    simp only [zgo] at h
    split at h
    · rename_i b c f e
      rw [e] at hb
      have hp := pf _ _ _ e
      have hb := Nat.le_of_ble_eq_true hb
      have hp2 : ∃ b, zPf M.2.2.2.2.1 i b c f.toNat ∧ 0 ≤ f := by
        match b, hb, hp with
        | 0, _, hp => exact ⟨0, hp⟩
        | 1, _, hp => exact ⟨1, hp⟩
      obtain ⟨b, hp2, hf⟩ := hp2
      have hfk : f = ((f.toNat : Nat) : Int) := by omega
      obtain ⟨t, j, st, rfl, h9⟩ := zr1_e h
      replace h := h9
      clear h9
      obtain ⟨h1, h9⟩ := zon_e h
      replace h := h9
      clear h9
      obtain rfl := zis_e h1
      have hlen : zSh[j]? = some (0, c) → zMok μ → zfit (0, c) f (μ j f) := fun q hm => by
        obtain ⟨_, _, N, _, hk1, hk2, _⟩ := hp2
        exact hm j (0, c) f q hf (fun _ => by rw [hk2]; exact hk1) (fun z => absurd rfl z)
      split at h
      · rename_i n e2
        refine zs_getfield (v := .inl (μ j f)) cf hdec hp2 e2 (by show Value.int _ = Value.int _; rw [← hfk]) (fun hm hs => ?_) (next h)
        have hft := hlen hs hm
        rw [hfk] at hft
        cases n with
        | zero => have := zfit_int e2 hft; rw [← hfk] at this; exact this
        | succ n => have := zfit_bool e2 hft; rw [← hfk] at this; show zI32 _; unfold zI32; omega
      · rename_i t2 a e2
        exact zs_getfield (v := .inr (.inr (t2, a))) cf hdec hp2 e2 rfl (fun hm hs => Or.inl ((ly c f.toNat j t2 hs).1 a e2)) (next h)
      · rename_i t2 a e2
        exact zs_getfield (v := .inr (.inr (t2, j + a))) cf hdec hp2 e2 rfl (fun hm hs => Or.inl ((ly c f.toNat j t2 hs).2.1 a e2)) (next h)
      · rename_i l e2
        have key : ∀ l2 : List (zT0 × Nat), zalts (μ j f) (fun t2 a => k r lv (.inr (.inr (t2, a)) :: st) μ) l2 → ∃ q ∈ l2, μ j f = (q.2 : Int) ∧ k r lv (.inr (.inr q) :: st) μ := by
          intro l2
          induction l2 with
          | nil => intro hh; exact hh.elim
          | cons q l2 ih =>
            intro hh
            rcases hh with hh | hh
            · exact ⟨q, List.mem_cons_self, hh.1, hh.2⟩
            · obtain ⟨q2, m1, m2⟩ := ih hh
              exact ⟨q2, List.mem_cons_of_mem _ m1, m2⟩
        obtain ⟨q, m1, m2, m3⟩ := key l h
        refine zs_getfield (v := .inr (.inr q)) cf hdec hp2 e2 ?_ (fun hm hs => Or.inl ((ly c f.toNat j q.1 hs).2.2 l q.2 e2 m1)) (next m3)
        show Value.ref (zad g q.2) = if μ j ((f.toNat : Nat) : Int) < 0 then Value.null else Value.ref (zad g (μ j ((f.toNat : Nat) : Int)).toNat)
        rw [← hfk, m2, if_neg (by omega), Int.toNat_natCast]
      · exact h.elim
    · exact h.elim
  | putfield i =>
    simp only [zchk, Bool.and_eq_true] at hck
    obtain ⟨hl, hb⟩ := hck
    obtain rfl := zbq hl
    simp only [zgo] at h
    split at h
    · rename_i b c f e
      rw [e] at hb
      have hp := pf _ _ _ e
      have hb := Nat.le_of_ble_eq_true hb
      have hp2 : ∃ b, zPf M.2.2.2.2.1 i b c f.toNat ∧ 0 ≤ f := by
        match b, hb, hp with
        | 0, _, hp => exact ⟨0, hp⟩
        | 1, _, hp => exact ⟨1, hp⟩
      obtain ⟨b, hp2, hf⟩ := hp2
      have hfk : f = ((f.toNat : Nat) : Int) := by omega
      split at h
      · rename_i x q1 j st
        obtain ⟨h1, h9⟩ := zon_e h
        replace h := h9
        clear h9
        obtain rfl := zis_e h1
        split at h
        · rename_i e2
          refine zs_putfield (x := x) (v := .inl x) (ty := .int) cf hfk hdec hp2 e2 (fun m9 hm9 => by show Value.int _ = Value.int _; rw [hm9]) (fun hz => ?_) (fun C T N hc9 hp9 => ?_) rfl rfl (next h)
          · unfold zfit
            simp only
            rw [← zfi_eq, e2]
            exact hz
          · obtain ⟨C9, T9, N9, g1, g2, g3, g4, g5, g6⟩ := hp9
            rw [hc9] at g1; cases g1
            exact g5 e2
        · rename_i n hn0 e2
          obtain ⟨hx, h⟩ := h
          have hn1 : n = 1 := by
            obtain ⟨C9, T9, N9, g1, g2, g3, g4, g5, g6, g7, g8⟩ := hp2
            have := g8 n e2
            rcases n with _ | _ | n
            · exact (hn0 rfl).elim
            · rfl
            · omega
          subst hn1
          refine zs_putfield (x := x) (v := .inl x) (ty := .boolean) cf hfk hdec hp2 e2 (fun m9 hm9 => by show Value.int _ = Value.int _; rw [hm9]) (fun hz => ?_) (fun C T N hc9 hp9 => ?_) ?_ ?_ (next h)
          · unfold zfit
            simp only
            rw [← zfi_eq, e2]
            exact hx
          · obtain ⟨C9, T9, N9, g1, g2, g3, g4, g5, g6, g7⟩ := hp9
            rw [hc9] at g1; cases g1
            exact g6 e2
          · rcases hx with rfl | rfl <;> rfl
          · rcases hx with rfl | rfl <;> rfl
        · exact h.elim
      · rename_i w1 w2 q1 j st
        obtain ⟨h1, h9⟩ := zon_e h
        replace h := h9
        clear h9
        obtain rfl := zis_e h1
        split at h
        · rename_i l e2
          obtain ⟨h2, h9⟩ := zon_e h
          replace h := h9
          clear h9
          have hv9 : ∀ m9 : Int → Int, m9 ((f.toNat : Nat) : Int) = (w2 : Int) → zFv g j m9 f.toNat (.inr (.inr l)) = zR g (.inr (.inr (w1, w2))) := by
            intro m9 hm9
            show (if m9 ((f.toNat : Nat) : Int) < 0 then Value.null else Value.ref (zad g (m9 ((f.toNat : Nat) : Int)).toNat)) = Value.ref (zad g w2)
            rw [hm9, if_neg (by omega), Int.toNat_natCast]
          have hfit9 : zok (.inr (.inr (w1, w2))) → zfit (0, c) f (w2 : Int) := by
            intro _
            unfold zfit
            simp only
            rw [← zfi_eq, e2]
            trivial
          have hp3 := hp2
          obtain ⟨C9, T9, N9, g1, g2, g3, g4, g5, g6, g7⟩ := hp3
          obtain ⟨g8 | g8, g9⟩ := g7.1 l e2
          · exact zs_putfield (x := (w2 : Int)) (v := .inr (.inr (w1, w2))) (ty := .array .int) cf hfk hdec hp2 e2 hv9 hfit9 (fun C T N hc9 hp9 => by rw [g1] at hc9; cases hc9; exact ⟨g8, g9⟩) rfl rfl (next h)
          · exact zs_putfield (x := (w2 : Int)) (v := .inr (.inr (w1, w2))) (ty := .array .byte) cf hfk hdec hp2 e2 hv9 hfit9 (fun C T N hc9 hp9 => by rw [g1] at hc9; cases hc9; exact ⟨g8, g9⟩) rfl rfl (next h)
        · exact h.elim
      · exact h.elim
    · exact h.elim
  | getstatic i =>
    obtain rfl := zbq (by simpa [zchk] using hck)
    simp only [zgo] at h
    split at h
    · rename_i e
      exact zs_stat0 hdec (pf _ _ _ e) (next h)
    · rename_i a b hne e
      have hp := pf _ _ _ e
      simp only [zPok] at hp
      exact zs_stat1 hdec hp (next h)
    · exact h.elim
  | iaload =>
    obtain rfl := zbq (by simpa [zchk] using hck)
    simp only [zgo] at h
    obtain ⟨i, t1, t2, j, st, rfl, h9⟩ := zai_e h
    replace h := h9
    clear h9
    obtain ⟨h1, h2, h9⟩ := zon_e h
    replace h := h9
    clear h9
    obtain rfl : t1 = 1 := zbq h1
    exact zs_iaload hdec h2 (next h)
  | baload =>
    obtain rfl := zbq (by simpa [zchk] using hck)
    simp only [zgo] at h
    obtain ⟨i, t1, t2, j, st, rfl, h9⟩ := zai_e h
    replace h := h9
    clear h9
    obtain ⟨h1, h2, h9⟩ := zon_e h
    replace h := h9
    clear h9
    rcases (Bool.or_eq_true _ _).mp h1 with h1 | h1
    · obtain rfl : t1 = 2 := zbq h1
      exact zs_baload2 hdec h2 (next h)
    · obtain rfl : t1 = 3 := zbq h1
      exact zs_baload3 hdec h2 (next h)
  | laload =>
    obtain rfl := zbq (by simpa [zchk] using hck)
    simp only [zgo] at h
    obtain ⟨i, t1, t2, j, st, rfl, h9⟩ := zai_e h
    clear h
    split at h9
    · exact zs_laload4 hdec h9.1 (next h9.2)
    · exact zs_laload6 hdec h9.1 (next h9.2)
    · exact h9.elim
  | aaload =>
    obtain rfl := zbq (by simpa [zchk] using hck)
    simp only [zgo] at h
    obtain ⟨i, t1, t2, j, st, rfl, h9⟩ := zai_e h
    replace h := h9
    clear h9
    obtain ⟨h1, h2, h9⟩ := zon_e h
    replace h := h9
    clear h9
    obtain rfl : t1 = 5 := zbq h1
    exact zs_aaload hdec h2 (next h)
  | iastore =>
    obtain rfl := zbq (by simpa [zchk] using hck)
    simp only [zgo] at h
    obtain ⟨x, i, t1, t2, j, st, rfl, h9⟩ := zaii_e h
    replace h := h9
    clear h9
    obtain ⟨h1, h2, h9⟩ := zon_e h
    replace h := h9
    clear h9
    obtain rfl : t1 = 1 := zbq h1
    exact zs_iastore hdec h2 (next h)
  | bastore =>
    obtain rfl := zbq (by simpa [zchk] using hck)
    simp only [zgo] at h
    obtain ⟨x, i, t1, t2, j, st, rfl, h9⟩ := zaii_e h
    clear h
    split at h9
    · exact zs_bastore2 hdec h9.1 h9.2.1 (next h9.2.2)
    · exact zs_bastore3 hdec h9.1 h9.2.1 (next h9.2.2)
    · exact h9.elim
  | lastore =>
    obtain rfl := zbq (by simpa [zchk] using hck)
    simp only [zgo] at h
    obtain ⟨x, i, t1, t2, j, st, rfl, h9⟩ := zail_e h
    replace h := h9
    clear h9
    obtain ⟨h1, h2, h9⟩ := zon_e h
    replace h := h9
    clear h9
    obtain rfl : t1 = 4 := zbq h1
    exact zs_lastore hdec h2 (next h)
  | arraylength =>
    obtain rfl := zbq (by simpa [zchk] using hck)
    simp only [zgo] at h
    obtain ⟨t, j, st, rfl, h9⟩ := zr1_e h
    replace h := h9
    clear h9
    obtain ⟨h1, h9⟩ := zon_e h
    replace h := h9
    clear h9
    obtain ⟨t1, t2⟩ := t
    rcases (Bool.or_eq_true _ _).mp h1 with h1 | h1
    · obtain rfl : t1 = 1 := zbq h1
      exact zs_alen1 hdec (next h)
    · obtain rfl : t1 = 4 := zbq h1
      exact zs_alen4 hdec (next h)
  | invokevirtual i =>
    obtain rfl := zbq (by simpa [zchk] using hck)
    simp only [zgo] at h
    split at h
    · rename_i id n e
      have hp := pf _ _ _ e
      split at h
      · rename_i q as rest e2
        obtain ⟨h1, h0, h9⟩ := zon_e h
        replace h := h9
        clear h9
        rw [Bool.and_eq_true] at h1
        obtain ⟨l, l1, l2, l3⟩ := zpop_spec _ _ _ _ _ e2
        rw [List.append_nil] at l2
        subst l2
        exact zs_callV (zis_e h1.1) hdec hp.1 hp.2 (by simpa using l1) (by rw [l3]; simp) (Nat.le_of_ble_eq_true h1.2) h0 ((Or.elim h (fun z => z) (fun z => z.elim) : zCal0 _ _ _ _ _ _).imp (fun v μ9 h9 => next h9))
      · exact h.elim
    · exact h.elim
  | invokestatic i =>
    obtain rfl := zbq (by simpa [zchk] using hck)
    simp only [zgo] at h
    split at h
    · rename_i id n e
      have hp := pf _ _ _ e
      split at h
      · rename_i as rest e2
        obtain ⟨h1, h0, h9⟩ := zon_e h
        replace h := h9
        clear h9
        obtain ⟨l, l1, l2, l3⟩ := zpop_spec _ _ _ _ _ e2
        rw [List.append_nil] at l2
        subst l2
        exact zs_callS hdec hp.1 hp.2 l1 l3 (Nat.le_of_ble_eq_true h1) h0 ((Or.elim h (fun z => z) (fun z => z.elim) : zCal0 _ _ _ _ _ _).imp (fun v μ9 h9 => next h9))
      · exact h.elim
    · rename_i e
      obtain ⟨x, y, st, rfl, h9⟩ := z2_e h
      replace h := h9
      clear h9
      obtain ⟨h1, h0, h9⟩ := zon_e h
      replace h := h9
      clear h9
      exact zs_max hdec (pf _ _ _ e) (Nat.le_of_ble_eq_true h1) h0 (next h)
    · rename_i e
      obtain ⟨x, y, st, rfl, h9⟩ := z2_e h
      replace h := h9
      clear h9
      obtain ⟨h1, h0, h9⟩ := zon_e h
      replace h := h9
      clear h9
      exact zs_min hdec (pf _ _ _ e) (Nat.le_of_ble_eq_true h1) h0 (next h)
    · rename_i e
      obtain ⟨x, st, rfl, h9⟩ := z1_e h
      replace h := h9
      clear h9
      obtain ⟨h1, h0, h9⟩ := zon_e h
      replace h := h9
      clear h9
      exact zs_abs hdec (pf _ _ _ e) (Nat.le_of_ble_eq_true h1) h0 (next h)
    · rename_i e
      obtain ⟨x, y, st, rfl, h9⟩ := zl2_e h
      replace h := h9
      clear h9
      obtain ⟨h1, h0, h9⟩ := zon_e h
      replace h := h9
      clear h9
      exact zs_minL hdec (pf _ _ _ e) (Nat.le_of_ble_eq_true h1) h0 (next h)
    · rename_i e
      split at h
      · rename_i n dp k1 m1 j sp k2 m2 j' st
        obtain ⟨h1, h0, h2, h3, h9⟩ := zon_e h
        replace h := h9
        clear h9
        rw [Bool.and_eq_true, Bool.or_eq_true, Bool.and_eq_true, Bool.and_eq_true] at h1
        rcases h1.2 with h4 | h4
        · obtain rfl : k1 = 1 := zbq h4.1
          obtain rfl : k2 = 1 := zbq h4.2
          exact zs_copy (Or.inl rfl) hdec (pf _ _ _ e) (Nat.le_of_ble_eq_true h1.1) h0 h2 h3 (next h)
        · obtain rfl : k1 = 4 := zbq h4.1
          obtain rfl : k2 = 4 := zbq h4.2
          exact zs_copy (Or.inr rfl) hdec (pf _ _ _ e) (Nat.le_of_ble_eq_true h1.1) h0 h2 h3 (next h)
      · exact h.elim
    · exact h.elim
  | ireturn =>
    obtain rfl := zbq (by simpa [zchk] using hck)
    simp only [zgo] at h
    split at h
    · rename_i x er
      intro p e R s m args below meth c H locs cells slots Q ls C hl hs hv hr hS hret
      exact hret (some (.inl x)) μ H locs ls pc hr hS (fun z hz => by cases hz; exact zokh hs) h ⟨hdec, Or.inl er⟩
    · rename_i x er
      intro p e R s m args below meth c H locs cells slots Q ls C hl hs hv hr hS hret
      exact hret (some (.inl x)) μ H locs ls pc hr hS (fun z hz => by cases hz; exact zokh hs) h.2 ⟨hdec, Or.inr ⟨er, h.1⟩⟩
    · exact h.elim
  | lreturn =>
    obtain rfl := zbq (by simpa [zchk] using hck)
    simp only [zgo] at h
    split at h
    · rename_i x er
      intro p e R s m args below meth c H locs cells slots Q ls C hl hs hv hr hS hret
      exact hret (some (.inr (.inl x))) μ H locs ls pc hr hS (fun z hz => by cases hz; exact zokh hs) h ⟨hdec, er⟩
    · exact h.elim
  | return_ =>
    obtain rfl := zbq (by simpa [zchk] using hck)
    simp only [zgo] at h
    split at h
    · rename_i er
      intro p e R s m args below meth c H locs cells slots Q ls C hl hs hv hr hS hret
      exact hret none μ H locs ls pc hr hS (fun z hz => by cases hz) h ⟨hdec, er⟩
    · exact h.elim
  | _ => exact (show False from h).elim
end ZK
end
section
/-! the walk, whole -/
section ZN
variable {g : zG} {d : Nat} {M : zMeth} {K : Option zV → zM → Prop} {lv : zL} {st : List zV} {μ : zM}
theorem zmask_get (ms : List Nat) : ∀ (l : zL) (k i : Nat) (v : zV), zget (zmask ms k l) i = some v → zget l i = some v
  | [], k, i, v, h => h
  | a :: l, k, 0, v, h => by
    simp only [zmask, zget] at h
    split at h
    · exact h
    · cases h
  | a :: l, k, i + 1, v, h => by
    simp only [zmask, zget] at h
    exact zmask_get ms l (k + 1) i v h
theorem zwp_sound (cf : zCf) (pf : zPool) (ly : zLay) (hM : zMchk M = true) (cuts : List (Nat × List Nat)) : ∀ (n : Nat) (C : zC) (lv : zL) (st : List zV) (μ : zM), (∃ p, M.2.2.2.2.2 = p ++ C) → zwp g d M cuts K n C lv st μ → ∃ q r, C = q :: r ∧ zTm g d M K q.1 lv st μ
  | n, [], lv, st, μ, _, h => by
    cases n <;> exact (show False from h).elim
  | 0, q :: r, lv, st, μ, hp, h => ⟨q, r, rfl, Or.elim h id False.elim⟩
  | n + 1, q :: r, lv, st, μ, hp, h => by
    refine ⟨q, r, rfl, ?_⟩
    simp only [zwp] at h
    split at h
    · rename_i ms e
      exact (Or.elim h id False.elim : zTm g d M K q.1 (zmask ms 0 lv) st μ).less (fun i v hi => zmask_get ms lv 0 i v hi)
    · obtain ⟨p, hp⟩ := hp
      obtain ⟨pc, ins, len⟩ := q
      exact zgo_sound cf pf ly hM hp (fun C lv st μ hC hk => zwp_sound cf pf ly hM cuts n C lv st μ hC hk) h
theorem zrun_sound (cf : zCf) (pf : zPool) (ly : zLay) (hM : zMchk M = true) (cuts : List (Nat × List Nat)) (n : Nat) {pc : Nat} {C : zC} (hp : zto M.2.2.2.2.2 pc = C) (h : zrun g d M cuts K n C lv st μ) : zTm g d M K pc lv st μ := by
  obtain ⟨⟨p, h1⟩, h2⟩ := zto_suf M.2.2.2.2.2 pc
  rw [hp] at h1 h2
  cases C with
  | nil => exact (show False from h).elim
  | cons q r =>
    obtain ⟨pc', ins, len⟩ := q
    obtain rfl : pc' = pc := h2 _ _ rfl
    exact zgo_sound cf pf ly hM h1 (fun C lv st μ hC hk => zwp_sound cf pf ly hM cuts n C lv st μ hC hk) h
end ZN
-- what the tables say, by program
theorem zLay_ok : zLay := by
  have key : (List.range 177).all (fun j => match zSh[j]? with
    | some (0, c) => (zFl.getD c []).all (fun fi => match fi with
      | .inr (.inl (t, .inl a)) => decide (zSh[a]? = some t)
      | .inr (.inl (t, .inr o)) => decide (zSh[j + o]? = some t)
      | .inr (.inr l) => l.all (fun q => decide (zSh[q.2]? = some q.1))
      | _ => true)
    | _ => true) = true := by decide +kernel
  intro c k j t hj
  have hj2 := List.all_eq_true.mp key j (List.mem_range.mpr (zSh_lt hj))
  rw [hj] at hj2
  simp only at hj2
  refine ⟨fun a h => ?_, fun o h => ?_, fun l a h ha => ?_⟩
  · rw [zfi_eq] at h
    exact of_decide_eq_true (List.all_eq_true.mp hj2 _ (List.mem_of_getElem? h))
  · rw [zfi_eq] at h
    exact of_decide_eq_true (List.all_eq_true.mp hj2 _ (List.mem_of_getElem? h))
  · rw [zfi_eq] at h
    exact of_decide_eq_true (List.all_eq_true.mp (List.all_eq_true.mp hj2 _ (List.mem_of_getElem? h)) (t, a) ha)
def zin (w : Cond) : Bool := decide (w ∈ lw_tbl) && goodWord w
theorem zin_ok {w : Cond} (h : zin w = true) : w ∈ zTb := by
  unfold zin at h
  rw [Bool.and_eq_true] at h
  exact List.mem_filter.mpr ⟨of_decide_eq_true h.1, h.2⟩
theorem zcl_0 : (u_ws RX0 TX0 15).all zin = true := by decide +kernel
theorem zcl_1 : (u_ws RX1 TX1 11).all zin = true := by decide +kernel
theorem zcl_2 : (u_ws RX2 TX2 10).all zin = true := by decide +kernel
end
