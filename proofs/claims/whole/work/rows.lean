section
-- ===== PART A: goes FIRST, ahead of the names: the tables' words, and 'selects' of the private methods out of them =====
/-- a private method of a class that the tables say can be made, by its rows of tables_1 -/
def lw_okq (q : MethodName × Nat) : Prop := (q.1.cls ≠ "java/lang/invoke/MethodHandle" ∧ q.1.cls ≠ "java/lang/invoke/VarHandle") ∧ Cond.instantiable q.1.cls q.2 ∈ tables_1 ∧ Cond.privateMethod q.1 ∈ tables_1 ∧ Cond.instanceMethod q.1 ∈ tables_1
theorem lw_p0 : lw_okq (⟨"DoorstepRides", "isPatternOfNo", "()Z"⟩, 9) := ⟨⟨by decide +kernel, by decide +kernel⟩, List.mem_of_getElem? (i := 32) (by decide +kernel), List.mem_of_getElem? (i := 130) (by decide +kernel), List.mem_of_getElem? (i := 131) (by decide +kernel)⟩
theorem lw_p1 : lw_okq (⟨"DoorstepRides", "isOfLast", "(ILDoorstepRides$Request;)Z"⟩, 9) := ⟨⟨by decide +kernel, by decide +kernel⟩, List.mem_of_getElem? (i := 32) (by decide +kernel), List.mem_of_getElem? (i := 153) (by decide +kernel), List.mem_of_getElem? (i := 154) (by decide +kernel)⟩
theorem lw_p2 : lw_okq (⟨"DoorstepRides", "isPatternOfLateRides", "()Z"⟩, 9) := ⟨⟨by decide +kernel, by decide +kernel⟩, List.mem_of_getElem? (i := 32) (by decide +kernel), List.mem_of_getElem? (i := 157) (by decide +kernel), List.mem_of_getElem? (i := 158) (by decide +kernel)⟩
theorem lw_p3 : lw_okq (⟨"java/lang/Throwable", "fillInStackTrace", "(I)Ljava/lang/Throwable;"⟩, 6) := ⟨⟨by decide +kernel, by decide +kernel⟩, List.mem_of_getElem? (i := 238) (by decide +kernel), List.mem_of_getElem? (i := 236) (by decide +kernel), List.mem_of_getElem? (i := 237) (by decide +kernel)⟩
theorem lw_p4 : lw_okq (⟨"java/util/ArrayList", "add", "(Ljava/lang/Object;[Ljava/lang/Object;I)V"⟩, 3) := ⟨⟨by decide +kernel, by decide +kernel⟩, List.mem_of_getElem? (i := 40) (by decide +kernel), List.mem_of_getElem? (i := 323) (by decide +kernel), List.mem_of_getElem? (i := 324) (by decide +kernel)⟩
theorem lw_p5 : lw_okq (⟨"java/util/ArrayList", "grow", "()[Ljava/lang/Object;"⟩, 3) := ⟨⟨by decide +kernel, by decide +kernel⟩, List.mem_of_getElem? (i := 40) (by decide +kernel), List.mem_of_getElem? (i := 327) (by decide +kernel), List.mem_of_getElem? (i := 328) (by decide +kernel)⟩
theorem lw_p6 : lw_okq (⟨"java/util/ArrayList", "grow", "(I)[Ljava/lang/Object;"⟩, 3) := ⟨⟨by decide +kernel, by decide +kernel⟩, List.mem_of_getElem? (i := 40) (by decide +kernel), List.mem_of_getElem? (i := 331) (by decide +kernel), List.mem_of_getElem? (i := 332) (by decide +kernel)⟩
theorem lw_p7 : lw_okq (⟨"DoorstepRides", "busStopsInAll", "()I"⟩, 9) := ⟨⟨by decide +kernel, by decide +kernel⟩, List.mem_of_getElem? (i := 32) (by decide +kernel), List.mem_of_getElem? (i := 390) (by decide +kernel), List.mem_of_getElem? (i := 391) (by decide +kernel)⟩
theorem lw_p8 : lw_okq (⟨"DoorstepRides", "vehicleNumbered", "(I)LDoorstepRides$Vehicle;"⟩, 9) := ⟨⟨by decide +kernel, by decide +kernel⟩, List.mem_of_getElem? (i := 32) (by decide +kernel), List.mem_of_getElem? (i := 484) (by decide +kernel), List.mem_of_getElem? (i := 485) (by decide +kernel)⟩
theorem lw_p9 : lw_okq (⟨"DoorstepRides", "riderNumbered", "(I)LDoorstepRides$Rider;"⟩, 9) := ⟨⟨by decide +kernel, by decide +kernel⟩, List.mem_of_getElem? (i := 32) (by decide +kernel), List.mem_of_getElem? (i := 511) (by decide +kernel), List.mem_of_getElem? (i := 512) (by decide +kernel)⟩
theorem lw_p10 : lw_okq (⟨"DoorstepRides", "isOwed", "(LDoorstepRides$Rider;II)Z"⟩, 9) := ⟨⟨by decide +kernel, by decide +kernel⟩, List.mem_of_getElem? (i := 32) (by decide +kernel), List.mem_of_getElem? (i := 590) (by decide +kernel), List.mem_of_getElem? (i := 591) (by decide +kernel)⟩
theorem lw_p11 : lw_okq (⟨"DoorstepRides", "stepsToBus", "(I)I"⟩, 9) := ⟨⟨by decide +kernel, by decide +kernel⟩, List.mem_of_getElem? (i := 32) (by decide +kernel), List.mem_of_getElem? (i := 594) (by decide +kernel), List.mem_of_getElem? (i := 595) (by decide +kernel)⟩
theorem lw_p12 : lw_okq (⟨"DoorstepRides", "isSuspended", "(LDoorstepRides$Rider;)Z"⟩, 9) := ⟨⟨by decide +kernel, by decide +kernel⟩, List.mem_of_getElem? (i := 32) (by decide +kernel), List.mem_of_getElem? (i := 604) (by decide +kernel), List.mem_of_getElem? (i := 605) (by decide +kernel)⟩
theorem lw_p13 : lw_okq (⟨"DoorstepRides", "lately", "(LDoorstepRides$Rider;Z)I"⟩, 9) := ⟨⟨by decide +kernel, by decide +kernel⟩, List.mem_of_getElem? (i := 32) (by decide +kernel), List.mem_of_getElem? (i := 608) (by decide +kernel), List.mem_of_getElem? (i := 609) (by decide +kernel)⟩
theorem lw_p14 : lw_okq (⟨"DoorstepRides", "promise", "(LDoorstepRides$Request;I)Z"⟩, 9) := ⟨⟨by decide +kernel, by decide +kernel⟩, List.mem_of_getElem? (i := 32) (by decide +kernel), List.mem_of_getElem? (i := 616) (by decide +kernel), List.mem_of_getElem? (i := 617) (by decide +kernel)⟩
theorem lw_p15 : lw_okq (⟨"DoorstepRides$Search", "tryRoute", "(LDoorstepRides$Vehicle;LDoorstepRides$Stop;LDoorstepRides$Stop;I)V"⟩, 4) := ⟨⟨by decide +kernel, by decide +kernel⟩, List.mem_of_getElem? (i := 66) (by decide +kernel), List.mem_of_getElem? (i := 667) (by decide +kernel), List.mem_of_getElem? (i := 668) (by decide +kernel)⟩
def lw_privs_1 : List (MethodName × Nat) := [(⟨"DoorstepRides", "isPatternOfNo", "()Z"⟩, 9), (⟨"DoorstepRides", "isOfLast", "(ILDoorstepRides$Request;)Z"⟩, 9), (⟨"DoorstepRides", "isPatternOfLateRides", "()Z"⟩, 9), (⟨"java/lang/Throwable", "fillInStackTrace", "(I)Ljava/lang/Throwable;"⟩, 6), (⟨"java/util/ArrayList", "add", "(Ljava/lang/Object;[Ljava/lang/Object;I)V"⟩, 3), (⟨"java/util/ArrayList", "grow", "()[Ljava/lang/Object;"⟩, 3), (⟨"java/util/ArrayList", "grow", "(I)[Ljava/lang/Object;"⟩, 3), (⟨"DoorstepRides", "busStopsInAll", "()I"⟩, 9), (⟨"DoorstepRides", "vehicleNumbered", "(I)LDoorstepRides$Vehicle;"⟩, 9), (⟨"DoorstepRides", "riderNumbered", "(I)LDoorstepRides$Rider;"⟩, 9), (⟨"DoorstepRides", "isOwed", "(LDoorstepRides$Rider;II)Z"⟩, 9), (⟨"DoorstepRides", "stepsToBus", "(I)I"⟩, 9), (⟨"DoorstepRides", "isSuspended", "(LDoorstepRides$Rider;)Z"⟩, 9), (⟨"DoorstepRides", "lately", "(LDoorstepRides$Rider;Z)I"⟩, 9), (⟨"DoorstepRides", "promise", "(LDoorstepRides$Request;I)Z"⟩, 9), (⟨"DoorstepRides$Search", "tryRoute", "(LDoorstepRides$Vehicle;LDoorstepRides$Stop;LDoorstepRides$Stop;I)V"⟩, 4)]
theorem lw_r1 : ∀ q ∈ lw_privs_1, lw_okq q := List.forall_mem_cons.mpr ⟨lw_p0, List.forall_mem_cons.mpr ⟨lw_p1, List.forall_mem_cons.mpr ⟨lw_p2, List.forall_mem_cons.mpr ⟨lw_p3, List.forall_mem_cons.mpr ⟨lw_p4, List.forall_mem_cons.mpr ⟨lw_p5, List.forall_mem_cons.mpr ⟨lw_p6, List.forall_mem_cons.mpr ⟨lw_p7, List.forall_mem_cons.mpr ⟨lw_p8, List.forall_mem_cons.mpr ⟨lw_p9, List.forall_mem_cons.mpr ⟨lw_p10, List.forall_mem_cons.mpr ⟨lw_p11, List.forall_mem_cons.mpr ⟨lw_p12, List.forall_mem_cons.mpr ⟨lw_p13, List.forall_mem_cons.mpr ⟨lw_p14, List.forall_mem_cons.mpr ⟨lw_p15, fun _ h => absurd h List.not_mem_nil⟩⟩⟩⟩⟩⟩⟩⟩⟩⟩⟩⟩⟩⟩⟩⟩
theorem lw_p16 : lw_okq (⟨"java/util/ArrayList", "rangeCheckForAdd", "(I)V"⟩, 3) := ⟨⟨by decide +kernel, by decide +kernel⟩, List.mem_of_getElem? (i := 40) (by decide +kernel), List.mem_of_getElem? (i := 691) (by decide +kernel), List.mem_of_getElem? (i := 692) (by decide +kernel)⟩
theorem lw_p17 : lw_okq (⟨"java/util/ArrayList", "outOfBoundsMsg", "(I)Ljava/lang/String;"⟩, 3) := ⟨⟨by decide +kernel, by decide +kernel⟩, List.mem_of_getElem? (i := 40) (by decide +kernel), List.mem_of_getElem? (i := 696) (by decide +kernel), List.mem_of_getElem? (i := 697) (by decide +kernel)⟩
theorem lw_p18 : lw_okq (⟨"DoorstepRides$Plan", "latestChairLeaves", "(LDoorstepRides$Request;)Z"⟩, 4) := ⟨⟨by decide +kernel, by decide +kernel⟩, List.mem_of_getElem? (i := 409) (by decide +kernel), List.mem_of_getElem? (i := 976) (by decide +kernel), List.mem_of_getElem? (i := 977) (by decide +kernel)⟩
theorem lw_p19 : lw_okq (⟨"java/util/ArrayList", "fastRemove", "([Ljava/lang/Object;I)V"⟩, 3) := ⟨⟨by decide +kernel, by decide +kernel⟩, List.mem_of_getElem? (i := 40) (by decide +kernel), List.mem_of_getElem? (i := 984) (by decide +kernel), List.mem_of_getElem? (i := 985) (by decide +kernel)⟩
theorem lw_p20 : lw_okq (⟨"DoorstepRides$Search", "keep", "(LDoorstepRides$Vehicle;III)V"⟩, 4) := ⟨⟨by decide +kernel, by decide +kernel⟩, List.mem_of_getElem? (i := 66) (by decide +kernel), List.mem_of_getElem? (i := 996) (by decide +kernel), List.mem_of_getElem? (i := 997) (by decide +kernel)⟩
theorem lw_p21 : lw_okq (⟨"DoorstepRides", "requestNumbered", "(I)LDoorstepRides$Request;"⟩, 9) := ⟨⟨by decide +kernel, by decide +kernel⟩, List.mem_of_getElem? (i := 32) (by decide +kernel), List.mem_of_getElem? (i := 1013) (by decide +kernel), List.mem_of_getElem? (i := 1014) (by decide +kernel)⟩
theorem lw_p22 : lw_okq (⟨"DoorstepRides", "carrierOf", "(LDoorstepRides$Request;)LDoorstepRides$Vehicle;"⟩, 9) := ⟨⟨by decide +kernel, by decide +kernel⟩, List.mem_of_getElem? (i := 32) (by decide +kernel), List.mem_of_getElem? (i := 1018) (by decide +kernel), List.mem_of_getElem? (i := 1019) (by decide +kernel)⟩
theorem lw_p23 : lw_okq (⟨"DoorstepRides", "passMinute", "()V"⟩, 9) := ⟨⟨by decide +kernel, by decide +kernel⟩, List.mem_of_getElem? (i := 32) (by decide +kernel), List.mem_of_getElem? (i := 1045) (by decide +kernel), List.mem_of_getElem? (i := 1046) (by decide +kernel)⟩
theorem lw_p24 : lw_okq (⟨"DoorstepRides$Vehicle", "dropIsDone", "(LDoorstepRides$Stop;)V"⟩, 13) := ⟨⟨by decide +kernel, by decide +kernel⟩, List.mem_of_getElem? (i := 401) (by decide +kernel), List.mem_of_getElem? (i := 1055) (by decide +kernel), List.mem_of_getElem? (i := 1056) (by decide +kernel)⟩
theorem lw_p25 : lw_okq (⟨"DoorstepRides$Vehicle", "pickIsDone", "(LDoorstepRides$Stop;)V"⟩, 13) := ⟨⟨by decide +kernel, by decide +kernel⟩, List.mem_of_getElem? (i := 401) (by decide +kernel), List.mem_of_getElem? (i := 1059) (by decide +kernel), List.mem_of_getElem? (i := 1060) (by decide +kernel)⟩
theorem lw_p26 : lw_okq (⟨"DoorstepRides", "failAllOpen", "()I"⟩, 9) := ⟨⟨by decide +kernel, by decide +kernel⟩, List.mem_of_getElem? (i := 32) (by decide +kernel), List.mem_of_getElem? (i := 1075) (by decide +kernel), List.mem_of_getElem? (i := 1076) (by decide +kernel)⟩
theorem lw_p27 : lw_okq (⟨"DoorstepRides", "move", "(LDoorstepRides$Vehicle;LDoorstepRides$Request;)Z"⟩, 9) := ⟨⟨by decide +kernel, by decide +kernel⟩, List.mem_of_getElem? (i := 32) (by decide +kernel), List.mem_of_getElem? (i := 1120) (by decide +kernel), List.mem_of_getElem? (i := 1121) (by decide +kernel)⟩
theorem lw_p28 : lw_okq (⟨"DoorstepRides", "numberOf", "(LDoorstepRides$Request;)I"⟩, 9) := ⟨⟨by decide +kernel, by decide +kernel⟩, List.mem_of_getElem? (i := 32) (by decide +kernel), List.mem_of_getElem? (i := 1184) (by decide +kernel), List.mem_of_getElem? (i := 1185) (by decide +kernel)⟩
theorem lw_p29 : lw_okq (⟨"DoorstepRidesModel", "between", "(III)Z"⟩, 52) := ⟨⟨by decide +kernel, by decide +kernel⟩, List.mem_of_getElem? (i := 1243) (by decide +kernel), List.mem_of_getElem? (i := 1415) (by decide +kernel), List.mem_of_getElem? (i := 1416) (by decide +kernel)⟩
theorem lw_p30 : lw_okq (⟨"DoorstepRidesModel", "isPlace", "(I)Z"⟩, 52) := ⟨⟨by decide +kernel, by decide +kernel⟩, List.mem_of_getElem? (i := 1243) (by decide +kernel), List.mem_of_getElem? (i := 1427) (by decide +kernel), List.mem_of_getElem? (i := 1428) (by decide +kernel)⟩
theorem lw_p31 : lw_okq (⟨"DoorstepRidesModel", "isVehicle", "(I)Z"⟩, 52) := ⟨⟨by decide +kernel, by decide +kernel⟩, List.mem_of_getElem? (i := 1243) (by decide +kernel), List.mem_of_getElem? (i := 1439) (by decide +kernel), List.mem_of_getElem? (i := 1440) (by decide +kernel)⟩
def lw_privs_2 : List (MethodName × Nat) := [(⟨"java/util/ArrayList", "rangeCheckForAdd", "(I)V"⟩, 3), (⟨"java/util/ArrayList", "outOfBoundsMsg", "(I)Ljava/lang/String;"⟩, 3), (⟨"DoorstepRides$Plan", "latestChairLeaves", "(LDoorstepRides$Request;)Z"⟩, 4), (⟨"java/util/ArrayList", "fastRemove", "([Ljava/lang/Object;I)V"⟩, 3), (⟨"DoorstepRides$Search", "keep", "(LDoorstepRides$Vehicle;III)V"⟩, 4), (⟨"DoorstepRides", "requestNumbered", "(I)LDoorstepRides$Request;"⟩, 9), (⟨"DoorstepRides", "carrierOf", "(LDoorstepRides$Request;)LDoorstepRides$Vehicle;"⟩, 9), (⟨"DoorstepRides", "passMinute", "()V"⟩, 9), (⟨"DoorstepRides$Vehicle", "dropIsDone", "(LDoorstepRides$Stop;)V"⟩, 13), (⟨"DoorstepRides$Vehicle", "pickIsDone", "(LDoorstepRides$Stop;)V"⟩, 13), (⟨"DoorstepRides", "failAllOpen", "()I"⟩, 9), (⟨"DoorstepRides", "move", "(LDoorstepRides$Vehicle;LDoorstepRides$Request;)Z"⟩, 9), (⟨"DoorstepRides", "numberOf", "(LDoorstepRides$Request;)I"⟩, 9), (⟨"DoorstepRidesModel", "between", "(III)Z"⟩, 52), (⟨"DoorstepRidesModel", "isPlace", "(I)Z"⟩, 52), (⟨"DoorstepRidesModel", "isVehicle", "(I)Z"⟩, 52)]
theorem lw_r2 : ∀ q ∈ lw_privs_2, lw_okq q := List.forall_mem_cons.mpr ⟨lw_p16, List.forall_mem_cons.mpr ⟨lw_p17, List.forall_mem_cons.mpr ⟨lw_p18, List.forall_mem_cons.mpr ⟨lw_p19, List.forall_mem_cons.mpr ⟨lw_p20, List.forall_mem_cons.mpr ⟨lw_p21, List.forall_mem_cons.mpr ⟨lw_p22, List.forall_mem_cons.mpr ⟨lw_p23, List.forall_mem_cons.mpr ⟨lw_p24, List.forall_mem_cons.mpr ⟨lw_p25, List.forall_mem_cons.mpr ⟨lw_p26, List.forall_mem_cons.mpr ⟨lw_p27, List.forall_mem_cons.mpr ⟨lw_p28, List.forall_mem_cons.mpr ⟨lw_p29, List.forall_mem_cons.mpr ⟨lw_p30, List.forall_mem_cons.mpr ⟨lw_p31, fun _ h => absurd h List.not_mem_nil⟩⟩⟩⟩⟩⟩⟩⟩⟩⟩⟩⟩⟩⟩⟩⟩
theorem lw_p32 : lw_okq (⟨"DoorstepRidesModel", "isRider", "(I)Z"⟩, 52) := ⟨⟨by decide +kernel, by decide +kernel⟩, List.mem_of_getElem? (i := 1243) (by decide +kernel), List.mem_of_getElem? (i := 1447) (by decide +kernel), List.mem_of_getElem? (i := 1448) (by decide +kernel)⟩
theorem lw_p33 : lw_okq (⟨"DoorstepRidesModel", "isOwed", "(III)Z"⟩, 52) := ⟨⟨by decide +kernel, by decide +kernel⟩, List.mem_of_getElem? (i := 1243) (by decide +kernel), List.mem_of_getElem? (i := 1451) (by decide +kernel), List.mem_of_getElem? (i := 1452) (by decide +kernel)⟩
theorem lw_p34 : lw_okq (⟨"DoorstepRidesModel", "nearest", "(I)I"⟩, 52) := ⟨⟨by decide +kernel, by decide +kernel⟩, List.mem_of_getElem? (i := 1243) (by decide +kernel), List.mem_of_getElem? (i := 1455) (by decide +kernel), List.mem_of_getElem? (i := 1456) (by decide +kernel)⟩
theorem lw_p35 : lw_okq (⟨"DoorstepRidesModel", "steps", "(II)I"⟩, 52) := ⟨⟨by decide +kernel, by decide +kernel⟩, List.mem_of_getElem? (i := 1243) (by decide +kernel), List.mem_of_getElem? (i := 1459) (by decide +kernel), List.mem_of_getElem? (i := 1460) (by decide +kernel)⟩
theorem lw_p36 : lw_okq (⟨"DoorstepRidesModel", "apart", "(II)I"⟩, 52) := ⟨⟨by decide +kernel, by decide +kernel⟩, List.mem_of_getElem? (i := 1243) (by decide +kernel), List.mem_of_getElem? (i := 1463) (by decide +kernel), List.mem_of_getElem? (i := 1464) (by decide +kernel)⟩
theorem lw_p37 : lw_okq (⟨"DoorstepRidesModel", "isSuspended", "(I)Z"⟩, 52) := ⟨⟨by decide +kernel, by decide +kernel⟩, List.mem_of_getElem? (i := 1243) (by decide +kernel), List.mem_of_getElem? (i := 1467) (by decide +kernel), List.mem_of_getElem? (i := 1468) (by decide +kernel)⟩
theorem lw_p38 : lw_okq (⟨"DoorstepRidesModel", "askedBy", "(IZ)I"⟩, 52) := ⟨⟨by decide +kernel, by decide +kernel⟩, List.mem_of_getElem? (i := 1243) (by decide +kernel), List.mem_of_getElem? (i := 1471) (by decide +kernel), List.mem_of_getElem? (i := 1472) (by decide +kernel)⟩
theorem lw_p39 : lw_okq (⟨"DoorstepRidesModel", "promiseNear", "(II)Z"⟩, 52) := ⟨⟨by decide +kernel, by decide +kernel⟩, List.mem_of_getElem? (i := 1243) (by decide +kernel), List.mem_of_getElem? (i := 1475) (by decide +kernel), List.mem_of_getElem? (i := 1476) (by decide +kernel)⟩
theorem lw_p40 : lw_okq (⟨"DoorstepRidesModel", "promise", "(II)Z"⟩, 52) := ⟨⟨by decide +kernel, by decide +kernel⟩, List.mem_of_getElem? (i := 1243) (by decide +kernel), List.mem_of_getElem? (i := 1479) (by decide +kernel), List.mem_of_getElem? (i := 1480) (by decide +kernel)⟩
theorem lw_p41 : lw_okq (⟨"DoorstepRidesModel", "put", "(I)Z"⟩, 52) := ⟨⟨by decide +kernel, by decide +kernel⟩, List.mem_of_getElem? (i := 1243) (by decide +kernel), List.mem_of_getElem? (i := 1483) (by decide +kernel), List.mem_of_getElem? (i := 1484) (by decide +kernel)⟩
theorem lw_p42 : lw_okq (⟨"DoorstepRidesModel", "look", "(II)V"⟩, 52) := ⟨⟨by decide +kernel, by decide +kernel⟩, List.mem_of_getElem? (i := 1243) (by decide +kernel), List.mem_of_getElem? (i := 1487) (by decide +kernel), List.mem_of_getElem? (i := 1488) (by decide +kernel)⟩
theorem lw_p43 : lw_okq (⟨"DoorstepRidesModel", "kindOf", "(I)I"⟩, 52) := ⟨⟨by decide +kernel, by decide +kernel⟩, List.mem_of_getElem? (i := 1243) (by decide +kernel), List.mem_of_getElem? (i := 1491) (by decide +kernel), List.mem_of_getElem? (i := 1492) (by decide +kernel)⟩
theorem lw_p44 : lw_okq (⟨"DoorstepRidesModel", "tryRoute", "(I)V"⟩, 52) := ⟨⟨by decide +kernel, by decide +kernel⟩, List.mem_of_getElem? (i := 1243) (by decide +kernel), List.mem_of_getElem? (i := 1495) (by decide +kernel), List.mem_of_getElem? (i := 1496) (by decide +kernel)⟩
theorem lw_p45 : lw_okq (⟨"DoorstepRidesModel", "driveOfTry", "(I)I"⟩, 52) := ⟨⟨by decide +kernel, by decide +kernel⟩, List.mem_of_getElem? (i := 1243) (by decide +kernel), List.mem_of_getElem? (i := 1499) (by decide +kernel), List.mem_of_getElem? (i := 1500) (by decide +kernel)⟩
theorem lw_p46 : lw_okq (⟨"DoorstepRidesModel", "placeOf", "(I)I"⟩, 52) := ⟨⟨by decide +kernel, by decide +kernel⟩, List.mem_of_getElem? (i := 1243) (by decide +kernel), List.mem_of_getElem? (i := 1503) (by decide +kernel), List.mem_of_getElem? (i := 1504) (by decide +kernel)⟩
theorem lw_p47 : lw_okq (⟨"DoorstepRidesModel", "driveOf", "(II)I"⟩, 52) := ⟨⟨by decide +kernel, by decide +kernel⟩, List.mem_of_getElem? (i := 1243) (by decide +kernel), List.mem_of_getElem? (i := 1507) (by decide +kernel), List.mem_of_getElem? (i := 1508) (by decide +kernel)⟩
def lw_privs_3 : List (MethodName × Nat) := [(⟨"DoorstepRidesModel", "isRider", "(I)Z"⟩, 52), (⟨"DoorstepRidesModel", "isOwed", "(III)Z"⟩, 52), (⟨"DoorstepRidesModel", "nearest", "(I)I"⟩, 52), (⟨"DoorstepRidesModel", "steps", "(II)I"⟩, 52), (⟨"DoorstepRidesModel", "apart", "(II)I"⟩, 52), (⟨"DoorstepRidesModel", "isSuspended", "(I)Z"⟩, 52), (⟨"DoorstepRidesModel", "askedBy", "(IZ)I"⟩, 52), (⟨"DoorstepRidesModel", "promiseNear", "(II)Z"⟩, 52), (⟨"DoorstepRidesModel", "promise", "(II)Z"⟩, 52), (⟨"DoorstepRidesModel", "put", "(I)Z"⟩, 52), (⟨"DoorstepRidesModel", "look", "(II)V"⟩, 52), (⟨"DoorstepRidesModel", "kindOf", "(I)I"⟩, 52), (⟨"DoorstepRidesModel", "tryRoute", "(I)V"⟩, 52), (⟨"DoorstepRidesModel", "driveOfTry", "(I)I"⟩, 52), (⟨"DoorstepRidesModel", "placeOf", "(I)I"⟩, 52), (⟨"DoorstepRidesModel", "driveOf", "(II)I"⟩, 52)]
theorem lw_r3 : ∀ q ∈ lw_privs_3, lw_okq q := List.forall_mem_cons.mpr ⟨lw_p32, List.forall_mem_cons.mpr ⟨lw_p33, List.forall_mem_cons.mpr ⟨lw_p34, List.forall_mem_cons.mpr ⟨lw_p35, List.forall_mem_cons.mpr ⟨lw_p36, List.forall_mem_cons.mpr ⟨lw_p37, List.forall_mem_cons.mpr ⟨lw_p38, List.forall_mem_cons.mpr ⟨lw_p39, List.forall_mem_cons.mpr ⟨lw_p40, List.forall_mem_cons.mpr ⟨lw_p41, List.forall_mem_cons.mpr ⟨lw_p42, List.forall_mem_cons.mpr ⟨lw_p43, List.forall_mem_cons.mpr ⟨lw_p44, List.forall_mem_cons.mpr ⟨lw_p45, List.forall_mem_cons.mpr ⟨lw_p46, List.forall_mem_cons.mpr ⟨lw_p47, fun _ h => absurd h List.not_mem_nil⟩⟩⟩⟩⟩⟩⟩⟩⟩⟩⟩⟩⟩⟩⟩⟩
theorem lw_p48 : lw_okq (⟨"DoorstepRidesModel", "putStop", "(II)V"⟩, 52) := ⟨⟨by decide +kernel, by decide +kernel⟩, List.mem_of_getElem? (i := 1243) (by decide +kernel), List.mem_of_getElem? (i := 1511) (by decide +kernel), List.mem_of_getElem? (i := 1512) (by decide +kernel)⟩
theorem lw_p49 : lw_okq (⟨"DoorstepRidesModel", "isRight", "(I)Z"⟩, 52) := ⟨⟨by decide +kernel, by decide +kernel⟩, List.mem_of_getElem? (i := 1243) (by decide +kernel), List.mem_of_getElem? (i := 1515) (by decide +kernel), List.mem_of_getElem? (i := 1516) (by decide +kernel)⟩
theorem lw_p50 : lw_okq (⟨"DoorstepRidesModel", "plan", "(I)V"⟩, 52) := ⟨⟨by decide +kernel, by decide +kernel⟩, List.mem_of_getElem? (i := 1243) (by decide +kernel), List.mem_of_getElem? (i := 1519) (by decide +kernel), List.mem_of_getElem? (i := 1520) (by decide +kernel)⟩
theorem lw_p51 : lw_okq (⟨"DoorstepRidesModel", "minutesOf", "(I)I"⟩, 52) := ⟨⟨by decide +kernel, by decide +kernel⟩, List.mem_of_getElem? (i := 1243) (by decide +kernel), List.mem_of_getElem? (i := 1523) (by decide +kernel), List.mem_of_getElem? (i := 1524) (by decide +kernel)⟩
theorem lw_p52 : lw_okq (⟨"DoorstepRidesModel", "isTooLate", "(I)Z"⟩, 52) := ⟨⟨by decide +kernel, by decide +kernel⟩, List.mem_of_getElem? (i := 1243) (by decide +kernel), List.mem_of_getElem? (i := 1527) (by decide +kernel), List.mem_of_getElem? (i := 1528) (by decide +kernel)⟩
theorem lw_p53 : lw_okq (⟨"DoorstepRidesModel", "pickEndOf", "(I)I"⟩, 52) := ⟨⟨by decide +kernel, by decide +kernel⟩, List.mem_of_getElem? (i := 1243) (by decide +kernel), List.mem_of_getElem? (i := 1531) (by decide +kernel), List.mem_of_getElem? (i := 1532) (by decide +kernel)⟩
theorem lw_p54 : lw_okq (⟨"DoorstepRidesModel", "find", "(I)I"⟩, 52) := ⟨⟨by decide +kernel, by decide +kernel⟩, List.mem_of_getElem? (i := 1243) (by decide +kernel), List.mem_of_getElem? (i := 1535) (by decide +kernel), List.mem_of_getElem? (i := 1536) (by decide +kernel)⟩
theorem lw_p55 : lw_okq (⟨"DoorstepRidesModel", "latest", "(II)I"⟩, 52) := ⟨⟨by decide +kernel, by decide +kernel⟩, List.mem_of_getElem? (i := 1243) (by decide +kernel), List.mem_of_getElem? (i := 1539) (by decide +kernel), List.mem_of_getElem? (i := 1540) (by decide +kernel)⟩
theorem lw_p56 : lw_okq (⟨"DoorstepRidesModel", "seatsOf", "(I)I"⟩, 52) := ⟨⟨by decide +kernel, by decide +kernel⟩, List.mem_of_getElem? (i := 1243) (by decide +kernel), List.mem_of_getElem? (i := 1543) (by decide +kernel), List.mem_of_getElem? (i := 1544) (by decide +kernel)⟩
theorem lw_p57 : lw_okq (⟨"DoorstepRidesModel", "backAt", "(I)I"⟩, 52) := ⟨⟨by decide +kernel, by decide +kernel⟩, List.mem_of_getElem? (i := 1243) (by decide +kernel), List.mem_of_getElem? (i := 1547) (by decide +kernel), List.mem_of_getElem? (i := 1548) (by decide +kernel)⟩
theorem lw_p58 : lw_okq (⟨"DoorstepRidesModel", "keepTry", "(I)V"⟩, 52) := ⟨⟨by decide +kernel, by decide +kernel⟩, List.mem_of_getElem? (i := 1243) (by decide +kernel), List.mem_of_getElem? (i := 1551) (by decide +kernel), List.mem_of_getElem? (i := 1552) (by decide +kernel)⟩
theorem lw_p59 : lw_okq (⟨"DoorstepRidesModel", "isRequest", "(I)Z"⟩, 52) := ⟨⟨by decide +kernel, by decide +kernel⟩, List.mem_of_getElem? (i := 1243) (by decide +kernel), List.mem_of_getElem? (i := 1559) (by decide +kernel), List.mem_of_getElem? (i := 1560) (by decide +kernel)⟩
theorem lw_p60 : lw_okq (⟨"DoorstepRidesModel", "hasLeftFor", "(I)Z"⟩, 52) := ⟨⟨by decide +kernel, by decide +kernel⟩, List.mem_of_getElem? (i := 1243) (by decide +kernel), List.mem_of_getElem? (i := 1563) (by decide +kernel), List.mem_of_getElem? (i := 1564) (by decide +kernel)⟩
theorem lw_p61 : lw_okq (⟨"DoorstepRidesModel", "takeOut", "(I)V"⟩, 52) := ⟨⟨by decide +kernel, by decide +kernel⟩, List.mem_of_getElem? (i := 1243) (by decide +kernel), List.mem_of_getElem? (i := 1567) (by decide +kernel), List.mem_of_getElem? (i := 1568) (by decide +kernel)⟩
theorem lw_p62 : lw_okq (⟨"DoorstepRidesModel", "takeStop", "(I)V"⟩, 52) := ⟨⟨by decide +kernel, by decide +kernel⟩, List.mem_of_getElem? (i := 1243) (by decide +kernel), List.mem_of_getElem? (i := 1571) (by decide +kernel), List.mem_of_getElem? (i := 1572) (by decide +kernel)⟩
theorem lw_p63 : lw_okq (⟨"DoorstepRidesModel", "minute", "()V"⟩, 52) := ⟨⟨by decide +kernel, by decide +kernel⟩, List.mem_of_getElem? (i := 1243) (by decide +kernel), List.mem_of_getElem? (i := 1583) (by decide +kernel), List.mem_of_getElem? (i := 1584) (by decide +kernel)⟩
def lw_privs_4 : List (MethodName × Nat) := [(⟨"DoorstepRidesModel", "putStop", "(II)V"⟩, 52), (⟨"DoorstepRidesModel", "isRight", "(I)Z"⟩, 52), (⟨"DoorstepRidesModel", "plan", "(I)V"⟩, 52), (⟨"DoorstepRidesModel", "minutesOf", "(I)I"⟩, 52), (⟨"DoorstepRidesModel", "isTooLate", "(I)Z"⟩, 52), (⟨"DoorstepRidesModel", "pickEndOf", "(I)I"⟩, 52), (⟨"DoorstepRidesModel", "find", "(I)I"⟩, 52), (⟨"DoorstepRidesModel", "latest", "(II)I"⟩, 52), (⟨"DoorstepRidesModel", "seatsOf", "(I)I"⟩, 52), (⟨"DoorstepRidesModel", "backAt", "(I)I"⟩, 52), (⟨"DoorstepRidesModel", "keepTry", "(I)V"⟩, 52), (⟨"DoorstepRidesModel", "isRequest", "(I)Z"⟩, 52), (⟨"DoorstepRidesModel", "hasLeftFor", "(I)Z"⟩, 52), (⟨"DoorstepRidesModel", "takeOut", "(I)V"⟩, 52), (⟨"DoorstepRidesModel", "takeStop", "(I)V"⟩, 52), (⟨"DoorstepRidesModel", "minute", "()V"⟩, 52)]
theorem lw_r4 : ∀ q ∈ lw_privs_4, lw_okq q := List.forall_mem_cons.mpr ⟨lw_p48, List.forall_mem_cons.mpr ⟨lw_p49, List.forall_mem_cons.mpr ⟨lw_p50, List.forall_mem_cons.mpr ⟨lw_p51, List.forall_mem_cons.mpr ⟨lw_p52, List.forall_mem_cons.mpr ⟨lw_p53, List.forall_mem_cons.mpr ⟨lw_p54, List.forall_mem_cons.mpr ⟨lw_p55, List.forall_mem_cons.mpr ⟨lw_p56, List.forall_mem_cons.mpr ⟨lw_p57, List.forall_mem_cons.mpr ⟨lw_p58, List.forall_mem_cons.mpr ⟨lw_p59, List.forall_mem_cons.mpr ⟨lw_p60, List.forall_mem_cons.mpr ⟨lw_p61, List.forall_mem_cons.mpr ⟨lw_p62, List.forall_mem_cons.mpr ⟨lw_p63, fun _ h => absurd h List.not_mem_nil⟩⟩⟩⟩⟩⟩⟩⟩⟩⟩⟩⟩⟩⟩⟩⟩
theorem lw_p64 : lw_okq (⟨"DoorstepRidesModel", "done", "(I)V"⟩, 52) := ⟨⟨by decide +kernel, by decide +kernel⟩, List.mem_of_getElem? (i := 1243) (by decide +kernel), List.mem_of_getElem? (i := 1587) (by decide +kernel), List.mem_of_getElem? (i := 1588) (by decide +kernel)⟩
theorem lw_p65 : lw_okq (⟨"DoorstepRidesModel", "picked", "(II)V"⟩, 52) := ⟨⟨by decide +kernel, by decide +kernel⟩, List.mem_of_getElem? (i := 1243) (by decide +kernel), List.mem_of_getElem? (i := 1591) (by decide +kernel), List.mem_of_getElem? (i := 1592) (by decide +kernel)⟩
theorem lw_p66 : lw_okq (⟨"DoorstepRidesModel", "dropped", "(II)V"⟩, 52) := ⟨⟨by decide +kernel, by decide +kernel⟩, List.mem_of_getElem? (i := 1243) (by decide +kernel), List.mem_of_getElem? (i := 1595) (by decide +kernel), List.mem_of_getElem? (i := 1596) (by decide +kernel)⟩
theorem lw_p67 : lw_okq (⟨"DoorstepRidesModel", "leave", "(I)V"⟩, 52) := ⟨⟨by decide +kernel, by decide +kernel⟩, List.mem_of_getElem? (i := 1243) (by decide +kernel), List.mem_of_getElem? (i := 1599) (by decide +kernel), List.mem_of_getElem? (i := 1600) (by decide +kernel)⟩
theorem lw_p68 : lw_okq (⟨"DoorstepRidesModel", "mended", "(II)Z"⟩, 52) := ⟨⟨by decide +kernel, by decide +kernel⟩, List.mem_of_getElem? (i := 1243) (by decide +kernel), List.mem_of_getElem? (i := 1615) (by decide +kernel), List.mem_of_getElem? (i := 1616) (by decide +kernel)⟩
theorem lw_p69 : lw_okq (⟨"DoorstepRidesModel", "isLate", "(I)Z"⟩, 52) := ⟨⟨by decide +kernel, by decide +kernel⟩, List.mem_of_getElem? (i := 1243) (by decide +kernel), List.mem_of_getElem? (i := 1639) (by decide +kernel), List.mem_of_getElem? (i := 1640) (by decide +kernel)⟩
theorem lw_p70 : lw_okq (⟨"DoorstepRidesModel", "isLong", "(I)Z"⟩, 52) := ⟨⟨by decide +kernel, by decide +kernel⟩, List.mem_of_getElem? (i := 1243) (by decide +kernel), List.mem_of_getElem? (i := 1643) (by decide +kernel), List.mem_of_getElem? (i := 1644) (by decide +kernel)⟩
theorem lw_p71 : lw_okq (⟨"DoorstepRidesModel", "order", "(II)Z"⟩, 52) := ⟨⟨by decide +kernel, by decide +kernel⟩, List.mem_of_getElem? (i := 1243) (by decide +kernel), List.mem_of_getElem? (i := 1667) (by decide +kernel), List.mem_of_getElem? (i := 1668) (by decide +kernel)⟩
def lw_privs_5 : List (MethodName × Nat) := [(⟨"DoorstepRidesModel", "done", "(I)V"⟩, 52), (⟨"DoorstepRidesModel", "picked", "(II)V"⟩, 52), (⟨"DoorstepRidesModel", "dropped", "(II)V"⟩, 52), (⟨"DoorstepRidesModel", "leave", "(I)V"⟩, 52), (⟨"DoorstepRidesModel", "mended", "(II)Z"⟩, 52), (⟨"DoorstepRidesModel", "isLate", "(I)Z"⟩, 52), (⟨"DoorstepRidesModel", "isLong", "(I)Z"⟩, 52), (⟨"DoorstepRidesModel", "order", "(II)Z"⟩, 52)]
theorem lw_r5 : ∀ q ∈ lw_privs_5, lw_okq q := List.forall_mem_cons.mpr ⟨lw_p64, List.forall_mem_cons.mpr ⟨lw_p65, List.forall_mem_cons.mpr ⟨lw_p66, List.forall_mem_cons.mpr ⟨lw_p67, List.forall_mem_cons.mpr ⟨lw_p68, List.forall_mem_cons.mpr ⟨lw_p69, List.forall_mem_cons.mpr ⟨lw_p70, List.forall_mem_cons.mpr ⟨lw_p71, fun _ h => absurd h List.not_mem_nil⟩⟩⟩⟩⟩⟩⟩⟩
def lw_privs : List (MethodName × Nat) := lw_privs_1 ++ (lw_privs_2 ++ (lw_privs_3 ++ (lw_privs_4 ++ (lw_privs_5))))
def lw_tbl : List Cond := k2_sels lw_privs ++ tables_1
theorem lw_privs_ok : ∀ q ∈ lw_privs, lw_okq q := by
  show ∀ q ∈ lw_privs_1 ++ (lw_privs_2 ++ (lw_privs_3 ++ (lw_privs_4 ++ (lw_privs_5)))), lw_okq q
  exact List.forall_mem_append.mpr ⟨lw_r1, List.forall_mem_append.mpr ⟨lw_r2, List.forall_mem_append.mpr ⟨lw_r3, List.forall_mem_append.mpr ⟨lw_r4, lw_r5⟩⟩⟩⟩
-- ===== end of PART A; then your names; then what follows =====
end
section
/-! ===== BEGIN words of one list among another's, by their places ===== -/
theorem goodIn_r {big : List Cond} (ws : List Cond) (ps : List Nat) (hp : ws = ps.filterMap (fun i => big[i]?)) (h : ws.all goodWord = true) : GoodIn big ws := by
  intro w hw
  have h1 := List.all_eq_true.mp h w hw
  rw [hp] at hw
  obtain ⟨i, -, hi⟩ := List.mem_filterMap.mp hw
  have hm : w ∈ big := by first | exact List.mem_of_getElem? hi | exact List.getElem?_mem hi
  exact ⟨hm, good_of_word h1⟩
theorem goodIn_app {big a b : List Cond} (ha : GoodIn big a) (hb : GoodIn big b) : GoodIn big (a ++ b) := fun w h => (List.mem_append.mp h).elim (ha w) (hb w)
theorem goodIn_ca {big a b : List Cond} {c : Cond} (ha : GoodIn big (c :: a)) (hb : GoodIn big b) : GoodIn big (c :: (a ++ b)) := fun w h => (List.mem_cons.mp h).elim (fun e => ha w (List.mem_cons.mpr (Or.inl e))) (fun h => (List.mem_append.mp h).elim (fun h => ha w (List.mem_cons.mpr (Or.inr h))) (hb w))
theorem goodIn_sub {big ws : List Cond} (hm : ∀ w ∈ ws, w ∈ big) (h : ws.all goodWord = true) : GoodIn big ws := fun w hw => ⟨hm w hw, good_of_word (List.all_eq_true.mp h w hw)⟩
/-! ===== END ===== -/
/-! ===== BEGIN exceptions that leave a method, and their catching by the caller (launches without stack traces) ===== -/
section VXA
/-! The laws vx_back, vx_callV, vx_callS, vx_callSW, vx_throw0, vx_throwS follow proofs of the library, with one case more: JvmDerived/Free/Laws.lean (Back.of_free), Shelf42/LK1.lean (callV, callS), Shelf/KitTraced.lean (throwNew0V, throwNewS). -/
/-- where a method has thrown q: the class by its name, the cell, what was written, the world -/
def vx_T (XC : String → State → State → Prop) (st : State) (q : Addr) (t : State) (mc ms : Nat) (free : Addr → Prop) : Prop :=
  ∃ (E : String) (ce : Cell) (L : List Loc), XC E st t ∧ t.heap[q]? = some ce ∧ ce.vm = .none ∧ st.vm.findClass E = some ce.cls ∧ st.WarmedH t.vm ∧ st.sameButNew ({ t with vm := st.vm } : State) L mc ms ∧ ∀ z ∈ L, free z.base
def vx_Q (Qc : Array Value → State → Outcome → State → Prop) (XC : String → State → State → Prop) (mc ms : Nat) (free : Addr → Prop) : Array Value → State → Outcome → State → Prop := fun a st o t =>
  (Qc a st o t ∧ ∃ L, FrameEnd st o t L mc ms ∧ ∀ q ∈ L, free q.base) ∨ ∃ q, o = .threw q ∧ vx_T XC st q t mc ms free
/-- a callee that returns or throws -/
def vx_Met (l : Launch) (y : MethodName) (ws : List Cond) (rm : Room) (Pc : Array Value → State → Prop) (Qc : Array Value → State → Outcome → State → Prop) (XC : String → State → State → Prop) (mc ms : Nat) (free : Addr → Prop) : Prop :=
  MetFree l y (headSpec ws rm) Pc (fun _ _ _ _ _ => True) (vx_Q Qc XC mc ms free)
def vx_Post (XC : String → State → State → Prop) (mc ms : Nat) (free : Addr → Prop) : Pt → Array Value → Addr → Pt → Prop := fun A a q B =>
  ∃ (g : JFrame) (mk : MethodId) (t : State) (L : List Loc) (E : String) (ce : Cell), B.U.heap = t.heap ∧ B.U.vm = t.vm ∧ XC E (A.U.calling g mk a) t ∧ t.heap[q]? = some ce ∧ ce.vm = .none ∧ A.U.vm.findClass E = some ce.cls ∧ B.locs = A.locs ++ L ∧ (∀ z ∈ L, free z.base) ∧ B.cells = A.cells + mc ∧ B.slots = A.slots + ms
def vx_Back (l : Launch) (R : Room) (p : Program) (e : Env) (below : List Frame) (s : State) (sargs : Array Value) (y : MethodName) (len W9 : Nat)
    (Pre : Pt → Array Value → Prop) (Post : Pt → Array Value → Option Value → Pt → Prop) (PostX : Pt → Array Value → Addr → Pt → Prop) : Prop :=
  ∀ (m : MethodId) (meth : Method) (c : Code) (A : Pt) (g : JFrame) (ig : Instr) (mk : MethodId) (a : Array Value),
    Stand p l e R s m sargs below meth c A.U A.locs A.cells A.slots → g.method = m → g.locals.size = c.maxLocals → decode c.code g.pc = .ok (ig, len) →
    2 * g.monitorRoom + (g.stack.map fun v => v.category).sum ≤ W9 → A.U.methodNamed? y = some mk → Pre A a →
    (∃ (v : Option Value) (B : Pt), Stand p l e R s m sargs below meth c B.U B.locs B.cells B.slots ∧ Post A a v B ∧
      Steps p.tables e below (doInvoke e (A.U.setTop g) [] mk a).1 (B.U.setTop { g with pc := g.pc + len, stack := v.toList ++ g.stack })) ∨
    (∃ (q : Addr) (B : Pt), Stand p l e R s m sargs below meth c B.U B.locs B.cells B.slots ∧ PostX A a q B ∧
      Steps p.tables e below (doInvoke e (A.U.setTop g) [] mk a).1 ((B.U.setTop g).pushFrame (.throwing q)))
section Payer
variable {l : Launch} {R : Room} {p : Program} {e : Env} {below : List Frame} {s : State} {sargs : Array Value} {y : MethodName} {len W9 : Nat}
theorem vx_back {ws : List Cond} {rm : Room} {Pc : Array Value → State → Prop} {Qc : Array Value → State → Outcome → State → Prop} {XC : String → State → State → Prop} {mc ms : Nat} {free : Addr → Prop} {bytes : ByteArray} {maxL : Nat} {ret : Option FieldType}
    (hM : vx_Met l y ws rm Pc Qc XC mc ms free) (hblind : FrameBlind Pc) (hrc : rm.cells = mc) (hrs : rm.slots = ms)
    (hframes : rm.frames + 1 ≤ R.frames) (hlocals : W9 + (maxL + 11) + rm.locals ≤ R.locals)
    (hws : ∀ w ∈ ws, ∀ a' U, s.WarmedH U.vm → w.before a' U = true) (hcode : Cond.code y bytes maxL ret ∈ ws) (hinit : ∀ a' U, s.WarmedH U.vm → (Cond.initialized y.cls).before a' U = true) :
    vx_Back l R p e below s sargs y len W9 (PreOf R mc ms Pc) (PostOf Qc mc ms free) (vx_Post XC mc ms free) := by
  intro m meth c A g ig mk a X hg hsize hdg hW hn hp
  have h1 : (headSpec ws rm).pre.before a A.U = true := atoms_intro fun w hw => hws w hw _ _ X.warmed
  have h2 : (Cond.code y bytes maxL ret).before a A.U = true := hws _ hcode _ _ X.warmed
  have h3 : (Cond.initialized y.cls).before a A.U = true := hinit _ _ X.warmed
  have h4 : A.cells + (headSpec ws rm).room.cells ≤ R.cells := by rw [show (headSpec ws rm).room.cells = mc from hrc]; exact hp.1
  have h5 : A.slots + (headSpec ws rm).room.slots ≤ R.slots := by rw [show (headSpec ws rm).room.slots = ms from hrs]; exact hp.2.1
  have hPc : Pc a (A.U.calling g mk a) := hblind _ _ _ _ hp.2.2
  obtain ⟨U, Ls, c0, s0⟩ := A
  dsimp only [Pt.U, Pt.locs, Pt.cells, Pt.slots] at h1 h2 h3 h4 h5 X hn hPc ⊢
  obtain ⟨methY, cY, hmY, hcY, -, hlY, -, -, -, -⟩ := Cond.code_spec hn h2
  obtain ⟨kY, hkY, -⟩ := className_of_methodNamed hn
  have hinitY : kY.init = .initialized := Cond.initialized_spec (findClass_of_methodNamed hn) hkY h3
  have h : At U g.method c below := by rw [hg]; exact X.here
  have hlocals9 : W9 + (maxL + 11) + (headSpec ws rm).room.locals ≤ R.locals := hlocals
  have happ : (headSpec ws rm).appliesLoose y e.platform (U.calling g mk a) = true :=
    Spec.appliesLoose_calling (g := g) h hdg hn hkY hinitY
      (X.room_calling (g := g) (R' := (headSpec ws rm).room) hsize hmY hcY hframes (by rw [hlY]; omega) h4 h5) h1
  obtain ⟨mid, hmid⟩ := h.above
  have hfr : (U.setTop g).frames = (.java g :: mid) ++ below := by rw [State.frames_setTop' g h.top, hmid]; rfl
  obtain ⟨o, s₂, hsteps, -, hend, hq⟩ := Steps.callFree hM p X.admits X.cas X.clock (acts := []) hfr happ hPc trivial
  have hq' : vx_Q Qc XC mc ms free a (U.calling g mk a) o s₂ := hq
  rw [State.frames_setTop' g h.top] at hend
  obtain ⟨g₀, hg0⟩ := Option.isSome_iff_exists.mp h.top
  obtain ⟨r, hr⟩ := State.topJava?_eq_some.mp hg0
  have hr' : (({ U with heap := s₂.heap, slotsUsed := s₂.slotsUsed } : State).setVm s₂.vm).frames = .java g₀ :: r := hr
  rcases hq' with ⟨hqc, L, hfe, hL⟩ | ⟨q, rfl, E, ce, L, hx, hce, hcv, hcl, hW₂, hsm, hL⟩
  · obtain ⟨⟨v, rfl⟩, hW₂, e2, q2, q3, q4, q5, q6⟩ := id hfe
    have e3 : s₂ = ({ (U.calling g mk a).setFrames s₂.frames with heap := s₂.heap, slotsUsed := s₂.slotsUsed } : State).setVm s₂.vm := by
      have : s₂ = ({ s₂ with vm := (U.calling g mk a).vm } : State).setVm s₂.vm := rfl
      rw [e2] at this
      exact this
    obtain ⟨c₂, i₂, len₂, hc₂, hd₂, hf₂⟩ := hend
    have hW' : U.WarmedH s₂.vm := hW₂
    have hcc : c₂ = c := by
      have h1 : s₂.code? g.method = U.code? g.method := by
        rw [State.code?_eq, State.code?_eq, hW'.alike.method?]
      exact Option.some.inj (hc₂.symm.trans (h1.trans h.code))
    subst hcc
    have hlen : len₂ = len := by rw [hdg] at hd₂; cases hd₂; rfl
    subst hlen
    have hs₂ : s₂ = (({ U with heap := s₂.heap, slotsUsed := s₂.slotsUsed } : State).setVm s₂.vm).setTop { g with pc := g.pc + len₂, stack := v.toList ++ g.stack } := by
      refine e3.trans ?_
      rw [hf₂, State.calling_eq h.top, State.setFrames_setFrames, State.setTop_of_frames _ hr', hr]
      rfl
    have hsame : U.sameButNew ({ U with heap := s₂.heap, slotsUsed := s₂.slotsUsed } : State) L mc ms := by
      refine ⟨?_, q2, q3, q4, q5, q6⟩
      obtain ⟨t, ht, -⟩ := State.frames_cons hr
      show ({ U with heap := s₂.heap, slotsUsed := s₂.slotsUsed } : State) = { U.setFrames U.frames with heap := s₂.heap, slotsUsed := s₂.slotsUsed }
      rw [State.setFrames_self ht]
    subst hg
    refine Or.inl ⟨v, ⟨(({ U with heap := s₂.heap, slotsUsed := s₂.slotsUsed } : State).setVm s₂.vm), Ls ++ L, c0 + mc, s0 + ms⟩,
      ⟨X.admits, X.cas, X.clock, X.frames, X.room, X.hears, X.method, X.code, (X.here.setHeapUsed s₂.heap s₂.slotsUsed).setVm hW'.alike, X.tail, State.WarmedH.trans X.warmed hW', X.limits, X.bytes, X.same.trans (hsame.setVm s.vm)⟩,
      ⟨g, mk, s₂, L, rfl, rfl, hqc, rfl, hL, rfl, rfl⟩, ?_⟩
    show Steps p.tables e below _ ((({ U with heap := s₂.heap, slotsUsed := s₂.slotsUsed } : State).setVm s₂.vm).setTop { g with pc := g.pc + len₂, stack := v.toList ++ g.stack })
    rw [← hs₂]
    exact hsteps
  · obtain ⟨e2, q2, q3, q4, q5, q6⟩ := id hsm
    have e3 : s₂ = ({ (U.calling g mk a).setFrames s₂.frames with heap := s₂.heap, slotsUsed := s₂.slotsUsed } : State).setVm s₂.vm := by
      have : s₂ = ({ s₂ with vm := (U.calling g mk a).vm } : State).setVm s₂.vm := rfl
      rw [e2] at this
      exact this
    have hf₂ : s₂.frames = .throwing q :: .java g :: U.frames.tail := hend
    have hW' : U.WarmedH s₂.vm := hW₂
    have hs₂ : s₂ = ((({ U with heap := s₂.heap, slotsUsed := s₂.slotsUsed } : State).setVm s₂.vm).setTop g).pushFrame (.throwing q) := by
      refine e3.trans ?_
      rw [hf₂, State.calling_eq h.top, State.setFrames_setFrames, State.pushFrame, State.frames_setTop _ hr', State.setTop_of_frames _ hr', State.setFrames_setFrames, hr]
      rfl
    have hsame : U.sameButNew ({ U with heap := s₂.heap, slotsUsed := s₂.slotsUsed } : State) L mc ms := by
      refine ⟨?_, q2, q3, q4, q5, q6⟩
      obtain ⟨t, ht, -⟩ := State.frames_cons hr
      show ({ U with heap := s₂.heap, slotsUsed := s₂.slotsUsed } : State) = { U.setFrames U.frames with heap := s₂.heap, slotsUsed := s₂.slotsUsed }
      rw [State.setFrames_self ht]
    subst hg
    refine Or.inr ⟨q, ⟨(({ U with heap := s₂.heap, slotsUsed := s₂.slotsUsed } : State).setVm s₂.vm), Ls ++ L, c0 + mc, s0 + ms⟩,
      ⟨X.admits, X.cas, X.clock, X.frames, X.room, X.hears, X.method, X.code, (X.here.setHeapUsed s₂.heap s₂.slotsUsed).setVm hW'.alike, X.tail, State.WarmedH.trans X.warmed hW', X.limits, X.bytes, X.same.trans (hsame.setVm s.vm)⟩,
      ⟨g, mk, s₂, L, E, ce, rfl, rfl, hx, hce, hcv, hcl, rfl, hL, rfl, rfl⟩, ?_⟩
    show Steps p.tables e below _ (((({ U with heap := s₂.heap, slotsUsed := s₂.slotsUsed } : State).setVm s₂.vm).setTop g).pushFrame (.throwing q))
    rw [← hs₂]
    exact hsteps
end Payer
section Calls
variable {p : Program} {l : Launch} {e : Env} {R : Room} {s : State} {m : MethodId} {args : Array Value} {below : List Frame} {meth : Method} {c : Code} {T : State} {locs : List Loc} {cells slots : Nat}
theorem vx_callV (X : Stand p l e R s m args below meth c T locs cells slots) (hexec : p.tables.exec = Jvm.exec) {own C : String} {index : Nat} {y : MethodName} {bytes : ByteArray} {maxL : Nat} {ret : Option FieldType}
    (hown : s.vm.findClass own = some m.cls) (hlink : (Cond.methodLink own index y).before args s = true) (hinst : (Cond.instanceMethod y).before args s = true) (hsel : (Cond.selects C y y).before args s = true)
    (hcode : (Cond.code y bytes maxL ret).before args s = true) (hy : y.cls ≠ "java/lang/invoke/MethodHandle" ∧ y.cls ≠ "java/lang/invoke/VarHandle")
    {W9 : Nat} {Pre : Pt → Array Value → Prop} {Post : Pt → Array Value → Option Value → Pt → Prop} {PostX : Pt → Array Value → Addr → Pt → Prop} (hK : vx_Back l R p e below s args y 3 W9 Pre Post PostX)
    {b : Addr} {cellB : Cell} (hcell : T.heap[b]? = some cellB) (hobj : cellB.vm.isStatics = false) (hcls : s.vm.findClass C = some cellB.cls)
    {g : JFrame} (hg : g.method = m) (hsize : g.locals.size = c.maxLocals) {argsL rest : List Value} (hlen : ∀ sig, parseMethodDescriptor y.desc = some sig → argsL.length = sig.parameters.length)
    (hstack : g.stack = argsL.reverse ++ .ref b :: rest) (hW : 2 * g.monitorRoom + (rest.map fun v => v.category).sum ≤ W9) (hdg : decode c.code g.pc = .ok (.invokevirtual index, 3))
    (hpre : ∀ vm₁, s.WarmedH vm₁ → Pre ⟨T.setVm vm₁, locs, cells, slots⟩ (Value.ref b :: argsL).toArray) :
    (∃ (v : Option Value) (vm₁ : Vm) (B : Pt), s.WarmedH vm₁ ∧ Stand p l e R s m args below meth c B.U B.locs B.cells B.slots ∧ Post ⟨T.setVm vm₁, locs, cells, slots⟩ (Value.ref b :: argsL).toArray v B ∧
      ∀ target, Steps p.tables e below (B.U.setTop { g with pc := g.pc + 3, stack := v.toList ++ rest }) target → Steps p.tables e below (T.setTop g) target) ∨
    (∃ (q : Addr) (vm₁ : Vm) (B : Pt), s.WarmedH vm₁ ∧ Stand p l e R s m args below meth c B.U B.locs B.cells B.slots ∧ PostX ⟨T.setVm vm₁, locs, cells, slots⟩ (Value.ref b :: argsL).toArray q B ∧
      Steps p.tables e below (T.setTop g) ((B.U.setTop { g with stack := rest }).pushFrame (.throwing q))) := by
  obtain ⟨mk, methM, hnamed, hmethM, hstM, habM⟩ := Cond.instanceMethod_spec hinst
  obtain ⟨methM', cM, hmethM', -, -, -, -, -, -, hsigM⟩ := Cond.code_spec hnamed hcode
  cases hmethM.symm.trans hmethM'
  obtain ⟨c2, r2, m2, q1, q2, q3, q4, kP, hkP, hkPi⟩ := Cond.selects_spec hsel
  cases hcls.symm.trans q1
  cases (State.methodFound?_of_named hnamed hy).symm.trans q2
  cases hnamed.symm.trans q3
  have hselP : selectMethod e.platform s.vm cellB.cls mk = .method mk := by rw [Launch.admits_selectMethod X.admits]; exact q4
  obtain ⟨vm₁, X₁, hstep₁⟩ := X.invokevirtual hexec hown hlink hnamed hmethM hstM hkP hkPi hy (a := b) (cell := cellB) hcell
    (fun z h => by rw [h] at hobj; cases hobj) hselP hmethM habM hkP hkPi (g := g) hg (argsL := argsL) (rest := rest) (hlen _ hsigM) hstack hdg
  rcases hK m meth c ⟨T.setVm vm₁, locs, cells, slots⟩ { g with stack := rest } (.invokevirtual index) mk (Value.ref b :: argsL).toArray X₁ hg hsize hdg hW (X₁.named hnamed) (hpre vm₁ X₁.warmed) with ⟨v, B, X', hpost, hsteps⟩ | ⟨q, B, X', hpost, hsteps⟩
  · exact Or.inl ⟨v, vm₁, B, X₁.warmed, X', hpost, fun target h => hstep₁ _ fun acts => by rw [doInvoke_state]; exact hsteps.trans h⟩
  · exact Or.inr ⟨q, vm₁, B, X₁.warmed, X', hpost, hstep₁ _ fun acts => by rw [doInvoke_state]; exact hsteps⟩
theorem vx_callS (X : Stand p l e R s m args below meth c T locs cells slots) (hexec : p.tables.exec = Jvm.exec) {own : String} {index : Nat} {y : MethodName} {bytes : ByteArray} {maxL : Nat} {ret : Option FieldType}
    (hown : s.vm.findClass own = some m.cls) (hlink : (Cond.methodLink own index y).before args s = true) (hstat : (Cond.static y).before args s = true) (hinit : (Cond.initialized y.cls).before args s = true)
    (hcode : (Cond.code y bytes maxL ret).before args s = true) (hy : y.cls ≠ "java/lang/invoke/MethodHandle" ∧ y.cls ≠ "java/lang/invoke/VarHandle")
    {W9 : Nat} {Pre : Pt → Array Value → Prop} {Post : Pt → Array Value → Option Value → Pt → Prop} {PostX : Pt → Array Value → Addr → Pt → Prop} (hK : vx_Back l R p e below s args y 3 W9 Pre Post PostX)
    {g : JFrame} (hg : g.method = m) (hsize : g.locals.size = c.maxLocals) {argsL rest : List Value} (hlen : ∀ sig, parseMethodDescriptor y.desc = some sig → argsL.length = sig.parameters.length)
    (hstack : g.stack = argsL.reverse ++ rest) (hW : 2 * g.monitorRoom + (rest.map fun v => v.category).sum ≤ W9) (hdg : decode c.code g.pc = .ok (.invokestatic index, 3))
    (hpre : ∀ vm₁, s.WarmedH vm₁ → Pre ⟨T.setVm vm₁, locs, cells, slots⟩ argsL.toArray) :
    (∃ (v : Option Value) (vm₁ : Vm) (B : Pt), s.WarmedH vm₁ ∧ Stand p l e R s m args below meth c B.U B.locs B.cells B.slots ∧ Post ⟨T.setVm vm₁, locs, cells, slots⟩ argsL.toArray v B ∧
      ∀ target, Steps p.tables e below (B.U.setTop { g with pc := g.pc + 3, stack := v.toList ++ rest }) target → Steps p.tables e below (T.setTop g) target) ∨
    (∃ (q : Addr) (vm₁ : Vm) (B : Pt), s.WarmedH vm₁ ∧ Stand p l e R s m args below meth c B.U B.locs B.cells B.slots ∧ PostX ⟨T.setVm vm₁, locs, cells, slots⟩ argsL.toArray q B ∧
      Steps p.tables e below (T.setTop g) ((B.U.setTop { g with stack := rest }).pushFrame (.throwing q))) := by
  obtain ⟨mk, hnamed⟩ := Cond.code_named hcode
  obtain ⟨methM, cM, hmethM, -, -, -, -, -, -, hsigM⟩ := Cond.code_spec hnamed hcode
  have hstatic : methM.isStatic = true := Cond.static_spec hnamed hmethM hstat
  obtain ⟨kP, hkP, -⟩ := className_of_methodNamed hnamed
  have hinitP : kP.init = .initialized := Cond.initialized_spec (findClass_of_methodNamed hnamed) hkP hinit
  obtain ⟨vm₁, X₁, hstep₁⟩ := X.invokestatic hexec hown hlink hnamed hmethM hstatic hkP hinitP hy (g := g) hg (argsL := argsL) (rest := rest) (hlen _ hsigM) hstack hdg
  rcases hK m meth c ⟨T.setVm vm₁, locs, cells, slots⟩ { g with stack := rest } (.invokestatic index) mk argsL.toArray X₁ hg hsize hdg hW (X₁.named hnamed) (hpre vm₁ X₁.warmed) with ⟨v, B, X', hpost, hsteps⟩ | ⟨q, B, X', hpost, hsteps⟩
  · exact Or.inl ⟨v, vm₁, B, X₁.warmed, X', hpost, fun target h => hstep₁ _ fun acts => by rw [doInvoke_state]; exact hsteps.trans h⟩
  · exact Or.inr ⟨q, vm₁, B, X₁.warmed, X', hpost, hstep₁ _ fun acts => by rw [doInvoke_state]; exact hsteps⟩
end Calls
theorem vx_cls {s : State} {T : State} {vm₁ : Vm} {E : String} {k : ClassId} (hW : s.WarmedH vm₁) (h : (T.setVm vm₁).vm.findClass E = some k) : s.vm.findClass E = some k := by
  have h1 : vm₁.findClass E = some k := h
  rw [hW.alike.findClass] at h1
  exact h1
/-- the method's frame g, with q thrown over it -/
def vx_W (p : Program) (l : Launch) (e : Env) (R : Room) (s : State) (m : MethodId) (args : Array Value) (below : List Frame) (meth : Method) (c : Code) (H : Heap) (locs : List Loc) (cells slots : Nat) (Q : State → Prop) (g : JFrame) (q : Addr) : Prop :=
  ∀ T : State, T.heap = H → Stand p l e R s m args below meth c T locs cells slots → ∃ t, Steps p.tables e below ((T.setTop g).pushFrame (.throwing q)) t ∧ Q t
def vx_Run (p : Program) (l : Launch) (e : Env) (R : Room) (s : State) (m : MethodId) (args : Array Value) (below : List Frame) (meth : Method) (c : Code) (H : Heap) (locs : List Loc) (cells slots mc ms : Nat) (g : JFrame) (rest : List Value) (Qa : State → Outcome → State → Prop) (XC : String → State → State → Prop) (free : Addr → Prop) : Prop :=
  ∀ T : State, T.heap = H → Stand p l e R s m args below meth c T locs cells slots →
    (∃ (v : Option Value) (st₀ t T' : State) (L : List Loc), st₀.heap = H ∧ Stand p l e R s m args below meth c T' (locs ++ L) (cells + mc) (slots + ms) ∧ (∀ q ∈ L, free q.base) ∧ T'.heap = t.heap ∧ T'.vm = t.vm ∧ Qa st₀ (.returned v) t ∧
      Goes p e below T g T' { g with pc := g.pc + 3, stack := v.toList ++ rest }) ∨
    (∃ (q : Addr) (st₀ t T' : State) (L : List Loc) (E : String) (ce : Cell), st₀.heap = H ∧ Stand p l e R s m args below meth c T' (locs ++ L) (cells + mc) (slots + ms) ∧ (∀ z ∈ L, free z.base) ∧ T'.heap = t.heap ∧ T'.vm = t.vm ∧ XC E st₀ t ∧ t.heap[q]? = some ce ∧ ce.vm = .none ∧ s.vm.findClass E = some ce.cls ∧
      Steps p.tables e below (T.setTop g) ((T'.setTop { g with stack := rest }).pushFrame (.throwing q)))
def vx_X {S : Type} (px : S → Prop) (B : String → S → State → Prop) (A : Nat → Prop) : String → State → State → Prop := fun E st t => ∃ u : S, px u ∧ B E u t ∧ va_F A st t
section Runs
variable {p : Program} {l : Launch} {e : Env} {R : Room} {s : State} {m : MethodId} {args : Array Value} {below : List Frame} {meth : Method} {c : Code} {H : Heap} {locs : List Loc} {cells slots : Nat}
variable {y : MethodName} {bytes cc : ByteArray} {maxL nL mc ms n index : Nat} {ret : Option FieldType} {ws : List Cond} {rm : Room} {Pc : Array Value → State → Prop} {Qc : Array Value → State → Outcome → State → Prop} {XC : String → State → State → Prop} {free : Addr → Prop} {Ts : List Cond} {own C : String} {b : Addr} {As rest : List Value} {g : JFrame}
theorem vx_callBack (cb : CallB R s args own index y bytes maxL ret ws rm mc ms n) (hM : vx_Met l y ws rm Pc Qc XC mc ms free) (hbl : FrameBlind Pc) : vx_Back l R p e below s args y 3 8 (PreOf R mc ms Pc) (PostOf Qc mc ms free) (vx_Post XC mc ms free) := by
  obtain ⟨hrc, hrs, hfr, hlo, hws, hcw, -, hini, -⟩ := cb
  exact vx_back (bytes := bytes) (maxL := maxL) (ret := ret) hM hbl hrc hrs hfr hlo hws hcw (fun a' U hW => word_at hW (Or.inl (by first | rfl | simp [Cond.onTables, Cond.keeps, Cond.steady])) hini)
theorem vx_runV (S : CallFix p m c cc nL s args Ts own) (hM : vx_Met l y ws rm Pc Qc XC mc ms free) (cw : CallW R s args own C index y bytes maxL ret ws rm mc ms n) (hp : PreV s H C b Pc As)
    (hg : g.method = m) (hn : As.length = n) (hsize : g.locals.size = nL) (hstack : g.stack = As.reverse ++ .ref b :: rest) (hW : 2 * g.monitorRoom + (rest.map fun v => v.category).sum ≤ 8) (hdg : decode cc g.pc = .ok (.invokevirtual index, 3)) (hf : cells + mc ≤ R.cells ∧ slots + ms ≤ R.slots) :
    vx_Run p l e R s m args below meth c H locs cells slots mc ms g rest (Qc (Value.ref b :: As).toArray) XC free := by
  have hK : vx_Back l R p e below s args y 3 8 (PreOf R mc ms Pc) (PostOf Qc mc ms free) (vx_Post XC mc ms free) := vx_callBack cw.1 hM hp.1
  obtain ⟨⟨-, -, -, -, -, -, hcode, -, hy, hlen, hl⟩, hin, hse⟩ := cw
  obtain ⟨hx, hb, hml, ho, -⟩ := S
  obtain ⟨-, ⟨cellB, hcB, hoB, hclB⟩, hPc⟩ := hp
  intro T hT X
  rcases vx_callV X hx (C := C) (bytes := bytes) (maxL := maxL) (ret := ret) ho hl hin hse hcode hy hK (by rw [hT]; exact hcB) hoB hclB hg (hsize.trans hml.symm) (argsL := As) (rest := rest) (fun sig h => hn.trans (hlen sig h)) hstack hW (by rw [hb]; exact hdg)
    (fun vm₁ hW₁ => ⟨hf.1, hf.2, hPc (T.setVm vm₁) hT hW₁⟩) with ⟨v, vm₁, ⟨U', l2, c2, s2⟩, hW₁, X', ⟨g', mk, t, L, e1, e2, hq, h1, hL, h2, h3⟩, st⟩ | ⟨q, vm₁, ⟨U', l2, c2, s2⟩, hW₁, X', ⟨g', mk, t, L, E, ce, e1, e2, hq, hce, hcv, hcl, h1, hL, h2, h3⟩, st⟩
  · dsimp only [Pt.U, Pt.locs, Pt.cells, Pt.slots] at X' e1 e2 h1 h2 h3 st
    subst h1; subst h2; subst h3
    exact Or.inl ⟨v, (T.setVm vm₁).calling g' mk (Value.ref b :: As).toArray, t, U', L, hT, X', hL, e1, e2, hq, st⟩
  · dsimp only [Pt.U, Pt.locs, Pt.cells, Pt.slots] at X' e1 e2 h1 h2 h3 st hcl
    subst h1; subst h2; subst h3
    exact Or.inr ⟨q, (T.setVm vm₁).calling g' mk (Value.ref b :: As).toArray, t, U', L, E, ce, hT, X', hL, e1, e2, hq, hce, hcv, vx_cls hW₁ hcl, st⟩
theorem vx_runS (S : CallFix p m c cc nL s args Ts own) (hM : vx_Met l y ws rm Pc Qc XC mc ms free) (cw : CallB R s args own index y bytes maxL ret ws rm mc ms n ∧ (Cond.static y).before args s = true) (hp : PreS s H Pc As)
    (hg : g.method = m) (hn : As.length = n) (hsize : g.locals.size = nL) (hstack : g.stack = As.reverse ++ rest) (hW : 2 * g.monitorRoom + (rest.map fun v => v.category).sum ≤ 8) (hdg : decode cc g.pc = .ok (.invokestatic index, 3)) (hf : cells + mc ≤ R.cells ∧ slots + ms ≤ R.slots) :
    vx_Run p l e R s m args below meth c H locs cells slots mc ms g rest (Qc As.toArray) XC free := by
  have hK : vx_Back l R p e below s args y 3 8 (PreOf R mc ms Pc) (PostOf Qc mc ms free) (vx_Post XC mc ms free) := vx_callBack cw.1 hM hp.1
  obtain ⟨⟨-, -, -, -, -, -, hcode, hini, hy, hlen, hl⟩, hstt⟩ := cw
  obtain ⟨hx, hb, hml, ho, -⟩ := S
  intro T hT X
  rcases vx_callS X hx (bytes := bytes) (maxL := maxL) (ret := ret) ho hl hstt hini hcode hy hK hg (hsize.trans hml.symm) (argsL := As) (rest := rest) (fun sig h => hn.trans (hlen sig h)) hstack hW (by rw [hb]; exact hdg)
    (fun vm₁ hW₁ => ⟨hf.1, hf.2, hp.2 (T.setVm vm₁) hT hW₁⟩) with ⟨v, vm₁, ⟨U', l2, c2, s2⟩, hW₁, X', ⟨g', mk, t, L, e1, e2, hq, h1, hL, h2, h3⟩, st⟩ | ⟨q, vm₁, ⟨U', l2, c2, s2⟩, hW₁, X', ⟨g', mk, t, L, E, ce, e1, e2, hq, hce, hcv, hcl, h1, hL, h2, h3⟩, st⟩
  · dsimp only [Pt.U, Pt.locs, Pt.cells, Pt.slots] at X' e1 e2 h1 h2 h3 st
    subst h1; subst h2; subst h3
    exact Or.inl ⟨v, (T.setVm vm₁).calling g' mk As.toArray, t, U', L, hT, X', hL, e1, e2, hq, st⟩
  · dsimp only [Pt.U, Pt.locs, Pt.cells, Pt.slots] at X' e1 e2 h1 h2 h3 st hcl
    subst h1; subst h2; subst h3
    exact Or.inr ⟨q, (T.setVm vm₁).calling g' mk As.toArray, t, U', L, E, ce, hT, X', hL, e1, e2, hq, hce, hcv, vx_cls hW₁ hcl, st⟩
end Runs
section Rows
variable {p : Program} {l : Launch} {e : Env} {R : Room} {s : State} {m : MethodId} {args : Array Value} {below : List Frame} {meth : Method} {c : Code} {H : Heap} {locs : List Loc} {cells slots : Nat} {Q : State → Prop}
variable {mc ms : Nat} {free : Addr → Prop} {A0 A1 : Nat → Prop} {H0 : Heap} {a : Array Value} {pc : Nat} {ls : Array Slot} {st0 rest : List Value}
theorem vx_keep {st₀ t T' : State} {L : List Loc} (h0 : st₀.heap = H) (e1 : T'.heap = t.heap) (hS : va_S A0 H0 H locs) (hA : ∀ q, q < H.size → A1 q → A0 q) (hf : ∀ q, free q → A0 q) (hL : ∀ q ∈ L, free q.base) (hF : va_F A1 st₀ t) :
    H.size ≤ T'.heap.size ∧ (∀ q : Nat, q < H.size → ¬ A1 q → T'.heap[q]? = H[q]?) ∧ va_S A0 H0 T'.heap (locs ++ L) := by
  obtain ⟨hz, hk⟩ := hF
  rw [h0] at hz hk
  exact ⟨by rw [e1]; exact hz, fun q h1 h2 => by rw [e1]; exact hk q h1 h2,
    ⟨Nat.le_trans hS.1 (by rw [e1]; exact hz), fun q h1 h2 => by rw [e1, hk q (Nat.lt_of_lt_of_le h1 hS.1) (fun z => h2 (hA q (Nat.lt_of_lt_of_le h1 hS.1) z))]; exact hS.2.1 q h1 h2, fun q hq => by
      rcases List.mem_append.mp hq with h | h
      · exact hS.2.2 q h
      · exact hf _ (hL q h)⟩⟩
theorem vx_calli {S SX : Type} {post : Int32 → S → Prop} {px : SX → Prop} {B : S → State → Prop} {BX : String → SX → State → Prop} {AX : Nat → Prop} (hr : vx_Run p l e R s m args below meth c H locs cells slots mc ms (F0 m pc ls st0) rest (va_Qi post B A1 a) (vx_X px BX AX) free) (hS : va_S A0 H0 H locs) (hA : ∀ q, q < H.size → A1 q → A0 q) (hf : ∀ q, free q → A0 q) (hAX : ∀ q, q < H.size → AX q → A0 q)
    (kx : ∀ (E : String) (ce : Cell) (q9 : Addr) (u : SX) (t : State) (H1 : Heap) (locs1 : List Loc), t.heap = H1 → s.vm.Alike t.vm → px u → BX E u t → H.size ≤ H1.size → (∀ q : Nat, q < H.size → ¬ AX q → H1[q]? = H[q]?) → va_S A0 H0 H1 locs1 → H1[q9]? = some ce → ce.vm = .none → s.vm.findClass E = some ce.cls → vx_W p l e R s m args below meth c H1 locs1 (cells + mc) (slots + ms) Q (F0 m pc ls rest) q9)
    (kk : ∀ (r : Int32) (u : S) (t : State) (H1 : Heap) (locs1 : List Loc), t.heap = H1 → s.vm.Alike t.vm → post r u → B u t → H.size ≤ H1.size → (∀ q : Nat, q < H.size → ¬ A1 q → H1[q]? = H[q]?) → va_S A0 H0 H1 locs1 → W p l e R s m args below meth c H1 locs1 (cells + mc) (slots + ms) Q (F0 m (pc + 3) ls (.int r :: rest))) : W p l e R s m args below meth c H locs cells slots Q (F0 m pc ls st0) := by
  intro T hT X
  rcases hr T hT X with ⟨v, st₀, t, T', L, h0, X', hL, e1, e2, ⟨⟨r, u, hv, hp, hb⟩, hF⟩, st⟩ | ⟨q, st₀, t, T', L, E, ce, h0, X', hL, e1, e2, ⟨u, hp, hb, hF⟩, hce, hcv, hcl, st⟩
  · cases hv
    obtain ⟨k1, k2, k3⟩ := vx_keep h0 e1 hS hA hf hL hF
    obtain ⟨t2, a1, b1⟩ := kk r u t T'.heap (locs ++ L) e1.symm (by rw [← e2]; exact X'.warmed.alike) hp hb k1 k2 k3 T' rfl X'
    exact ⟨t2, st t2 a1, b1⟩
  · obtain ⟨k1, k2, k3⟩ := vx_keep h0 e1 hS hAX hf hL hF
    obtain ⟨t2, a1, b1⟩ := kx E ce q u t T'.heap (locs ++ L) e1.symm (by rw [← e2]; exact X'.warmed.alike) hp hb k1 k2 k3 (by rw [e1]; exact hce) hcv hcl T' rfl X'
    exact ⟨t2, st.trans a1, b1⟩
theorem vx_calll {S SX : Type} {post : Int64 → S → Prop} {px : SX → Prop} {B : S → State → Prop} {BX : String → SX → State → Prop} {AX : Nat → Prop} (hr : vx_Run p l e R s m args below meth c H locs cells slots mc ms (F0 m pc ls st0) rest (va_Ql post B A1 a) (vx_X px BX AX) free) (hS : va_S A0 H0 H locs) (hA : ∀ q, q < H.size → A1 q → A0 q) (hf : ∀ q, free q → A0 q) (hAX : ∀ q, q < H.size → AX q → A0 q)
    (kx : ∀ (E : String) (ce : Cell) (q9 : Addr) (u : SX) (t : State) (H1 : Heap) (locs1 : List Loc), t.heap = H1 → s.vm.Alike t.vm → px u → BX E u t → H.size ≤ H1.size → (∀ q : Nat, q < H.size → ¬ AX q → H1[q]? = H[q]?) → va_S A0 H0 H1 locs1 → H1[q9]? = some ce → ce.vm = .none → s.vm.findClass E = some ce.cls → vx_W p l e R s m args below meth c H1 locs1 (cells + mc) (slots + ms) Q (F0 m pc ls rest) q9)
    (kk : ∀ (r : Int64) (u : S) (t : State) (H1 : Heap) (locs1 : List Loc), t.heap = H1 → s.vm.Alike t.vm → post r u → B u t → H.size ≤ H1.size → (∀ q : Nat, q < H.size → ¬ A1 q → H1[q]? = H[q]?) → va_S A0 H0 H1 locs1 → W p l e R s m args below meth c H1 locs1 (cells + mc) (slots + ms) Q (F0 m (pc + 3) ls (.long r :: rest))) : W p l e R s m args below meth c H locs cells slots Q (F0 m pc ls st0) := by
  intro T hT X
  rcases hr T hT X with ⟨v, st₀, t, T', L, h0, X', hL, e1, e2, ⟨⟨r, u, hv, hp, hb⟩, hF⟩, st⟩ | ⟨q, st₀, t, T', L, E, ce, h0, X', hL, e1, e2, ⟨u, hp, hb, hF⟩, hce, hcv, hcl, st⟩
  · cases hv
    obtain ⟨k1, k2, k3⟩ := vx_keep h0 e1 hS hA hf hL hF
    obtain ⟨t2, a1, b1⟩ := kk r u t T'.heap (locs ++ L) e1.symm (by rw [← e2]; exact X'.warmed.alike) hp hb k1 k2 k3 T' rfl X'
    exact ⟨t2, st t2 a1, b1⟩
  · obtain ⟨k1, k2, k3⟩ := vx_keep h0 e1 hS hAX hf hL hF
    obtain ⟨t2, a1, b1⟩ := kx E ce q u t T'.heap (locs ++ L) e1.symm (by rw [← e2]; exact X'.warmed.alike) hp hb k1 k2 k3 (by rw [e1]; exact hce) hcv hcl T' rfl X'
    exact ⟨t2, st.trans a1, b1⟩
theorem vx_callf {S SX : Type} {post : UInt32 → S → Prop} {px : SX → Prop} {B : S → State → Prop} {BX : String → SX → State → Prop} {AX : Nat → Prop} (hr : vx_Run p l e R s m args below meth c H locs cells slots mc ms (F0 m pc ls st0) rest (va_Qf post B A1 a) (vx_X px BX AX) free) (hS : va_S A0 H0 H locs) (hA : ∀ q, q < H.size → A1 q → A0 q) (hf : ∀ q, free q → A0 q) (hAX : ∀ q, q < H.size → AX q → A0 q)
    (kx : ∀ (E : String) (ce : Cell) (q9 : Addr) (u : SX) (t : State) (H1 : Heap) (locs1 : List Loc), t.heap = H1 → s.vm.Alike t.vm → px u → BX E u t → H.size ≤ H1.size → (∀ q : Nat, q < H.size → ¬ AX q → H1[q]? = H[q]?) → va_S A0 H0 H1 locs1 → H1[q9]? = some ce → ce.vm = .none → s.vm.findClass E = some ce.cls → vx_W p l e R s m args below meth c H1 locs1 (cells + mc) (slots + ms) Q (F0 m pc ls rest) q9)
    (kk : ∀ (r : UInt32) (u : S) (t : State) (H1 : Heap) (locs1 : List Loc), t.heap = H1 → s.vm.Alike t.vm → post r u → B u t → H.size ≤ H1.size → (∀ q : Nat, q < H.size → ¬ A1 q → H1[q]? = H[q]?) → va_S A0 H0 H1 locs1 → W p l e R s m args below meth c H1 locs1 (cells + mc) (slots + ms) Q (F0 m (pc + 3) ls (.float r :: rest))) : W p l e R s m args below meth c H locs cells slots Q (F0 m pc ls st0) := by
  intro T hT X
  rcases hr T hT X with ⟨v, st₀, t, T', L, h0, X', hL, e1, e2, ⟨⟨r, u, hv, hp, hb⟩, hF⟩, st⟩ | ⟨q, st₀, t, T', L, E, ce, h0, X', hL, e1, e2, ⟨u, hp, hb, hF⟩, hce, hcv, hcl, st⟩
  · cases hv
    obtain ⟨k1, k2, k3⟩ := vx_keep h0 e1 hS hA hf hL hF
    obtain ⟨t2, a1, b1⟩ := kk r u t T'.heap (locs ++ L) e1.symm (by rw [← e2]; exact X'.warmed.alike) hp hb k1 k2 k3 T' rfl X'
    exact ⟨t2, st t2 a1, b1⟩
  · obtain ⟨k1, k2, k3⟩ := vx_keep h0 e1 hS hAX hf hL hF
    obtain ⟨t2, a1, b1⟩ := kx E ce q u t T'.heap (locs ++ L) e1.symm (by rw [← e2]; exact X'.warmed.alike) hp hb k1 k2 k3 (by rw [e1]; exact hce) hcv hcl T' rfl X'
    exact ⟨t2, st.trans a1, b1⟩
theorem vx_calld {S SX : Type} {post : UInt64 → S → Prop} {px : SX → Prop} {B : S → State → Prop} {BX : String → SX → State → Prop} {AX : Nat → Prop} (hr : vx_Run p l e R s m args below meth c H locs cells slots mc ms (F0 m pc ls st0) rest (va_Qd post B A1 a) (vx_X px BX AX) free) (hS : va_S A0 H0 H locs) (hA : ∀ q, q < H.size → A1 q → A0 q) (hf : ∀ q, free q → A0 q) (hAX : ∀ q, q < H.size → AX q → A0 q)
    (kx : ∀ (E : String) (ce : Cell) (q9 : Addr) (u : SX) (t : State) (H1 : Heap) (locs1 : List Loc), t.heap = H1 → s.vm.Alike t.vm → px u → BX E u t → H.size ≤ H1.size → (∀ q : Nat, q < H.size → ¬ AX q → H1[q]? = H[q]?) → va_S A0 H0 H1 locs1 → H1[q9]? = some ce → ce.vm = .none → s.vm.findClass E = some ce.cls → vx_W p l e R s m args below meth c H1 locs1 (cells + mc) (slots + ms) Q (F0 m pc ls rest) q9)
    (kk : ∀ (r : UInt64) (u : S) (t : State) (H1 : Heap) (locs1 : List Loc), t.heap = H1 → s.vm.Alike t.vm → post r u → B u t → H.size ≤ H1.size → (∀ q : Nat, q < H.size → ¬ A1 q → H1[q]? = H[q]?) → va_S A0 H0 H1 locs1 → W p l e R s m args below meth c H1 locs1 (cells + mc) (slots + ms) Q (F0 m (pc + 3) ls (.double r :: rest))) : W p l e R s m args below meth c H locs cells slots Q (F0 m pc ls st0) := by
  intro T hT X
  rcases hr T hT X with ⟨v, st₀, t, T', L, h0, X', hL, e1, e2, ⟨⟨r, u, hv, hp, hb⟩, hF⟩, st⟩ | ⟨q, st₀, t, T', L, E, ce, h0, X', hL, e1, e2, ⟨u, hp, hb, hF⟩, hce, hcv, hcl, st⟩
  · cases hv
    obtain ⟨k1, k2, k3⟩ := vx_keep h0 e1 hS hA hf hL hF
    obtain ⟨t2, a1, b1⟩ := kk r u t T'.heap (locs ++ L) e1.symm (by rw [← e2]; exact X'.warmed.alike) hp hb k1 k2 k3 T' rfl X'
    exact ⟨t2, st t2 a1, b1⟩
  · obtain ⟨k1, k2, k3⟩ := vx_keep h0 e1 hS hAX hf hL hF
    obtain ⟨t2, a1, b1⟩ := kx E ce q u t T'.heap (locs ++ L) e1.symm (by rw [← e2]; exact X'.warmed.alike) hp hb k1 k2 k3 (by rw [e1]; exact hce) hcv hcl T' rfl X'
    exact ⟨t2, st.trans a1, b1⟩
theorem vx_callv {S SX : Type} {post : S → Prop} {px : SX → Prop} {B : S → State → Prop} {BX : String → SX → State → Prop} {AX : Nat → Prop} (hr : vx_Run p l e R s m args below meth c H locs cells slots mc ms (F0 m pc ls st0) rest (va_Qv post B A1 a) (vx_X px BX AX) free) (hS : va_S A0 H0 H locs) (hA : ∀ q, q < H.size → A1 q → A0 q) (hf : ∀ q, free q → A0 q) (hAX : ∀ q, q < H.size → AX q → A0 q)
    (kx : ∀ (E : String) (ce : Cell) (q9 : Addr) (u : SX) (t : State) (H1 : Heap) (locs1 : List Loc), t.heap = H1 → s.vm.Alike t.vm → px u → BX E u t → H.size ≤ H1.size → (∀ q : Nat, q < H.size → ¬ AX q → H1[q]? = H[q]?) → va_S A0 H0 H1 locs1 → H1[q9]? = some ce → ce.vm = .none → s.vm.findClass E = some ce.cls → vx_W p l e R s m args below meth c H1 locs1 (cells + mc) (slots + ms) Q (F0 m pc ls rest) q9)
    (kk : ∀ (u : S) (t : State) (H1 : Heap) (locs1 : List Loc), t.heap = H1 → s.vm.Alike t.vm → post u → B u t → H.size ≤ H1.size → (∀ q : Nat, q < H.size → ¬ A1 q → H1[q]? = H[q]?) → va_S A0 H0 H1 locs1 → W p l e R s m args below meth c H1 locs1 (cells + mc) (slots + ms) Q (F0 m (pc + 3) ls (rest))) : W p l e R s m args below meth c H locs cells slots Q (F0 m pc ls st0) := by
  intro T hT X
  rcases hr T hT X with ⟨v, st₀, t, T', L, h0, X', hL, e1, e2, ⟨⟨u, hv, hp, hb⟩, hF⟩, st⟩ | ⟨q, st₀, t, T', L, E, ce, h0, X', hL, e1, e2, ⟨u, hp, hb, hF⟩, hce, hcv, hcl, st⟩
  · cases hv
    obtain ⟨k1, k2, k3⟩ := vx_keep h0 e1 hS hA hf hL hF
    obtain ⟨t2, a1, b1⟩ := kk u t T'.heap (locs ++ L) e1.symm (by rw [← e2]; exact X'.warmed.alike) hp hb k1 k2 k3 T' rfl X'
    exact ⟨t2, st t2 a1, b1⟩
  · obtain ⟨k1, k2, k3⟩ := vx_keep h0 e1 hS hAX hf hL hF
    obtain ⟨t2, a1, b1⟩ := kx E ce q u t T'.heap (locs ++ L) e1.symm (by rw [← e2]; exact X'.warmed.alike) hp hb k1 k2 k3 (by rw [e1]; exact hce) hcv hcl T' rfl X'
    exact ⟨t2, st.trans a1, b1⟩
/-- caught by the row x of this method's table; the rows ahead don't take it -/
theorem vx_catch {own name : String} {E : String} {ce : Cell} {q : Addr} (hown : s.vm.findClass own = some m.cls) (pre : List ExceptionTableEntry) (x : ExceptionTableEntry) (suf : List ExceptionTableEntry) (hsplit : c.exceptionTable.toList = pre ++ x :: suf)
    (hpass : ∀ z ∈ pre, covers z pc = false ∨ (z.catchType ≠ 0 ∧ ∃ nm : String, (Cond.classLink own z.catchType nm).before args s = true ∧ va_Nc E nm s)) (hx : covers x pc = true) (h0 : x.catchType ≠ 0)
    (hlink : (Cond.classLink own x.catchType name).before args s = true) (hcast : (Cond.castable E name).before args s = true) (hcell : H[q]? = some ce) (hv : ce.vm = .none) (hcl : s.vm.findClass E = some ce.cls)
    (kk : W p l e R s m args below meth c H locs cells slots Q (F0 m x.handlerPc ls [.ref q])) : vx_W p l e R s m args below meth c H locs cells slots Q (F0 m pc ls rest) q := by
  intro T hT X
  have hpl : e.platform.magicAccessors = ({} : Platform).magicAccessors := by rw [X.admits.platform]
  obtain ⟨c3, c4, hc3, hc4, hasg⟩ := Cond.castable_spec hcast
  cases Option.some.inj (hc3.symm.trans hcl)
  obtain ⟨c5, hc5, hcl5⟩ := Cond.classLink_spec hown hlink e.platform hpl
  cases Option.some.inj (hc4.symm.trans hc5)
  obtain ⟨vm', X', st⟩ := X.thenCaughtThrough q (g := F0 m pc ls rest) rfl (Steps.refl _) (by rw [hT]; exact hcell) (by rw [hv]; rfl) (by obtain ⟨k9, h9, -⟩ := Vm.findClass_spec hcl; exact ⟨k9, h9⟩) pre x suf hsplit
    (fun z hz => by
      rcases hpass z hz with h | ⟨hz0, nm, hl1, hn1⟩
      · exact Or.inl h
      · obtain ⟨c6, hc6, hcl6⟩ := Cond.classLink_spec hown hl1 e.platform hpl
        obtain ⟨a8, b8, h1, h2, h3⟩ := hn1
        cases Option.some.inj (h1.symm.trans hcl)
        cases Option.some.inj (h2.symm.trans hc6)
        exact Or.inr ⟨hz0, _, hcl6, h3⟩) hx (Or.inr ⟨h0, c4, hcl5, hasg⟩)
  obtain ⟨t, a1, b1⟩ := kk (T.setVm vm') hT X'
  exact ⟨t, st.trans a1, b1⟩
end Rows
section Ends
variable {p : Program} {l : Launch} {e : Env} {R : Room} {s : State} {m : MethodId} {args : Array Value} {below : List Frame} {meth : Method} {c : Code} {H : Heap} {locs : List Loc} {cells slots : Nat} {Q : State → Prop}
variable {mc ms : Nat} {free : Addr → Prop} {A0 A1 : Nat → Prop} {H0 : Heap} {a : Array Value} {ls : Array Slot} {st0 rest : List Value}
variable {Qc : Array Value → State → Outcome → State → Prop} {XC : String → State → State → Prop}
/-- what a body that may throw owes at its end -/
def vx_MQ (below : List Frame) (Qc : Array Value → State → Outcome → State → Prop) (XC : String → State → State → Prop) (a : Array Value) (s : State) (mc ms : Nat) (free : Addr → Prop) : State → Prop := fun t =>
  ∃ o, t.status = .running ∧ Ended t below o ∧ vx_Q Qc XC mc ms free a s o t
theorem vx_ret {g : JFrame} {mc ms : Nat} (k : W p l e R s m args below meth c H locs cells slots (MQ below Qc args s mc ms free) g) : W p l e R s m args below meth c H locs cells slots (vx_MQ below Qc XC args s mc ms free) g := by
  intro T hT X
  obtain ⟨t, a1, o, b1, b2, b3, b4⟩ := k T hT X
  exact ⟨t, a1, o, b1, b2, Or.inl ⟨b3, b4⟩⟩
/-- not caught here: it goes on to the caller -/
theorem vx_widen {g : JFrame} {q : Addr} {k n : Nat} (h1 : cells ≤ k) (h2 : slots ≤ n) (kk : vx_W p l e R s m args below meth c H locs k n Q g q) : vx_W p l e R s m args below meth c H locs cells slots Q g q := fun T hT X => kk T hT (stand_widen X h1 h2)
theorem vx_out {pc : Nat} {E : String} {ce : Cell} {q : Addr} {mc ms : Nat} (hout : ∀ x ∈ c.exceptionTable.toList, covers x pc = false) (hlocks : meth.locks = false) (hcell : H[q]? = some ce) (hv : ce.vm = .none) (hcl : s.vm.findClass E = some ce.cls)
    (hx : ∀ t : State, t.heap = H → s.vm.Alike t.vm → XC E s t) (hf : ∀ z ∈ locs, free z.base) (hc : cells ≤ mc) (hs : slots ≤ ms) :
    vx_W p l e R s m args below meth c H locs cells slots (vx_MQ below Qc XC args s mc ms free) (F0 m pc ls rest) q := by
  intro T hT X
  obtain ⟨st1, hrun, hend, hW, hsm⟩ := X.leaveThrown q (g := F0 m pc ls rest) rfl rfl rfl hout hlocks
  have hcell9 : (T.setFrames (.throwing q :: below)).heap[q]? = some ce := by
    show T.heap[q]? = some ce
    rw [hT]; exact hcell
  exact ⟨_, st1, .threw q, hrun, hend, Or.inr ⟨q, rfl, E, ce, locs, hx _ hT hW.alike, hcell9, hv, hcl, hW, hsm.mono hc hs, hf⟩⟩
theorem vx_frame {U : State} {k n : Nat} (h : s.sameButNew ({ U with vm := s.vm } : State) locs k n) : s.heap.size ≤ U.heap.size ∧ ∀ q : Nat, q < s.heap.size → (∀ z ∈ locs, z.base ≠ q) → U.heap[q]? = s.heap[q]? := by
  obtain ⟨-, h2, -, -, -, h6⟩ := h
  refine ⟨h2, fun q hq hz => ?_⟩
  obtain ⟨c9, e1, e2, e3, e4⟩ := h6 q _ (Array.getElem?_eq_getElem hq)
  have hs : c9.slots = (s.heap[q]).slots := Array.ext_getElem? fun i => e4 i fun hm => hz _ hm rfl
  have h9 : c9 = s.heap[q] := by
    rw [hs] at e2
    exact e2
  have e5 : U.heap[q]? = some c9 := e1
  rw [e5, h9, Array.getElem?_eq_getElem hq]
/-- the words of a throw but the four that speak of the heap -/
def vx_no (w : Cond) : Bool := decide (w ≠ .isRef (.static Bundle.tN "UNASSIGNED_STACK" Bundle.steD)) && decide (w ≠ .isRef (.static Bundle.tN "SUPPRESSED_SENTINEL" Bundle.listD)) && decide (w ≠ .laysStatic Bundle.tN "UNASSIGNED_STACK" Bundle.steD) && decide (w ≠ .laysStatic Bundle.tN "SUPPRESSED_SENTINEL" Bundle.listD)
def vx_at0 (own : String) (ic : Nat) (X : String) (names : List String) : List Cond := (Bundle.ownAtoms0 own ic X names).filter vx_no
def vx_atS (own : String) (ic : Nat) (X : String) (names : List String) : List Cond := (Bundle.ownAtoms own ic X names).filter vx_no
/-- a word that the tables alone decide, or a good one -/
def vx_ot (w : Cond) : Bool := w.onTables || goodWord w
theorem vx_ot_at {args a' : Array Value} {s U : State} {w : Cond} (hW : s.WarmedH U.vm) (hvm : s.vm = U.vm) (hg : vx_ot w = true) (h : w.before args s = true) : w.before a' U = true := by
  simp only [vx_ot, Bool.or_eq_true] at hg
  rcases hg with hg | hg
  · exact va_tabs hg hvm h
  · exact word_at hW (good_of_word hg) h
/-- a list's words: the good ones out of the method's own list, the others by premises of their own -/
theorem vx_hat {args : Array Value} {s : State} {L B : List Cond} (h1 : ∀ w ∈ L.filter goodWord, w.before args s = true) (h2 : ∀ w ∈ L.filter (fun w => !goodWord w), w ∈ B) (h3 : ∀ w ∈ B, w.before args s = true) : ∀ w ∈ L, w.before args s = true := by
  intro w hw
  by_cases g : goodWord w = true
  · exact h1 w (List.mem_filter.mpr ⟨hw, g⟩)
  · refine h3 w (h2 w (List.mem_filter.mpr ⟨hw, ?_⟩))
    show (!goodWord w) = true
    cases hgw : goodWord w
    · rfl
    · exact absurd hgw g
theorem vx_c {args : Array Value} {s : State} {w : Cond} {B : List Cond} (h : w.before args s = true) (t : ∀ w ∈ B, w.before args s = true) : ∀ w' ∈ w :: B, w'.before args s = true := fun w' h' => (List.mem_cons.mp h').elim (fun e => by rw [e]; exact h) (t w')
theorem vx_n {args : Array Value} {s : State} : ∀ w ∈ ([] : List Cond), w.before args s = true := fun _ h => nomatch h
theorem vx_own {args : Array Value} {s : State} {L : List Cond} (h1 : ∀ w ∈ L.filter vx_no, w.before args s = true)
    (hU : (Cond.isRef (.static Bundle.tN "UNASSIGNED_STACK" Bundle.steD)).before args s = true) (hN : (Cond.isRef (.static Bundle.tN "SUPPRESSED_SENTINEL" Bundle.listD)).before args s = true)
    (lU : (Cond.laysStatic Bundle.tN "UNASSIGNED_STACK" Bundle.steD).before args s = true) (lN : (Cond.laysStatic Bundle.tN "SUPPRESSED_SENTINEL" Bundle.listD).before args s = true) : ∀ w ∈ L, w.before args s = true := by
  intro w hw
  by_cases e1 : w = .isRef (.static Bundle.tN "UNASSIGNED_STACK" Bundle.steD)
  · rw [e1]; exact hU
  · by_cases e2 : w = .isRef (.static Bundle.tN "SUPPRESSED_SENTINEL" Bundle.listD)
    · rw [e2]; exact hN
    · by_cases e3 : w = .laysStatic Bundle.tN "UNASSIGNED_STACK" Bundle.steD
      · rw [e3]; exact lU
      · by_cases e4 : w = .laysStatic Bundle.tN "SUPPRESSED_SENTINEL" Bundle.listD
        · rw [e4]; exact lN
        · exact h1 w (List.mem_filter.mpr ⟨hw, by unfold vx_no; rw [decide_eq_true e1, decide_eq_true e2, decide_eq_true e3, decide_eq_true e4]; rfl⟩)
/-- where a static field lies, its class's statics cell in H -/
def vx_L (C n d : String) (A : Nat → Prop) (U : State) (H : Heap) : Prop := ∃ (c : ClassId) (k : Class) (i : Nat) (f : Field) (a : Nat) (cell : Cell), U.vm.findClass C = some c ∧ U.fieldFound? C n d = some (c, k, i, f) ∧ f.isStatic = true ∧ k.statics = some a ∧ H[a]? = some cell ∧ cell.vm.isStatics = true ∧ cell.cls = c ∧ f.slot < cell.slots.size ∧ k.staticTypes[f.slot]? = some f.type ∧ ¬ A a
theorem vx_L.moved {C n d : String} {A : Nat → Prop} {u U : State} {H : Heap} (hvm : u.vm.Alike U.vm) (h : vx_L C n d A u H) : vx_L C n d A U H := by
  obtain ⟨c, k, i, f, a, cell, h1, h2, h3, h4, h5, h6, h7, h8, h9, h10⟩ := h
  obtain ⟨k', hi', he⟩ := State.fieldFound?_setVm hvm h2
  exact ⟨c, k', i, f, a, cell, by rw [hvm.findClass]; exact h1, hi', h3, by rw [he]; exact h4, h5, h6, h7, h8, by rw [he]; exact h9, h10⟩
theorem vx_L.kept {C n d : String} {A : Nat → Prop} {U : State} {H H1 : Heap} (h : vx_L C n d A U H) (hq : ∀ a : Nat, a < H.size → ¬ A a → H1[a]? = H[a]?) : vx_L C n d A U H1 := by
  obtain ⟨c, k, i, f, a, cell, h1, h2, h3, h4, h5, h6, h7, h8, h9, h10⟩ := h
  exact ⟨c, k, i, f, a, cell, h1, h2, h3, h4, by rw [hq a (Array.getElem?_eq_some_iff.mp h5).1 h10]; exact h5, h6, h7, h8, h9, h10⟩
theorem vx_L.narrow {C n d : String} {A B : Nat → Prop} {U : State} {H : Heap} (h : vx_L C n d A U H) (hAB : ∀ q, B q → A q) : vx_L C n d B U H := by
  obtain ⟨c, k, i, f, a, cell, h1, h2, h3, h4, h5, h6, h7, h8, h9, h10⟩ := h
  exact ⟨c, k, i, f, a, cell, h1, h2, h3, h4, h5, h6, h7, h8, h9, fun z => h10 (hAB _ z)⟩
theorem vx_L.word {C n d : String} {A : Nat → Prop} {s : State} {args : Array Value} (h : vx_L C n d A s s.heap) : (Cond.laysStatic C n d).before args s = true := by
  obtain ⟨c, k, i, f, a, cell, h1, h2, h3, h4, h5, h6, h7, h8, h9, -⟩ := h
  show (Cond.laysStatic C n d).holds args s none s [] = true
  exact Cond.laysStatic_of h1 h2 h3 h4 h5 h6 h7 h8 h9
/-- .. and what it holds: null or some reference -/
def vx_Zq (C n d : String) (A : Nat → Prop) (U : State) (H : Heap) : Prop := va_Zq C n d A U H ∧ vx_L C n d A U H
theorem vx_Zq.moved {C n d : String} {A : Nat → Prop} {u U : State} {H : Heap} (hvm : u.vm.Alike U.vm) (h : vx_Zq C n d A u H) : vx_Zq C n d A U H := ⟨va_Zq.moved hvm h.1, vx_L.moved hvm h.2⟩
theorem vx_Zq.kept {C n d : String} {A : Nat → Prop} {U : State} {H H1 : Heap} (h : vx_Zq C n d A U H) (hq : ∀ a : Nat, a < H.size → ¬ A a → H1[a]? = H[a]?) : vx_Zq C n d A U H1 := ⟨va_Zq.kept h.1 hq, vx_L.kept h.2 hq⟩
theorem vx_Zq.narrow {C n d : String} {A B : Nat → Prop} {U : State} {H : Heap} (h : vx_Zq C n d A U H) (hAB : ∀ q, B q → A q) : vx_Zq C n d B U H := ⟨va_Zq.narrow h.1 hAB, vx_L.narrow h.2 hAB⟩
theorem vx_Zqof {args : Array Value} {s : State} {C n d : String} {A : Nat → Prop} (hl : (Cond.laysStatic C n d).before args s = true) (hini : (Cond.initialized C).before args s = true) (h : (Cond.isRef (.static C n d)).before args s = true) (hA : ∀ a : Nat, a < s.heap.size → ¬ A a) : vx_Zq C n d A s s.heap := by
  refine ⟨va_Zqof hl hini h hA, ?_⟩
  obtain ⟨c, k, i, f, a, cell, h1, h2, h3, h4, h5, h6, h7, h8, h9⟩ := Cond.laysStatic_spec hl
  exact ⟨c, k, i, f, a, cell, h1, h2, h3, h4, h5, h6, h7, h8, h9, hA a (Array.getElem?_eq_some_iff.mp h5).1⟩
theorem vx_isRef {C n d : String} {v : Value} {A : Nat → Prop} {s : State} {args : Array Value} (h : va_Z C n d v A s s.heap) (hv : v.isRef = true) : (Cond.isRef (.static C n d)).before args s = true := by
  obtain ⟨cf, kf, fi, f, a, cell, h1, h2, h3, h4, h5, h6, h7, -⟩ := h
  have he : (Term.static C n d).eval args s none [] s = some v := by
    simp [Term.eval, State.fieldNamed?, h1, h2, h4, h5, h6, h7]
  simp only [Cond.before, Cond.holds, Cond.value, he]
  cases v <;> simp_all [Value.isRef]
theorem vx_isRefq {C n d : String} {A : Nat → Prop} {s : State} {args : Array Value} (h : va_Zq C n d A s s.heap) : (Cond.isRef (.static C n d)).before args s = true := by
  rcases h with h | ⟨t, h⟩
  · exact vx_isRef h rfl
  · exact vx_isRef h rfl
/-- the same frame, seen from here: as if the method were called anew in this heap -/
theorem vx_rebase {T : State} (X : Stand p l e R s m args below meth c T locs cells slots) {R' : Room} (hf : R'.frames ≤ R.frames) (hl : R'.locals ≤ R.locals) (hc : cells + R'.cells ≤ R.cells) (hs : slots + R'.slots ≤ R.slots) :
    Stand p l e R' ((T.setVm s.vm).setFrames (.invoking m args :: below)) m args below meth c T [] 0 0 := by
  have htop : (T.setVm s.vm).topJava?.isSome := X.here.top
  have hF : ((T.setVm s.vm).setFrames (.invoking m args :: below)).frames = .invoking m args :: below := State.frames_setFrames _ (State.cur_lt_of_top htop)
  obtain ⟨g₀, hg0⟩ := Option.isSome_iff_exists.mp htop
  obtain ⟨r, hr⟩ := State.topJava?_eq_some.mp hg0
  have hl9 : e.platform.stackLimits (T.setVm s.vm).me = e.platform.stackLimits s.me := X.limits
  have hb9 : (T.setVm s.vm).me.stackBytes = s.me.stackBytes := X.bytes
  refine ⟨X.admits, X.cas, X.clock, hF, ?_, X.hears, X.method, X.code, X.here, X.tail, X.warmed, ?_, ?_, ?_⟩
  · have h := X.room
    have hU : ((T.setVm s.vm).setFrames (.invoking m args :: below)).localsInUse = s.localsInUse := by
      rw [State.localsInUse_invoking hF (meth := meth) (c := c) X.method X.code, State.localsInUse_invoking X.frames X.method X.code]
    simp only [State.hasRoom, Bool.and_eq_true, decide_eq_true_eq] at h ⊢
    obtain ⟨⟨⟨⟨h1, h2, h3, h4, h5, h6⟩, h7⟩, h8⟩, h9⟩ := h
    rw [X.frames, List.length_cons] at h2 h3
    have q1 := X.heapSize
    have q2 := X.used
    simp only [hF, hU, List.length_cons, State.stackLimits_setFrames, State.stackBytes_setFrames, hl9, hb9]
    refine ⟨⟨⟨⟨by omega, by omega, by omega, by omega, by omega, h6⟩, ?_⟩, ?_⟩, X.book⟩
    · show T.heap.size + R'.cells ≤ e.platform.maxCells
      omega
    · show T.slotsUsed + R'.slots ≤ e.platform.maxSlots
      omega
  · rw [State.stackLimits_setFrames]; rfl
  · rw [State.stackBytes_setFrames]; rfl
  · refine ⟨?_, Nat.le_refl _, Nat.le_refl _, ?_, ?_, fun a c9 h9 => ⟨c9, h9, rfl, rfl, fun _ _ => rfl⟩⟩
    · obtain ⟨t, ht, -⟩ := State.frames_cons hr
      show T.setVm s.vm = { ((T.setVm s.vm).setFrames (.invoking m args :: below)).setFrames (T.setVm s.vm).frames with heap := T.heap, slotsUsed := T.slotsUsed }
      rw [State.setFrames_setFrames, State.setFrames_self ht]
      rfl
    · show T.slotsUsed = T.slotsUsed + ((T.heap.toList.drop T.heap.size).map (·.slots.size)).sum
      rw [List.drop_eq_nil_of_le (Nat.le_of_eq Array.length_toList)]
      rfl
    · show ((T.heap.toList.drop T.heap.size).map (·.slots.size)).sum ≤ 0
      rw [List.drop_eq_nil_of_le (Nat.le_of_eq Array.length_toList)]
      exact Nat.le_refl _
/-- 'throw new E()': new; dup; invokespecial; athrow -/
theorem vx_throw0 {cc : ByteArray} {pc : Nat} (hexec : p.tables.exec = Jvm.exec) (hb : c.code = cc) (hl : l.stackTraces = false) {own cls : String} {names : List String} {ik ic mc ms : Nat} {A : Nat → Prop}
    (hown : s.vm.findClass own = some m.cls) (hcls : Bundle.fit cls = true) (hnames : ∀ n ∈ names, Bundle.fit n = true)
    (hk : (Cond.classLink own ik cls).before args s = true) (hini : (Cond.initialized cls).before args s = true) (hat : ∀ w ∈ vx_at0 own ic cls names, w.before args s = true)
    (hgood : ∀ w ∈ Cond.classLink own ik cls :: Cond.initialized cls :: vx_at0 own ic cls names, vx_ot w = true)
    (hU : vx_Zq Bundle.tN "UNASSIGNED_STACK" Bundle.steD A s s.heap) (hN : vx_Zq Bundle.tN "SUPPRESSED_SENTINEL" Bundle.listD A s s.heap) (hS : va_S A s.heap H locs) (hsize : ls.size = c.maxLocals)
    (d0 : decode cc pc = .ok (.new ik, 3)) (d3 : decode cc (pc + 3) = .ok (.dup, 1)) (d4 : decode cc (pc + 4) = .ok (.invokespecial ic, 3)) (d7 : decode cc (pc + 7) = .ok (.athrow, 1))
    (hout : ∀ x ∈ c.exceptionTable.toList, covers x (pc + 7) = false)
    (hRframes : names.length + 3 < R.frames) (hRlocals : (rest.map fun v => v.category).sum + (13 * (names.length + 1) + 42) ≤ R.locals) (hRcells : cells + 1 ≤ R.cells) (hRslots : slots + 6 ≤ R.slots) (hlocks : meth.locks = false)
    (hx : ∀ t : State, s.vm.Alike t.vm → H.size ≤ t.heap.size → (∀ q : Nat, q < H.size → t.heap[q]? = H[q]?) → XC cls s t)
    (hf : ∀ z ∈ locs, free z.base) (hc : cells + 1 ≤ mc) (hs : slots + 6 ≤ ms) :
    W p l e R s m args below meth c H locs cells slots (vx_MQ below Qc XC args s mc ms free) (F0 m pc ls rest) := by
  intro T hT X
  have htr : e.platform.stackTraces = false := (show e.platform.stackTraces = l.stackTraces by rw [X.admits.platform]).trans hl
  have Y := vx_rebase X (R' := { frames := R.frames, locals := R.locals, cells := 1, slots := 6 }) (Nat.le_refl _) (Nat.le_refl _) hRcells hRslots
  obtain ⟨s', hA⟩ : ∃ z, z = (T.setVm s.vm).setFrames (.invoking m args :: below) := ⟨_, rfl⟩
  rw [← hA] at Y
  have hvm : s'.vm = s.vm := by rw [hA]; rfl
  have hhp : s'.heap = H := by rw [hA]; exact hT
  have hW0 : s.WarmedH s'.vm := by rw [hvm]; exact State.WarmedH.refl s
  have hat' : ∀ w ∈ vx_at0 own ic cls names, w.before args s' = true := fun w hw => vx_ot_at hW0 hvm.symm (hgood w (List.mem_cons_of_mem _ (List.mem_cons_of_mem _ hw))) (hat w hw)
  have hk' : (Cond.classLink own ik cls).before args s' = true := vx_ot_at hW0 hvm.symm (hgood _ List.mem_cons_self) hk
  have hini' : (Cond.initialized cls).before args s' = true := vx_ot_at hW0 hvm.symm (hgood _ (List.mem_cons_of_mem _ List.mem_cons_self)) hini
  have hU' : vx_Zq Bundle.tN "UNASSIGNED_STACK" Bundle.steD A s' s'.heap := by rw [hhp]; exact vx_Zq.moved hW0.alike (hU.kept hS.2.1)
  have hN' : vx_Zq Bundle.tN "SUPPRESSED_SENTINEL" Bundle.listD A s' s'.heap := by rw [hhp]; exact vx_Zq.moved hW0.alike (hN.kept hS.2.1)
  have h : ∀ w ∈ Bundle.ownAtoms0 own ic cls names, w.before args s' = true := vx_own hat' (vx_isRefq hU'.1) (vx_isRefq hN'.1) hU'.2.word hN'.2.word
  have hown' : s'.vm.findClass own = some m.cls := by rw [hvm]; exact hown
  have hins : (Cond.instantiable cls 6).before args s' = true := h _ (by simp [Bundle.ownAtoms0])
  obtain ⟨vm₁, cX, kX, hfX, hkX, -, -, X₁, st1⟩ := Y.newCold hexec (own := own) (C := cls) (index := ik) (n := 6) hown' hk' hins hini'
    (g := F0 m pc ls rest) rfl (by rw [hb]; exact d0) (Nat.le_refl _) (Nat.le_refl _)
  generalize hT1 : (T.setVm vm₁).pushCell { cls := cX, slots := kX.instanceTypes.map defaultValue, vm := .none } = T1 at X₁ st1
  have hcat : (Value.ref T.heap.size).category = 1 := rfl
  have hcellA : T1.heap[T.heap.size]? = some (freshCell cX kX) := by rw [← hT1]; exact State.heap_pushCell_size _ _
  have d3' : decode c.code (pc + 3) = .ok (.dup, 1) := by rw [hb]; exact d3
  obtain ⟨U, hsteps, hrun, hend, hW, hsame, ce, hce, hO⟩ := X₁.ctorThrow0 hexec htr (own := own) (cls := cls) (names := names) (ic := ic) hown' hcls hnames h (fun x hx => nomatch hx) hfX hkX hcellA (by rw [hhp, hT]; exact Nat.le_refl _)
    (g := { method := m, pc := pc + 4, locals := ls, stack := .ref T.heap.size :: .ref T.heap.size :: rest, locked := none }) rfl hsize rfl rfl (rest := rest) rfl
    (by rw [hb]; exact d4) (by rw [hb]; exact d7) hout hRframes (by simp only [List.map_cons, List.sum_cons, hcat]; omega) hlocks
  obtain ⟨f1, f2⟩ := vx_frame hsame
  rw [hhp] at f1 f2
  have hWs : s.WarmedH U.vm := State.WarmedH.trans hW0 hW
  have hcl : s.vm.findClass cls = some ce.cls := by
    have h9 := hO.cls
    rw [hvm] at h9
    exact h9
  have hall : s.sameButNew ({ U with vm := s.vm } : State) locs mc ms := by
    subst hA
    obtain ⟨e1, e2⟩ := hsame
    rw [State.setFrames_setFrames] at e1
    have h2 : (T.setVm s.vm).sameButNew ({ U with vm := s.vm } : State) [] (0 + 1) (0 + 6) := ⟨e1, e2⟩
    have h3 := X.same.trans h2
    rw [List.append_nil] at h3
    exact h3.mono hc hs
  refine ⟨U, ?_, .threw T.heap.size, hrun, hend, Or.inr ⟨T.heap.size, rfl, cls, ce, locs, hx U hWs.alike f1 (fun q hq => f2 q hq (fun z hz => nomatch hz)), hce, hO.vm, hcl, hWs, hall, hf⟩⟩
  refine st1 _ ?_
  show Steps p.tables e below (T1.setTop { method := m, pc := pc + 3, locals := ls, stack := .ref T.heap.size :: rest, locked := none }) _
  jvm_step X₁.here [X₁.here.top, hexec, d3', Value.category]
  exact hsteps
/-- 'throw new E("text")': new; dup; ldc; invokespecial; athrow -/
theorem vx_throwS {cc : ByteArray} {pc : Nat} (hexec : p.tables.exec = Jvm.exec) (hb : c.code = cc) (hl : l.stackTraces = false) {own cls text : String} {names : List String} {ik is ic mc ms sa : Nat} {A : Nat → Prop}
    (hown : s.vm.findClass own = some m.cls) (hcls : Bundle.fit cls = true) (hnames : ∀ n ∈ names, Bundle.fit n = true)
    (hk : (Cond.classLink own ik cls).before args s = true) (hini : (Cond.initialized cls).before args s = true) (hstr : vk_R own is text sa s) (hat : ∀ w ∈ vx_atS own ic cls names, w.before args s = true)
    (hgood : ∀ w ∈ Cond.classLink own ik cls :: Cond.initialized cls :: vx_atS own ic cls names, vx_ot w = true)
    (hU : vx_Zq Bundle.tN "UNASSIGNED_STACK" Bundle.steD A s s.heap) (hN : vx_Zq Bundle.tN "SUPPRESSED_SENTINEL" Bundle.listD A s s.heap) (hS : va_S A s.heap H locs) (hsize : ls.size = c.maxLocals)
    (d0 : decode cc pc = .ok (.new ik, 3)) (d3 : decode cc (pc + 3) = .ok (.dup, 1)) (d4 : decode cc (pc + 4) = .ok (.ldc is, 2)) (d6 : decode cc (pc + 6) = .ok (.invokespecial ic, 3)) (d9 : decode cc (pc + 9) = .ok (.athrow, 1))
    (hout : ∀ x ∈ c.exceptionTable.toList, covers x (pc + 9) = false)
    (hRframes : names.length + 3 < R.frames) (hRlocals : (rest.map fun v => v.category).sum + (13 * (names.length + 1) + 43) ≤ R.locals) (hRcells : cells + 1 ≤ R.cells) (hRslots : slots + 6 ≤ R.slots) (hlocks : meth.locks = false)
    (hx : ∀ t : State, s.vm.Alike t.vm → H.size ≤ t.heap.size → (∀ q : Nat, q < H.size → t.heap[q]? = H[q]?) → XC cls s t)
    (hf : ∀ z ∈ locs, free z.base) (hc : cells + 1 ≤ mc) (hs : slots + 6 ≤ ms) :
    W p l e R s m args below meth c H locs cells slots (vx_MQ below Qc XC args s mc ms free) (F0 m pc ls rest) := by
  intro T hT X
  have htr : e.platform.stackTraces = false := (show e.platform.stackTraces = l.stackTraces by rw [X.admits.platform]).trans hl
  have Y := vx_rebase X (R' := { frames := R.frames, locals := R.locals, cells := 1, slots := 6 }) (Nat.le_refl _) (Nat.le_refl _) hRcells hRslots
  obtain ⟨s', hA⟩ : ∃ z, z = (T.setVm s.vm).setFrames (.invoking m args :: below) := ⟨_, rfl⟩
  rw [← hA] at Y
  have hvm : s'.vm = s.vm := by rw [hA]; rfl
  have hhp : s'.heap = H := by rw [hA]; exact hT
  have hW0 : s.WarmedH s'.vm := by rw [hvm]; exact State.WarmedH.refl s
  have hat' : ∀ w ∈ vx_atS own ic cls names, w.before args s' = true := fun w hw => vx_ot_at hW0 hvm.symm (hgood w (List.mem_cons_of_mem _ (List.mem_cons_of_mem _ hw))) (hat w hw)
  have hk' : (Cond.classLink own ik cls).before args s' = true := vx_ot_at hW0 hvm.symm (hgood _ List.mem_cons_self) hk
  have hini' : (Cond.initialized cls).before args s' = true := vx_ot_at hW0 hvm.symm (hgood _ (List.mem_cons_of_mem _ List.mem_cons_self)) hini
  have hU' : vx_Zq Bundle.tN "UNASSIGNED_STACK" Bundle.steD A s' s'.heap := by rw [hhp]; exact vx_Zq.moved hW0.alike (hU.kept hS.2.1)
  have hN' : vx_Zq Bundle.tN "SUPPRESSED_SENTINEL" Bundle.listD A s' s'.heap := by rw [hhp]; exact vx_Zq.moved hW0.alike (hN.kept hS.2.1)
  have h : ∀ w ∈ Bundle.ownAtoms own ic cls names, w.before args s' = true := vx_own hat' (vx_isRefq hU'.1) (vx_isRefq hN'.1) hU'.2.word hN'.2.word
  have hown' : s'.vm.findClass own = some m.cls := by rw [hvm]; exact hown
  have hins : (Cond.instantiable cls 6).before args s' = true := h _ (by simp [Bundle.ownAtoms])
  obtain ⟨vm₁, cX, kX, hfX, hkX, -, -, X₁, st1⟩ := Y.newCold hexec (own := own) (C := cls) (index := ik) (n := 6) hown' hk' hins hini'
    (g := F0 m pc ls rest) rfl (by rw [hb]; exact d0) (Nat.le_refl _) (Nat.le_refl _)
  generalize hT1 : (T.setVm vm₁).pushCell { cls := cX, slots := kX.instanceTypes.map defaultValue, vm := .none } = T1 at X₁ st1
  have hcat : (Value.ref T.heap.size).category = 1 := rfl
  have hcellA : T1.heap[T.heap.size]? = some (freshCell cX kX) := by rw [← hT1]; exact State.heap_pushCell_size _ _
  have d3' : decode c.code (pc + 3) = .ok (.dup, 1) := by rw [hb]; exact d3
  have d4' : decode c.code (pc + 4) = .ok (.ldc is, 2) := by rw [hb]; exact d4
  have hstr' : vk_R own is text sa s' := vk_R.warm hW0 hstr
  obtain ⟨U, hsteps, hrun, hend, hW, hsame, ce, hce, hO⟩ := X₁.ctorThrowS hexec htr (own := own) (cls := cls) (names := names) (ic := ic) hown' hcls hnames h (fun x hx => nomatch hx) hfX hkX hcellA (by rw [hhp, hT]; exact Nat.le_refl _) (msg := .ref sa) rfl
    (g := { method := m, pc := pc + 6, locals := ls, stack := .ref sa :: .ref T.heap.size :: .ref T.heap.size :: rest, locked := none }) rfl hsize rfl rfl (rest := rest) rfl
    (by rw [hb]; exact d6) (by rw [hb]; exact d9) hout hRframes (by simp only [List.map_cons, List.sum_cons, hcat]; omega) hlocks
  obtain ⟨f1, f2⟩ := vx_frame hsame
  rw [hhp] at f1 f2
  have hWs : s.WarmedH U.vm := State.WarmedH.trans hW0 hW
  have hcl : s.vm.findClass cls = some ce.cls := by
    have h9 := hO.cls
    rw [hvm] at h9
    exact h9
  have hall : s.sameButNew ({ U with vm := s.vm } : State) locs mc ms := by
    subst hA
    obtain ⟨e1, e2⟩ := hsame
    rw [State.setFrames_setFrames] at e1
    have h2 : (T.setVm s.vm).sameButNew ({ U with vm := s.vm } : State) [] (0 + 1) (0 + 6) := ⟨e1, e2⟩
    have h3 := X.same.trans h2
    rw [List.append_nil] at h3
    exact h3.mono hc hs
  refine ⟨U, ?_, .threw T.heap.size, hrun, hend, Or.inr ⟨T.heap.size, rfl, cls, ce, locs, hx U hWs.alike f1 (fun q hq => f2 q hq (fun z hz => nomatch hz)), hce, hO.vm, hcl, hWs, hall, hf⟩⟩
  refine st1 _ ?_
  show Steps p.tables e below (T1.setTop { method := m, pc := pc + 3, locals := ls, stack := .ref T.heap.size :: rest, locked := none }) _
  jvm_step X₁.here [X₁.here.top, hexec, d3', Value.category]
  exact X₁.ldcString hexec (own := own) (text := text) (index := is) (a := sa) hown' hstr'.1 hstr'.2
    (g := { method := m, pc := pc + 4, locals := ls, stack := .ref T.heap.size :: .ref T.heap.size :: rest, locked := none }) rfl d4' _ hsteps
/-- 'throw new E("text")', the text by a wide index -/
theorem vx_throwSW {cc : ByteArray} {pc : Nat} (hexec : p.tables.exec = Jvm.exec) (hb : c.code = cc) (hl : l.stackTraces = false) {own cls text : String} {names : List String} {ik is ic mc ms sa : Nat} {A : Nat → Prop}
    (hown : s.vm.findClass own = some m.cls) (hcls : Bundle.fit cls = true) (hnames : ∀ n ∈ names, Bundle.fit n = true)
    (hk : (Cond.classLink own ik cls).before args s = true) (hini : (Cond.initialized cls).before args s = true) (hstr : vk_R own is text sa s) (hat : ∀ w ∈ vx_atS own ic cls names, w.before args s = true)
    (hgood : ∀ w ∈ Cond.classLink own ik cls :: Cond.initialized cls :: vx_atS own ic cls names, vx_ot w = true)
    (hU : vx_Zq Bundle.tN "UNASSIGNED_STACK" Bundle.steD A s s.heap) (hN : vx_Zq Bundle.tN "SUPPRESSED_SENTINEL" Bundle.listD A s s.heap) (hS : va_S A s.heap H locs) (hsize : ls.size = c.maxLocals)
    (d0 : decode cc pc = .ok (.new ik, 3)) (d3 : decode cc (pc + 3) = .ok (.dup, 1)) (d4 : decode cc (pc + 4) = .ok (.ldc_w is, 3)) (d7 : decode cc (pc + 7) = .ok (.invokespecial ic, 3)) (d10 : decode cc (pc + 10) = .ok (.athrow, 1))
    (hout : ∀ x ∈ c.exceptionTable.toList, covers x (pc + 10) = false)
    (hRframes : names.length + 3 < R.frames) (hRlocals : (rest.map fun v => v.category).sum + (13 * (names.length + 1) + 43) ≤ R.locals) (hRcells : cells + 1 ≤ R.cells) (hRslots : slots + 6 ≤ R.slots) (hlocks : meth.locks = false)
    (hx : ∀ t : State, s.vm.Alike t.vm → H.size ≤ t.heap.size → (∀ q : Nat, q < H.size → t.heap[q]? = H[q]?) → XC cls s t)
    (hf : ∀ z ∈ locs, free z.base) (hc : cells + 1 ≤ mc) (hs : slots + 6 ≤ ms) :
    W p l e R s m args below meth c H locs cells slots (vx_MQ below Qc XC args s mc ms free) (F0 m pc ls rest) := by
  intro T hT X
  have htr : e.platform.stackTraces = false := (show e.platform.stackTraces = l.stackTraces by rw [X.admits.platform]).trans hl
  have Y := vx_rebase X (R' := { frames := R.frames, locals := R.locals, cells := 1, slots := 6 }) (Nat.le_refl _) (Nat.le_refl _) hRcells hRslots
  obtain ⟨s', hA⟩ : ∃ z, z = (T.setVm s.vm).setFrames (.invoking m args :: below) := ⟨_, rfl⟩
  rw [← hA] at Y
  have hvm : s'.vm = s.vm := by rw [hA]; rfl
  have hhp : s'.heap = H := by rw [hA]; exact hT
  have hW0 : s.WarmedH s'.vm := by rw [hvm]; exact State.WarmedH.refl s
  have hat' : ∀ w ∈ vx_atS own ic cls names, w.before args s' = true := fun w hw => vx_ot_at hW0 hvm.symm (hgood w (List.mem_cons_of_mem _ (List.mem_cons_of_mem _ hw))) (hat w hw)
  have hk' : (Cond.classLink own ik cls).before args s' = true := vx_ot_at hW0 hvm.symm (hgood _ List.mem_cons_self) hk
  have hini' : (Cond.initialized cls).before args s' = true := vx_ot_at hW0 hvm.symm (hgood _ (List.mem_cons_of_mem _ List.mem_cons_self)) hini
  have hU' : vx_Zq Bundle.tN "UNASSIGNED_STACK" Bundle.steD A s' s'.heap := by rw [hhp]; exact vx_Zq.moved hW0.alike (hU.kept hS.2.1)
  have hN' : vx_Zq Bundle.tN "SUPPRESSED_SENTINEL" Bundle.listD A s' s'.heap := by rw [hhp]; exact vx_Zq.moved hW0.alike (hN.kept hS.2.1)
  have h : ∀ w ∈ Bundle.ownAtoms own ic cls names, w.before args s' = true := vx_own hat' (vx_isRefq hU'.1) (vx_isRefq hN'.1) hU'.2.word hN'.2.word
  have hown' : s'.vm.findClass own = some m.cls := by rw [hvm]; exact hown
  have hins : (Cond.instantiable cls 6).before args s' = true := h _ (by simp [Bundle.ownAtoms])
  obtain ⟨vm₁, cX, kX, hfX, hkX, -, -, X₁, st1⟩ := Y.newCold hexec (own := own) (C := cls) (index := ik) (n := 6) hown' hk' hins hini'
    (g := F0 m pc ls rest) rfl (by rw [hb]; exact d0) (Nat.le_refl _) (Nat.le_refl _)
  generalize hT1 : (T.setVm vm₁).pushCell { cls := cX, slots := kX.instanceTypes.map defaultValue, vm := .none } = T1 at X₁ st1
  have hcat : (Value.ref T.heap.size).category = 1 := rfl
  have hcellA : T1.heap[T.heap.size]? = some (freshCell cX kX) := by rw [← hT1]; exact State.heap_pushCell_size _ _
  have d3' : decode c.code (pc + 3) = .ok (.dup, 1) := by rw [hb]; exact d3
  have d4' : decode c.code (pc + 4) = .ok (.ldc_w is, 3) := by rw [hb]; exact d4
  have hstr' : vk_R own is text sa s' := vk_R.warm hW0 hstr
  obtain ⟨U, hsteps, hrun, hend, hW, hsame, ce, hce, hO⟩ := X₁.ctorThrowS hexec htr (own := own) (cls := cls) (names := names) (ic := ic) hown' hcls hnames h (fun x hx => nomatch hx) hfX hkX hcellA (by rw [hhp, hT]; exact Nat.le_refl _) (msg := .ref sa) rfl
    (g := { method := m, pc := pc + 7, locals := ls, stack := .ref sa :: .ref T.heap.size :: .ref T.heap.size :: rest, locked := none }) rfl hsize rfl rfl (rest := rest) rfl
    (by rw [hb]; exact d7) (by rw [hb]; exact d10) hout hRframes (by simp only [List.map_cons, List.sum_cons, hcat]; omega) hlocks
  obtain ⟨f1, f2⟩ := vx_frame hsame
  rw [hhp] at f1 f2
  have hWs : s.WarmedH U.vm := State.WarmedH.trans hW0 hW
  have hcl : s.vm.findClass cls = some ce.cls := by
    have h9 := hO.cls
    rw [hvm] at h9
    exact h9
  have hall : s.sameButNew ({ U with vm := s.vm } : State) locs mc ms := by
    subst hA
    obtain ⟨e1, e2⟩ := hsame
    rw [State.setFrames_setFrames] at e1
    have h2 : (T.setVm s.vm).sameButNew ({ U with vm := s.vm } : State) [] (0 + 1) (0 + 6) := ⟨e1, e2⟩
    have h3 := X.same.trans h2
    rw [List.append_nil] at h3
    exact h3.mono hc hs
  refine ⟨U, ?_, .threw T.heap.size, hrun, hend, Or.inr ⟨T.heap.size, rfl, cls, ce, locs, hx U hWs.alike f1 (fun q hq => f2 q hq (fun z hz => nomatch hz)), hce, hO.vm, hcl, hWs, hall, hf⟩⟩
  refine st1 _ ?_
  show Steps p.tables e below (T1.setTop { method := m, pc := pc + 3, locals := ls, stack := .ref T.heap.size :: rest, locked := none }) _
  jvm_step X₁.here [X₁.here.top, hexec, d3', Value.category]
  exact X₁.ldcStringW hexec (own := own) (text := text) (index := is) (a := sa) hown' hstr'.1 hstr'.2
    (g := { method := m, pc := pc + 4, locals := ls, stack := .ref T.heap.size :: .ref T.heap.size :: rest, locked := none }) rfl d4' _ hsteps
end Ends
section Bodies
variable {l : Launch}
theorem vx_ofW {y : MethodName} {ws ws' : List Cond} {rm : Room} {Pc : Array Value → State → Prop} {Qc : Array Value → State → Outcome → State → Prop} {XC : String → State → State → Prop} {mc ms : Nat} {free : Addr → Prop} {cc : ByteArray} {maxL : Nat} {ret : Option FieldType}
    (hy : plainName y.cls = true) (hw : ws = Cond.code y cc maxL ret :: ws')
    (body : ∀ p e s m args below meth c s₁, BodyLoose p l y (headSpec ws rm) cc maxL ret e s m args below meth c s₁ → c.maxLocals = maxL → (∀ x ∈ c.exceptionTable.toList, False) → Pc args s →
      W p l e (headSpec ws rm).room s m args below meth c s.heap [] 0 0 (vx_MQ below Qc XC args s mc ms free) (entryFrame m args maxL)) : vx_Met l y ws rm Pc Qc XC mc ms free := by
  refine MetFree.of_bodyS (code := cc) (maxLocals := maxL) (ret := ret) hy ?_ ?_
  · intro args s m h hn
    obtain ⟨meth, c, h1, h2, h3, h4, h5, h6, -, -⟩ := Cond.code_spec hn (atoms_spec (ws := ws) h _ (by rw [hw]; exact List.mem_cons_self))
    exact ⟨meth, c, h1, h2, h3, h4, h5, h6⟩
  · intro p e s m args below meth c s₁ B hml hP _
    have hh0 : s₁.heap = s.heap := by rw [B.state]; rfl
    have ht : ∀ x ∈ c.exceptionTable.toList, False := by
      obtain ⟨meth9, c9, h1, h2, -, -, -, -, h7, -⟩ := Cond.code_spec B.named (atoms_spec (ws := ws) B.pre _ (by rw [hw]; exact List.mem_cons_self))
      cases Option.some.inj (h1.symm.trans B.method)
      cases Option.some.inj (h2.symm.trans (Stand.of_body B).code)
      intro x hx
      rw [Array.isEmpty_iff.mp h7] at hx
      cases hx
    obtain ⟨t, a1, o, b1, b2, b3⟩ := body p e s m args below meth c s₁ B hml ht hP s₁ hh0 (Stand.of_body B)
    exact ⟨t, o, a1, b1, b2, b3⟩
/-- the table of a body with handlers -/
theorem vx_table {p : Program} {x y : MethodName} {S : Spec} {cc bytes : ByteArray} {maxL maxL' : Nat} {ret ret' : Option FieldType} {e : Env} {s s₁ : State} {m : MethodId} {args : Array Value} {below : List Frame} {meth : Method} {c : Code} {hh : List (Nat × Nat × Nat × Nat)}
    (B : BodyLoose p l y S cc maxL ret e s m args below meth c s₁) (h : (Cond.codeWith y bytes maxL' ret' hh).before args s = true) : c.exceptionTable.toList = tableOf hh := by
  obtain ⟨m9, meth9, c9, hn9, h1, h2, -, -, h6, -⟩ := Cond.codeWith_spec h
  cases Option.some.inj (hn9.symm.trans B.named)
  cases Option.some.inj (h1.symm.trans B.method)
  cases Option.some.inj (h2.symm.trans (Stand.of_body B).code)
  rw [← h6, table_eq]
end Bodies
end VXA
/-! ===== END ===== -/
/-! ===== BEGIN a static call of a method with an exception table ===== -/
section VXS
variable {p : Program} {l : Launch} {e : Env} {R : Room} {s : State} {m : MethodId} {args : Array Value} {below : List Frame} {meth : Method} {c : Code} {T : State} {H : Heap} {locs : List Loc} {cells slots : Nat}
abbrev vx_CSW (R : Room) (s : State) (args : Array Value) (own : String) (index : Nat) (y : MethodName) (bytes : ByteArray) (maxL : Nat) (ret : Option FieldType) (hh : List (Nat × Nat × Nat × Nat)) (ws : List Cond) (rm : Room) (mc ms n : Nat) : Prop :=
  (rm.cells = mc ∧ rm.slots = ms ∧ rm.frames + 1 ≤ R.frames ∧ 8 + (maxL + 11) + rm.locals ≤ R.locals ∧ (∀ w ∈ ws, ∀ (a' : Array Value) (U : State), s.WarmedH U.vm → w.before a' U = true) ∧ Cond.codeWith y bytes maxL ret hh ∈ ws) ∧
  (Cond.codeWith y bytes maxL ret hh).before args s = true ∧ (Cond.initialized y.cls).before args s = true ∧ (y.cls ≠ "java/lang/invoke/MethodHandle" ∧ y.cls ≠ "java/lang/invoke/VarHandle") ∧
  (∀ sig, parseMethodDescriptor y.desc = some sig → n = sig.parameters.length) ∧ (Cond.methodLink own index y).before args s = true ∧ (Cond.static y).before args s = true
theorem vx_cwSW {own : String} {index maxL mc ms : Nat} {y : MethodName} {bytes : ByteArray} {ret : Option FieldType} {hh : List (Nat × Nat × Nat × Nat)} {Ts ws ws' : List Cond} {rm : Room} (n : Nat) (ht : ∀ w ∈ Ts, w.before args s = true) (hT : GoodIn Ts (va_wsS own index y ws)) (hw : ws = Cond.codeWith y bytes maxL ret hh :: ws') (hrc : rm.cells = mc) (hrs : rm.slots = ms)
    (hd : y.cls ≠ "java/lang/invoke/MethodHandle" ∧ y.cls ≠ "java/lang/invoke/VarHandle" ∧ (parseMethodDescriptor y.desc).map (fun d => d.parameters.length) = some n) (hR : rm.frames + 1 ≤ R.frames ∧ 8 + (maxL + 11) + rm.locals ≤ R.locals) :
    vx_CSW R s args own index y bytes maxL ret hh ws rm mc ms n := by
  have ok : ∀ w ∈ va_wsS own index y ws, w.before args s = true := fun w h => ht w (hT w h).1
  have hG : GoodIn Ts ws := fun w h => hT w (by unfold va_wsS; exact List.mem_append_right _ h)
  have hc : Cond.codeWith y bytes maxL ret hh ∈ ws := by rw [hw]; exact List.mem_cons_self
  refine ⟨⟨hrc, hrs, hR.1, hR.2, pay_in ht hG, hc⟩, ht _ (hG _ hc).1, ok _ (by simp [va_wsS]), ⟨hd.1, hd.2.1⟩, fun sig h => ?_, ok _ (by simp [va_wsS]), ok _ (by simp [va_wsS])⟩
  have h2 := hd.2.2
  rw [h] at h2
  exact (Option.some.inj h2).symm
theorem vx_callSW (X : Stand p l e R s m args below meth c T locs cells slots) (hexec : p.tables.exec = Jvm.exec) {own : String} {index : Nat} {y : MethodName} {bytes : ByteArray} {maxL : Nat} {ret : Option FieldType} {hh : List (Nat × Nat × Nat × Nat)}
    (hown : s.vm.findClass own = some m.cls) (hlink : (Cond.methodLink own index y).before args s = true) (hstat : (Cond.static y).before args s = true) (hinit : (Cond.initialized y.cls).before args s = true)
    (hcode : (Cond.codeWith y bytes maxL ret hh).before args s = true) (hy : y.cls ≠ "java/lang/invoke/MethodHandle" ∧ y.cls ≠ "java/lang/invoke/VarHandle")
    {W9 : Nat} {Pre : Pt → Array Value → Prop} {Post : Pt → Array Value → Option Value → Pt → Prop} (hK : Back l R p e below s args y 3 W9 Pre Post)
    {g : JFrame} (hg : g.method = m) (hsize : g.locals.size = c.maxLocals) {argsL rest : List Value} (hlen : ∀ sig, parseMethodDescriptor y.desc = some sig → argsL.length = sig.parameters.length)
    (hstack : g.stack = argsL.reverse ++ rest) (hW : 2 * g.monitorRoom + (rest.map fun v => v.category).sum ≤ W9) (hdg : decode c.code g.pc = .ok (.invokestatic index, 3))
    (hpre : ∀ vm₁, s.WarmedH vm₁ → Pre ⟨T.setVm vm₁, locs, cells, slots⟩ argsL.toArray) :
    ∃ (v : Option Value) (vm₁ : Vm) (B : Pt), s.WarmedH vm₁ ∧ Stand p l e R s m args below meth c B.U B.locs B.cells B.slots ∧ Post ⟨T.setVm vm₁, locs, cells, slots⟩ argsL.toArray v B ∧
      ∀ target, Steps p.tables e below (B.U.setTop { g with pc := g.pc + 3, stack := v.toList ++ rest }) target → Steps p.tables e below (T.setTop g) target := by
  obtain ⟨mk, methM, cM, hnamed, hmethM, -, -, -, -, -, -, hsigM⟩ := Cond.codeWith_spec hcode
  have hstatic : methM.isStatic = true := Cond.static_spec hnamed hmethM hstat
  obtain ⟨kP, hkP, -⟩ := className_of_methodNamed hnamed
  have hinitP : kP.init = .initialized := Cond.initialized_spec (findClass_of_methodNamed hnamed) hkP hinit
  obtain ⟨vm₁, X₁, hstep₁⟩ := X.invokestatic hexec hown hlink hnamed hmethM hstatic hkP hinitP hy (g := g) hg (argsL := argsL) (rest := rest) (hlen _ hsigM) hstack hdg
  obtain ⟨v, B, X', hpost, hsteps⟩ := hK m meth c ⟨T.setVm vm₁, locs, cells, slots⟩ { g with stack := rest } (.invokestatic index) mk argsL.toArray X₁ hg hsize hdg hW (X₁.named hnamed) (hpre vm₁ X₁.warmed)
  exact ⟨v, vm₁, B, X₁.warmed, X', hpost, fun target h => hstep₁ _ fun acts => by rw [doInvoke_state]; exact hsteps.trans h⟩
theorem vx_runSW {y : MethodName} {bytes cc : ByteArray} {maxL nL mc ms n index : Nat} {ret : Option FieldType} {hh : List (Nat × Nat × Nat × Nat)} {ws : List Cond} {rm : Room} {Pc : Array Value → State → Prop} {Qc : Array Value → State → Outcome → State → Prop} {free : Addr → Prop} {Ts : List Cond} {own : String} {As rest : List Value} {g : JFrame}
    (S : CallFix p m c cc nL s args Ts own) (hM : Met l y ws rm Pc Qc mc ms free) (cw : vx_CSW R s args own index y bytes maxL ret hh ws rm mc ms n) (hp : PreS s H Pc As)
    (hg : g.method = m) (hn : As.length = n) (hsize : g.locals.size = nL) (hstack : g.stack = As.reverse ++ rest) (hW : 2 * g.monitorRoom + (rest.map fun v => v.category).sum ≤ 8) (hdg : decode cc g.pc = .ok (.invokestatic index, 3)) (hf : cells + mc ≤ R.cells ∧ slots + ms ≤ R.slots) :
    va_Run p l e R s m args below meth c H locs cells slots mc ms g rest (Qc As.toArray) (free) := by
  obtain ⟨⟨hrc, hrs, hfr, hlo, hws, hcw⟩, hcode, hini, hy, hlen, hl, hstt⟩ := cw
  have hK : Back l R p e below s args y 3 8 (PreOf R mc ms Pc) (PostOf Qc mc ms free) := va_backW (hh := hh) (bytes := bytes) (maxL := maxL) (ret := ret) hM hp.1 hrc hrs hfr hlo hws hcw (fun a' U hW => word_at hW (Or.inl (by first | rfl | simp [Cond.onTables, Cond.keeps, Cond.steady])) hini)
  obtain ⟨hx, hb, hml, ho, -⟩ := S
  intro T hT X
  obtain ⟨v, vm₁, ⟨U', l2, c2, s2⟩, hW₁, X', ⟨g', mk, t, L, e1, e2, hq, h1, hL, h2, h3⟩, st⟩ := vx_callSW X hx (hh := hh) (bytes := bytes) (maxL := maxL) (ret := ret) ho hl hstt hini hcode hy hK hg (hsize.trans hml.symm) (argsL := As) (rest := rest) (fun sig h => hn.trans (hlen sig h)) hstack hW (by rw [hb]; exact hdg)
    (fun vm₁ hW₁ => ⟨hf.1, hf.2, hp.2 (T.setVm vm₁) hT hW₁⟩)
  dsimp only [Pt.U, Pt.locs, Pt.cells, Pt.slots] at X' e1 e2 h1 h2 h3 st
  subst h1; subst h2; subst h3
  exact ⟨v, (T.setVm vm₁).calling g' mk As.toArray, t, U', L, hT, X', hL, e1, e2, hq, st⟩
/-- not caught here, past rows that name other classes: it goes on to the caller -/
theorem vx_outP {p : Program} {l : Launch} {e : Env} {R : Room} {s : State} {m : MethodId} {args : Array Value} {below : List Frame} {meth : Method} {c : Code} {H : Heap} {locs : List Loc} {cells slots : Nat} {free : Addr → Prop} {ls : Array Slot} {rest : List Value} {Qc : Array Value → State → Outcome → State → Prop} {XC : String → State → State → Prop}
    {pc : Nat} {own E : String} {ce : Cell} {q : Addr} {mc ms : Nat} (hown : s.vm.findClass own = some m.cls) (hlocks : meth.locks = false)
    (hpass : ∀ z ∈ c.exceptionTable.toList, covers z pc = false ∨ (z.catchType ≠ 0 ∧ ∃ nm : String, (Cond.classLink own z.catchType nm).before args s = true ∧ va_Nc E nm s)) (hcell : H[q]? = some ce) (hv : ce.vm = .none) (hcl : s.vm.findClass E = some ce.cls)
    (hx : ∀ t : State, t.heap = H → s.vm.Alike t.vm → XC E s t) (hf : ∀ z ∈ locs, free z.base) (hc : cells ≤ mc) (hs : slots ≤ ms) :
    vx_W p l e R s m args below meth c H locs cells slots (vx_MQ below Qc XC args s mc ms free) (F0 m pc ls rest) q := by
  intro T hT X
  have hpl : e.platform.magicAccessors = ({} : Platform).magicAccessors := by rw [X.admits.platform]
  obtain ⟨vm', hW', X', st⟩ := X.outThrough hlocks q (g := F0 m pc ls rest) rfl rfl rfl (cell := ce) (by rw [hT]; exact hcell) (by rw [hv]; rfl)
    (by obtain ⟨k9, h9, -⟩ := Vm.findClass_spec hcl; exact ⟨k9, h9⟩) (fun z hz => by
      rcases hpass z hz with h | ⟨hz0, nm, hl1, hn1⟩
      · exact Or.inl h
      · obtain ⟨c6, hc6, hcl6⟩ := Cond.classLink_spec hown hl1 e.platform hpl
        obtain ⟨a8, b8, h1, h2, h3⟩ := hn1
        cases Option.some.inj (h1.symm.trans hcl)
        cases Option.some.inj (h2.symm.trans hc6)
        exact Or.inr ⟨hz0, _, hcl6, h3⟩)
  obtain ⟨g₀, hfr⟩ := X'.frames_eq
  have hcell9 : ((T.setVm vm').setFrames (.throwing q :: below)).heap[q]? = some ce := by
    show T.heap[q]? = some ce
    rw [hT]; exact hcell
  have hend : Ended ((T.setVm vm').setFrames (.throwing q :: below)) below (.threw q) := State.frames_setFrames _ (State.cur_lt_of_frames hfr)
  refine ⟨(T.setVm vm').setFrames (.throwing q :: below), ?_, .threw q, X'.here.running, hend, Or.inr ⟨q, rfl, E, ce, locs, hx _ hT (X'.ends _).1.alike, hcell9, hv, hcl, (X'.ends _).1, (X'.ends _).2.mono hc hs, hf⟩⟩
  rw [X.pushThrowing_eq]
  exact st
/-- a thing of a world lies in the heap -/
theorem vx_lt {D : va_G} {cl : List vw_C} {ws : va_W} {H1 : Heap} (h : va_P D cl ws H1) {k : Nat} {q : Nat × va_E} (hk : ws[k]? = some q) : q.1 < H1.size := (h k q hk).lt
end VXS
/-! ===== END ===== -/
/-! ===== BEGIN methods with a table of their own: called by a name, returning or throwing ===== -/
section VXH
/-! vx_backW, vx_callVX, vx_callSX, vx_callVW, vx_runVW, vx_runVX, vx_runSX, vx_ofWH follow the same proofs as their sisters above (Free/Laws.lean, Shelf42/LK1.lean); vx_outP calls Shelf42/NT130.lean (outThrough). -/
section
variable {l : Launch} {R : Room} {p : Program} {e : Env} {below : List Frame} {s : State} {sargs : Array Value} {y : MethodName} {len W9 : Nat}
theorem vx_backW {ws : List Cond} {rm : Room} {Pc : Array Value → State → Prop} {Qc : Array Value → State → Outcome → State → Prop} {XC : String → State → State → Prop} {mc ms : Nat} {free : Addr → Prop} {bytes : ByteArray} {maxL : Nat} {ret : Option FieldType} {hh : List (Nat × Nat × Nat × Nat)}
    (hM : vx_Met l y ws rm Pc Qc XC mc ms free) (hblind : FrameBlind Pc) (hrc : rm.cells = mc) (hrs : rm.slots = ms)
    (hframes : rm.frames + 1 ≤ R.frames) (hlocals : W9 + (maxL + 11) + rm.locals ≤ R.locals)
    (hws : ∀ w ∈ ws, ∀ a' U, s.WarmedH U.vm → w.before a' U = true) (hcode : Cond.codeWith y bytes maxL ret hh ∈ ws) (hinit : ∀ a' U, s.WarmedH U.vm → (Cond.initialized y.cls).before a' U = true) :
    vx_Back l R p e below s sargs y len W9 (PreOf R mc ms Pc) (PostOf Qc mc ms free) (vx_Post XC mc ms free) := by
  intro m meth c A g ig mk a X hg hsize hdg hW hn hp
  have h1 : (headSpec ws rm).pre.before a A.U = true := atoms_intro fun w hw => hws w hw _ _ X.warmed
  have h2 : (Cond.codeWith y bytes maxL ret hh).before a A.U = true := hws _ hcode _ _ X.warmed
  have h3 : (Cond.initialized y.cls).before a A.U = true := hinit _ _ X.warmed
  have h4 : A.cells + (headSpec ws rm).room.cells ≤ R.cells := by rw [show (headSpec ws rm).room.cells = mc from hrc]; exact hp.1
  have h5 : A.slots + (headSpec ws rm).room.slots ≤ R.slots := by rw [show (headSpec ws rm).room.slots = ms from hrs]; exact hp.2.1
  have hPc : Pc a (A.U.calling g mk a) := hblind _ _ _ _ hp.2.2
  obtain ⟨U, Ls, c0, s0⟩ := A
  dsimp only [Pt.U, Pt.locs, Pt.cells, Pt.slots] at h1 h2 h3 h4 h5 X hn hPc ⊢
  obtain ⟨m9, methY, cY, hn9, hmY, hcY, -, hlY, -⟩ := Cond.codeWith_spec h2
  cases Option.some.inj (hn9.symm.trans hn)
  obtain ⟨kY, hkY, -⟩ := className_of_methodNamed hn
  have hinitY : kY.init = .initialized := Cond.initialized_spec (findClass_of_methodNamed hn) hkY h3
  have h : At U g.method c below := by rw [hg]; exact X.here
  have hlocals9 : W9 + (maxL + 11) + (headSpec ws rm).room.locals ≤ R.locals := hlocals
  have happ : (headSpec ws rm).appliesLoose y e.platform (U.calling g mk a) = true :=
    Spec.appliesLoose_calling (g := g) h hdg hn hkY hinitY
      (X.room_calling (g := g) (R' := (headSpec ws rm).room) hsize hmY hcY hframes (by rw [hlY]; omega) h4 h5) h1
  obtain ⟨mid, hmid⟩ := h.above
  have hfr : (U.setTop g).frames = (.java g :: mid) ++ below := by rw [State.frames_setTop' g h.top, hmid]; rfl
  obtain ⟨o, s₂, hsteps, -, hend, hq⟩ := Steps.callFree hM p X.admits X.cas X.clock (acts := []) hfr happ hPc trivial
  have hq' : vx_Q Qc XC mc ms free a (U.calling g mk a) o s₂ := hq
  rw [State.frames_setTop' g h.top] at hend
  obtain ⟨g₀, hg0⟩ := Option.isSome_iff_exists.mp h.top
  obtain ⟨r, hr⟩ := State.topJava?_eq_some.mp hg0
  have hr' : (({ U with heap := s₂.heap, slotsUsed := s₂.slotsUsed } : State).setVm s₂.vm).frames = .java g₀ :: r := hr
  rcases hq' with ⟨hqc, L, hfe, hL⟩ | ⟨q, rfl, E, ce, L, hx, hce, hcv, hcl, hW₂, hsm, hL⟩
  · obtain ⟨⟨v, rfl⟩, hW₂, e2, q2, q3, q4, q5, q6⟩ := id hfe
    have e3 : s₂ = ({ (U.calling g mk a).setFrames s₂.frames with heap := s₂.heap, slotsUsed := s₂.slotsUsed } : State).setVm s₂.vm := by
      have : s₂ = ({ s₂ with vm := (U.calling g mk a).vm } : State).setVm s₂.vm := rfl
      rw [e2] at this
      exact this
    obtain ⟨c₂, i₂, len₂, hc₂, hd₂, hf₂⟩ := hend
    have hW' : U.WarmedH s₂.vm := hW₂
    have hcc : c₂ = c := by
      have h1 : s₂.code? g.method = U.code? g.method := by
        rw [State.code?_eq, State.code?_eq, hW'.alike.method?]
      exact Option.some.inj (hc₂.symm.trans (h1.trans h.code))
    subst hcc
    have hlen : len₂ = len := by rw [hdg] at hd₂; cases hd₂; rfl
    subst hlen
    have hs₂ : s₂ = (({ U with heap := s₂.heap, slotsUsed := s₂.slotsUsed } : State).setVm s₂.vm).setTop { g with pc := g.pc + len₂, stack := v.toList ++ g.stack } := by
      refine e3.trans ?_
      rw [hf₂, State.calling_eq h.top, State.setFrames_setFrames, State.setTop_of_frames _ hr', hr]
      rfl
    have hsame : U.sameButNew ({ U with heap := s₂.heap, slotsUsed := s₂.slotsUsed } : State) L mc ms := by
      refine ⟨?_, q2, q3, q4, q5, q6⟩
      obtain ⟨t, ht, -⟩ := State.frames_cons hr
      show ({ U with heap := s₂.heap, slotsUsed := s₂.slotsUsed } : State) = { U.setFrames U.frames with heap := s₂.heap, slotsUsed := s₂.slotsUsed }
      rw [State.setFrames_self ht]
    subst hg
    refine Or.inl ⟨v, ⟨(({ U with heap := s₂.heap, slotsUsed := s₂.slotsUsed } : State).setVm s₂.vm), Ls ++ L, c0 + mc, s0 + ms⟩,
      ⟨X.admits, X.cas, X.clock, X.frames, X.room, X.hears, X.method, X.code, (X.here.setHeapUsed s₂.heap s₂.slotsUsed).setVm hW'.alike, X.tail, State.WarmedH.trans X.warmed hW', X.limits, X.bytes, X.same.trans (hsame.setVm s.vm)⟩,
      ⟨g, mk, s₂, L, rfl, rfl, hqc, rfl, hL, rfl, rfl⟩, ?_⟩
    show Steps p.tables e below _ ((({ U with heap := s₂.heap, slotsUsed := s₂.slotsUsed } : State).setVm s₂.vm).setTop { g with pc := g.pc + len₂, stack := v.toList ++ g.stack })
    rw [← hs₂]
    exact hsteps
  · obtain ⟨e2, q2, q3, q4, q5, q6⟩ := id hsm
    have e3 : s₂ = ({ (U.calling g mk a).setFrames s₂.frames with heap := s₂.heap, slotsUsed := s₂.slotsUsed } : State).setVm s₂.vm := by
      have : s₂ = ({ s₂ with vm := (U.calling g mk a).vm } : State).setVm s₂.vm := rfl
      rw [e2] at this
      exact this
    have hf₂ : s₂.frames = .throwing q :: .java g :: U.frames.tail := hend
    have hW' : U.WarmedH s₂.vm := hW₂
    have hs₂ : s₂ = ((({ U with heap := s₂.heap, slotsUsed := s₂.slotsUsed } : State).setVm s₂.vm).setTop g).pushFrame (.throwing q) := by
      refine e3.trans ?_
      rw [hf₂, State.calling_eq h.top, State.setFrames_setFrames, State.pushFrame, State.frames_setTop _ hr', State.setTop_of_frames _ hr', State.setFrames_setFrames, hr]
      rfl
    have hsame : U.sameButNew ({ U with heap := s₂.heap, slotsUsed := s₂.slotsUsed } : State) L mc ms := by
      refine ⟨?_, q2, q3, q4, q5, q6⟩
      obtain ⟨t, ht, -⟩ := State.frames_cons hr
      show ({ U with heap := s₂.heap, slotsUsed := s₂.slotsUsed } : State) = { U.setFrames U.frames with heap := s₂.heap, slotsUsed := s₂.slotsUsed }
      rw [State.setFrames_self ht]
    subst hg
    refine Or.inr ⟨q, ⟨(({ U with heap := s₂.heap, slotsUsed := s₂.slotsUsed } : State).setVm s₂.vm), Ls ++ L, c0 + mc, s0 + ms⟩,
      ⟨X.admits, X.cas, X.clock, X.frames, X.room, X.hears, X.method, X.code, (X.here.setHeapUsed s₂.heap s₂.slotsUsed).setVm hW'.alike, X.tail, State.WarmedH.trans X.warmed hW', X.limits, X.bytes, X.same.trans (hsame.setVm s.vm)⟩,
      ⟨g, mk, s₂, L, E, ce, rfl, rfl, hx, hce, hcv, hcl, rfl, hL, rfl, rfl⟩, ?_⟩
    show Steps p.tables e below _ (((({ U with heap := s₂.heap, slotsUsed := s₂.slotsUsed } : State).setVm s₂.vm).setTop g).pushFrame (.throwing q))
    rw [← hs₂]
    exact hsteps
end
variable {p : Program} {l : Launch} {e : Env} {R : Room} {s : State} {m : MethodId} {args : Array Value} {below : List Frame} {meth : Method} {c : Code} {T : State} {H : Heap} {locs : List Loc} {cells slots : Nat}
theorem vx_callVX (X : Stand p l e R s m args below meth c T locs cells slots) (hexec : p.tables.exec = Jvm.exec) {own C : String} {index : Nat} {y : MethodName} {bytes : ByteArray} {maxL : Nat} {ret : Option FieldType} {hh : List (Nat × Nat × Nat × Nat)}
    (hown : s.vm.findClass own = some m.cls) (hlink : (Cond.methodLink own index y).before args s = true) (hinst : (Cond.instanceMethod y).before args s = true) (hsel : (Cond.selects C y y).before args s = true)
    (hcode : (Cond.codeWith y bytes maxL ret hh).before args s = true) (hy : y.cls ≠ "java/lang/invoke/MethodHandle" ∧ y.cls ≠ "java/lang/invoke/VarHandle")
    {W9 : Nat} {Pre : Pt → Array Value → Prop} {Post : Pt → Array Value → Option Value → Pt → Prop} {PostX : Pt → Array Value → Addr → Pt → Prop} (hK : vx_Back l R p e below s args y 3 W9 Pre Post PostX)
    {b : Addr} {cellB : Cell} (hcell : T.heap[b]? = some cellB) (hobj : cellB.vm.isStatics = false) (hcls : s.vm.findClass C = some cellB.cls)
    {g : JFrame} (hg : g.method = m) (hsize : g.locals.size = c.maxLocals) {argsL rest : List Value} (hlen : ∀ sig, parseMethodDescriptor y.desc = some sig → argsL.length = sig.parameters.length)
    (hstack : g.stack = argsL.reverse ++ .ref b :: rest) (hW : 2 * g.monitorRoom + (rest.map fun v => v.category).sum ≤ W9) (hdg : decode c.code g.pc = .ok (.invokevirtual index, 3))
    (hpre : ∀ vm₁, s.WarmedH vm₁ → Pre ⟨T.setVm vm₁, locs, cells, slots⟩ (Value.ref b :: argsL).toArray) :
    (∃ (v : Option Value) (vm₁ : Vm) (B : Pt), s.WarmedH vm₁ ∧ Stand p l e R s m args below meth c B.U B.locs B.cells B.slots ∧ Post ⟨T.setVm vm₁, locs, cells, slots⟩ (Value.ref b :: argsL).toArray v B ∧
      ∀ target, Steps p.tables e below (B.U.setTop { g with pc := g.pc + 3, stack := v.toList ++ rest }) target → Steps p.tables e below (T.setTop g) target) ∨
    (∃ (q : Addr) (vm₁ : Vm) (B : Pt), s.WarmedH vm₁ ∧ Stand p l e R s m args below meth c B.U B.locs B.cells B.slots ∧ PostX ⟨T.setVm vm₁, locs, cells, slots⟩ (Value.ref b :: argsL).toArray q B ∧
      Steps p.tables e below (T.setTop g) ((B.U.setTop { g with stack := rest }).pushFrame (.throwing q))) := by
  obtain ⟨mk, methM, hnamed, hmethM, hstM, habM⟩ := Cond.instanceMethod_spec hinst
  obtain ⟨m8, methM', cM, hn8, hmethM', -, -, -, -, -, -, hsigM⟩ := Cond.codeWith_spec hcode
  cases Option.some.inj (hn8.symm.trans hnamed)
  cases hmethM.symm.trans hmethM'
  obtain ⟨c2, r2, m2, q1, q2, q3, q4, kP, hkP, hkPi⟩ := Cond.selects_spec hsel
  cases hcls.symm.trans q1
  cases (State.methodFound?_of_named hnamed hy).symm.trans q2
  cases hnamed.symm.trans q3
  have hselP : selectMethod e.platform s.vm cellB.cls mk = .method mk := by rw [Launch.admits_selectMethod X.admits]; exact q4
  obtain ⟨vm₁, X₁, hstep₁⟩ := X.invokevirtual hexec hown hlink hnamed hmethM hstM hkP hkPi hy (a := b) (cell := cellB) hcell
    (fun z h => by rw [h] at hobj; cases hobj) hselP hmethM habM hkP hkPi (g := g) hg (argsL := argsL) (rest := rest) (hlen _ hsigM) hstack hdg
  rcases hK m meth c ⟨T.setVm vm₁, locs, cells, slots⟩ { g with stack := rest } (.invokevirtual index) mk (Value.ref b :: argsL).toArray X₁ hg hsize hdg hW (X₁.named hnamed) (hpre vm₁ X₁.warmed) with ⟨v, B, X', hpost, hsteps⟩ | ⟨q, B, X', hpost, hsteps⟩
  · exact Or.inl ⟨v, vm₁, B, X₁.warmed, X', hpost, fun target h => hstep₁ _ fun acts => by rw [doInvoke_state]; exact hsteps.trans h⟩
  · exact Or.inr ⟨q, vm₁, B, X₁.warmed, X', hpost, hstep₁ _ fun acts => by rw [doInvoke_state]; exact hsteps⟩
theorem vx_callSX (X : Stand p l e R s m args below meth c T locs cells slots) (hexec : p.tables.exec = Jvm.exec) {own : String} {index : Nat} {y : MethodName} {bytes : ByteArray} {maxL : Nat} {ret : Option FieldType} {hh : List (Nat × Nat × Nat × Nat)}
    (hown : s.vm.findClass own = some m.cls) (hlink : (Cond.methodLink own index y).before args s = true) (hstat : (Cond.static y).before args s = true) (hinit : (Cond.initialized y.cls).before args s = true)
    (hcode : (Cond.codeWith y bytes maxL ret hh).before args s = true) (hy : y.cls ≠ "java/lang/invoke/MethodHandle" ∧ y.cls ≠ "java/lang/invoke/VarHandle")
    {W9 : Nat} {Pre : Pt → Array Value → Prop} {Post : Pt → Array Value → Option Value → Pt → Prop} {PostX : Pt → Array Value → Addr → Pt → Prop} (hK : vx_Back l R p e below s args y 3 W9 Pre Post PostX)
    {g : JFrame} (hg : g.method = m) (hsize : g.locals.size = c.maxLocals) {argsL rest : List Value} (hlen : ∀ sig, parseMethodDescriptor y.desc = some sig → argsL.length = sig.parameters.length)
    (hstack : g.stack = argsL.reverse ++ rest) (hW : 2 * g.monitorRoom + (rest.map fun v => v.category).sum ≤ W9) (hdg : decode c.code g.pc = .ok (.invokestatic index, 3))
    (hpre : ∀ vm₁, s.WarmedH vm₁ → Pre ⟨T.setVm vm₁, locs, cells, slots⟩ argsL.toArray) :
    (∃ (v : Option Value) (vm₁ : Vm) (B : Pt), s.WarmedH vm₁ ∧ Stand p l e R s m args below meth c B.U B.locs B.cells B.slots ∧ Post ⟨T.setVm vm₁, locs, cells, slots⟩ argsL.toArray v B ∧
      ∀ target, Steps p.tables e below (B.U.setTop { g with pc := g.pc + 3, stack := v.toList ++ rest }) target → Steps p.tables e below (T.setTop g) target) ∨
    (∃ (q : Addr) (vm₁ : Vm) (B : Pt), s.WarmedH vm₁ ∧ Stand p l e R s m args below meth c B.U B.locs B.cells B.slots ∧ PostX ⟨T.setVm vm₁, locs, cells, slots⟩ argsL.toArray q B ∧
      Steps p.tables e below (T.setTop g) ((B.U.setTop { g with stack := rest }).pushFrame (.throwing q))) := by
  obtain ⟨mk, methM, cM, hnamed, hmethM, -, -, -, -, -, -, hsigM⟩ := Cond.codeWith_spec hcode
  have hstatic : methM.isStatic = true := Cond.static_spec hnamed hmethM hstat
  obtain ⟨kP, hkP, -⟩ := className_of_methodNamed hnamed
  have hinitP : kP.init = .initialized := Cond.initialized_spec (findClass_of_methodNamed hnamed) hkP hinit
  obtain ⟨vm₁, X₁, hstep₁⟩ := X.invokestatic hexec hown hlink hnamed hmethM hstatic hkP hinitP hy (g := g) hg (argsL := argsL) (rest := rest) (hlen _ hsigM) hstack hdg
  rcases hK m meth c ⟨T.setVm vm₁, locs, cells, slots⟩ { g with stack := rest } (.invokestatic index) mk argsL.toArray X₁ hg hsize hdg hW (X₁.named hnamed) (hpre vm₁ X₁.warmed) with ⟨v, B, X', hpost, hsteps⟩ | ⟨q, B, X', hpost, hsteps⟩
  · exact Or.inl ⟨v, vm₁, B, X₁.warmed, X', hpost, fun target h => hstep₁ _ fun acts => by rw [doInvoke_state]; exact hsteps.trans h⟩
  · exact Or.inr ⟨q, vm₁, B, X₁.warmed, X', hpost, hstep₁ _ fun acts => by rw [doInvoke_state]; exact hsteps⟩
theorem vx_callVW (X : Stand p l e R s m args below meth c T locs cells slots) (hexec : p.tables.exec = Jvm.exec) {own C : String} {index : Nat} {y : MethodName} {bytes : ByteArray} {maxL : Nat} {ret : Option FieldType} {hh : List (Nat × Nat × Nat × Nat)}
    (hown : s.vm.findClass own = some m.cls) (hlink : (Cond.methodLink own index y).before args s = true) (hinst : (Cond.instanceMethod y).before args s = true) (hsel : (Cond.selects C y y).before args s = true)
    (hcode : (Cond.codeWith y bytes maxL ret hh).before args s = true) (hy : y.cls ≠ "java/lang/invoke/MethodHandle" ∧ y.cls ≠ "java/lang/invoke/VarHandle")
    {W9 : Nat} {Pre : Pt → Array Value → Prop} {Post : Pt → Array Value → Option Value → Pt → Prop} (hK : Back l R p e below s args y 3 W9 Pre Post)
    {b : Addr} {cellB : Cell} (hcell : T.heap[b]? = some cellB) (hobj : cellB.vm.isStatics = false) (hcls : s.vm.findClass C = some cellB.cls)
    {g : JFrame} (hg : g.method = m) (hsize : g.locals.size = c.maxLocals) {argsL rest : List Value} (hlen : ∀ sig, parseMethodDescriptor y.desc = some sig → argsL.length = sig.parameters.length)
    (hstack : g.stack = argsL.reverse ++ .ref b :: rest) (hW : 2 * g.monitorRoom + (rest.map fun v => v.category).sum ≤ W9) (hdg : decode c.code g.pc = .ok (.invokevirtual index, 3))
    (hpre : ∀ vm₁, s.WarmedH vm₁ → Pre ⟨T.setVm vm₁, locs, cells, slots⟩ (Value.ref b :: argsL).toArray) :
    ∃ (v : Option Value) (vm₁ : Vm) (B : Pt), s.WarmedH vm₁ ∧ Stand p l e R s m args below meth c B.U B.locs B.cells B.slots ∧ Post ⟨T.setVm vm₁, locs, cells, slots⟩ (Value.ref b :: argsL).toArray v B ∧
      ∀ target, Steps p.tables e below (B.U.setTop { g with pc := g.pc + 3, stack := v.toList ++ rest }) target → Steps p.tables e below (T.setTop g) target := by
  obtain ⟨mk, methM, hnamed, hmethM, hstM, habM⟩ := Cond.instanceMethod_spec hinst
  obtain ⟨m8, methM', cM, hn8, hmethM', -, -, -, -, -, -, hsigM⟩ := Cond.codeWith_spec hcode
  cases Option.some.inj (hn8.symm.trans hnamed)
  cases hmethM.symm.trans hmethM'
  obtain ⟨c2, r2, m2, q1, q2, q3, q4, kP, hkP, hkPi⟩ := Cond.selects_spec hsel
  cases hcls.symm.trans q1
  cases (State.methodFound?_of_named hnamed hy).symm.trans q2
  cases hnamed.symm.trans q3
  have hselP : selectMethod e.platform s.vm cellB.cls mk = .method mk := by rw [Launch.admits_selectMethod X.admits]; exact q4
  obtain ⟨vm₁, X₁, hstep₁⟩ := X.invokevirtual hexec hown hlink hnamed hmethM hstM hkP hkPi hy (a := b) (cell := cellB) hcell
    (fun z h => by rw [h] at hobj; cases hobj) hselP hmethM habM hkP hkPi (g := g) hg (argsL := argsL) (rest := rest) (hlen _ hsigM) hstack hdg
  obtain ⟨v, B, X', hpost, hsteps⟩ := hK m meth c ⟨T.setVm vm₁, locs, cells, slots⟩ { g with stack := rest } (.invokevirtual index) mk (Value.ref b :: argsL).toArray X₁ hg hsize hdg hW (X₁.named hnamed) (hpre vm₁ X₁.warmed)
  exact ⟨v, vm₁, B, X₁.warmed, X', hpost, fun target h => hstep₁ _ fun acts => by rw [doInvoke_state]; exact hsteps.trans h⟩
abbrev vx_CVW (R : Room) (s : State) (args : Array Value) (own C : String) (index : Nat) (y : MethodName) (bytes : ByteArray) (maxL : Nat) (ret : Option FieldType) (hh : List (Nat × Nat × Nat × Nat)) (ws : List Cond) (rm : Room) (mc ms n : Nat) : Prop :=
  (rm.cells = mc ∧ rm.slots = ms ∧ rm.frames + 1 ≤ R.frames ∧ 8 + (maxL + 11) + rm.locals ≤ R.locals ∧ (∀ w ∈ ws, ∀ (a' : Array Value) (U : State), s.WarmedH U.vm → w.before a' U = true) ∧ Cond.codeWith y bytes maxL ret hh ∈ ws) ∧
  (Cond.codeWith y bytes maxL ret hh).before args s = true ∧ (Cond.initialized y.cls).before args s = true ∧ (y.cls ≠ "java/lang/invoke/MethodHandle" ∧ y.cls ≠ "java/lang/invoke/VarHandle") ∧
  (∀ sig, parseMethodDescriptor y.desc = some sig → n = sig.parameters.length) ∧ (Cond.methodLink own index y).before args s = true ∧ (Cond.instanceMethod y).before args s = true ∧ (Cond.selects C y y).before args s = true
theorem vx_cwVW {own C : String} {index maxL mc ms : Nat} {y : MethodName} {bytes : ByteArray} {ret : Option FieldType} {hh : List (Nat × Nat × Nat × Nat)} {Ts ws ws' : List Cond} {rm : Room} (n : Nat) (ht : ∀ w ∈ Ts, w.before args s = true) (hT : GoodIn Ts (wsV own index C y ws)) (hw : ws = Cond.codeWith y bytes maxL ret hh :: ws') (hrc : rm.cells = mc) (hrs : rm.slots = ms)
    (hd : y.cls = C ∧ y.cls ≠ "java/lang/invoke/MethodHandle" ∧ y.cls ≠ "java/lang/invoke/VarHandle" ∧ (parseMethodDescriptor y.desc).map (fun d => d.parameters.length) = some n) (hR : rm.frames + 1 ≤ R.frames ∧ 8 + (maxL + 11) + rm.locals ≤ R.locals) :
    vx_CVW R s args own C index y bytes maxL ret hh ws rm mc ms n := by
  obtain ⟨hC, hd⟩ := hd
  subst hC
  have ok : ∀ w ∈ wsV own index y.cls y ws, w.before args s = true := fun w h => ht w (hT w h).1
  have hG : GoodIn Ts ws := fun w h => hT w (by unfold wsV; exact List.mem_append_right _ h)
  have hc : Cond.codeWith y bytes maxL ret hh ∈ ws := by rw [hw]; exact List.mem_cons_self
  refine ⟨⟨hrc, hrs, hR.1, hR.2, pay_in ht hG, hc⟩, ht _ (hG _ hc).1, ok _ (by simp [wsV]), ⟨hd.1, hd.2.1⟩, fun sig h => ?_, ok _ (by simp [wsV]), ok _ (by simp [wsV]), ok _ (by simp [wsV])⟩
  have h2 := hd.2.2
  rw [h] at h2
  exact (Option.some.inj h2).symm
theorem vx_runVW {y : MethodName} {bytes cc : ByteArray} {maxL nL mc ms n index : Nat} {ret : Option FieldType} {hh : List (Nat × Nat × Nat × Nat)} {ws : List Cond} {rm : Room} {Pc : Array Value → State → Prop} {Qc : Array Value → State → Outcome → State → Prop} {free : Addr → Prop} {Ts : List Cond} {own C : String} {b : Addr} {As rest : List Value} {g : JFrame}
    (S : CallFix p m c cc nL s args Ts own) (hM : Met l y ws rm Pc Qc mc ms free) (cw : vx_CVW R s args own C index y bytes maxL ret hh ws rm mc ms n) (hp : PreV s H C b Pc As)
    (hg : g.method = m) (hn : As.length = n) (hsize : g.locals.size = nL) (hstack : g.stack = As.reverse ++ .ref b :: rest) (hW : 2 * g.monitorRoom + (rest.map fun v => v.category).sum ≤ 8) (hdg : decode cc g.pc = .ok (.invokevirtual index, 3)) (hf : cells + mc ≤ R.cells ∧ slots + ms ≤ R.slots) :
    va_Run p l e R s m args below meth c H locs cells slots mc ms g rest (Qc (Value.ref b :: As).toArray) free := by
  obtain ⟨⟨hrc, hrs, hfr, hlo, hws, hcw⟩, hcode, hini, hy, hlen, hl, hin, hse⟩ := cw
  have hK : Back l R p e below s args y 3 8 (PreOf R mc ms Pc) (PostOf Qc mc ms free) := va_backW (hh := hh) (bytes := bytes) (maxL := maxL) (ret := ret) hM hp.1 hrc hrs hfr hlo hws hcw (fun a' U hW => word_at hW (Or.inl (by first | rfl | simp [Cond.onTables, Cond.keeps, Cond.steady])) hini)
  obtain ⟨hx, hb, hml, ho, -⟩ := S
  obtain ⟨-, ⟨cellB, hcB, hoB, hclB⟩, hPc⟩ := hp
  intro T hT X
  obtain ⟨v, vm₁, ⟨U', l2, c2, s2⟩, hW₁, X', ⟨g', mk, t, L, e1, e2, hq, h1, hL, h2, h3⟩, st⟩ := vx_callVW X hx (C := C) (hh := hh) (bytes := bytes) (maxL := maxL) (ret := ret) ho hl hin hse hcode hy hK (by rw [hT]; exact hcB) hoB hclB hg (hsize.trans hml.symm) (argsL := As) (rest := rest) (fun sig h => hn.trans (hlen sig h)) hstack hW (by rw [hb]; exact hdg)
    (fun vm₁ hW₁ => ⟨hf.1, hf.2, hPc (T.setVm vm₁) hT hW₁⟩)
  dsimp only [Pt.U, Pt.locs, Pt.cells, Pt.slots] at X' e1 e2 h1 h2 h3 st
  subst h1; subst h2; subst h3
  exact ⟨v, (T.setVm vm₁).calling g' mk (Value.ref b :: As).toArray, t, U', L, hT, X', hL, e1, e2, hq, st⟩
section
variable {y : MethodName} {bytes cc : ByteArray} {maxL nL mc ms n index : Nat} {ret : Option FieldType} {ws : List Cond} {rm : Room} {Pc : Array Value → State → Prop} {Qc : Array Value → State → Outcome → State → Prop} {XC : String → State → State → Prop} {free : Addr → Prop} {Ts : List Cond} {own C : String} {b : Addr} {As rest : List Value} {g : JFrame}
theorem vx_runVX {hh : List (Nat × Nat × Nat × Nat)} (S : CallFix p m c cc nL s args Ts own) (hM : vx_Met l y ws rm Pc Qc XC mc ms free) (cw : vx_CVW R s args own C index y bytes maxL ret hh ws rm mc ms n) (hp : PreV s H C b Pc As)
    (hg : g.method = m) (hn : As.length = n) (hsize : g.locals.size = nL) (hstack : g.stack = As.reverse ++ .ref b :: rest) (hW : 2 * g.monitorRoom + (rest.map fun v => v.category).sum ≤ 8) (hdg : decode cc g.pc = .ok (.invokevirtual index, 3)) (hf : cells + mc ≤ R.cells ∧ slots + ms ≤ R.slots) :
    vx_Run p l e R s m args below meth c H locs cells slots mc ms g rest (Qc (Value.ref b :: As).toArray) XC free := by
  obtain ⟨⟨hrc, hrs, hfr, hlo, hws, hcw⟩, hcode, hini, hy, hlen, hl, hin, hse⟩ := cw
  have hK : vx_Back l R p e below s args y 3 8 (PreOf R mc ms Pc) (PostOf Qc mc ms free) (vx_Post XC mc ms free) := vx_backW (hh := hh) (bytes := bytes) (maxL := maxL) (ret := ret) hM hp.1 hrc hrs hfr hlo hws hcw (fun a' U hW => word_at hW (Or.inl (by first | rfl | simp [Cond.onTables, Cond.keeps, Cond.steady])) hini)
  obtain ⟨hx, hb, hml, ho, -⟩ := S
  obtain ⟨-, ⟨cellB, hcB, hoB, hclB⟩, hPc⟩ := hp
  intro T hT X
  rcases vx_callVX X hx (C := C) (hh := hh) (bytes := bytes) (maxL := maxL) (ret := ret) ho hl hin hse hcode hy hK (by rw [hT]; exact hcB) hoB hclB hg (hsize.trans hml.symm) (argsL := As) (rest := rest) (fun sig h => hn.trans (hlen sig h)) hstack hW (by rw [hb]; exact hdg)
    (fun vm₁ hW₁ => ⟨hf.1, hf.2, hPc (T.setVm vm₁) hT hW₁⟩) with ⟨v, vm₁, ⟨U', l2, c2, s2⟩, hW₁, X', ⟨g', mk, t, L, e1, e2, hq, h1, hL, h2, h3⟩, st⟩ | ⟨q, vm₁, ⟨U', l2, c2, s2⟩, hW₁, X', ⟨g', mk, t, L, E, ce, e1, e2, hq, hce, hcv, hcl, h1, hL, h2, h3⟩, st⟩
  · dsimp only [Pt.U, Pt.locs, Pt.cells, Pt.slots] at X' e1 e2 h1 h2 h3 st
    subst h1; subst h2; subst h3
    exact Or.inl ⟨v, (T.setVm vm₁).calling g' mk (Value.ref b :: As).toArray, t, U', L, hT, X', hL, e1, e2, hq, st⟩
  · dsimp only [Pt.U, Pt.locs, Pt.cells, Pt.slots] at X' e1 e2 h1 h2 h3 st hcl
    subst h1; subst h2; subst h3
    exact Or.inr ⟨q, (T.setVm vm₁).calling g' mk (Value.ref b :: As).toArray, t, U', L, E, ce, hT, X', hL, e1, e2, hq, hce, hcv, vx_cls hW₁ hcl, st⟩
theorem vx_runSX {hh : List (Nat × Nat × Nat × Nat)} (S : CallFix p m c cc nL s args Ts own) (hM : vx_Met l y ws rm Pc Qc XC mc ms free) (cw : vx_CSW R s args own index y bytes maxL ret hh ws rm mc ms n) (hp : PreS s H Pc As)
    (hg : g.method = m) (hn : As.length = n) (hsize : g.locals.size = nL) (hstack : g.stack = As.reverse ++ rest) (hW : 2 * g.monitorRoom + (rest.map fun v => v.category).sum ≤ 8) (hdg : decode cc g.pc = .ok (.invokestatic index, 3)) (hf : cells + mc ≤ R.cells ∧ slots + ms ≤ R.slots) :
    vx_Run p l e R s m args below meth c H locs cells slots mc ms g rest (Qc As.toArray) XC free := by
  obtain ⟨⟨hrc, hrs, hfr, hlo, hws, hcw⟩, hcode, hini, hy, hlen, hl, hstt⟩ := cw
  have hK : vx_Back l R p e below s args y 3 8 (PreOf R mc ms Pc) (PostOf Qc mc ms free) (vx_Post XC mc ms free) := vx_backW (hh := hh) (bytes := bytes) (maxL := maxL) (ret := ret) hM hp.1 hrc hrs hfr hlo hws hcw (fun a' U hW => word_at hW (Or.inl (by first | rfl | simp [Cond.onTables, Cond.keeps, Cond.steady])) hini)
  obtain ⟨hx, hb, hml, ho, -⟩ := S
  intro T hT X
  rcases vx_callSX X hx (hh := hh) (bytes := bytes) (maxL := maxL) (ret := ret) ho hl hstt hini hcode hy hK hg (hsize.trans hml.symm) (argsL := As) (rest := rest) (fun sig h => hn.trans (hlen sig h)) hstack hW (by rw [hb]; exact hdg)
    (fun vm₁ hW₁ => ⟨hf.1, hf.2, hp.2 (T.setVm vm₁) hT hW₁⟩) with ⟨v, vm₁, ⟨U', l2, c2, s2⟩, hW₁, X', ⟨g', mk, t, L, e1, e2, hq, h1, hL, h2, h3⟩, st⟩ | ⟨q, vm₁, ⟨U', l2, c2, s2⟩, hW₁, X', ⟨g', mk, t, L, E, ce, e1, e2, hq, hce, hcv, hcl, h1, hL, h2, h3⟩, st⟩
  · dsimp only [Pt.U, Pt.locs, Pt.cells, Pt.slots] at X' e1 e2 h1 h2 h3 st
    subst h1; subst h2; subst h3
    exact Or.inl ⟨v, (T.setVm vm₁).calling g' mk As.toArray, t, U', L, hT, X', hL, e1, e2, hq, st⟩
  · dsimp only [Pt.U, Pt.locs, Pt.cells, Pt.slots] at X' e1 e2 h1 h2 h3 st hcl
    subst h1; subst h2; subst h3
    exact Or.inr ⟨q, (T.setVm vm₁).calling g' mk As.toArray, t, U', L, E, ce, hT, X', hL, e1, e2, hq, hce, hcv, vx_cls hW₁ hcl, st⟩
end
end VXH
theorem vx_ofWH {l : Launch} {y : MethodName} {ws ws' : List Cond} {rm : Room} {Pc : Array Value → State → Prop} {Qc : Array Value → State → Outcome → State → Prop} {XC : String → State → State → Prop} {mc ms : Nat} {free : Addr → Prop} {cc : ByteArray} {maxL : Nat} {ret : Option FieldType} {hh : List (Nat × Nat × Nat × Nat)}
    (hy : plainName y.cls = true) (hw : ws = Cond.codeWith y cc maxL ret hh :: ws')
    (body : ∀ p e s m args below meth c s₁, BodyLoose p l y (headSpec ws rm) cc maxL ret e s m args below meth c s₁ → c.maxLocals = maxL → Pc args s →
      W p l e (headSpec ws rm).room s m args below meth c s.heap [] 0 0 (vx_MQ below Qc XC args s mc ms free) (entryFrame m args maxL)) : vx_Met l y ws rm Pc Qc XC mc ms free := by
  refine MetFree.of_bodyS (code := cc) (maxLocals := maxL) (ret := ret) hy ?_ ?_
  · intro args s m h hn
    obtain ⟨m9, meth, c, hn9, h1, h2, h3, h4, -, h5, h6, -⟩ := Cond.codeWith_spec (atoms_spec (ws := ws) h _ (by rw [hw]; exact List.mem_cons_self))
    cases hn.symm.trans hn9
    exact ⟨meth, c, h1, h2, h3, h4, h5, h6⟩
  · intro p e s m args below meth c s₁ B hml hP _
    have hh0 : s₁.heap = s.heap := by rw [B.state]; rfl
    obtain ⟨t, a1, o, b1, b2, b3⟩ := body p e s m args below meth c s₁ B hml hP s₁ hh0 (Stand.of_body B)
    exact ⟨t, o, a1, b1, b2, b3⟩
/-! ===== END ===== -/
/-! ===== BEGIN what the machine throws by itself, no traces kept ===== -/
section VXM
set_option maxHeartbeats 1000000 in
/-- the machine throws cls with the message text, no traces kept: from its note over the frame g to 'throwing' over the same frame (follows the proofs of Stand.vmThrowsMessage, Shelf/KitTracedVmS.lean, and Stand.throwsMessageColdBareV, StandMessageColdV.lean, without the step out of the frame) -/
theorem vx_vmAt {p : Program} {l : Launch} {e : Env} {R : Room} {s : State} {m₀ : MethodId} {args : Array Value} {below : List Frame} {meth : Method} {c : Code} {W : State} {locs : List Loc} {cells slots : Nat}
    (X : Stand p l e R s m₀ args below meth c W locs cells slots) (hexec : p.tables.exec = Jvm.exec) (htr : e.platform.stackTraces = false) {cls : String} {names : List String} {text : String}
    (hcls : Bundle.fit cls = true) (hnames : ∀ n ∈ names, Bundle.fit n = true) (hsoe : (cls == "java/lang/StackOverflowError") = false) (hoom : (cls == "java/lang/OutOfMemoryError") = false)
    (h : ∀ a ∈ Bundle.messageArmAtoms cls names, a.before args s = true)
    (hlocs : ∀ x ∈ locs, ∀ cell, s.heap[x.base]? = some cell → cell.vm.isStatics = false)
    (htext : (text == notModelled) = false) (hlimit : ¬ (stringBytes (stringToUtf16 text)).size > e.platform.arrayLengthLimit) (hheap : ¬ (stringBytes (stringToUtf16 text)).size * componentBytes .byte > e.platform.maxHeapBytes)
    {g : JFrame} (hg : g.method = m₀) (hsize : g.locals.size = c.maxLocals)
    (hRframes : names.length + 4 < R.frames) (hRlocals : 2 * g.monitorRoom + (g.stack.map fun v => v.category).sum + 10240 ≤ R.locals) (hshort : 13 * names.length + 55 ≤ 10240)
    (hRcells : cells + 3 ≤ R.cells) (hRslots : slots + ((stringBytes (stringToUtf16 text)).size + 4 + 6) ≤ R.slots) (hlocks : meth.locks = false) :
    ∃ (S : State) (q : Addr) (ce : Cell), (∀ target, Steps p.tables e below ((S.setTop g).pushFrame (.throwing q)) target → Steps p.tables e below ((W.setTop g).pushFrame (.throwNew cls (some text) none)) target) ∧
      Stand p l e R s m₀ args below meth c S locs (cells + 3) (slots + ((stringBytes (stringToUtf16 text)).size + 4 + 6)) ∧ S.heap[q]? = some ce ∧ s.vm.findClass cls = some ce.cls ∧ ce.vm = .none := by
  have howns : e.platform.frameOwnsMonitors = true := by rw [X.admits.platform]
  have hfin : e.platform.finalization = false := by rw [X.admits.platform]
  have hpl : e.platform.magicAccessors = ({} : Platform).magicAccessors := by rw [X.admits.platform]
  have a : ∀ x, x ∈ Bundle.messageArmAtoms cls names → x.holds args s none s [] = true := fun x hx => h x hx
  obtain ⟨T, Z0, L, -, Y⟩ := ThrowableC.of_atoms (args := args) howns hfin hpl (fun x hx => h x (by simp [Bundle.messageArmAtoms, hx]))
  obtain ⟨Z, M, LZ, LM, hnZ⟩ := Init0T.ofS_atoms (args := args) hpl L Y (fun x hx => h x (by simp [Bundle.messageArmAtoms, hx]))
  obtain ⟨P1, Ps, hlen, L1, hL, hP1m, hlink1, hlink⟩ := Bundle.chainS (args := args) hpl hnZ names cls hcls hnames (fun x hx => h x (by simp [Bundle.messageArmAtoms, hx]))
  obtain ⟨Zs, LZs, hn4, hfitv, hfitc⟩ := StringT.of_atoms (args := args) (fun x hx => h x (by simp [Bundle.messageArmAtoms, hx]))
  have hfound : s.vm.findClass cls = some P1.m.cls := findClass_of_methodNamed hP1m
  obtain ⟨c1, kX, hc1, hk, hord, -, -, hn6⟩ := Cond.instantiable_spec (a (.instantiable cls 6) (by simp [Bundle.messageArmAtoms]))
  cases Option.some.inj (hc1.symm.trans hfound)
  have hinit := Cond.initialized_spec hfound hk (a (.initialized cls) (by simp [Bundle.messageArmAtoms]))
  have hctor : kX.findMethod "<init>" "(Ljava/lang/String;)V" = some P1.m.idx := findMethod_of_methodNamed hP1m hk
  have hsel0 : selectMethod e.platform s.vm P1.m.cls T.fill0 = .method T.fill0 := by
    obtain ⟨c2, r2, m2, q1, q2, q3, q4, -⟩ := Cond.selects_spec (a (.selects cls Bundle.tFill0 Bundle.tFill0) (by simp [Bundle.messageArmAtoms]))
    cases Option.some.inj (q1.symm.trans hfound)
    cases Option.some.inj (q2.symm.trans (State.methodFound?_of_named Y.fill0 (by decide)))
    cases Option.some.inj (q3.symm.trans Y.fill0)
    rw [Launch.admits_selectMethod X.admits]; exact q4
  have hselF : selectMethod e.platform s.vm P1.m.cls T.fill = .method T.fill := by
    obtain ⟨c2, r2, m2, q1, q2, q3, q4, -⟩ := Cond.selects_spec (a (.selects cls Bundle.tFill Bundle.tFill) (by simp [Bundle.messageArmAtoms]))
    cases Option.some.inj (q1.symm.trans hfound)
    cases Option.some.inj (q2.symm.trans (State.methodFound?_of_named Y.fill (by decide)))
    cases Option.some.inj (q3.symm.trans Y.fill)
    rw [Launch.admits_selectMethod X.admits]; exact q4
  obtain ⟨cellS0, hcS0, hiss⟩ := Y.statics
  obtain ⟨u0, hu0⟩ := Cond.staticRefV Y.unassigned L.unassignedStatic L.statics hcS0 hiss (a (.isRef (.static Bundle.tN "UNASSIGNED_STACK" Bundle.steD)) (by simp [Bundle.messageArmAtoms]))
  obtain ⟨sen, hsen⟩ := Cond.staticRefV Y.sentinel L.sentinelStatic L.statics hcS0 hiss (a (.isRef (.static Bundle.tN "SUPPRESSED_SENTINEL" Bundle.listD)) (by simp [Bundle.messageArmAtoms]))
  obtain ⟨ci198, i198, fB, hk198, hg198, ha198, hsB, -, hnB, htB, hffB⟩ := Cond.ownField (t := .object "java/lang/Object") Y.found L.cls (by decide +kernel) (a (.fieldLink Bundle.tN 198 Bundle.tN "backtrace" "Ljava/lang/Object;") (by simp [Bundle.messageArmAtoms])) (a (.lays Bundle.tN Bundle.tN "backtrace" "Ljava/lang/Object;") (by simp [Bundle.messageArmAtoms])) e.platform hpl
  obtain ⟨cellS, hcS', heS, -, hkeep⟩ := X.same.2.2.2.2.2 T.aS cellS0 hcS0
  have hcellS : W.heap[T.aS]? = some cellS := hcS'
  have hout' : ∀ i, (⟨T.aS, i⟩ : Loc) ∉ locs := fun i hmem => by
    have := hlocs _ hmem cellS0 hcS0
    rw [hiss] at this; cases this
  have hknownS : cellS.vm ≠ .unknown := by
    rw [heS]; intro hu
    rw [show cellS0.vm = .unknown from hu] at hiss
    cases hiss
  have hvU : cellS.slots[T.fUnassigned.slot]? = some u0.v := by rw [hkeep _ (hout' _)]; exact hu0
  have hvSen : cellS.slots[T.fSentinel.slot]? = some sen.v := by rw [hkeep _ (hout' _)]; exact hsen
  obtain ⟨iM, hffM⟩ := Y.msg
  obtain ⟨tyC, dC, hdC, hdnC⟩ := Cond.laysAt hfound hk Y.cause (a (.lays cls Bundle.tN "cause" "Ljava/lang/Throwable;") (by simp [Bundle.messageArmAtoms]))
  obtain ⟨tyS, dS, hdS, hdnS⟩ := Cond.laysAt hfound hk Y.stack (a (.lays cls Bundle.tN "stackTrace" Bundle.steD) (by simp [Bundle.messageArmAtoms]))
  obtain ⟨tyP, dP, hdP, hdnP⟩ := Cond.laysAt hfound hk Y.supp (a (.lays cls Bundle.tN "suppressedExceptions" Bundle.listD) (by simp [Bundle.messageArmAtoms]))
  obtain ⟨tyM, dM, hdM, hdnM⟩ := Cond.laysAt hfound hk hffM (a (.lays cls Bundle.tN "detailMessage" "Ljava/lang/String;") (by simp [Bundle.messageArmAtoms]))
  obtain ⟨tyB, dB, hdB, hdnB⟩ := Cond.laysAt hfound hk hffB (a (.lays cls Bundle.tN "backtrace" "Ljava/lang/Object;") (by simp [Bundle.messageArmAtoms]))
  have bC := Cond.laysApart hdB hdC hdnB hdnC (by rw [hnB, Y.causeName]; decide)
  have bS := Cond.laysApart hdB hdS hdnB hdnS (by rw [hnB, Y.stackName]; decide)
  have bP := Cond.laysApart hdB hdP hdnB hdnP (by rw [hnB, Y.suppName]; decide)
  have hbk : ((preparedCellV T.toThrowableT (freshCell P1.m.cls kX) (W.heap.size + 2) u0 sen).withEntry W.cur).slots[fB.slot]? = some .null := by
    have := fresh_default (c := P1.m.cls) tyB
    rw [htB] at this
    simpa [preparedCellV, Cell.setSlot, Cell.withEntry, Array.getElem?_setIfInBounds, bC, bS, bP, bC.symm, bS.symm, bP.symm, defaultValue] using this
  have tkC := Takes.of_laid (v := .ref (W.heap.size + 2)) hk hord tyC (by rw [Y.causeType]; rfl)
  have tkS := Takes.of_laid (v := u0.v) hk hord tyS (by rw [Y.stackType]; exact fits_refV_array _ u0)
  have tkP := Takes.of_laid (v := sen.v) hk hord tyP (by rw [Y.suppType]; exact fits_refV_object _ sen)
  have tkM := Takes.of_laid (v := .ref (W.heap.size + 1)) hk hord tyM (by rw [Y.msgType]; rfl)
  have hskip : SkipFacts T e.platform s (fun u => u) u0 ((preparedCellV T.toThrowableT (freshCell P1.m.cls kX) (W.heap.size + 2) u0 sen).withEntry W.cur) := ⟨{ ci198 := ci198, i198 := i198, fBack := fB }, ⟨hk198, hg198, ha198, hsB⟩, hbk, fun _ _ => rfl⟩
  have h0 : At W g.method c below := by rw [hg]; exact X.here
  obtain ⟨hbeyond, hfreeW⟩ := X.vmMayThrow hsize (.throwNew cls (some text) none) (fun f hf => by cases hf) rfl hRlocals
  have hfr' : W.frames.length + Ps.length + 4 < (e.platform.stackLimits W.me).1 := by have := X.framesAbove hRframes; omega
  have hwd' : (stackUse (.java g :: W.frames.tail)).2 + 13 * Ps.length + 55 ≤ (e.platform.stackLimits W.me).2 := by have := X.stackAbove hsize (K := 13 * Ps.length + 55) (by omega); omega
  have hslots : W.slotsUsed + (stringBytes (stringToUtf16 text)).size + Zs.kS.instanceTypes.size + kX.instanceTypes.size ≤ e.platform.maxSlots := by
    have := X.slotsAbove hRslots
    rw [hn4, hn6]
    omega
  obtain ⟨vm', hW', st⟩ := Steps.vmThrowsMessageColdByV p (s₀ := s) (S := W) (g := g) h0 hexec T L Z LZ M LM X.warmed (t := W.cur) rfl Zs LZs P1 L1 Ps hL hlink1 hlink hsoe hoom hfound hk hinit hord hctor
    (Launch.admits_hotImplicitExceptions X.admits) hbeyond hfreeW htext hlimit hheap (X.cellsAbove hRcells) hslots (hfitv _) (hfitc _)
    (Nn := fun u => u) heapOnly_id (fun _ _ => rfl) (fun _ => rfl) (fun u x y => setCell_twice _ _ _ _) (fun _ => Nat.le_refl _) (cN := ((preparedCellV T.toThrowableT (freshCell P1.m.cls kX) (W.heap.size + 2) u0 sen).withEntry W.cur))
    hsel0 hcellS hknownS hvU tkS (fun _ hu => hu) (fun _ hu => hu) rfl rfl rfl (by simp [preparedCellV, Cell.setSlot, Cell.withEntry]) hskip (fun _ _ hA hW _ hroom _ hrest => L.nativeOff p htr hA hW hroom hrest) hselF hvSen tkC tkP tkM Y.objLocals rfl hfr' hwd'
  rw [plainBareV_eq T.toThrowableT (W.heap.size + 2) u0 sen (.ref (W.heap.size + 1)) W.cur rfl rfl] at st
  obtain ⟨-, -, w3, w4, -, -, -⟩ := withThrown_facts e.platform W Zs text P1.m.cls kX
  have X3 := ((X.pushed (bytesOf Zs.cB (stringToUtf16 text))).pushed (stringAt Zs.cS Zs.kS Zs.fv Zs.fc (stringToUtf16 text) W.heap.size)).pushed (freshCell P1.m.cls kX)
  rw [← withString_eq] at X3
  have X4 := X3.noted hW'
  have ha : (W.heap.size + 2) < ((withThrown W Zs text P1.m.cls kX).setVm vm').heap.size := by show _ < (withThrown W Zs text P1.m.cls kX).heap.size; rw [w3]; omega
  have hcell : ((withThrown W Zs text P1.m.cls kX).setVm vm').heap[(W.heap.size + 2)]? = some (freshCell P1.m.cls kX) := w4
  have X5 := ((((X4.stored hcell T.fCause.slot (.ref (W.heap.size + 2))).storedAgain ha T.fStack.slot u0.v).storedAgain ha T.fSupp.slot sen.v).storedAgain ha T.fStack.slot u0.v).storedAgain ha T.fMsg.slot (.ref (W.heap.size + 1))
  obtain ⟨g₁, hfrM⟩ := X5.frames_eq
  have hU : ((((withThrown W Zs text P1.m.cls kX).setVm vm').setCell (W.heap.size + 2) (plainBareV T.toThrowableT (freshCell P1.m.cls kX) (W.heap.size + 2) u0 sen (.ref (W.heap.size + 1)))).setTop g).pushFrame (.throwing (W.heap.size + 2)) = (((withThrown W Zs text P1.m.cls kX).setVm vm').setCell (W.heap.size + 2) (plainBareV T.toThrowableT (freshCell P1.m.cls kX) (W.heap.size + 2) u0 sen (.ref (W.heap.size + 1)))).setFrames (.throwing (W.heap.size + 2) :: .java g :: below) := by
    rw [State.pushFrame, State.frames_setTop _ hfrM, State.setTop_of_frames _ hfrM, State.setFrames_setFrames]
  have b1 : (bytesOf Zs.cB (stringToUtf16 text)).slots.size = (stringBytes (stringToUtf16 text)).size := by
    rw [(Cell.writeAll_facts _ _).2.2]; simp [bytes0]
  have b2 : (stringAt Zs.cS Zs.kS Zs.fv Zs.fc (stringToUtf16 text) W.heap.size).slots.size = 4 := by simp [string0, Cell.setSlot, hn4]
  have b3 : (freshCell P1.m.cls kX).slots.size = 6 := by simp [hn6]
  rw [b1, b2, b3] at X5
  have e9 : slots + (stringBytes (stringToUtf16 text)).size + 4 + 6 = slots + ((stringBytes (stringToUtf16 text)).size + 4 + 6) := by omega
  rw [e9] at X5
  simp only [List.append_assoc, List.cons_append, List.nil_append] at X5
  refine ⟨((withThrown W Zs text P1.m.cls kX).setVm vm').setCell (W.heap.size + 2) (plainBareV T.toThrowableT (freshCell P1.m.cls kX) (W.heap.size + 2) u0 sen (.ref (W.heap.size + 1))), W.heap.size + 2, _, fun target ht => st _ (by rw [X.tail, ← hU]; exact ht),
    X5.forget (fun y hy => ?_), heapAt_setCell_self _ ha, hfound, rfl⟩
  simp only [List.mem_cons, List.not_mem_nil, or_false] at hy
  have hge : s.heap.size ≤ W.heap.size := X.same.2.1
  rcases hy with rfl | rfl | rfl | rfl | rfl <;> exact Nat.le_trans hge (Nat.le_add_right _ 2)
set_option maxHeartbeats 1000000 in
/-- the machine throws NullPointerException, no traces kept: from its note over the frame g to 'throwing' over the same frame (follows the proof of Stand.vmThrowsNpe, Shelf42/KT2.lean; throwsNpeColdBareVAt, Shelf42/NT91.lean, called) -/
theorem vx_npeAt {p : Program} {l : Launch} {e : Env} {R : Room} {s : State} {m₀ : MethodId} {args : Array Value} {below : List Frame} {meth : Method} {c : Code} {W : State} {locs : List Loc} {cells slots : Nat}
    (X : Stand p l e R s m₀ args below meth c W locs cells slots) (hexec : p.tables.exec = Jvm.exec) (htr : e.platform.stackTraces = false) {n : Nat}
    (h : ∀ a ∈ Bundle.npeArmAtoms n, a.before args s = true)
    (hlocs : ∀ x ∈ locs, ∀ cell, s.heap[x.base]? = some cell → cell.vm.isStatics = false)
    {g : JFrame} (hg : g.method = m₀) (hsize : g.locals.size = c.maxLocals)
    (hRframes : 7 < R.frames) (hRlocals : 2 * g.monitorRoom + (g.stack.map fun v => v.category).sum + 10240 ≤ R.locals)
    (hRcells : cells + 1 ≤ R.cells) (hRslots : slots + n ≤ R.slots) (hlocks : meth.locks = false) :
    ∃ (S : State) (q : Addr) (ce : Cell), (∀ target, Steps p.tables e below ((S.setTop g).pushFrame (.throwing q)) target → Steps p.tables e below ((W.setTop g).pushFrame (.throwNew "java/lang/NullPointerException" none none)) target) ∧
      Stand p l e R s m₀ args below meth c S locs (cells + 1) (slots + n) ∧ S.heap[q]? = some ce ∧ s.vm.findClass "java/lang/NullPointerException" = some ce.cls ∧ ce.vm = .none := by
  have howns : e.platform.frameOwnsMonitors = true := by rw [X.admits.platform]
  have hfin : e.platform.finalization = false := by rw [X.admits.platform]
  have hpl : e.platform.magicAccessors = ({} : Platform).magicAccessors := by rw [X.admits.platform]
  have hpl2 : e.platform.arrayCloneIsPublic = true := by rw [X.admits.platform]
  have a' : ∀ x, x ∈ Bundle.npeArmAtoms n → x.holds args s none s [] = true := fun x hx => h x hx
  obtain ⟨T, Z, L, LZ, Y⟩ := ThrowableC.of_atoms (args := args) howns hfin hpl (fun x hx => h x (by simp [Bundle.npeArmAtoms, hx]))
  obtain ⟨N, LN, hcN, hnNF, hordN, hffS⟩ := NpeC.of_atoms (args := args) hpl hpl2 L Y (fun x hx => h x (by simp [Bundle.npeArmAtoms, hx]))
  obtain ⟨P1, L1, hP1m, hP1s⟩ := PassC.of_atoms (args := args) (s := s) hpl (X := Bundle.nN) (Y := Bundle.rN) (by decide) (by decide) LibCode.NullPointerException.Init0.at_0 LibCode.NullPointerException.Init0.at_1 LibCode.NullPointerException.Init0.at_4 (fun x hx => h x (by simp [Bundle.npeArmAtoms, hx]))
  obtain ⟨PR, LR, hPRm, hPRs⟩ := PassC.of_atoms (args := args) (s := s) hpl (X := Bundle.rN) (Y := Bundle.eN) (by decide) (by decide) LibCode.RuntimeException.Init0.at_0 LibCode.RuntimeException.Init0.at_1 LibCode.RuntimeException.Init0.at_4 (fun x hx => h x (by simp [Bundle.npeArmAtoms, hx]))
  obtain ⟨PE, LEx, hPEm, hPEs⟩ := PassC.of_atoms (args := args) (s := s) hpl (X := Bundle.eN) (Y := Bundle.tN) (by decide) (by decide) LibCode.Exception.Init0.at_0 LibCode.Exception.Init0.at_1 LibCode.Exception.Init0.at_4 (fun x hx => h x (by simp [Bundle.npeArmAtoms, hx]))
  have hfound : s.vm.findClass Bundle.nN = some P1.m.cls := findClass_of_methodNamed hP1m
  have ecls : N.cN = P1.m.cls := Option.some.inj (hcN.symm.trans hfound)
  have hk : s.vm.classes[P1.m.cls]? = some N.kN := by rw [← ecls]; exact LN.cls
  have hinit := Cond.initialized_spec hfound hk (a' (.initialized Bundle.nN) (by simp [Bundle.npeArmAtoms]))
  have hctor : N.kN.findMethod "<init>" "()V" = some P1.m.idx := findMethod_of_methodNamed hP1m hk
  obtain ⟨c1, k1, hc1, hk1, -, -, -, hn⟩ := Cond.instantiable_spec (a' (.instantiable Bundle.nN n) (by simp [Bundle.npeArmAtoms]))
  cases Option.some.inj (hc1.symm.trans hfound)
  cases Option.some.inj (hk1.symm.trans hk)
  have hfsz : (freshCell P1.m.cls N.kN).slots.size = n := by simp [hn]
  have hlink1 : P1.sup = PR.m := Option.some.inj (hP1s.symm.trans hPRm)
  have hlinkR : PR.sup = PE.m := Option.some.inj (hPRs.symm.trans hPEm)
  have hlinkE : PE.sup = Z.m T.toThrowableT := Option.some.inj (hPEs.symm.trans Y.init0)
  have hLs : ∀ P, P ∈ [PR, PE] → P.Links0 e.platform s := fun P hP => by
    simp only [List.mem_cons, List.not_mem_nil, or_false] at hP
    rcases hP with rfl | rfl
    · exact LR
    · exact LEx
  have hsel0 : selectMethod e.platform s.vm P1.m.cls T.fill0 = .method T.fill0 := by
    obtain ⟨c2, r2, m2, q1, q2, q3, q4, -⟩ := Cond.selects_spec (a' (.selects Bundle.nN Bundle.tFill0 Bundle.tFill0) (by simp [Bundle.npeArmAtoms]))
    cases Option.some.inj (q1.symm.trans hfound)
    cases Option.some.inj (q2.symm.trans (State.methodFound?_of_named Y.fill0 (by decide)))
    cases Option.some.inj (q3.symm.trans Y.fill0)
    rw [Launch.admits_selectMethod X.admits]; exact q4
  have hselF : selectMethod e.platform s.vm P1.m.cls T.fill = .method N.fill := by
    obtain ⟨c2, r2, m2, q1, q2, q3, q4, -⟩ := Cond.selects_spec (a' (.selects Bundle.nN Bundle.tFill Bundle.nFill) (by simp [Bundle.npeArmAtoms]))
    cases Option.some.inj (q1.symm.trans hfound)
    cases Option.some.inj (q2.symm.trans (State.methodFound?_of_named Y.fill (by decide)))
    cases Option.some.inj (q3.symm.trans hnNF)
    rw [Launch.admits_selectMethod X.admits]; exact q4
  obtain ⟨cellS0, hcS0, hiss⟩ := Y.statics
  obtain ⟨u0, hu0⟩ := Cond.staticRefV Y.unassigned L.unassignedStatic L.statics hcS0 hiss (a' (.isRef (.static Bundle.tN "UNASSIGNED_STACK" Bundle.steD)) (by simp [Bundle.npeArmAtoms]))
  obtain ⟨sen, hsen⟩ := Cond.staticRefV Y.sentinel L.sentinelStatic L.statics hcS0 hiss (a' (.isRef (.static Bundle.tN "SUPPRESSED_SENTINEL" Bundle.listD)) (by simp [Bundle.npeArmAtoms]))
  obtain ⟨ci198, i198, fB, hk198, hg198, ha198, hsB, -, hnB, htB, hffB⟩ := Cond.ownField (t := .object "java/lang/Object") Y.found L.cls (by decide +kernel) (a' (.fieldLink Bundle.tN 198 Bundle.tN "backtrace" Bundle.objD) (by simp [Bundle.npeArmAtoms])) (a' (.lays Bundle.tN Bundle.tN "backtrace" Bundle.objD) (by simp [Bundle.npeArmAtoms])) e.platform hpl
  obtain ⟨cellS, hcS', heS, -, hkeep⟩ := X.same.2.2.2.2.2 T.aS cellS0 hcS0
  have hcellS : W.heap[T.aS]? = some cellS := hcS'
  have hout' : ∀ i, (⟨T.aS, i⟩ : Loc) ∉ locs := fun i hmem => by
    have := hlocs _ hmem cellS0 hcS0
    rw [hiss] at this; cases this
  have hknownS : cellS.vm ≠ .unknown := by
    rw [heS]; intro hu
    rw [show cellS0.vm = .unknown from hu] at hiss
    cases hiss
  have hvU : cellS.slots[T.fUnassigned.slot]? = some u0.v := by rw [hkeep _ (hout' _)]; exact hu0
  have hvSen : cellS.slots[T.fSentinel.slot]? = some sen.v := by rw [hkeep _ (hout' _)]; exact hsen
  obtain ⟨tyC, dC, hdC, hdnC⟩ := Cond.laysAt hfound hk Y.cause (a' (.lays Bundle.nN Bundle.tN "cause" "Ljava/lang/Throwable;") (by simp [Bundle.npeArmAtoms]))
  obtain ⟨tyS, dS, hdS, hdnS⟩ := Cond.laysAt hfound hk Y.stack (a' (.lays Bundle.nN Bundle.tN "stackTrace" Bundle.steD) (by simp [Bundle.npeArmAtoms]))
  obtain ⟨tyP, dP, hdP, hdnP⟩ := Cond.laysAt hfound hk Y.supp (a' (.lays Bundle.nN Bundle.tN "suppressedExceptions" Bundle.listD) (by simp [Bundle.npeArmAtoms]))
  obtain ⟨tyX, dX, hdX, hdnX⟩ := Cond.laysAt hfound hk hffS (a' (.lays Bundle.nN Bundle.nN "extendedMessageState" "I") (by simp [Bundle.npeArmAtoms, Bundle.npeAtoms]))
  obtain ⟨hnX, htX⟩ := State.fieldFound?_type hffS (t := .int) (by decide +kernel)
  have xC := Cond.laysApart hdC hdX hdnC hdnX (by rw [hnX, Y.causeName]; decide)
  have xS := Cond.laysApart hdS hdX hdnS hdnX (by rw [hnX, Y.stackName]; decide)
  have xP := Cond.laysApart hdP hdX hdnP hdnX (by rw [hnX, Y.suppName]; decide)
  have hv0 : (freshCell P1.m.cls N.kN).slots[N.fState.slot]? = some (.int 0) := by
    have := fresh_default (c := P1.m.cls) tyX
    rw [htX] at this; exact this
  obtain ⟨tyB, dB, hdB, hdnB⟩ := Cond.laysAt hfound hk hffB (a' (.lays Bundle.nN Bundle.tN "backtrace" Bundle.objD) (by simp [Bundle.npeArmAtoms]))
  have bC := Cond.laysApart hdB hdC hdnB hdnC (by rw [hnB, Y.causeName]; decide)
  have bS := Cond.laysApart hdB hdS hdnB hdnS (by rw [hnB, Y.stackName]; decide)
  have bP := Cond.laysApart hdB hdP hdnB hdnP (by rw [hnB, Y.suppName]; decide)
  have bX := Cond.laysApart hdB hdX hdnB hdnX (by rw [hnB, hnX]; decide)
  have hbk : ((npeCell N.toNpeT (preparedCellV T.toThrowableT (freshCell P1.m.cls N.kN) W.heap.size u0 sen) W.cur).withEntry W.cur).slots[fB.slot]? = some .null := by
    have := fresh_default (c := P1.m.cls) tyB
    rw [htB] at this
    simpa [npeCell, preparedCellV, Cell.setSlot, Cell.withEntry, Array.getElem?_setIfInBounds, bC, bS, bP, bX, bC.symm, bS.symm, bP.symm, bX.symm, defaultValue] using this
  have tkC := Takes.of_laid (v := .ref W.heap.size) hk hordN tyC (by rw [Y.causeType]; rfl)
  have tkS := Takes.of_laid (v := u0.v) hk hordN tyS (by rw [Y.stackType]; exact fits_refV_array _ u0)
  have tkP := Takes.of_laid (v := sen.v) hk hordN tyP (by rw [Y.suppType]; exact fits_refV_object _ sen)
  have tkX := Takes.of_laid (v := .int 1) hk hordN tyX (by rw [htX]; rfl)
  have hskip : SkipFacts T e.platform s (fun u => u) u0 ((npeCell N.toNpeT (preparedCellV T.toThrowableT (freshCell P1.m.cls N.kN) W.heap.size u0 sen) W.cur).withEntry W.cur) := ⟨{ ci198 := ci198, i198 := i198, fBack := fB }, ⟨hk198, hg198, ha198, hsB⟩, hbk, fun _ _ => rfl⟩
  obtain ⟨vm', X3, st, -⟩ := X.throwsNpeColdBareVAt hexec hg hsize T L Z LZ N LN P1 L1 [PR, PE] hLs hlink1 ⟨hlinkR, hlinkE, trivial⟩ hfound hk hinit hordN hctor hsel0 hselF hcellS hknownS hvU hvSen
    hv0 xC xS xP tkC tkS tkP tkX Y.objLocals hskip (fun _ _ hA hW _ hroom _ hrest => L.nativeOff p htr hA hW hroom hrest) (by simpa using hRframes) hRlocals (by simp) hRcells (by rw [hn]; exact hRslots)
  have hlt : W.heap.size < ((W.pushCell (freshCell P1.m.cls N.kN)).setVm vm').heap.size := by
    show W.heap.size < (W.pushCell (freshCell P1.m.cls N.kN)).heap.size
    rw [State.heap_size_pushCell]; omega
  rw [hfsz] at X3
  obtain ⟨g₁, hfrM⟩ := X3.frames_eq
  have hU : ((((W.pushCell (freshCell P1.m.cls N.kN)).setVm vm').setCell W.heap.size (npeBareV T.toThrowableT N.toNpeT (freshCell P1.m.cls N.kN) W.heap.size u0 sen)).setTop g).pushFrame (.throwing W.heap.size) = (((W.pushCell (freshCell P1.m.cls N.kN)).setVm vm').setCell W.heap.size (npeBareV T.toThrowableT N.toNpeT (freshCell P1.m.cls N.kN) W.heap.size u0 sen)).setFrames (.throwing W.heap.size :: .java g :: below) := by
    rw [State.pushFrame, State.frames_setTop _ hfrM, State.setTop_of_frames _ hfrM, State.setFrames_setFrames]
  refine ⟨_, W.heap.size, _, fun target ht => st.trans (by rw [← hU]; exact ht), X3.forget (fun y hy => ?_), heapAt_setCell_self _ hlt, hfound, rfl⟩
  simp only [List.mem_cons, List.not_mem_nil, or_false] at hy
  have hge : s.heap.size ≤ W.heap.size := X.same.2.1
  rcases hy with rfl | rfl | rfl | rfl | rfl <;> exact hge
/-- the words of a machine's NullPointerException, but the four that speak of the heap -/
def vx_atN (n : Nat) : List Cond := (Bundle.npeArmAtoms n).filter vx_no
/-- the words of a machine's throw with a message, but the four that speak of the heap -/
def vx_atM (X : String) (names : List String) : List Cond := (Bundle.messageArmAtoms X names).filter vx_no
section
variable {p : Program} {l : Launch} {e : Env} {R : Room} {s : State} {m : MethodId} {args : Array Value} {below : List Frame} {meth : Method} {c : Code} {H : Heap} {locs : List Loc} {cells slots : Nat}
/-- a frame seen from a rebased start, seen from the first start again -/
theorem vx_back9 {T S : State} {R' : Room} {k n : Nat} (X : Stand p l e R s m args below meth c T locs cells slots) (Y : Stand p l e R' ((T.setVm s.vm).setFrames (.invoking m args :: below)) m args below meth c T [] 0 0) (Z : Stand p l e R' ((T.setVm s.vm).setFrames (.invoking m args :: below)) m args below meth c S [] k n) :
    Stand p l e R s m args below meth c S locs (cells + k) (slots + n) := by
  have hW0 : s.WarmedH ((T.setVm s.vm).setFrames (.invoking m args :: below)).vm := State.WarmedH.refl s
  refine { admits := X.admits, cas := X.cas, clock := X.clock, frames := X.frames, room := X.room, hears := X.hears, method := X.method, code := X.code, here := Z.here, tail := Z.tail, warmed := State.WarmedH.trans hW0 Z.warmed, limits := Z.limits.trans (Y.limits.symm.trans X.limits), bytes := Z.bytes.trans (Y.bytes.symm.trans X.bytes), same := ?_ }
  obtain ⟨e1, e2⟩ := Z.same
  rw [State.setFrames_setFrames] at e1
  have h2 : (T.setVm s.vm).sameButNew (S.setVm s.vm) [] k n := ⟨e1, e2⟩
  have h3 := X.same.trans h2
  rw [List.append_nil] at h3
  exact h3
/-- from the machine's note that E is thrown here with this text -/
def vx_Note (p : Program) (l : Launch) (e : Env) (R : Room) (s : State) (m : MethodId) (args : Array Value) (below : List Frame) (meth : Method) (c : Code) (H : Heap) (locs : List Loc) (cells slots : Nat) (Q : State → Prop) (g : JFrame) (E text : String) : Prop :=
  ∀ T : State, T.heap = H → Stand p l e R s m args below meth c T locs cells slots → ∃ t, Steps p.tables e below ((T.setTop g).pushFrame (.throwNew E (some text) none)) t ∧ Q t
theorem vx_vm {pc : Nat} {ls : Array Slot} {rest : List Value} {Q : State → Prop} (hexec : p.tables.exec = Jvm.exec) (hl : l.stackTraces = false) {cls text : String} {names : List String} {nb : Nat} {A : Nat → Prop}
    (hcls : Bundle.fit cls = true) (hnames : ∀ n ∈ names, Bundle.fit n = true) (hsoe : (cls == "java/lang/StackOverflowError") = false) (hoom : (cls == "java/lang/OutOfMemoryError") = false)
    (hat : ∀ w ∈ vx_atM cls names, w.before args s = true) (hgood : ∀ w ∈ vx_atM cls names, vx_ot w = true)
    (hU : vx_Zq Bundle.tN "UNASSIGNED_STACK" Bundle.steD A s s.heap) (hN : vx_Zq Bundle.tN "SUPPRESSED_SENTINEL" Bundle.listD A s s.heap) (hS : va_S A s.heap H locs) (hsize : ls.size = c.maxLocals)
    (htext : (text == notModelled) = false) (hnb : (stringBytes (stringToUtf16 text)).size ≤ nb) (hnb1 : nb ≤ 1000)
    (hRframes : names.length + 4 < R.frames) (hRlocals : (rest.map fun v => v.category).sum + 10240 ≤ R.locals) (hshort : 13 * names.length + 55 ≤ 10240) (hRcells : cells + 3 ≤ R.cells) (hRslots : slots + (nb + 10) ≤ R.slots) (hlocks : meth.locks = false)
    (k : ∀ (H1 : Heap) (q9 : Addr) (ce : Cell), H.size ≤ H1.size → (∀ q : Nat, q < H.size → H1[q]? = H[q]?) → va_S A s.heap H1 locs → H1[q9]? = some ce → ce.vm = .none → s.vm.findClass cls = some ce.cls → vx_W p l e R s m args below meth c H1 locs (cells + 3) (slots + (nb + 10)) Q (F0 m pc ls rest) q9) :
    vx_Note p l e R s m args below meth c H locs cells slots Q (F0 m pc ls rest) cls text := by
  intro T hT X
  have htr : e.platform.stackTraces = false := (show e.platform.stackTraces = l.stackTraces by rw [X.admits.platform]).trans hl
  have Y := vx_rebase X (R' := { frames := R.frames, locals := R.locals, cells := 3, slots := nb + 10 }) (Nat.le_refl _) (Nat.le_refl _) hRcells hRslots
  have hhp : ((T.setVm s.vm).setFrames (.invoking m args :: below)).heap = H := hT
  have hW0 : s.WarmedH ((T.setVm s.vm).setFrames (.invoking m args :: below)).vm := State.WarmedH.refl s
  have hat' : ∀ w ∈ vx_atM cls names, w.before args ((T.setVm s.vm).setFrames (.invoking m args :: below)) = true := fun w hw => vx_ot_at hW0 rfl (hgood w hw) (hat w hw)
  have hU' : vx_Zq Bundle.tN "UNASSIGNED_STACK" Bundle.steD A ((T.setVm s.vm).setFrames (.invoking m args :: below)) ((T.setVm s.vm).setFrames (.invoking m args :: below)).heap := by rw [hhp]; exact vx_Zq.moved hW0.alike (hU.kept hS.2.1)
  have hN' : vx_Zq Bundle.tN "SUPPRESSED_SENTINEL" Bundle.listD A ((T.setVm s.vm).setFrames (.invoking m args :: below)) ((T.setVm s.vm).setFrames (.invoking m args :: below)).heap := by rw [hhp]; exact vx_Zq.moved hW0.alike (hN.kept hS.2.1)
  obtain ⟨S, q, ce, st, Z, hce, hcl', hv⟩ := vx_vmAt Y hexec htr (cls := cls) (names := names) (text := text) hcls hnames hsoe hoom (vx_own hat' (vx_isRefq hU'.1) (vx_isRefq hN'.1) hU'.2.word hN'.2.word) (fun x hx => nomatch hx) htext
    (by rw [Launch.admits_arrayLengthLimit X.admits]; omega) (by rw [Launch.admits_maxHeapBytes X.admits]; simp only [componentBytes]; omega)
    (g := F0 m pc ls rest) rfl hsize hRframes (by show 2 * 0 + (rest.map fun v => v.category).sum + 10240 ≤ R.locals; omega) hshort (by show 0 + 3 ≤ 3; omega) (by show 0 + (_ + 4 + 6) ≤ nb + 10; omega) hlocks
  obtain ⟨f1, f2⟩ := vx_frame Z.same
  have f1' : H.size ≤ S.heap.size := by rw [← hT]; exact f1
  have f2' : ∀ q : Nat, q < H.size → S.heap[q]? = H[q]? := fun q hq => by
    rw [← hT]
    exact f2 q (by rw [← hT] at hq; exact hq) (fun z hz => nomatch hz)
  have X5 := vx_back9 X Y Z
  have X6 : Stand p l e R s m args below meth c S locs (cells + 3) (slots + (nb + 10)) := { X5 with same := X5.same.mono (by omega) (by omega) }
  obtain ⟨t, a1, b1⟩ := k S.heap q ce f1' f2' ⟨Nat.le_trans hS.1 f1', fun q h1 h2 => (f2' q (Nat.lt_of_lt_of_le h1 hS.1)).trans (hS.2.1 q h1 h2), hS.2.2⟩ hce hv hcl' S rfl X6
  exact ⟨t, st t a1, b1⟩
/-- from the machine's note that NullPointerException is thrown here -/
def vx_NoteN (p : Program) (l : Launch) (e : Env) (R : Room) (s : State) (m : MethodId) (args : Array Value) (below : List Frame) (meth : Method) (c : Code) (H : Heap) (locs : List Loc) (cells slots : Nat) (Q : State → Prop) (g : JFrame) : Prop :=
  ∀ T : State, T.heap = H → Stand p l e R s m args below meth c T locs cells slots → ∃ t, Steps p.tables e below ((T.setTop g).pushFrame (.throwNew "java/lang/NullPointerException" none none)) t ∧ Q t
theorem vx_npe {pc : Nat} {ls : Array Slot} {rest : List Value} {Q : State → Prop} (hexec : p.tables.exec = Jvm.exec) (hl : l.stackTraces = false) {nb : Nat} {A : Nat → Prop}
    (hat : ∀ w ∈ vx_atN nb, w.before args s = true) (hgood : ∀ w ∈ vx_atN nb, vx_ot w = true)
    (hU : vx_Zq Bundle.tN "UNASSIGNED_STACK" Bundle.steD A s s.heap) (hN : vx_Zq Bundle.tN "SUPPRESSED_SENTINEL" Bundle.listD A s s.heap) (hS : va_S A s.heap H locs) (hsize : ls.size = c.maxLocals)
    (hRframes : 7 < R.frames) (hRlocals : (rest.map fun v => v.category).sum + 10240 ≤ R.locals) (hRcells : cells + 1 ≤ R.cells) (hRslots : slots + nb ≤ R.slots) (hlocks : meth.locks = false)
    (k : ∀ (H1 : Heap) (q9 : Addr) (ce : Cell), H.size ≤ H1.size → (∀ q : Nat, q < H.size → H1[q]? = H[q]?) → va_S A s.heap H1 locs → H1[q9]? = some ce → ce.vm = .none → s.vm.findClass "java/lang/NullPointerException" = some ce.cls → vx_W p l e R s m args below meth c H1 locs (cells + 1) (slots + nb) Q (F0 m pc ls rest) q9) :
    vx_NoteN p l e R s m args below meth c H locs cells slots Q (F0 m pc ls rest) := by
  intro T hT X
  have htr : e.platform.stackTraces = false := (show e.platform.stackTraces = l.stackTraces by rw [X.admits.platform]).trans hl
  have Y := vx_rebase X (R' := { frames := R.frames, locals := R.locals, cells := 1, slots := nb }) (Nat.le_refl _) (Nat.le_refl _) hRcells hRslots
  have hhp : ((T.setVm s.vm).setFrames (.invoking m args :: below)).heap = H := hT
  have hW0 : s.WarmedH ((T.setVm s.vm).setFrames (.invoking m args :: below)).vm := State.WarmedH.refl s
  have hat' : ∀ w ∈ vx_atN nb, w.before args ((T.setVm s.vm).setFrames (.invoking m args :: below)) = true := fun w hw => vx_ot_at hW0 rfl (hgood w hw) (hat w hw)
  have hU' : vx_Zq Bundle.tN "UNASSIGNED_STACK" Bundle.steD A ((T.setVm s.vm).setFrames (.invoking m args :: below)) ((T.setVm s.vm).setFrames (.invoking m args :: below)).heap := by rw [hhp]; exact vx_Zq.moved hW0.alike (hU.kept hS.2.1)
  have hN' : vx_Zq Bundle.tN "SUPPRESSED_SENTINEL" Bundle.listD A ((T.setVm s.vm).setFrames (.invoking m args :: below)) ((T.setVm s.vm).setFrames (.invoking m args :: below)).heap := by rw [hhp]; exact vx_Zq.moved hW0.alike (hN.kept hS.2.1)
  obtain ⟨S, q, ce, st, Z, hce, hcl', hv⟩ := vx_npeAt Y hexec htr (n := nb) (vx_own hat' (vx_isRefq hU'.1) (vx_isRefq hN'.1) hU'.2.word hN'.2.word) (fun x hx => nomatch hx)
    (g := F0 m pc ls rest) rfl hsize hRframes (by show 2 * 0 + (rest.map fun v => v.category).sum + 10240 ≤ R.locals; omega) (by show 0 + 1 ≤ 1; omega) (by show 0 + nb ≤ nb; omega) hlocks
  obtain ⟨f1, f2⟩ := vx_frame Z.same
  have f1' : H.size ≤ S.heap.size := by rw [← hT]; exact f1
  have f2' : ∀ q : Nat, q < H.size → S.heap[q]? = H[q]? := fun q hq => by
    rw [← hT]
    exact f2 q (by rw [← hT] at hq; exact hq) (fun z hz => nomatch hz)
  have X5 := vx_back9 X Y Z
  have X6 : Stand p l e R s m args below meth c S locs (cells + 1) (slots + nb) := { X5 with same := X5.same.mono (by omega) (by omega) }
  obtain ⟨t, a1, b1⟩ := k S.heap q ce f1' f2' ⟨Nat.le_trans hS.1 f1', fun q h1 h2 => (f2' q (Nat.lt_of_lt_of_le h1 hS.1)).trans (hS.2.1 q h1 h2), hS.2.2⟩ hce hv hcl' S rfl X6
  exact ⟨t, st t a1, b1⟩
variable {Q : State → Prop} {cc : ByteArray} {pc : Nat} {ls : Array Slot} {rest : List Value}
theorem vx_idivZ (hexec : p.tables.exec = Jvm.exec) (hb : c.code = cc) {a b : Int32} (h0 : b = 0) (d : decode cc pc = .ok (.idiv, 1)) (k : vx_Note p l e R s m args below meth c H locs cells slots Q (F0 m pc ls rest) "java/lang/ArithmeticException" "/ by zero") :
    W p l e R s m args below meth c H locs cells slots Q (F0 m pc ls (.int b :: .int a :: rest)) := by
  intro T hT X
  obtain ⟨t, st, q⟩ := k T hT X
  exact ⟨t, X.idivZero hexec (g := F0 m pc ls (.int b :: .int a :: rest)) rfl (a := a) (rest := rest) (by rw [h0]) (by rw [hb]; exact d) t st, q⟩
theorem vx_iremZ (hexec : p.tables.exec = Jvm.exec) (hb : c.code = cc) {a b : Int32} (h0 : b = 0) (d : decode cc pc = .ok (.irem, 1)) (k : vx_Note p l e R s m args below meth c H locs cells slots Q (F0 m pc ls rest) "java/lang/ArithmeticException" "/ by zero") :
    W p l e R s m args below meth c H locs cells slots Q (F0 m pc ls (.int b :: .int a :: rest)) := by
  intro T hT X
  obtain ⟨t, st, q⟩ := k T hT X
  exact ⟨t, X.iremZero hexec (g := F0 m pc ls (.int b :: .int a :: rest)) rfl (a := a) (rest := rest) (by rw [h0]) (by rw [hb]; exact d) t st, q⟩
theorem vx_ldivZ (hexec : p.tables.exec = Jvm.exec) (hb : c.code = cc) {a b : Int64} (h0 : b = 0) (d : decode cc pc = .ok (.ldiv, 1)) (k : vx_Note p l e R s m args below meth c H locs cells slots Q (F0 m pc ls rest) "java/lang/ArithmeticException" "/ by zero") :
    W p l e R s m args below meth c H locs cells slots Q (F0 m pc ls (.long b :: .long a :: rest)) := by
  intro T hT X
  obtain ⟨t, st, q⟩ := k T hT X
  exact ⟨t, X.ldivZero hexec (g := F0 m pc ls (.long b :: .long a :: rest)) rfl (a := a) (rest := rest) (by rw [h0]) (by rw [hb]; exact d) t st, q⟩
theorem vx_lremZ (hexec : p.tables.exec = Jvm.exec) (hb : c.code = cc) {a b : Int64} (h0 : b = 0) (d : decode cc pc = .ok (.lrem, 1)) (k : vx_Note p l e R s m args below meth c H locs cells slots Q (F0 m pc ls rest) "java/lang/ArithmeticException" "/ by zero") :
    W p l e R s m args below meth c H locs cells slots Q (F0 m pc ls (.long b :: .long a :: rest)) := by
  intro T hT X
  obtain ⟨t, st, q⟩ := k T hT X
  exact ⟨t, X.lremZero hexec (g := F0 m pc ls (.long b :: .long a :: rest)) rfl (a := a) (rest := rest) (by rw [h0]) (by rw [hb]; exact d) t st, q⟩
theorem vx_ialdZ {D : va_G} {cl : List vw_C} {ws : va_W} {tys : List (ClassId × FieldType)} {a : Nat} (hexec : p.tables.exec = Jvm.exec) (hb : c.code = cc) (hK : va_K D cl tys s) (hP : va_P D cl ws H) (q0 t0 : Nat) {cA : ClassId} {n : Nat} {f : Nat → Int32} (ha : ws[q0]? = some (a, .inl (cA, n, .inl f))) (ht : tys[t0]? = some (cA, .int)) {i : Int32} (hout : ¬ vp_in i n) (hdg : decode cc pc = .ok (.iaload, 1))
    (k : ∀ tx : String, tx = (toString "Index " ++ toString i ++ toString " out of bounds for length " ++ toString n : String) → vx_Note p l e R s m args below meth c H locs cells slots Q (F0 m pc ls rest) "java/lang/ArrayIndexOutOfBoundsException" tx) : W p l e R s m args below meth c H locs cells slots Q (F0 m pc ls (.int i :: .ref a :: rest)) := by
  intro T hT X
  obtain ⟨t, st, q⟩ := k _ rfl T hT X
  refine ⟨t, ?_, q⟩
  have h1 := X.ialoadOut hexec (by rw [hT]; exact hP q0 _ ha) ((hK.2 t0 _ ht).1 n (fun j => .int (f j))) (j := i) (by show (i < 0 ∨ (arrV _ _ _).slots.size ≤ _); rw [arrV_size]; exact Classical.byContradiction hout) (g := F0 m pc ls (.int i :: .ref a :: rest)) rfl (rest := rest) rfl (by rw [hb]; exact hdg) t
  simp only [arrV_size] at h1
  exact h1 st
theorem vx_iastZ {D : va_G} {cl : List vw_C} {ws : va_W} {tys : List (ClassId × FieldType)} {a : Nat} (hexec : p.tables.exec = Jvm.exec) (hb : c.code = cc) (hK : va_K D cl tys s) (hP : va_P D cl ws H) (q0 t0 : Nat) {cA : ClassId} {n : Nat} {f : Nat → Int32} (ha : ws[q0]? = some (a, .inl (cA, n, .inl f))) (ht : tys[t0]? = some (cA, .int)) {i : Int32} {x : Int32} (hout : ¬ vp_in i n) (hdg : decode cc pc = .ok (.iastore, 1))
    (k : ∀ tx : String, tx = (toString "Index " ++ toString i ++ toString " out of bounds for length " ++ toString n : String) → vx_Note p l e R s m args below meth c H locs cells slots Q (F0 m pc ls rest) "java/lang/ArrayIndexOutOfBoundsException" tx) : W p l e R s m args below meth c H locs cells slots Q (F0 m pc ls (.int x :: .int i :: .ref a :: rest)) := by
  intro T hT X
  obtain ⟨t, st, q⟩ := k _ rfl T hT X
  refine ⟨t, ?_, q⟩
  have h1 := X.iastoreOut hexec (by rw [hT]; exact hP q0 _ ha) ((hK.2 t0 _ ht).1 n (fun j => .int (f j))) (j := i) (by show (i < 0 ∨ (arrV _ _ _).slots.size ≤ _); rw [arrV_size]; exact Classical.byContradiction hout) (g := F0 m pc ls (.int x :: .int i :: .ref a :: rest)) rfl (rest := rest) rfl (by rw [hb]; exact hdg) t
  simp only [arrV_size] at h1
  exact h1 st
theorem vx_baldZ {D : va_G} {cl : List vw_C} {ws : va_W} {tys : List (ClassId × FieldType)} {a : Nat} (hexec : p.tables.exec = Jvm.exec) (hb : c.code = cc) (hK : va_K D cl tys s) (hP : va_P D cl ws H) (q0 t0 : Nat) {cA : ClassId} {n : Nat} {f : Nat → Int32} (ha : ws[q0]? = some (a, .inl (cA, n, .inl f))) (ht : tys[t0]? = some (cA, .byte)) {i : Int32} (hout : ¬ vp_in i n) (hdg : decode cc pc = .ok (.baload, 1))
    (k : ∀ tx : String, tx = (toString "Index " ++ toString i ++ toString " out of bounds for length " ++ toString n : String) → vx_Note p l e R s m args below meth c H locs cells slots Q (F0 m pc ls rest) "java/lang/ArrayIndexOutOfBoundsException" tx) : W p l e R s m args below meth c H locs cells slots Q (F0 m pc ls (.int i :: .ref a :: rest)) := by
  intro T hT X
  obtain ⟨t, st, q⟩ := k _ rfl T hT X
  refine ⟨t, ?_, q⟩
  have h1 := X.baloadOut hexec (by rw [hT]; exact hP q0 _ ha) ((hK.2 t0 _ ht).1 n (fun j => .int (f j))) (j := i) (by show (i < 0 ∨ (arrV _ _ _).slots.size ≤ _); rw [arrV_size]; exact Classical.byContradiction hout) (g := F0 m pc ls (.int i :: .ref a :: rest)) rfl (rest := rest) rfl (by rw [hb]; exact hdg) t
  simp only [arrV_size] at h1
  exact h1 st
theorem vx_bastZ {D : va_G} {cl : List vw_C} {ws : va_W} {tys : List (ClassId × FieldType)} {a : Nat} (hexec : p.tables.exec = Jvm.exec) (hb : c.code = cc) (hK : va_K D cl tys s) (hP : va_P D cl ws H) (q0 t0 : Nat) {cA : ClassId} {n : Nat} {f : Nat → Int32} (ha : ws[q0]? = some (a, .inl (cA, n, .inl f))) (ht : tys[t0]? = some (cA, .byte)) {i : Int32} {x : Int32} (hout : ¬ vp_in i n) (hdg : decode cc pc = .ok (.bastore, 1))
    (k : ∀ tx : String, tx = (toString "Index " ++ toString i ++ toString " out of bounds for length " ++ toString n : String) → vx_Note p l e R s m args below meth c H locs cells slots Q (F0 m pc ls rest) "java/lang/ArrayIndexOutOfBoundsException" tx) : W p l e R s m args below meth c H locs cells slots Q (F0 m pc ls (.int x :: .int i :: .ref a :: rest)) := by
  intro T hT X
  obtain ⟨t, st, q⟩ := k _ rfl T hT X
  refine ⟨t, ?_, q⟩
  have h1 := X.bastoreOut hexec (by rw [hT]; exact hP q0 _ ha) ((hK.2 t0 _ ht).1 n (fun j => .int (f j))) (j := i) (by show (i < 0 ∨ (arrV _ _ _).slots.size ≤ _); rw [arrV_size]; exact Classical.byContradiction hout) (g := F0 m pc ls (.int x :: .int i :: .ref a :: rest)) rfl (rest := rest) rfl (by rw [hb]; exact hdg) t
  simp only [arrV_size] at h1
  exact h1 st
theorem vx_zaldZ {D : va_G} {cl : List vw_C} {ws : va_W} {tys : List (ClassId × FieldType)} {a : Nat} (hexec : p.tables.exec = Jvm.exec) (hb : c.code = cc) (hK : va_K D cl tys s) (hP : va_P D cl ws H) (q0 t0 : Nat) {cA : ClassId} {n : Nat} {f : Nat → Int32} (ha : ws[q0]? = some (a, .inl (cA, n, .inl f))) (ht : tys[t0]? = some (cA, .boolean)) {i : Int32} (hout : ¬ vp_in i n) (hdg : decode cc pc = .ok (.baload, 1))
    (k : ∀ tx : String, tx = (toString "Index " ++ toString i ++ toString " out of bounds for length " ++ toString n : String) → vx_Note p l e R s m args below meth c H locs cells slots Q (F0 m pc ls rest) "java/lang/ArrayIndexOutOfBoundsException" tx) : W p l e R s m args below meth c H locs cells slots Q (F0 m pc ls (.int i :: .ref a :: rest)) := by
  intro T hT X
  obtain ⟨t, st, q⟩ := k _ rfl T hT X
  refine ⟨t, ?_, q⟩
  have h1 := X.baloadOut hexec (by rw [hT]; exact hP q0 _ ha) ((hK.2 t0 _ ht).1 n (fun j => .int (f j))) (j := i) (by show (i < 0 ∨ (arrV _ _ _).slots.size ≤ _); rw [arrV_size]; exact Classical.byContradiction hout) (g := F0 m pc ls (.int i :: .ref a :: rest)) rfl (rest := rest) rfl (by rw [hb]; exact hdg) t
  simp only [arrV_size] at h1
  exact h1 st
theorem vx_zastZ {D : va_G} {cl : List vw_C} {ws : va_W} {tys : List (ClassId × FieldType)} {a : Nat} (hexec : p.tables.exec = Jvm.exec) (hb : c.code = cc) (hK : va_K D cl tys s) (hP : va_P D cl ws H) (q0 t0 : Nat) {cA : ClassId} {n : Nat} {f : Nat → Int32} (ha : ws[q0]? = some (a, .inl (cA, n, .inl f))) (ht : tys[t0]? = some (cA, .boolean)) {i : Int32} {x : Int32} (hout : ¬ vp_in i n) (hdg : decode cc pc = .ok (.bastore, 1))
    (k : ∀ tx : String, tx = (toString "Index " ++ toString i ++ toString " out of bounds for length " ++ toString n : String) → vx_Note p l e R s m args below meth c H locs cells slots Q (F0 m pc ls rest) "java/lang/ArrayIndexOutOfBoundsException" tx) : W p l e R s m args below meth c H locs cells slots Q (F0 m pc ls (.int x :: .int i :: .ref a :: rest)) := by
  intro T hT X
  obtain ⟨t, st, q⟩ := k _ rfl T hT X
  refine ⟨t, ?_, q⟩
  have h1 := X.bastoreOut hexec (by rw [hT]; exact hP q0 _ ha) ((hK.2 t0 _ ht).1 n (fun j => .int (f j))) (j := i) (by show (i < 0 ∨ (arrV _ _ _).slots.size ≤ _); rw [arrV_size]; exact Classical.byContradiction hout) (g := F0 m pc ls (.int x :: .int i :: .ref a :: rest)) rfl (rest := rest) rfl (by rw [hb]; exact hdg) t
  simp only [arrV_size] at h1
  exact h1 st
theorem vx_caldZ {D : va_G} {cl : List vw_C} {ws : va_W} {tys : List (ClassId × FieldType)} {a : Nat} (hexec : p.tables.exec = Jvm.exec) (hb : c.code = cc) (hK : va_K D cl tys s) (hP : va_P D cl ws H) (q0 t0 : Nat) {cA : ClassId} {n : Nat} {f : Nat → Int32} (ha : ws[q0]? = some (a, .inl (cA, n, .inl f))) (ht : tys[t0]? = some (cA, .char)) {i : Int32} (hout : ¬ vp_in i n) (hdg : decode cc pc = .ok (.caload, 1))
    (k : ∀ tx : String, tx = (toString "Index " ++ toString i ++ toString " out of bounds for length " ++ toString n : String) → vx_Note p l e R s m args below meth c H locs cells slots Q (F0 m pc ls rest) "java/lang/ArrayIndexOutOfBoundsException" tx) : W p l e R s m args below meth c H locs cells slots Q (F0 m pc ls (.int i :: .ref a :: rest)) := by
  intro T hT X
  obtain ⟨t, st, q⟩ := k _ rfl T hT X
  refine ⟨t, ?_, q⟩
  have h1 := X.caloadOut hexec (by rw [hT]; exact hP q0 _ ha) ((hK.2 t0 _ ht).1 n (fun j => .int (f j))) (j := i) (by show (i < 0 ∨ (arrV _ _ _).slots.size ≤ _); rw [arrV_size]; exact Classical.byContradiction hout) (g := F0 m pc ls (.int i :: .ref a :: rest)) rfl (rest := rest) rfl (by rw [hb]; exact hdg) t
  simp only [arrV_size] at h1
  exact h1 st
theorem vx_castZ {D : va_G} {cl : List vw_C} {ws : va_W} {tys : List (ClassId × FieldType)} {a : Nat} (hexec : p.tables.exec = Jvm.exec) (hb : c.code = cc) (hK : va_K D cl tys s) (hP : va_P D cl ws H) (q0 t0 : Nat) {cA : ClassId} {n : Nat} {f : Nat → Int32} (ha : ws[q0]? = some (a, .inl (cA, n, .inl f))) (ht : tys[t0]? = some (cA, .char)) {i : Int32} {x : Int32} (hout : ¬ vp_in i n) (hdg : decode cc pc = .ok (.castore, 1))
    (k : ∀ tx : String, tx = (toString "Index " ++ toString i ++ toString " out of bounds for length " ++ toString n : String) → vx_Note p l e R s m args below meth c H locs cells slots Q (F0 m pc ls rest) "java/lang/ArrayIndexOutOfBoundsException" tx) : W p l e R s m args below meth c H locs cells slots Q (F0 m pc ls (.int x :: .int i :: .ref a :: rest)) := by
  intro T hT X
  obtain ⟨t, st, q⟩ := k _ rfl T hT X
  refine ⟨t, ?_, q⟩
  have h1 := X.castoreOut hexec (by rw [hT]; exact hP q0 _ ha) ((hK.2 t0 _ ht).1 n (fun j => .int (f j))) (j := i) (by show (i < 0 ∨ (arrV _ _ _).slots.size ≤ _); rw [arrV_size]; exact Classical.byContradiction hout) (g := F0 m pc ls (.int x :: .int i :: .ref a :: rest)) rfl (rest := rest) rfl (by rw [hb]; exact hdg) t
  simp only [arrV_size] at h1
  exact h1 st
theorem vx_saldZ {D : va_G} {cl : List vw_C} {ws : va_W} {tys : List (ClassId × FieldType)} {a : Nat} (hexec : p.tables.exec = Jvm.exec) (hb : c.code = cc) (hK : va_K D cl tys s) (hP : va_P D cl ws H) (q0 t0 : Nat) {cA : ClassId} {n : Nat} {f : Nat → Int32} (ha : ws[q0]? = some (a, .inl (cA, n, .inl f))) (ht : tys[t0]? = some (cA, .short)) {i : Int32} (hout : ¬ vp_in i n) (hdg : decode cc pc = .ok (.saload, 1))
    (k : ∀ tx : String, tx = (toString "Index " ++ toString i ++ toString " out of bounds for length " ++ toString n : String) → vx_Note p l e R s m args below meth c H locs cells slots Q (F0 m pc ls rest) "java/lang/ArrayIndexOutOfBoundsException" tx) : W p l e R s m args below meth c H locs cells slots Q (F0 m pc ls (.int i :: .ref a :: rest)) := by
  intro T hT X
  obtain ⟨t, st, q⟩ := k _ rfl T hT X
  refine ⟨t, ?_, q⟩
  have h1 := X.saloadOut hexec (by rw [hT]; exact hP q0 _ ha) ((hK.2 t0 _ ht).1 n (fun j => .int (f j))) (j := i) (by show (i < 0 ∨ (arrV _ _ _).slots.size ≤ _); rw [arrV_size]; exact Classical.byContradiction hout) (g := F0 m pc ls (.int i :: .ref a :: rest)) rfl (rest := rest) rfl (by rw [hb]; exact hdg) t
  simp only [arrV_size] at h1
  exact h1 st
theorem vx_sastZ {D : va_G} {cl : List vw_C} {ws : va_W} {tys : List (ClassId × FieldType)} {a : Nat} (hexec : p.tables.exec = Jvm.exec) (hb : c.code = cc) (hK : va_K D cl tys s) (hP : va_P D cl ws H) (q0 t0 : Nat) {cA : ClassId} {n : Nat} {f : Nat → Int32} (ha : ws[q0]? = some (a, .inl (cA, n, .inl f))) (ht : tys[t0]? = some (cA, .short)) {i : Int32} {x : Int32} (hout : ¬ vp_in i n) (hdg : decode cc pc = .ok (.sastore, 1))
    (k : ∀ tx : String, tx = (toString "Index " ++ toString i ++ toString " out of bounds for length " ++ toString n : String) → vx_Note p l e R s m args below meth c H locs cells slots Q (F0 m pc ls rest) "java/lang/ArrayIndexOutOfBoundsException" tx) : W p l e R s m args below meth c H locs cells slots Q (F0 m pc ls (.int x :: .int i :: .ref a :: rest)) := by
  intro T hT X
  obtain ⟨t, st, q⟩ := k _ rfl T hT X
  refine ⟨t, ?_, q⟩
  have h1 := X.sastoreOut hexec (by rw [hT]; exact hP q0 _ ha) ((hK.2 t0 _ ht).1 n (fun j => .int (f j))) (j := i) (by show (i < 0 ∨ (arrV _ _ _).slots.size ≤ _); rw [arrV_size]; exact Classical.byContradiction hout) (g := F0 m pc ls (.int x :: .int i :: .ref a :: rest)) rfl (rest := rest) rfl (by rw [hb]; exact hdg) t
  simp only [arrV_size] at h1
  exact h1 st
theorem vx_laldZ {D : va_G} {cl : List vw_C} {ws : va_W} {tys : List (ClassId × FieldType)} {a : Nat} (hexec : p.tables.exec = Jvm.exec) (hb : c.code = cc) (hK : va_K D cl tys s) (hP : va_P D cl ws H) (q0 t0 : Nat) {cA : ClassId} {n : Nat} {f : Nat → Int64} (ha : ws[q0]? = some (a, .inl (cA, n, .inr (.inl f)))) (ht : tys[t0]? = some (cA, .long)) {i : Int32} (hout : ¬ vp_in i n) (hdg : decode cc pc = .ok (.laload, 1))
    (k : ∀ tx : String, tx = (toString "Index " ++ toString i ++ toString " out of bounds for length " ++ toString n : String) → vx_Note p l e R s m args below meth c H locs cells slots Q (F0 m pc ls rest) "java/lang/ArrayIndexOutOfBoundsException" tx) : W p l e R s m args below meth c H locs cells slots Q (F0 m pc ls (.int i :: .ref a :: rest)) := by
  intro T hT X
  obtain ⟨t, st, q⟩ := k _ rfl T hT X
  refine ⟨t, ?_, q⟩
  have h1 := X.laloadOut hexec (by rw [hT]; exact hP q0 _ ha) ((hK.2 t0 _ ht).1 n (fun j => .long (f j))) (j := i) (by show (i < 0 ∨ (arrV _ _ _).slots.size ≤ _); rw [arrV_size]; exact Classical.byContradiction hout) (g := F0 m pc ls (.int i :: .ref a :: rest)) rfl (rest := rest) rfl (by rw [hb]; exact hdg) t
  simp only [arrV_size] at h1
  exact h1 st
theorem vx_lastZ {D : va_G} {cl : List vw_C} {ws : va_W} {tys : List (ClassId × FieldType)} {a : Nat} (hexec : p.tables.exec = Jvm.exec) (hb : c.code = cc) (hK : va_K D cl tys s) (hP : va_P D cl ws H) (q0 t0 : Nat) {cA : ClassId} {n : Nat} {f : Nat → Int64} (ha : ws[q0]? = some (a, .inl (cA, n, .inr (.inl f)))) (ht : tys[t0]? = some (cA, .long)) {i : Int32} {x : Int64} (hout : ¬ vp_in i n) (hdg : decode cc pc = .ok (.lastore, 1))
    (k : ∀ tx : String, tx = (toString "Index " ++ toString i ++ toString " out of bounds for length " ++ toString n : String) → vx_Note p l e R s m args below meth c H locs cells slots Q (F0 m pc ls rest) "java/lang/ArrayIndexOutOfBoundsException" tx) : W p l e R s m args below meth c H locs cells slots Q (F0 m pc ls (.long x :: .int i :: .ref a :: rest)) := by
  intro T hT X
  obtain ⟨t, st, q⟩ := k _ rfl T hT X
  refine ⟨t, ?_, q⟩
  have h1 := X.lastoreOut hexec (by rw [hT]; exact hP q0 _ ha) ((hK.2 t0 _ ht).1 n (fun j => .long (f j))) (j := i) (by show (i < 0 ∨ (arrV _ _ _).slots.size ≤ _); rw [arrV_size]; exact Classical.byContradiction hout) (g := F0 m pc ls (.long x :: .int i :: .ref a :: rest)) rfl (rest := rest) rfl (by rw [hb]; exact hdg) t
  simp only [arrV_size] at h1
  exact h1 st
theorem vx_faldZ {D : va_G} {cl : List vw_C} {ws : va_W} {tys : List (ClassId × FieldType)} {a : Nat} (hexec : p.tables.exec = Jvm.exec) (hb : c.code = cc) (hK : va_K D cl tys s) (hP : va_P D cl ws H) (q0 t0 : Nat) {cA : ClassId} {n : Nat} {f : Nat → UInt32} (ha : ws[q0]? = some (a, .inl (cA, n, .inr (.inr (.inl f))))) (ht : tys[t0]? = some (cA, .float)) {i : Int32} (hout : ¬ vp_in i n) (hdg : decode cc pc = .ok (.faload, 1))
    (k : ∀ tx : String, tx = (toString "Index " ++ toString i ++ toString " out of bounds for length " ++ toString n : String) → vx_Note p l e R s m args below meth c H locs cells slots Q (F0 m pc ls rest) "java/lang/ArrayIndexOutOfBoundsException" tx) : W p l e R s m args below meth c H locs cells slots Q (F0 m pc ls (.int i :: .ref a :: rest)) := by
  intro T hT X
  obtain ⟨t, st, q⟩ := k _ rfl T hT X
  refine ⟨t, ?_, q⟩
  have h1 := X.faloadOut hexec (by rw [hT]; exact hP q0 _ ha) ((hK.2 t0 _ ht).1 n (fun j => .float (f j))) (j := i) (by show (i < 0 ∨ (arrV _ _ _).slots.size ≤ _); rw [arrV_size]; exact Classical.byContradiction hout) (g := F0 m pc ls (.int i :: .ref a :: rest)) rfl (rest := rest) rfl (by rw [hb]; exact hdg) t
  simp only [arrV_size] at h1
  exact h1 st
theorem vx_fastZ {D : va_G} {cl : List vw_C} {ws : va_W} {tys : List (ClassId × FieldType)} {a : Nat} (hexec : p.tables.exec = Jvm.exec) (hb : c.code = cc) (hK : va_K D cl tys s) (hP : va_P D cl ws H) (q0 t0 : Nat) {cA : ClassId} {n : Nat} {f : Nat → UInt32} (ha : ws[q0]? = some (a, .inl (cA, n, .inr (.inr (.inl f))))) (ht : tys[t0]? = some (cA, .float)) {i : Int32} {x : UInt32} (hout : ¬ vp_in i n) (hdg : decode cc pc = .ok (.fastore, 1))
    (k : ∀ tx : String, tx = (toString "Index " ++ toString i ++ toString " out of bounds for length " ++ toString n : String) → vx_Note p l e R s m args below meth c H locs cells slots Q (F0 m pc ls rest) "java/lang/ArrayIndexOutOfBoundsException" tx) : W p l e R s m args below meth c H locs cells slots Q (F0 m pc ls (.float x :: .int i :: .ref a :: rest)) := by
  intro T hT X
  obtain ⟨t, st, q⟩ := k _ rfl T hT X
  refine ⟨t, ?_, q⟩
  have h1 := X.fastoreOut hexec (by rw [hT]; exact hP q0 _ ha) ((hK.2 t0 _ ht).1 n (fun j => .float (f j))) (j := i) (by show (i < 0 ∨ (arrV _ _ _).slots.size ≤ _); rw [arrV_size]; exact Classical.byContradiction hout) (g := F0 m pc ls (.float x :: .int i :: .ref a :: rest)) rfl (rest := rest) rfl (by rw [hb]; exact hdg) t
  simp only [arrV_size] at h1
  exact h1 st
theorem vx_daldZ {D : va_G} {cl : List vw_C} {ws : va_W} {tys : List (ClassId × FieldType)} {a : Nat} (hexec : p.tables.exec = Jvm.exec) (hb : c.code = cc) (hK : va_K D cl tys s) (hP : va_P D cl ws H) (q0 t0 : Nat) {cA : ClassId} {n : Nat} {f : Nat → UInt64} (ha : ws[q0]? = some (a, .inl (cA, n, .inr (.inr (.inr (.inl f)))))) (ht : tys[t0]? = some (cA, .double)) {i : Int32} (hout : ¬ vp_in i n) (hdg : decode cc pc = .ok (.daload, 1))
    (k : ∀ tx : String, tx = (toString "Index " ++ toString i ++ toString " out of bounds for length " ++ toString n : String) → vx_Note p l e R s m args below meth c H locs cells slots Q (F0 m pc ls rest) "java/lang/ArrayIndexOutOfBoundsException" tx) : W p l e R s m args below meth c H locs cells slots Q (F0 m pc ls (.int i :: .ref a :: rest)) := by
  intro T hT X
  obtain ⟨t, st, q⟩ := k _ rfl T hT X
  refine ⟨t, ?_, q⟩
  have h1 := X.daloadOut hexec (by rw [hT]; exact hP q0 _ ha) ((hK.2 t0 _ ht).1 n (fun j => .double (f j))) (j := i) (by show (i < 0 ∨ (arrV _ _ _).slots.size ≤ _); rw [arrV_size]; exact Classical.byContradiction hout) (g := F0 m pc ls (.int i :: .ref a :: rest)) rfl (rest := rest) rfl (by rw [hb]; exact hdg) t
  simp only [arrV_size] at h1
  exact h1 st
theorem vx_dastZ {D : va_G} {cl : List vw_C} {ws : va_W} {tys : List (ClassId × FieldType)} {a : Nat} (hexec : p.tables.exec = Jvm.exec) (hb : c.code = cc) (hK : va_K D cl tys s) (hP : va_P D cl ws H) (q0 t0 : Nat) {cA : ClassId} {n : Nat} {f : Nat → UInt64} (ha : ws[q0]? = some (a, .inl (cA, n, .inr (.inr (.inr (.inl f)))))) (ht : tys[t0]? = some (cA, .double)) {i : Int32} {x : UInt64} (hout : ¬ vp_in i n) (hdg : decode cc pc = .ok (.dastore, 1))
    (k : ∀ tx : String, tx = (toString "Index " ++ toString i ++ toString " out of bounds for length " ++ toString n : String) → vx_Note p l e R s m args below meth c H locs cells slots Q (F0 m pc ls rest) "java/lang/ArrayIndexOutOfBoundsException" tx) : W p l e R s m args below meth c H locs cells slots Q (F0 m pc ls (.double x :: .int i :: .ref a :: rest)) := by
  intro T hT X
  obtain ⟨t, st, q⟩ := k _ rfl T hT X
  refine ⟨t, ?_, q⟩
  have h1 := X.dastoreOut hexec (by rw [hT]; exact hP q0 _ ha) ((hK.2 t0 _ ht).1 n (fun j => .double (f j))) (j := i) (by show (i < 0 ∨ (arrV _ _ _).slots.size ≤ _); rw [arrV_size]; exact Classical.byContradiction hout) (g := F0 m pc ls (.double x :: .int i :: .ref a :: rest)) rfl (rest := rest) rfl (by rw [hb]; exact hdg) t
  simp only [arrV_size] at h1
  exact h1 st
theorem vx_arraylengthN (hexec : p.tables.exec = Jvm.exec) (hb : c.code = cc) (hdg : decode cc pc = .ok (.arraylength, 1)) (k : vx_NoteN p l e R s m args below meth c H locs cells slots Q (F0 m pc ls rest)) : W p l e R s m args below meth c H locs cells slots Q (F0 m pc ls (.null :: rest)) := by
  intro T hT X
  obtain ⟨t, st, q⟩ := k T hT X
  exact ⟨t, X.arraylengthNull hexec (g := F0 m pc ls (.null :: rest)) rfl (rest := rest) rfl (by rw [hb]; exact hdg) t st, q⟩
theorem vx_ialoadN (hexec : p.tables.exec = Jvm.exec) (hb : c.code = cc) {i : Int32} (hdg : decode cc pc = .ok (.iaload, 1)) (k : vx_NoteN p l e R s m args below meth c H locs cells slots Q (F0 m pc ls rest)) : W p l e R s m args below meth c H locs cells slots Q (F0 m pc ls (.int i :: .null :: rest)) := by
  intro T hT X
  obtain ⟨t, st, q⟩ := k T hT X
  exact ⟨t, X.ialoadNull hexec (g := F0 m pc ls (.int i :: .null :: rest)) rfl (rest := rest) rfl (by rw [hb]; exact hdg) t st, q⟩
theorem vx_laloadN (hexec : p.tables.exec = Jvm.exec) (hb : c.code = cc) {i : Int32} (hdg : decode cc pc = .ok (.laload, 1)) (k : vx_NoteN p l e R s m args below meth c H locs cells slots Q (F0 m pc ls rest)) : W p l e R s m args below meth c H locs cells slots Q (F0 m pc ls (.int i :: .null :: rest)) := by
  intro T hT X
  obtain ⟨t, st, q⟩ := k T hT X
  exact ⟨t, X.laloadNull hexec (g := F0 m pc ls (.int i :: .null :: rest)) rfl (rest := rest) rfl (by rw [hb]; exact hdg) t st, q⟩
theorem vx_faloadN (hexec : p.tables.exec = Jvm.exec) (hb : c.code = cc) {i : Int32} (hdg : decode cc pc = .ok (.faload, 1)) (k : vx_NoteN p l e R s m args below meth c H locs cells slots Q (F0 m pc ls rest)) : W p l e R s m args below meth c H locs cells slots Q (F0 m pc ls (.int i :: .null :: rest)) := by
  intro T hT X
  obtain ⟨t, st, q⟩ := k T hT X
  exact ⟨t, X.faloadNull hexec (g := F0 m pc ls (.int i :: .null :: rest)) rfl (rest := rest) rfl (by rw [hb]; exact hdg) t st, q⟩
theorem vx_daloadN (hexec : p.tables.exec = Jvm.exec) (hb : c.code = cc) {i : Int32} (hdg : decode cc pc = .ok (.daload, 1)) (k : vx_NoteN p l e R s m args below meth c H locs cells slots Q (F0 m pc ls rest)) : W p l e R s m args below meth c H locs cells slots Q (F0 m pc ls (.int i :: .null :: rest)) := by
  intro T hT X
  obtain ⟨t, st, q⟩ := k T hT X
  exact ⟨t, X.daloadNull hexec (g := F0 m pc ls (.int i :: .null :: rest)) rfl (rest := rest) rfl (by rw [hb]; exact hdg) t st, q⟩
theorem vx_aaloadN (hexec : p.tables.exec = Jvm.exec) (hb : c.code = cc) {i : Int32} (hdg : decode cc pc = .ok (.aaload, 1)) (k : vx_NoteN p l e R s m args below meth c H locs cells slots Q (F0 m pc ls rest)) : W p l e R s m args below meth c H locs cells slots Q (F0 m pc ls (.int i :: .null :: rest)) := by
  intro T hT X
  obtain ⟨t, st, q⟩ := k T hT X
  exact ⟨t, X.aaloadNull hexec (g := F0 m pc ls (.int i :: .null :: rest)) rfl (rest := rest) rfl (by rw [hb]; exact hdg) t st, q⟩
theorem vx_baloadN (hexec : p.tables.exec = Jvm.exec) (hb : c.code = cc) {i : Int32} (hdg : decode cc pc = .ok (.baload, 1)) (k : vx_NoteN p l e R s m args below meth c H locs cells slots Q (F0 m pc ls rest)) : W p l e R s m args below meth c H locs cells slots Q (F0 m pc ls (.int i :: .null :: rest)) := by
  intro T hT X
  obtain ⟨t, st, q⟩ := k T hT X
  exact ⟨t, X.baloadNull hexec (g := F0 m pc ls (.int i :: .null :: rest)) rfl (rest := rest) rfl (by rw [hb]; exact hdg) t st, q⟩
theorem vx_caloadN (hexec : p.tables.exec = Jvm.exec) (hb : c.code = cc) {i : Int32} (hdg : decode cc pc = .ok (.caload, 1)) (k : vx_NoteN p l e R s m args below meth c H locs cells slots Q (F0 m pc ls rest)) : W p l e R s m args below meth c H locs cells slots Q (F0 m pc ls (.int i :: .null :: rest)) := by
  intro T hT X
  obtain ⟨t, st, q⟩ := k T hT X
  exact ⟨t, X.caloadNull hexec (g := F0 m pc ls (.int i :: .null :: rest)) rfl (rest := rest) rfl (by rw [hb]; exact hdg) t st, q⟩
theorem vx_saloadN (hexec : p.tables.exec = Jvm.exec) (hb : c.code = cc) {i : Int32} (hdg : decode cc pc = .ok (.saload, 1)) (k : vx_NoteN p l e R s m args below meth c H locs cells slots Q (F0 m pc ls rest)) : W p l e R s m args below meth c H locs cells slots Q (F0 m pc ls (.int i :: .null :: rest)) := by
  intro T hT X
  obtain ⟨t, st, q⟩ := k T hT X
  exact ⟨t, X.saloadNull hexec (g := F0 m pc ls (.int i :: .null :: rest)) rfl (rest := rest) rfl (by rw [hb]; exact hdg) t st, q⟩
theorem vx_iastoreN (hexec : p.tables.exec = Jvm.exec) (hb : c.code = cc) {x : Int32} {i : Int32} (hdg : decode cc pc = .ok (.iastore, 1)) (k : vx_NoteN p l e R s m args below meth c H locs cells slots Q (F0 m pc ls rest)) : W p l e R s m args below meth c H locs cells slots Q (F0 m pc ls (.int x :: .int i :: .null :: rest)) := by
  intro T hT X
  obtain ⟨t, st, q⟩ := k T hT X
  exact ⟨t, X.iastoreNull hexec (g := F0 m pc ls (.int x :: .int i :: .null :: rest)) rfl (rest := rest) rfl (by rw [hb]; exact hdg) t st, q⟩
theorem vx_lastoreN (hexec : p.tables.exec = Jvm.exec) (hb : c.code = cc) {x : Int64} {i : Int32} (hdg : decode cc pc = .ok (.lastore, 1)) (k : vx_NoteN p l e R s m args below meth c H locs cells slots Q (F0 m pc ls rest)) : W p l e R s m args below meth c H locs cells slots Q (F0 m pc ls (.long x :: .int i :: .null :: rest)) := by
  intro T hT X
  obtain ⟨t, st, q⟩ := k T hT X
  exact ⟨t, X.lastoreNull hexec (g := F0 m pc ls (.long x :: .int i :: .null :: rest)) rfl (rest := rest) rfl (by rw [hb]; exact hdg) t st, q⟩
theorem vx_fastoreN (hexec : p.tables.exec = Jvm.exec) (hb : c.code = cc) {x : UInt32} {i : Int32} (hdg : decode cc pc = .ok (.fastore, 1)) (k : vx_NoteN p l e R s m args below meth c H locs cells slots Q (F0 m pc ls rest)) : W p l e R s m args below meth c H locs cells slots Q (F0 m pc ls (.float x :: .int i :: .null :: rest)) := by
  intro T hT X
  obtain ⟨t, st, q⟩ := k T hT X
  exact ⟨t, X.fastoreNull hexec (g := F0 m pc ls (.float x :: .int i :: .null :: rest)) rfl (rest := rest) rfl (by rw [hb]; exact hdg) t st, q⟩
theorem vx_dastoreN (hexec : p.tables.exec = Jvm.exec) (hb : c.code = cc) {x : UInt64} {i : Int32} (hdg : decode cc pc = .ok (.dastore, 1)) (k : vx_NoteN p l e R s m args below meth c H locs cells slots Q (F0 m pc ls rest)) : W p l e R s m args below meth c H locs cells slots Q (F0 m pc ls (.double x :: .int i :: .null :: rest)) := by
  intro T hT X
  obtain ⟨t, st, q⟩ := k T hT X
  exact ⟨t, X.dastoreNull hexec (g := F0 m pc ls (.double x :: .int i :: .null :: rest)) rfl (rest := rest) rfl (by rw [hb]; exact hdg) t st, q⟩
theorem vx_bastoreN (hexec : p.tables.exec = Jvm.exec) (hb : c.code = cc) {x : Int32} {i : Int32} (hdg : decode cc pc = .ok (.bastore, 1)) (k : vx_NoteN p l e R s m args below meth c H locs cells slots Q (F0 m pc ls rest)) : W p l e R s m args below meth c H locs cells slots Q (F0 m pc ls (.int x :: .int i :: .null :: rest)) := by
  intro T hT X
  obtain ⟨t, st, q⟩ := k T hT X
  exact ⟨t, X.bastoreNull hexec (g := F0 m pc ls (.int x :: .int i :: .null :: rest)) rfl (rest := rest) rfl (by rw [hb]; exact hdg) t st, q⟩
theorem vx_castoreN (hexec : p.tables.exec = Jvm.exec) (hb : c.code = cc) {x : Int32} {i : Int32} (hdg : decode cc pc = .ok (.castore, 1)) (k : vx_NoteN p l e R s m args below meth c H locs cells slots Q (F0 m pc ls rest)) : W p l e R s m args below meth c H locs cells slots Q (F0 m pc ls (.int x :: .int i :: .null :: rest)) := by
  intro T hT X
  obtain ⟨t, st, q⟩ := k T hT X
  exact ⟨t, X.castoreNull hexec (g := F0 m pc ls (.int x :: .int i :: .null :: rest)) rfl (rest := rest) rfl (by rw [hb]; exact hdg) t st, q⟩
theorem vx_sastoreN (hexec : p.tables.exec = Jvm.exec) (hb : c.code = cc) {x : Int32} {i : Int32} (hdg : decode cc pc = .ok (.sastore, 1)) (k : vx_NoteN p l e R s m args below meth c H locs cells slots Q (F0 m pc ls rest)) : W p l e R s m args below meth c H locs cells slots Q (F0 m pc ls (.int x :: .int i :: .null :: rest)) := by
  intro T hT X
  obtain ⟨t, st, q⟩ := k T hT X
  exact ⟨t, X.sastoreNull hexec (g := F0 m pc ls (.int x :: .int i :: .null :: rest)) rfl (rest := rest) rfl (by rw [hb]; exact hdg) t st, q⟩
theorem vx_invokeN {own C : String} {index maxL : Nat} {y : MethodName} {bytes : ByteArray} {ret : Option FieldType} (hexec : p.tables.exec = Jvm.exec) (hb : c.code = cc) (hown : s.vm.findClass own = some m.cls) (hlink : (Cond.methodLink own index y).before args s = true) (hinst : (Cond.instanceMethod y).before args s = true) (hcode : (Cond.code y bytes maxL ret).before args s = true) (hsel : (Cond.selects C y y).before args s = true)
    (hx : y.cls ≠ "java/lang/invoke/MethodHandle" ∧ y.cls ≠ "java/lang/invoke/VarHandle") {As : List Value} (hlen : (parseMethodDescriptor y.desc).map (fun d => d.parameters.length) = some As.length) (hdg : decode cc pc = .ok (.invokevirtual index, 3))
    (k : vx_NoteN p l e R s m args below meth c H locs cells slots Q (F0 m pc ls rest)) {st0 : List Value} (hst : st0 = As.reverse ++ .null :: rest) : W p l e R s m args below meth c H locs cells slots Q (F0 m pc ls st0) := by
  intro T hT X
  obtain ⟨r0, r, hn, hrm, hstR, hsigR⟩ := va_Decl.of hinst hcode
  obtain ⟨c2, r2, m2, q1, q2, q3, q4, kP, hkP, hkPi⟩ := Cond.selects_spec hsel
  cases hn.symm.trans q3
  have hl9 : As.length = r.sig.parameters.length := by
    rw [hsigR] at hlen
    exact (Option.some.inj hlen).symm
  obtain ⟨vm', X1, st1⟩ := X.invokevirtualNull hexec hown hlink hn hrm hstR hkP hkPi hx (g := F0 m pc ls st0) rfl (argsL := As) (rest := rest) hl9 hst (by rw [hb]; exact hdg)
  obtain ⟨t, st, q⟩ := k (T.setVm vm') hT X1
  exact ⟨t, st1 t st, q⟩
theorem vx_newarrayZ {atype : ArrayType} (hexec : p.tables.exec = Jvm.exec) (hb : c.code = cc) {n : Int32} (h0 : n < 0) (hdg : decode cc pc = .ok (.newarray atype, 2)) (k : ∀ tx : String, tx = toString n → vx_Note p l e R s m args below meth c H locs cells slots Q (F0 m pc ls rest) "java/lang/NegativeArraySizeException" tx) : W p l e R s m args below meth c H locs cells slots Q (F0 m pc ls (.int n :: rest)) := by
  intro T hT X
  obtain ⟨t, st, q⟩ := k _ rfl T hT X
  exact ⟨t, X.newarrayNegative hexec (g := F0 m pc ls (.int n :: rest)) rfl h0 (rest := rest) rfl (by rw [hb]; exact hdg) t st, q⟩
end
end VXM
/-! ===== END ===== -/
/-! ===== BEGIN an exception as an object: made, kept, thrown later (no traces kept) ===== -/
section VXK
variable {p : Program} {l : Launch} {e : Env} {R : Room} {s : State} {m₀ : MethodId} {args : Array Value} {below : List Frame} {meth : Method} {c : Code} {W : State} {locs : List Loc} {cells slots : Nat}
set_option maxHeartbeats 1000000 in
theorem vx_ctorMadeS (X : Stand p l e R s m₀ args below meth c W locs cells slots) (hexec : p.tables.exec = Jvm.exec) (htr : e.platform.stackTraces = false) {own cls : String} {names : List String} {ic : Nat}
    (hown : s.vm.findClass own = some m₀.cls) (hcls : Bundle.fit cls = true) (hnames : ∀ n ∈ names, Bundle.fit n = true)
    (h : ∀ a ∈ Bundle.ownAtoms own ic cls names, a.before args s = true)
    (hlocs : ∀ x ∈ locs, ∀ cell, s.heap[x.base]? = some cell → cell.vm.isStatics = false)
    {a : Addr} {cX : ClassId} {kX : Class} (hfoundX : s.vm.findClass cls = some cX) (hkX : s.vm.classes[cX]? = some kX) (hcell : W.heap[a]? = some (freshCell cX kX)) (hnew : s.heap.size ≤ a)
    {msg : Value} (hmsg : msg.isRef = true)
    {g : JFrame} (hg : g.method = m₀) (hsize : g.locals.size = c.maxLocals) {rest : List Value} (hstack : g.stack = msg :: .ref a :: .ref a :: rest)
    (hd6 : decode c.code g.pc = .ok (.invokespecial ic, 3))
    (hRframes : names.length + 3 < R.frames) (hRlocals : 2 * g.monitorRoom + ((Value.ref a :: rest).map fun v => v.category).sum + (13 * (names.length + 1) + 42) ≤ R.locals) :
    ∃ (V : State) (ce : Cell) (L : List Loc), Stand p l e R s m₀ args below meth c (V.setCell a ce) (locs ++ L) cells slots ∧ (∀ y ∈ L, y.base = a) ∧ a < V.heap.size ∧ ce.cls = cX ∧ ce.vm = .none ∧
      ∀ target, Steps p.tables e below ((V.setCell a ce).setTop { g with stack := .ref a :: rest, pc := g.pc + 3 }) target → Steps p.tables e below (W.setTop g) target := by
  have howns : e.platform.frameOwnsMonitors = true := by rw [X.admits.platform]
  have hfin : e.platform.finalization = false := by rw [X.admits.platform]
  have hpl : e.platform.magicAccessors = ({} : Platform).magicAccessors := by rw [X.admits.platform]
  have a' : ∀ x, x ∈ Bundle.ownAtoms own ic cls names → x.holds args s none s [] = true := fun x hx => h x hx
  obtain ⟨T, Z0, L, -, Y⟩ := ThrowableC.of_atoms (args := args) howns hfin hpl (fun x hx => h x (by simp [Bundle.ownAtoms, hx]))
  obtain ⟨Z, M, LZ, LM, hnZ⟩ := Init0T.ofS_atoms (args := args) hpl L Y (fun x hx => h x (by simp [Bundle.ownAtoms, hx]))
  obtain ⟨P1, Ps, hlen, L1, hL, hP1m, hlink1, hlink⟩ := Bundle.chainS (args := args) hpl hnZ names cls hcls hnames (fun x hx => h x (by simp [Bundle.ownAtoms, hx]))
  have hfound : s.vm.findClass cls = some P1.m.cls := findClass_of_methodNamed hP1m
  cases Option.some.inj (hfoundX.symm.trans hfound)
  obtain ⟨c1, kX', hc1, hk, hord, -, -, hn6⟩ := Cond.instantiable_spec (a' (.instantiable cls 6) (by simp [Bundle.ownAtoms]))
  cases Option.some.inj (hc1.symm.trans hfound)
  cases Option.some.inj (hkX.symm.trans hk)
  have hsel0 : selectMethod e.platform s.vm P1.m.cls T.fill0 = .method T.fill0 := by
    obtain ⟨c2, r2, m2, q1, q2, q3, q4, -⟩ := Cond.selects_spec (a' (.selects cls Bundle.tFill0 Bundle.tFill0) (by simp [Bundle.ownAtoms]))
    cases Option.some.inj (q1.symm.trans hfound)
    cases Option.some.inj (q2.symm.trans (State.methodFound?_of_named Y.fill0 (by decide)))
    cases Option.some.inj (q3.symm.trans Y.fill0)
    rw [Launch.admits_selectMethod X.admits]; exact q4
  have hselF : selectMethod e.platform s.vm P1.m.cls T.fill = .method T.fill := by
    obtain ⟨c2, r2, m2, q1, q2, q3, q4, -⟩ := Cond.selects_spec (a' (.selects cls Bundle.tFill Bundle.tFill) (by simp [Bundle.ownAtoms]))
    cases Option.some.inj (q1.symm.trans hfound)
    cases Option.some.inj (q2.symm.trans (State.methodFound?_of_named Y.fill (by decide)))
    cases Option.some.inj (q3.symm.trans Y.fill)
    rw [Launch.admits_selectMethod X.admits]; exact q4
  obtain ⟨cellS0, hcS0, hiss⟩ := Y.statics
  obtain ⟨u0, hu0⟩ := Cond.staticRefV Y.unassigned L.unassignedStatic L.statics hcS0 hiss (a' (.isRef (.static Bundle.tN "UNASSIGNED_STACK" Bundle.steD)) (by simp [Bundle.ownAtoms]))
  obtain ⟨sen, hsen⟩ := Cond.staticRefV Y.sentinel L.sentinelStatic L.statics hcS0 hiss (a' (.isRef (.static Bundle.tN "SUPPRESSED_SENTINEL" Bundle.listD)) (by simp [Bundle.ownAtoms]))
  obtain ⟨ci198, i198, fB, hk198, hg198, ha198, hsB, -, hnB, htB, hffB⟩ := Cond.ownField (t := .object "java/lang/Object") Y.found L.cls (by decide +kernel) (a' (.fieldLink Bundle.tN 198 Bundle.tN "backtrace" "Ljava/lang/Object;") (by simp [Bundle.ownAtoms])) (a' (.lays Bundle.tN Bundle.tN "backtrace" "Ljava/lang/Object;") (by simp [Bundle.ownAtoms])) e.platform hpl
  obtain ⟨cellS, hcS', heS, -, hkeep⟩ := X.same.2.2.2.2.2 T.aS cellS0 hcS0
  have hcellS : W.heap[T.aS]? = some cellS := hcS'
  have hout' : ∀ i, (⟨T.aS, i⟩ : Loc) ∉ locs := fun i hmem => by
    have := hlocs _ hmem cellS0 hcS0
    rw [hiss] at this; cases this
  have hknownS : cellS.vm ≠ .unknown := by
    rw [heS]; intro hu
    rw [show cellS0.vm = .unknown from hu] at hiss
    cases hiss
  have hneS : T.aS ≠ a := Nat.ne_of_lt (Nat.lt_of_lt_of_le (Array.getElem?_eq_some_iff.mp hcS0).1 hnew)
  obtain ⟨iM, hffM⟩ := Y.msg
  obtain ⟨tyC, dC, hdC, hdnC⟩ := Cond.laysAt hfound hk Y.cause (a' (.lays cls Bundle.tN "cause" "Ljava/lang/Throwable;") (by simp [Bundle.ownAtoms]))
  obtain ⟨tyS, dS, hdS, hdnS⟩ := Cond.laysAt hfound hk Y.stack (a' (.lays cls Bundle.tN "stackTrace" Bundle.steD) (by simp [Bundle.ownAtoms]))
  obtain ⟨tyP, dP, hdP, hdnP⟩ := Cond.laysAt hfound hk Y.supp (a' (.lays cls Bundle.tN "suppressedExceptions" Bundle.listD) (by simp [Bundle.ownAtoms]))
  obtain ⟨tyM, dM, hdM, hdnM⟩ := Cond.laysAt hfound hk hffM (a' (.lays cls Bundle.tN "detailMessage" "Ljava/lang/String;") (by simp [Bundle.ownAtoms]))
  obtain ⟨tyB, dB, hdB, hdnB⟩ := Cond.laysAt hfound hk hffB (a' (.lays cls Bundle.tN "backtrace" "Ljava/lang/Object;") (by simp [Bundle.ownAtoms]))
  have bC := Cond.laysApart hdB hdC hdnB hdnC (by rw [hnB, Y.causeName]; decide)
  have bS := Cond.laysApart hdB hdS hdnB hdnS (by rw [hnB, Y.stackName]; decide)
  have bP := Cond.laysApart hdB hdP hdnB hdnP (by rw [hnB, Y.suppName]; decide)
  have hskip : SkipFacts T e.platform s (fun u => u) u0 ((preparedCellV T.toThrowableT (freshCell P1.m.cls kX) a u0 sen).withEntry W.cur) :=
    ⟨{ ci198 := ci198, i198 := i198, fBack := fB }, ⟨hk198, hg198, ha198, hsB⟩, by
      have := fresh_default (c := P1.m.cls) tyB
      rw [htB] at this
      simpa [preparedCellV, Cell.setSlot, Cell.withEntry, Array.getElem?_setIfInBounds, bC, bS, bP, bC.symm, bS.symm, bP.symm, defaultValue] using this, fun _ _ => rfl⟩
  obtain ⟨tm, methC, cdC, kC, vm₁, hnC, -, -, -, -, -, -, -, hW₁, st1⟩ := Steps.initColdS (tb := p.tables) (e := e) (below := below) (s := s) (U := W) X.here hexec X.warmed hpl hown (t := Bundle.initS cls) rfl rfl (Bundle.fit_spec hcls).2
    (a' (.methodLink own ic (Bundle.initS cls)) (by simp [Bundle.ownAtoms])) (h (.instanceMethod (Bundle.initS cls)) (by cases names <;> simp [Bundle.ownAtoms, Bundle.chainSAtoms, Bundle.passSAtoms])) (bytes := Bundle.six) (maxL := 2) (h (.code (Bundle.initS cls) Bundle.six 2 none) (by cases names <;> simp [Bundle.ownAtoms, Bundle.chainSAtoms, Bundle.passSAtoms]))
    (f := g) hg (a := a) (msg := msg) (rest := .ref a :: rest) hstack hd6
  cases Option.some.inj (hnC.symm.trans hP1m)
  have X₁ := X.noted hW₁
  obtain ⟨vm₂, X₂, st2⟩ := X₁.ctorMessageOffV hexec (g := { g with stack := .ref a :: rest }) hg hsize T L Z LZ M LM (P1 :: Ps)
    (fun P hP => by rcases List.mem_cons.mp hP with rfl | hP; exact L1; exact hL P hP) ⟨hlink1, hlink⟩ (u0 := u0) (sen := sen) (self := a) hmsg (cell := freshCell P1.m.cls kX) (cellS := cellS)
    hcell (fun _ => by simp) (by simp) rfl rfl hsel0 hselF hcellS hneS hknownS (by rw [hkeep _ (hout' _)]; exact hu0) (by rw [hkeep _ (hout' _)]; exact hsen)
    (Takes.of_laid hk hord tyC (by rw [Y.causeType]; rfl)) (Takes.of_laid hk hord tyS (by rw [Y.stackType]; exact fits_refV_array _ u0)) (Takes.of_laid hk hord tyP (by rw [Y.suppType]; exact fits_refV_object _ sen))
    (Takes.of_laid hk hord tyM (by rw [Y.msgType]; exact fits_refV_object _ ⟨msg, hmsg⟩)) Y.objLocals hskip htr [] hd6
    (by simp only [List.length_cons, hlen]; omega) (by simp only [List.length_cons, hlen]; exact hRlocals)
  have hlt : a < ((W.setVm vm₁).setVm vm₂).heap.size := (Array.getElem?_eq_some_iff.mp hcell).1
  refine ⟨(W.setVm vm₁).setVm vm₂, _, _, X₂, fun y hy => ?_, hlt, rfl, rfl, fun target hwalk => st1 _ (fun acts => ?_)⟩
  · simp only [List.mem_cons, List.not_mem_nil, or_false] at hy
    rcases hy with rfl | rfl | rfl | rfl | rfl <;> rfl
  · rw [doInvoke_state]
    exact st2 _ hwalk
set_option maxHeartbeats 1000000 in
theorem vx_ctorMade0 (X : Stand p l e R s m₀ args below meth c W locs cells slots) (hexec : p.tables.exec = Jvm.exec) (htr : e.platform.stackTraces = false) {own cls : String} {names : List String} {ic : Nat}
    (hown : s.vm.findClass own = some m₀.cls) (hcls : Bundle.fit cls = true) (hnames : ∀ n ∈ names, Bundle.fit n = true)
    (h : ∀ a ∈ Bundle.ownAtoms0 own ic cls names, a.before args s = true)
    (hlocs : ∀ x ∈ locs, ∀ cell, s.heap[x.base]? = some cell → cell.vm.isStatics = false)
    {a : Addr} {cX : ClassId} {kX : Class} (hfoundX : s.vm.findClass cls = some cX) (hkX : s.vm.classes[cX]? = some kX) (hcell : W.heap[a]? = some (freshCell cX kX)) (hnew : s.heap.size ≤ a)
    {g : JFrame} (hg : g.method = m₀) (hsize : g.locals.size = c.maxLocals) {rest : List Value} (hstack : g.stack = .ref a :: .ref a :: rest)
    (hd6 : decode c.code g.pc = .ok (.invokespecial ic, 3))
    (hRframes : names.length + 3 < R.frames) (hRlocals : 2 * g.monitorRoom + ((Value.ref a :: rest).map fun v => v.category).sum + (13 * (names.length + 1) + 41) ≤ R.locals) :
    ∃ (V : State) (ce : Cell) (L : List Loc), Stand p l e R s m₀ args below meth c (V.setCell a ce) (locs ++ L) cells slots ∧ (∀ y ∈ L, y.base = a) ∧ a < V.heap.size ∧ ce.cls = cX ∧ ce.vm = .none ∧
      ∀ target, Steps p.tables e below ((V.setCell a ce).setTop { g with stack := .ref a :: rest, pc := g.pc + 3 }) target → Steps p.tables e below (W.setTop g) target := by
  have howns : e.platform.frameOwnsMonitors = true := by rw [X.admits.platform]
  have hfin : e.platform.finalization = false := by rw [X.admits.platform]
  have hpl : e.platform.magicAccessors = ({} : Platform).magicAccessors := by rw [X.admits.platform]
  have a' : ∀ x, x ∈ Bundle.ownAtoms0 own ic cls names → x.holds args s none s [] = true := fun x hx => h x hx
  obtain ⟨T, Z, L, LZ, Y⟩ := ThrowableC.of_atoms (args := args) howns hfin hpl (fun x hx => h x (by simp [Bundle.ownAtoms0, hx]))
  obtain ⟨P1, Ps, hlen, L1, hL, hP1m, hlink1, hlink⟩ := Bundle.chain0 (args := args) hpl Y.init0 names cls hcls hnames (fun x hx => h x (by simp [Bundle.ownAtoms0, hx]))
  have hfound : s.vm.findClass cls = some P1.m.cls := findClass_of_methodNamed hP1m
  cases Option.some.inj (hfoundX.symm.trans hfound)
  obtain ⟨c1, kX', hc1, hk, hord, -, -, hn6⟩ := Cond.instantiable_spec (a' (.instantiable cls 6) (by simp [Bundle.ownAtoms0]))
  cases Option.some.inj (hc1.symm.trans hfound)
  cases Option.some.inj (hkX.symm.trans hk)
  have hsel0 : selectMethod e.platform s.vm P1.m.cls T.fill0 = .method T.fill0 := by
    obtain ⟨c2, r2, m2, q1, q2, q3, q4, -⟩ := Cond.selects_spec (a' (.selects cls Bundle.tFill0 Bundle.tFill0) (by simp [Bundle.ownAtoms0]))
    cases Option.some.inj (q1.symm.trans hfound)
    cases Option.some.inj (q2.symm.trans (State.methodFound?_of_named Y.fill0 (by decide)))
    cases Option.some.inj (q3.symm.trans Y.fill0)
    rw [Launch.admits_selectMethod X.admits]; exact q4
  have hselF : selectMethod e.platform s.vm P1.m.cls T.fill = .method T.fill := by
    obtain ⟨c2, r2, m2, q1, q2, q3, q4, -⟩ := Cond.selects_spec (a' (.selects cls Bundle.tFill Bundle.tFill) (by simp [Bundle.ownAtoms0]))
    cases Option.some.inj (q1.symm.trans hfound)
    cases Option.some.inj (q2.symm.trans (State.methodFound?_of_named Y.fill (by decide)))
    cases Option.some.inj (q3.symm.trans Y.fill)
    rw [Launch.admits_selectMethod X.admits]; exact q4
  obtain ⟨cellS0, hcS0, hiss⟩ := Y.statics
  obtain ⟨u0, hu0⟩ := Cond.staticRefV Y.unassigned L.unassignedStatic L.statics hcS0 hiss (a' (.isRef (.static Bundle.tN "UNASSIGNED_STACK" Bundle.steD)) (by simp [Bundle.ownAtoms0]))
  obtain ⟨sen, hsen⟩ := Cond.staticRefV Y.sentinel L.sentinelStatic L.statics hcS0 hiss (a' (.isRef (.static Bundle.tN "SUPPRESSED_SENTINEL" Bundle.listD)) (by simp [Bundle.ownAtoms0]))
  obtain ⟨ci198, i198, fB, hk198, hg198, ha198, hsB, -, hnB, htB, hffB⟩ := Cond.ownField (t := .object "java/lang/Object") Y.found L.cls (by decide +kernel) (a' (.fieldLink Bundle.tN 198 Bundle.tN "backtrace" "Ljava/lang/Object;") (by simp [Bundle.ownAtoms0])) (a' (.lays Bundle.tN Bundle.tN "backtrace" "Ljava/lang/Object;") (by simp [Bundle.ownAtoms0])) e.platform hpl
  obtain ⟨cellS, hcS', heS, -, hkeep⟩ := X.same.2.2.2.2.2 T.aS cellS0 hcS0
  have hcellS : W.heap[T.aS]? = some cellS := hcS'
  have hout' : ∀ i, (⟨T.aS, i⟩ : Loc) ∉ locs := fun i hmem => by
    have := hlocs _ hmem cellS0 hcS0
    rw [hiss] at this; cases this
  have hknownS : cellS.vm ≠ .unknown := by
    rw [heS]; intro hu
    rw [show cellS0.vm = .unknown from hu] at hiss
    cases hiss
  have hneS : T.aS ≠ a := Nat.ne_of_lt (Nat.lt_of_lt_of_le (Array.getElem?_eq_some_iff.mp hcS0).1 hnew)
  obtain ⟨iM, hffM⟩ := Y.msg
  obtain ⟨tyC, dC, hdC, hdnC⟩ := Cond.laysAt hfound hk Y.cause (a' (.lays cls Bundle.tN "cause" "Ljava/lang/Throwable;") (by simp [Bundle.ownAtoms0]))
  obtain ⟨tyS, dS, hdS, hdnS⟩ := Cond.laysAt hfound hk Y.stack (a' (.lays cls Bundle.tN "stackTrace" Bundle.steD) (by simp [Bundle.ownAtoms0]))
  obtain ⟨tyP, dP, hdP, hdnP⟩ := Cond.laysAt hfound hk Y.supp (a' (.lays cls Bundle.tN "suppressedExceptions" Bundle.listD) (by simp [Bundle.ownAtoms0]))
  obtain ⟨tyM, dM, hdM, hdnM⟩ := Cond.laysAt hfound hk hffM (a' (.lays cls Bundle.tN "detailMessage" "Ljava/lang/String;") (by simp [Bundle.ownAtoms0]))
  obtain ⟨tyB, dB, hdB, hdnB⟩ := Cond.laysAt hfound hk hffB (a' (.lays cls Bundle.tN "backtrace" "Ljava/lang/Object;") (by simp [Bundle.ownAtoms0]))
  have bC := Cond.laysApart hdB hdC hdnB hdnC (by rw [hnB, Y.causeName]; decide)
  have bS := Cond.laysApart hdB hdS hdnB hdnS (by rw [hnB, Y.stackName]; decide)
  have bP := Cond.laysApart hdB hdP hdnB hdnP (by rw [hnB, Y.suppName]; decide)
  have hskip : SkipFacts T e.platform s (fun u => u) u0 ((preparedCellV T.toThrowableT (freshCell P1.m.cls kX) a u0 sen).withEntry W.cur) :=
    ⟨{ ci198 := ci198, i198 := i198, fBack := fB }, ⟨hk198, hg198, ha198, hsB⟩, by
      have := fresh_default (c := P1.m.cls) tyB
      rw [htB] at this
      simpa [preparedCellV, Cell.setSlot, Cell.withEntry, Array.getElem?_setIfInBounds, bC, bS, bP, bC.symm, bS.symm, bP.symm, defaultValue] using this, fun _ _ => rfl⟩
  obtain ⟨tm, methC, cdC, kC, vm₁, hnC, -, -, -, -, -, -, -, hW₁, st1⟩ := Steps.initCold (tb := p.tables) (e := e) (below := below) (s := s) (U := W) X.here hexec X.warmed hpl hown (t := Bundle.init0 cls) rfl rfl (Bundle.fit_spec hcls).2
    (a' (.methodLink own ic (Bundle.init0 cls)) (by simp [Bundle.ownAtoms0])) (h (.instanceMethod (Bundle.init0 cls)) (by cases names <;> simp [Bundle.ownAtoms0, Bundle.chain0Atoms, Bundle.passAtoms])) (bytes := Bundle.five) (maxL := 1) (h (.code (Bundle.init0 cls) Bundle.five 1 none) (by cases names <;> simp [Bundle.ownAtoms0, Bundle.chain0Atoms, Bundle.passAtoms]))
    (f := g) hg (a := a) (rest := .ref a :: rest) hstack hd6
  cases Option.some.inj (hnC.symm.trans hP1m)
  have X₁ := X.noted hW₁
  obtain ⟨vm₂, X₂, st2⟩ := X₁.ctorPlainOffV hexec (g := { g with stack := .ref a :: rest }) hg hsize T L Z LZ (P1 :: Ps)
    (fun P hP => by rcases List.mem_cons.mp hP with rfl | hP; exact L1; exact hL P hP) ⟨hlink1, hlink⟩ (u0 := u0) (sen := sen) (self := a) (cell := freshCell P1.m.cls kX) (cellS := cellS)
    hcell (fun _ => by simp) (by simp) rfl rfl hsel0 hselF hcellS hneS hknownS (by rw [hkeep _ (hout' _)]; exact hu0) (by rw [hkeep _ (hout' _)]; exact hsen)
    (Takes.of_laid hk hord tyC (by rw [Y.causeType]; rfl)) (Takes.of_laid hk hord tyS (by rw [Y.stackType]; exact fits_refV_array _ u0)) (Takes.of_laid hk hord tyP (by rw [Y.suppType]; exact fits_refV_object _ sen)) Y.objLocals hskip htr [] hd6
    (by simp only [List.length_cons, hlen]; omega) (by simp only [List.length_cons, hlen]; exact hRlocals)
  have hlt : a < ((W.setVm vm₁).setVm vm₂).heap.size := (Array.getElem?_eq_some_iff.mp hcell).1
  refine ⟨(W.setVm vm₁).setVm vm₂, _, _, X₂, fun y hy => ?_, hlt, rfl, rfl, fun target hwalk => st1 _ (fun acts => ?_)⟩
  · simp only [List.mem_cons, List.not_mem_nil, or_false] at hy
    rcases hy with rfl | rfl | rfl | rfl <;> rfl
  · rw [doInvoke_state]
    exact st2 _ hwalk
end VXK
section VXK2
variable {p : Program} {l : Launch} {e : Env} {R : Room} {s : State} {m : MethodId} {args : Array Value} {below : List Frame} {meth : Method} {c : Code} {H : Heap} {locs : List Loc} {cells slots : Nat} {Q : State → Prop}
variable {ls : Array Slot} {rest : List Value} {D : va_G} {cl : List vw_C} {tys : List (ClassId × FieldType)} {ws : va_W}
/-- 'new E("text")' that isn't thrown at once: the object goes on the stack -/
theorem vx_makeS {cc : ByteArray} {pc : Nat} (hexec : p.tables.exec = Jvm.exec) (hb : c.code = cc) (hl : l.stackTraces = false) {own cls text : String} {names : List String} {ik is ic sa ci : Nat} {A : Nat → Prop} {T0 : u_T}
    (hown : s.vm.findClass own = some m.cls) (hcls : Bundle.fit cls = true) (hnames : ∀ n ∈ names, Bundle.fit n = true)
    (hk : (Cond.classLink own ik cls).before args s = true) (hini : (Cond.initialized cls).before args s = true) (hstr : vk_R own is text sa s) (hat : ∀ w ∈ vx_atS own ic cls names, w.before args s = true)
    (hgood : ∀ w ∈ Cond.classLink own ik cls :: Cond.initialized cls :: vx_atS own ic cls names, vx_ot w = true)
    (hU : vx_Zq Bundle.tN "UNASSIGNED_STACK" Bundle.steD A s s.heap) (hN : vx_Zq Bundle.tN "SUPPRESSED_SENTINEL" Bundle.listD A s s.heap) (hS : va_S A s.heap H locs) (hsize : ls.size = c.maxLocals)
    (d0 : decode cc pc = .ok (.new ik, 3)) (d3 : decode cc (pc + 3) = .ok (.dup, 1)) (d4 : decode cc (pc + 4) = .ok (.ldc is, 2)) (d6 : decode cc (pc + 6) = .ok (.invokespecial ic, 3))
    (hK : va_K D cl tys s) (hP : va_P D cl ws H) (hD : va_D A ws) (hA : ∀ q, s.heap.size ≤ q → A q) (hc : cl[ci]? = some (cls, T0, 0))
    (hRframes : names.length + 3 < R.frames) (hRlocals : (rest.map fun v => v.category).sum + (13 * (names.length + 1) + 43) ≤ R.locals) (hRcells : cells + 1 ≤ R.cells) (hRslots : slots + 6 ≤ R.slots)
    (kk : ∀ (q : Nat) (H1 : Heap), va_P D cl (ws ++ [(q, .inr (ci, []))]) H1 → va_D A (ws ++ [(q, .inr (ci, []))]) → va_S A s.heap H1 locs → W p l e R s m args below meth c H1 locs (cells + 1) (slots + 6) Q (F0 m (pc + 9) ls (.ref q :: rest))) :
    W p l e R s m args below meth c H locs cells slots Q (F0 m pc ls rest) := by
  intro T hT X
  subst hT
  have htr : e.platform.stackTraces = false := (show e.platform.stackTraces = l.stackTraces by rw [X.admits.platform]).trans hl
  have Y := vx_rebase X (R' := { frames := R.frames, locals := R.locals, cells := 1, slots := 6 }) (Nat.le_refl _) (Nat.le_refl _) hRcells hRslots
  obtain ⟨s', hA'⟩ : ∃ z, z = (T.setVm s.vm).setFrames (.invoking m args :: below) := ⟨_, rfl⟩
  rw [← hA'] at Y
  have hvm : s'.vm = s.vm := by rw [hA']; rfl
  have hhp : s'.heap = T.heap := by rw [hA']; rfl
  have hW0 : s.WarmedH s'.vm := by rw [hvm]; exact State.WarmedH.refl s
  have hat' : ∀ w ∈ vx_atS own ic cls names, w.before args s' = true := fun w hw => vx_ot_at hW0 hvm.symm (hgood w (List.mem_cons_of_mem _ (List.mem_cons_of_mem _ hw))) (hat w hw)
  have hk' : (Cond.classLink own ik cls).before args s' = true := vx_ot_at hW0 hvm.symm (hgood _ List.mem_cons_self) hk
  have hini' : (Cond.initialized cls).before args s' = true := vx_ot_at hW0 hvm.symm (hgood _ (List.mem_cons_of_mem _ List.mem_cons_self)) hini
  have hU' : vx_Zq Bundle.tN "UNASSIGNED_STACK" Bundle.steD A s' s'.heap := by rw [hhp]; exact vx_Zq.moved hW0.alike (hU.kept hS.2.1)
  have hN' : vx_Zq Bundle.tN "SUPPRESSED_SENTINEL" Bundle.listD A s' s'.heap := by rw [hhp]; exact vx_Zq.moved hW0.alike (hN.kept hS.2.1)
  have h : ∀ w ∈ Bundle.ownAtoms own ic cls names, w.before args s' = true := vx_own hat' (vx_isRefq hU'.1) (vx_isRefq hN'.1) hU'.2.word hN'.2.word
  have hown' : s'.vm.findClass own = some m.cls := by rw [hvm]; exact hown
  have hins : (Cond.instantiable cls 6).before args s' = true := h _ (by simp [Bundle.ownAtoms])
  obtain ⟨vm₁, cX, kX, hfX, hkX, -, -, X₁, st1⟩ := Y.newCold hexec (own := own) (C := cls) (index := ik) (n := 6) hown' hk' hins hini'
    (g := F0 m pc ls rest) rfl (by rw [hb]; exact d0) (Nat.le_refl _) (Nat.le_refl _)
  generalize hT1 : (T.setVm vm₁).pushCell { cls := cX, slots := kX.instanceTypes.map defaultValue, vm := .none } = T1 at X₁ st1
  have hcat : (Value.ref T.heap.size).category = 1 := rfl
  have hcellA : T1.heap[T.heap.size]? = some (freshCell cX kX) := by rw [← hT1]; exact State.heap_pushCell_size _ _
  have d3' : decode c.code (pc + 3) = .ok (.dup, 1) := by rw [hb]; exact d3
  have d4' : decode c.code (pc + 4) = .ok (.ldc is, 2) := by rw [hb]; exact d4
  have hstr' : vk_R own is text sa s' := vk_R.warm hW0 hstr
  obtain ⟨V, ce, L, Z, hL, hlt, hcl9, hvm9, st⟩ := vx_ctorMadeS X₁ hexec htr (own := own) (cls := cls) (names := names) (ic := ic) hown' hcls hnames h (fun x hx => nomatch hx) hfX hkX hcellA (by rw [hhp]; exact Nat.le_refl _) (msg := .ref sa) rfl
    (g := { method := m, pc := pc + 6, locals := ls, stack := .ref sa :: .ref T.heap.size :: .ref T.heap.size :: rest, locked := none }) rfl hsize (rest := rest) rfl
    (by rw [hb]; exact d6) hRframes (by simp only [List.map_cons, List.sum_cons, hcat]; omega)
  have Z0 := Stand.forget (locs := []) Z (fun y hy => by rw [hL y hy, hhp]; exact Nat.le_refl _)
  obtain ⟨f1, f2⟩ := vx_frame Z0.same
  rw [hhp] at f1 f2
  have hcid : ce.cls = D.1 ci := by
    rw [hcl9]
    have h1 := (hK.1 ci _ hc).2.1
    rw [hvm] at hfX
    exact Option.some.inj (hfX.symm.trans h1)
  have hh : (V.setCell T.heap.size ce).heap[T.heap.size]? = some ce := heapAt_setCell_self (s := V) ce hlt
  subst hA'
  have X5 := vx_back9 X Y Z0
  have X6 : Stand p l e R s m args below meth c (V.setCell T.heap.size ce) locs (cells + 1) (slots + 6) := { X5 with same := X5.same.mono (by omega) (by omega) }
  have hk9 : ∀ (k : Nat) (x : Nat × va_E), ws[k]? = some x → (V.setCell T.heap.size ce).heap[x.1]? = T.heap[x.1]? := fun k x hx => f2 x.1 ((hP k x hx).lt) (fun z hz => nomatch hz)
  obtain ⟨t, a1, b1⟩ := kk T.heap.size (V.setCell T.heap.size ce).heap ((hP.kept hk9).app (fun k x hx => by
      have hz : k < 1 := (List.getElem?_eq_some_iff.mp hx).1
      rw [show k = 0 by omega] at hx
      cases hx
      exact ⟨_, hc, ce, hh, hcid, hvm9, fun k hk => absurd hk (Nat.not_lt_zero k)⟩)) (hD.push hP rfl (hA _ hS.1)) ⟨Nat.le_trans hS.1 f1, fun q h1 h2 => (f2 q (Nat.lt_of_lt_of_le h1 hS.1) (fun z hz => nomatch hz)).trans (hS.2.1 q h1 h2), hS.2.2⟩ _ rfl X6
  refine ⟨t, st1 _ ?_, b1⟩
  show Steps p.tables e below (T1.setTop { method := m, pc := pc + 3, locals := ls, stack := .ref T.heap.size :: rest, locked := none }) _
  jvm_step X₁.here [X₁.here.top, hexec, d3', Value.category]
  exact X₁.ldcString hexec (own := own) (text := text) (index := is) (a := sa) hown' hstr'.1 hstr'.2
    (g := { method := m, pc := pc + 4, locals := ls, stack := .ref T.heap.size :: .ref T.heap.size :: rest, locked := none }) rfl d4' _ (st _ a1)
/-- 'new E()' that isn't thrown at once: the object goes on the stack -/
theorem vx_make0 {cc : ByteArray} {pc : Nat} (hexec : p.tables.exec = Jvm.exec) (hb : c.code = cc) (hl : l.stackTraces = false) {own cls : String} {names : List String} {ik ic ci : Nat} {A : Nat → Prop} {T0 : u_T}
    (hown : s.vm.findClass own = some m.cls) (hcls : Bundle.fit cls = true) (hnames : ∀ n ∈ names, Bundle.fit n = true)
    (hk : (Cond.classLink own ik cls).before args s = true) (hini : (Cond.initialized cls).before args s = true) (hat : ∀ w ∈ vx_at0 own ic cls names, w.before args s = true)
    (hgood : ∀ w ∈ Cond.classLink own ik cls :: Cond.initialized cls :: vx_at0 own ic cls names, vx_ot w = true)
    (hU : vx_Zq Bundle.tN "UNASSIGNED_STACK" Bundle.steD A s s.heap) (hN : vx_Zq Bundle.tN "SUPPRESSED_SENTINEL" Bundle.listD A s s.heap) (hS : va_S A s.heap H locs) (hsize : ls.size = c.maxLocals)
    (d0 : decode cc pc = .ok (.new ik, 3)) (d3 : decode cc (pc + 3) = .ok (.dup, 1)) (d4 : decode cc (pc + 4) = .ok (.invokespecial ic, 3))
    (hK : va_K D cl tys s) (hP : va_P D cl ws H) (hD : va_D A ws) (hA : ∀ q, s.heap.size ≤ q → A q) (hc : cl[ci]? = some (cls, T0, 0))
    (hRframes : names.length + 3 < R.frames) (hRlocals : (rest.map fun v => v.category).sum + (13 * (names.length + 1) + 42) ≤ R.locals) (hRcells : cells + 1 ≤ R.cells) (hRslots : slots + 6 ≤ R.slots)
    (kk : ∀ (q : Nat) (H1 : Heap), va_P D cl (ws ++ [(q, .inr (ci, []))]) H1 → va_D A (ws ++ [(q, .inr (ci, []))]) → va_S A s.heap H1 locs → W p l e R s m args below meth c H1 locs (cells + 1) (slots + 6) Q (F0 m (pc + 7) ls (.ref q :: rest))) :
    W p l e R s m args below meth c H locs cells slots Q (F0 m pc ls rest) := by
  intro T hT X
  subst hT
  have htr : e.platform.stackTraces = false := (show e.platform.stackTraces = l.stackTraces by rw [X.admits.platform]).trans hl
  have Y := vx_rebase X (R' := { frames := R.frames, locals := R.locals, cells := 1, slots := 6 }) (Nat.le_refl _) (Nat.le_refl _) hRcells hRslots
  obtain ⟨s', hA'⟩ : ∃ z, z = (T.setVm s.vm).setFrames (.invoking m args :: below) := ⟨_, rfl⟩
  rw [← hA'] at Y
  have hvm : s'.vm = s.vm := by rw [hA']; rfl
  have hhp : s'.heap = T.heap := by rw [hA']; rfl
  have hW0 : s.WarmedH s'.vm := by rw [hvm]; exact State.WarmedH.refl s
  have hat' : ∀ w ∈ vx_at0 own ic cls names, w.before args s' = true := fun w hw => vx_ot_at hW0 hvm.symm (hgood w (List.mem_cons_of_mem _ (List.mem_cons_of_mem _ hw))) (hat w hw)
  have hk' : (Cond.classLink own ik cls).before args s' = true := vx_ot_at hW0 hvm.symm (hgood _ List.mem_cons_self) hk
  have hini' : (Cond.initialized cls).before args s' = true := vx_ot_at hW0 hvm.symm (hgood _ (List.mem_cons_of_mem _ List.mem_cons_self)) hini
  have hU' : vx_Zq Bundle.tN "UNASSIGNED_STACK" Bundle.steD A s' s'.heap := by rw [hhp]; exact vx_Zq.moved hW0.alike (hU.kept hS.2.1)
  have hN' : vx_Zq Bundle.tN "SUPPRESSED_SENTINEL" Bundle.listD A s' s'.heap := by rw [hhp]; exact vx_Zq.moved hW0.alike (hN.kept hS.2.1)
  have h : ∀ w ∈ Bundle.ownAtoms0 own ic cls names, w.before args s' = true := vx_own hat' (vx_isRefq hU'.1) (vx_isRefq hN'.1) hU'.2.word hN'.2.word
  have hown' : s'.vm.findClass own = some m.cls := by rw [hvm]; exact hown
  have hins : (Cond.instantiable cls 6).before args s' = true := h _ (by simp [Bundle.ownAtoms0])
  obtain ⟨vm₁, cX, kX, hfX, hkX, -, -, X₁, st1⟩ := Y.newCold hexec (own := own) (C := cls) (index := ik) (n := 6) hown' hk' hins hini'
    (g := F0 m pc ls rest) rfl (by rw [hb]; exact d0) (Nat.le_refl _) (Nat.le_refl _)
  generalize hT1 : (T.setVm vm₁).pushCell { cls := cX, slots := kX.instanceTypes.map defaultValue, vm := .none } = T1 at X₁ st1
  have hcat : (Value.ref T.heap.size).category = 1 := rfl
  have hcellA : T1.heap[T.heap.size]? = some (freshCell cX kX) := by rw [← hT1]; exact State.heap_pushCell_size _ _
  have d3' : decode c.code (pc + 3) = .ok (.dup, 1) := by rw [hb]; exact d3
  obtain ⟨V, ce, L, Z, hL, hlt, hcl9, hvm9, st⟩ := vx_ctorMade0 X₁ hexec htr (own := own) (cls := cls) (names := names) (ic := ic) hown' hcls hnames h (fun x hx => nomatch hx) hfX hkX hcellA (by rw [hhp]; exact Nat.le_refl _)
    (g := { method := m, pc := pc + 4, locals := ls, stack := .ref T.heap.size :: .ref T.heap.size :: rest, locked := none }) rfl hsize (rest := rest) rfl
    (by rw [hb]; exact d4) hRframes (by simp only [List.map_cons, List.sum_cons, hcat]; omega)
  have Z0 := Stand.forget (locs := []) Z (fun y hy => by rw [hL y hy, hhp]; exact Nat.le_refl _)
  obtain ⟨f1, f2⟩ := vx_frame Z0.same
  rw [hhp] at f1 f2
  have hcid : ce.cls = D.1 ci := by
    rw [hcl9]
    have h1 := (hK.1 ci _ hc).2.1
    rw [hvm] at hfX
    exact Option.some.inj (hfX.symm.trans h1)
  have hh : (V.setCell T.heap.size ce).heap[T.heap.size]? = some ce := heapAt_setCell_self (s := V) ce hlt
  subst hA'
  have X5 := vx_back9 X Y Z0
  have X6 : Stand p l e R s m args below meth c (V.setCell T.heap.size ce) locs (cells + 1) (slots + 6) := { X5 with same := X5.same.mono (by omega) (by omega) }
  have hk9 : ∀ (k : Nat) (x : Nat × va_E), ws[k]? = some x → (V.setCell T.heap.size ce).heap[x.1]? = T.heap[x.1]? := fun k x hx => f2 x.1 ((hP k x hx).lt) (fun z hz => nomatch hz)
  obtain ⟨t, a1, b1⟩ := kk T.heap.size (V.setCell T.heap.size ce).heap ((hP.kept hk9).app (fun k x hx => by
      have hz : k < 1 := (List.getElem?_eq_some_iff.mp hx).1
      rw [show k = 0 by omega] at hx
      cases hx
      exact ⟨_, hc, ce, hh, hcid, hvm9, fun k hk => absurd hk (Nat.not_lt_zero k)⟩)) (hD.push hP rfl (hA _ hS.1)) ⟨Nat.le_trans hS.1 f1, fun q h1 h2 => (f2 q (Nat.lt_of_lt_of_le h1 hS.1) (fun z hz => nomatch hz)).trans (hS.2.1 q h1 h2), hS.2.2⟩ _ rfl X6
  refine ⟨t, st1 _ ?_, b1⟩
  show Steps p.tables e below (T1.setTop { method := m, pc := pc + 3, locals := ls, stack := .ref T.heap.size :: rest, locked := none }) _
  jvm_step X₁.here [X₁.here.top, hexec, d3', Value.category]
  exact st _ a1
/-- 'throw x' of an object that was made before -/
theorem vx_athrow {cc : ByteArray} {pc : Nat} (hexec : p.tables.exec = Jvm.exec) (hb : c.code = cc) {q : Addr} (hdg : decode cc pc = .ok (.athrow, 1)) (k : vx_W p l e R s m args below meth c H locs cells slots Q (F0 m pc ls rest) q) : W p l e R s m args below meth c H locs cells slots Q (F0 m pc ls (.ref q :: rest)) := by
  intro T hT X
  obtain ⟨t, st, hq⟩ := k T hT X
  refine ⟨t, ?_, hq⟩
  have hdg' : decode c.code pc = .ok (.athrow, 1) := by rw [hb]; exact hdg
  jvm_step X.here [X.here.top, hexec, hdg', athrow.wp_sem]
  exact st
end VXK2
/-! ===== END ===== -/
/-! ===== BEGIN a constructor that throws (launches without stack traces) ===== -/
section VXIA
variable {p : Program} {l : Launch} {e : Env} {R : Room} {s : State} {m : MethodId} {args : Array Value} {below : List Frame} {meth : Method} {c : Code} {T : State} {locs : List Loc} {cells slots : Nat}
theorem vx_callI (X : Stand p l e R s m args below meth c T locs cells slots) (hexec : p.tables.exec = Jvm.exec) {own : String} {index : Nat} {y : MethodName} {bytes : ByteArray} {maxL : Nat}
    (hown : s.vm.findClass own = some m.cls) (hy1 : y.name = "<init>") (hlink : (Cond.methodLink own index y).before args s = true) (hinst : (Cond.instanceMethod y).before args s = true)
    (hcode : (Cond.code y bytes maxL none).before args s = true) (hy : y.cls ≠ "java/lang/invoke/MethodHandle" ∧ y.cls ≠ "java/lang/invoke/VarHandle")
    {W9 : Nat} {Pre : Pt → Array Value → Prop} {Post : Pt → Array Value → Option Value → Pt → Prop} {PostX : Pt → Array Value → Addr → Pt → Prop} (hK : vx_Back l R p e below s args y 3 W9 Pre Post PostX)
    {g : JFrame} (hg : g.method = m) (hsize : g.locals.size = c.maxLocals) {a : Addr} {argsL rest : List Value} (hlen : ∀ sig, parseMethodDescriptor y.desc = some sig → argsL.length = sig.parameters.length)
    (hstack : g.stack = argsL.reverse ++ .ref a :: rest) (hW : 2 * g.monitorRoom + (rest.map fun v => v.category).sum ≤ W9) (hdg : decode c.code g.pc = .ok (.invokespecial index, 3))
    (hpre : ∀ vm₁, s.WarmedH vm₁ → Pre ⟨T.setVm vm₁, locs, cells, slots⟩ (Value.ref a :: argsL).toArray) :
    (∃ (v : Option Value) (vm₁ : Vm) (B : Pt), s.WarmedH vm₁ ∧ Stand p l e R s m args below meth c B.U B.locs B.cells B.slots ∧ Post ⟨T.setVm vm₁, locs, cells, slots⟩ (Value.ref a :: argsL).toArray v B ∧
      ∀ target, Steps p.tables e below (B.U.setTop { g with pc := g.pc + 3, stack := v.toList ++ rest }) target → Steps p.tables e below (T.setTop g) target) ∨
    (∃ (q : Addr) (vm₁ : Vm) (B : Pt), s.WarmedH vm₁ ∧ Stand p l e R s m args below meth c B.U B.locs B.cells B.slots ∧ PostX ⟨T.setVm vm₁, locs, cells, slots⟩ (Value.ref a :: argsL).toArray q B ∧
      Steps p.tables e below (T.setTop g) ((B.U.setTop { g with stack := rest }).pushFrame (.throwing q))) := by
  subst hg
  have hpl : e.platform.magicAccessors = ({} : Platform).magicAccessors := by rw [X.admits.platform]
  obtain ⟨mk, methM, cM, kP, vm₁, hnamed, hmethM, hcodeM, -, hlocalsM, -, hkP, -, hW₁, hstep₁⟩ := Steps.initColdArgs (e := e) X.here hexec X.warmed hpl hown hy1 hy hlink hinst hcode (f := g) rfl hlen hstack hdg
  have X₁ := X.noted hW₁
  rcases hK g.method meth c ⟨T.setVm vm₁, locs, cells, slots⟩ { g with stack := rest } (.invokespecial index) mk (Value.ref a :: argsL).toArray X₁ rfl hsize hdg hW (X₁.named hnamed) (hpre vm₁ X₁.warmed) with ⟨v, B, X', hpost, hsteps⟩ | ⟨q, B, X', hpost, hsteps⟩
  · exact Or.inl ⟨v, vm₁, B, X₁.warmed, X', hpost, fun target h => hstep₁ _ fun acts => by rw [doInvoke_state]; exact hsteps.trans h⟩
  · exact Or.inr ⟨q, vm₁, B, X₁.warmed, X', hpost, hstep₁ _ fun acts => by rw [doInvoke_state]; exact hsteps⟩
end VXIA
section VXIB
variable {p : Program} {l : Launch} {e : Env} {R : Room} {s : State} {m : MethodId} {args : Array Value} {below : List Frame} {meth : Method} {c : Code} {H : Heap} {locs : List Loc} {cells slots : Nat}
variable {y : MethodName} {bytes cc : ByteArray} {maxL nL mc ms n index : Nat} {ret : Option FieldType} {ws : List Cond} {rm : Room} {Pc : Array Value → State → Prop} {Qc : Array Value → State → Outcome → State → Prop} {XC : String → State → State → Prop} {free : Addr → Prop} {Ts : List Cond} {own C : String} {b : Addr} {As rest : List Value} {g : JFrame}
theorem vx_runI (S : CallFix p m c cc nL s args Ts own) (hM : vx_Met l y ws rm Pc Qc XC mc ms free) (cw : CallB R s args own index y bytes maxL none ws rm mc ms n ∧ y.name = "<init>" ∧ (Cond.instanceMethod y).before args s = true) (hp : PreS s H Pc (.ref b :: As))
    (hg : g.method = m) (hn : As.length = n) (hsize : g.locals.size = nL) (hstack : g.stack = As.reverse ++ .ref b :: rest) (hW : 2 * g.monitorRoom + (rest.map fun v => v.category).sum ≤ 8) (hdg : decode cc g.pc = .ok (.invokespecial index, 3)) (hf : cells + mc ≤ R.cells ∧ slots + ms ≤ R.slots) :
    vx_Run p l e R s m args below meth c H locs cells slots mc ms g rest (Qc (Value.ref b :: As).toArray) XC free := by
  have hK : vx_Back l R p e below s args y 3 8 (PreOf R mc ms Pc) (PostOf Qc mc ms free) (vx_Post XC mc ms free) := vx_callBack cw.1 hM hp.1
  obtain ⟨⟨-, -, -, -, -, -, hcode, -, hy, hlen, hl⟩, hy1, hin⟩ := cw
  obtain ⟨hx, hb, hml, ho, -⟩ := S
  have hPc := hp.2
  intro T hT X
  rcases vx_callI X hx (bytes := bytes) (maxL := maxL) ho hy1 hl hin hcode hy hK hg (hsize.trans hml.symm) (a := b) (argsL := As) (rest := rest) (fun sig h => hn.trans (hlen sig h)) hstack hW (by rw [hb]; exact hdg)
    (fun vm₁ hW₁ => ⟨hf.1, hf.2, hPc (T.setVm vm₁) hT hW₁⟩) with ⟨v, vm₁, ⟨U', l2, c2, s2⟩, hW₁, X', ⟨g', mk, t, L, e1, e2, hq, h1, hL, h2, h3⟩, st⟩ | ⟨q, vm₁, ⟨U', l2, c2, s2⟩, hW₁, X', ⟨g', mk, t, L, E, ce, e1, e2, hq, hce, hcv, hcl, h1, hL, h2, h3⟩, st⟩
  · dsimp only [Pt.U, Pt.locs, Pt.cells, Pt.slots] at X' e1 e2 h1 h2 h3 st
    subst h1; subst h2; subst h3
    exact Or.inl ⟨v, (T.setVm vm₁).calling g' mk (Value.ref b :: As).toArray, t, U', L, hT, X', hL, e1, e2, hq, st⟩
  · dsimp only [Pt.U, Pt.locs, Pt.cells, Pt.slots] at X' e1 e2 h1 h2 h3 st hcl
    subst h1; subst h2; subst h3
    exact Or.inr ⟨q, (T.setVm vm₁).calling g' mk (Value.ref b :: As).toArray, t, U', L, E, ce, hT, X', hL, e1, e2, hq, hce, hcv, vx_cls hW₁ hcl, st⟩
end VXIB
/-! ===== END ===== -/
/-! ===== BEGIN a private constructor of a nest mate that throws ===== -/
section VXIC
variable {p : Program} {l : Launch} {e : Env} {R : Room} {s : State} {m : MethodId} {args : Array Value} {below : List Frame} {meth : Method} {c : Code} {T : State} {locs : List Loc} {cells slots : Nat}
theorem vx_callIN (X : Stand p l e R s m args below meth c T locs cells slots) (hexec : p.tables.exec = Jvm.exec) {own : String} {index : Nat} {host : String} {y : MethodName} {bytes : ByteArray} {maxL : Nat}
    (hown : s.vm.findClass own = some m.cls) (hy1 : y.name = "<init>") (hlink : (Cond.methodLinkNest own index y host).before args s = true) (hinst : (Cond.instanceMethod y).before args s = true)
    (hcode : (Cond.code y bytes maxL none).before args s = true) (hy : y.cls ≠ "java/lang/invoke/MethodHandle" ∧ y.cls ≠ "java/lang/invoke/VarHandle")
    {W9 : Nat} {Pre : Pt → Array Value → Prop} {Post : Pt → Array Value → Option Value → Pt → Prop} {PostX : Pt → Array Value → Addr → Pt → Prop} (hK : vx_Back l R p e below s args y 3 W9 Pre Post PostX)
    {g : JFrame} (hg : g.method = m) (hsize : g.locals.size = c.maxLocals) {a : Addr} {argsL rest : List Value} (hlen : ∀ sig, parseMethodDescriptor y.desc = some sig → argsL.length = sig.parameters.length)
    (hstack : g.stack = argsL.reverse ++ .ref a :: rest) (hW : 2 * g.monitorRoom + (rest.map fun v => v.category).sum ≤ W9) (hdg : decode c.code g.pc = .ok (.invokespecial index, 3))
    (hpre : ∀ vm₁, s.WarmedH vm₁ → Pre ⟨T.setVm vm₁, locs, cells, slots⟩ (Value.ref a :: argsL).toArray) :
    (∃ (v : Option Value) (vm₁ : Vm) (B : Pt), s.WarmedH vm₁ ∧ Stand p l e R s m args below meth c B.U B.locs B.cells B.slots ∧ Post ⟨T.setVm vm₁, locs, cells, slots⟩ (Value.ref a :: argsL).toArray v B ∧
      ∀ target, Steps p.tables e below (B.U.setTop { g with pc := g.pc + 3, stack := v.toList ++ rest }) target → Steps p.tables e below (T.setTop g) target) ∨
    (∃ (q : Addr) (vm₁ : Vm) (B : Pt), s.WarmedH vm₁ ∧ Stand p l e R s m args below meth c B.U B.locs B.cells B.slots ∧ PostX ⟨T.setVm vm₁, locs, cells, slots⟩ (Value.ref a :: argsL).toArray q B ∧
      Steps p.tables e below (T.setTop g) ((B.U.setTop { g with stack := rest }).pushFrame (.throwing q))) := by
  subst hg
  have hpl : e.platform.magicAccessors = ({} : Platform).magicAccessors := by rw [X.admits.platform]
  obtain ⟨mk, methM, cM, kP, vm₁, hnamed, hmethM, hcodeM, -, hlocalsM, -, hkP, -, hW₁, hstep₁⟩ := Steps.initColdArgsNest (e := e) X.here hexec X.warmed hpl hown hy1 hy hlink hinst hcode (f := g) rfl hlen hstack hdg
  have X₁ := X.noted hW₁
  rcases hK g.method meth c ⟨T.setVm vm₁, locs, cells, slots⟩ { g with stack := rest } (.invokespecial index) mk (Value.ref a :: argsL).toArray X₁ rfl hsize hdg hW (X₁.named hnamed) (hpre vm₁ X₁.warmed) with ⟨v, B, X', hpost, hsteps⟩ | ⟨q, B, X', hpost, hsteps⟩
  · exact Or.inl ⟨v, vm₁, B, X₁.warmed, X', hpost, fun target h => hstep₁ _ fun acts => by rw [doInvoke_state]; exact hsteps.trans h⟩
  · exact Or.inr ⟨q, vm₁, B, X₁.warmed, X', hpost, hstep₁ _ fun acts => by rw [doInvoke_state]; exact hsteps⟩
end VXIC
section VXID
variable {p : Program} {l : Launch} {e : Env} {R : Room} {s : State} {m : MethodId} {args : Array Value} {below : List Frame} {meth : Method} {c : Code} {H : Heap} {locs : List Loc} {cells slots : Nat}
theorem vx_runIN {y : MethodName} {bytes cc : ByteArray} {maxL nL mc ms n index : Nat} {ws : List Cond} {rm : Room} {Pc : Array Value → State → Prop} {Qc : Array Value → State → Outcome → State → Prop} {XC : String → State → State → Prop} {free : Addr → Prop} {Ts : List Cond} {own host : String} {b : Addr} {As rest : List Value} {g : JFrame}
    (S : CallFix p m c cc nL s args Ts own) (hM : vx_Met l y ws rm Pc Qc XC mc ms free) (cw : va_CN R s args own index y host bytes maxL none ws rm mc ms n ∧ y.name = "<init>" ∧ (Cond.instanceMethod y).before args s = true) (hp : PreS s H Pc (.ref b :: As))
    (hg : g.method = m) (hn : As.length = n) (hsize : g.locals.size = nL) (hstack : g.stack = As.reverse ++ .ref b :: rest) (hW : 2 * g.monitorRoom + (rest.map fun v => v.category).sum ≤ 8) (hdg : decode cc g.pc = .ok (.invokespecial index, 3)) (hf : cells + mc ≤ R.cells ∧ slots + ms ≤ R.slots) :
    vx_Run p l e R s m args below meth c H locs cells slots mc ms g rest (Qc (Value.ref b :: As).toArray) XC free := by
  obtain ⟨⟨⟨hrc, hrs, hfr, hlo, hws, hcw⟩, hcode, hini, hy, hlen, hl⟩, hx1, hx2⟩ := cw
  have hK : vx_Back l R p e below s args y 3 8 (PreOf R mc ms Pc) (PostOf Qc mc ms free) (vx_Post XC mc ms free) := vx_back (bytes := bytes) (maxL := maxL) (ret := none) hM hp.1 hrc hrs hfr hlo hws hcw (fun a' U hW => word_at hW (Or.inl (by first | rfl | simp [Cond.onTables, Cond.keeps, Cond.steady])) hini)
  obtain ⟨hx, hb, hml, ho, -⟩ := S
  have hPc := hp.2
  intro T hT X
  rcases vx_callIN X hx (bytes := bytes) (maxL := maxL) ho hx1 hl hx2 hcode hy hK hg (hsize.trans hml.symm) (a := b) (argsL := As) (rest := rest) (fun sig h => hn.trans (hlen sig h)) hstack hW (by rw [hb]; exact hdg)
    (fun vm₁ hW₁ => ⟨hf.1, hf.2, hPc (T.setVm vm₁) hT hW₁⟩) with ⟨v, vm₁, ⟨U', l2, c2, s2⟩, hW₁, X', ⟨g', mk, t, L, e1, e2, hq, h1, hL, h2, h3⟩, st⟩ | ⟨q, vm₁, ⟨U', l2, c2, s2⟩, hW₁, X', ⟨g', mk, t, L, E, ce, e1, e2, hq, hce, hcv, hcl, h1, hL, h2, h3⟩, st⟩
  · dsimp only [Pt.U, Pt.locs, Pt.cells, Pt.slots] at X' e1 e2 h1 h2 h3 st
    subst h1; subst h2; subst h3
    exact Or.inl ⟨v, (T.setVm vm₁).calling g' mk (Value.ref b :: As).toArray, t, U', L, hT, X', hL, e1, e2, hq, st⟩
  · dsimp only [Pt.U, Pt.locs, Pt.cells, Pt.slots] at X' e1 e2 h1 h2 h3 st hcl
    subst h1; subst h2; subst h3
    exact Or.inr ⟨q, (T.setVm vm₁).calling g' mk (Value.ref b :: As).toArray, t, U', L, E, ce, hT, X', hL, e1, e2, hq, hce, hcv, vx_cls hW₁ hcl, st⟩
end VXID
/-! ===== END ===== -/
/-! ===== BEGIN a method of a class above, found by the receiver, that may throw (follows va_callVU, va_runU of this kit) ===== -/
section
variable {p : Program} {l : Launch} {e : Env} {R : Room} {s : State} {m : MethodId} {args : Array Value} {below : List Frame} {meth : Method} {c : Code} {H : Heap} {locs : List Loc} {cells slots : Nat}
theorem vx_callVU {T : State} {locs : List Loc} {cells slots : Nat} (X : Stand p l e R s m args below meth c T locs cells slots) (hexec : p.tables.exec = Jvm.exec) {own C owner : String} {index : Nat} {x y : MethodName} {bytes : ByteArray} {maxL : Nat} {ret : Option FieldType}
    (hown : s.vm.findClass own = some m.cls) (hlink : (Cond.methodLink own index x).before args s = true) (hsame : (Cond.sameMethod x.cls owner x.name x.desc).before args s = true)
    (hd0 : va_Decl s ⟨owner, x.name, x.desc⟩) (howner : owner ≠ "java/lang/invoke/MethodHandle" ∧ owner ≠ "java/lang/invoke/VarHandle")
    (hsel : (Cond.selects C x y).before args s = true) (hinst : (Cond.instanceMethod y).before args s = true) (hcode : (Cond.code y bytes maxL ret).before args s = true)
    {W : Nat} {Pre : Pt → Array Value → Prop} {Post : Pt → Array Value → Option Value → Pt → Prop} {PostX : Pt → Array Value → Addr → Pt → Prop} (hK : vx_Back l R p e below s args y 3 W Pre Post PostX)
    {b : Addr} {cellB : Cell} (hcell : T.heap[b]? = some cellB) (hobj : cellB.vm.isStatics = false) (hcls : s.vm.findClass C = some cellB.cls)
    {g : JFrame} (hg : g.method = m) (hsize : g.locals.size = c.maxLocals) {argsL rest : List Value} (hlen : ∀ sig, parseMethodDescriptor x.desc = some sig → argsL.length = sig.parameters.length)
    (hstack : g.stack = argsL.reverse ++ .ref b :: rest) (hW : 2 * g.monitorRoom + (rest.map fun v => v.category).sum ≤ W) (hdg : decode c.code g.pc = .ok (.invokevirtual index, 3))
    (hpre : ∀ vm₁, s.WarmedH vm₁ → Pre ⟨T.setVm vm₁, locs, cells, slots⟩ (Value.ref b :: argsL).toArray) :
    (∃ (v : Option Value) (vm₁ : Vm) (B : Pt), s.WarmedH vm₁ ∧ Stand p l e R s m args below meth c B.U B.locs B.cells B.slots ∧ Post ⟨T.setVm vm₁, locs, cells, slots⟩ (Value.ref b :: argsL).toArray v B ∧
      ∀ target, Steps p.tables e below (B.U.setTop { g with pc := g.pc + 3, stack := v.toList ++ rest }) target → Steps p.tables e below (T.setTop g) target) ∨
    (∃ (q : Addr) (vm₁ : Vm) (B : Pt), s.WarmedH vm₁ ∧ Stand p l e R s m args below meth c B.U B.locs B.cells B.slots ∧ PostX ⟨T.setVm vm₁, locs, cells, slots⟩ (Value.ref b :: argsL).toArray q B ∧
      Steps p.tables e below (T.setTop g) ((B.U.setTop { g with stack := rest }).pushFrame (.throwing q))) := by
  obtain ⟨r0, r, hn, hrm, hstR, hsigR⟩ := hd0
  obtain ⟨cn, ck, r1, hcn, hck, hni, hf, hn1⟩ := Cond.sameMethod_found hsame
  cases hn.symm.trans hn1
  obtain ⟨mk, methM, hnamed, hmethM, -, habM⟩ := Cond.instanceMethod_spec hinst
  obtain ⟨c2, r2, m2, q1, q2, q3, q4, kP, hkP, hkPi⟩ := Cond.selects_spec hsel
  cases hcls.symm.trans q1
  cases hf.symm.trans q2
  cases hnamed.symm.trans q3
  have hselP : selectMethod e.platform s.vm cellB.cls r0 = .method mk := by rw [Launch.admits_selectMethod X.admits]; exact q4
  obtain ⟨vm₁, X₁, hstep₁⟩ := X.invokevirtualUp hexec hown hlink hsame howner hn hrm hstR (a := b) (cell := cellB) hcell
    (fun z h => by rw [h] at hobj; cases hobj) hselP hmethM habM hkP hkPi (g := g) hg (argsL := argsL) (rest := rest) (hlen _ hsigR) hstack hdg
  rcases hK m meth c ⟨T.setVm vm₁, locs, cells, slots⟩ { g with stack := rest } (.invokevirtual index) mk (Value.ref b :: argsL).toArray X₁ hg hsize hdg hW (X₁.named hnamed) (hpre vm₁ X₁.warmed) with ⟨v, B, X', hpost, hsteps⟩ | ⟨q, B, X', hpost, hsteps⟩
  · exact Or.inl ⟨v, vm₁, B, X₁.warmed, X', hpost, fun target h => hstep₁ _ fun acts => by rw [doInvoke_state]; exact hsteps.trans h⟩
  · exact Or.inr ⟨q, vm₁, B, X₁.warmed, X', hpost, hstep₁ _ fun acts => by rw [doInvoke_state]; exact hsteps⟩
theorem vx_runU {x y : MethodName} {bytes cc : ByteArray} {maxL nL mc ms n index : Nat} {ret : Option FieldType} {ws : List Cond} {rm : Room} {Pc : Array Value → State → Prop} {Qc : Array Value → State → Outcome → State → Prop} {XC : String → State → State → Prop} {free : Addr → Prop} {Ts : List Cond} {own C owner : String} {b : Addr} {As rest : List Value} {g : JFrame}
    (S : CallFix p m c cc nL s args Ts own) (hM : vx_Met l y ws rm Pc Qc XC mc ms free) (cw : va_CU R s args own C owner index x y bytes maxL ret ws rm mc ms n) (hp : PreV s H C b Pc As)
    (hg : g.method = m) (hn : As.length = n) (hsize : g.locals.size = nL) (hstack : g.stack = As.reverse ++ .ref b :: rest) (hW : 2 * g.monitorRoom + (rest.map fun v => v.category).sum ≤ 8) (hdg : decode cc g.pc = .ok (.invokevirtual index, 3)) (hf : cells + mc ≤ R.cells ∧ slots + ms ≤ R.slots) :
    vx_Run p l e R s m args below meth c H locs cells slots mc ms g rest (Qc (Value.ref b :: As).toArray) XC free := by
  obtain ⟨hrc, hrs, hfr, hlo, hws, hcw⟩ := cw.back
  have hini := cw.init
  have hK : vx_Back l R p e below s args y 3 8 (PreOf R mc ms Pc) (PostOf Qc mc ms free) (vx_Post XC mc ms free) := vx_back (bytes := bytes) (maxL := maxL) (ret := ret) hM hp.1 hrc hrs hfr hlo hws hcw (fun a' U hW => word_at hW (Or.inl (by first | rfl | simp [Cond.onTables, Cond.keeps, Cond.steady])) hini)
  obtain ⟨hx, hb, hml, ho, -⟩ := S
  obtain ⟨-, ⟨cellB, hcB, hoB, hclB⟩, hPc⟩ := hp
  intro T hT X
  rcases vx_callVU X hx (C := C) (owner := owner) (bytes := bytes) (maxL := maxL) (ret := ret) ho cw.link cw.same cw.decl cw.notMH cw.sel cw.inst cw.code hK (by rw [hT]; exact hcB) hoB hclB hg (hsize.trans hml.symm) (argsL := As) (rest := rest) (fun sig h => hn.trans (cw.len sig h)) hstack hW (by rw [hb]; exact hdg)
    (fun vm₁ hW₁ => ⟨hf.1, hf.2, hPc (T.setVm vm₁) hT hW₁⟩) with ⟨v, vm₁, ⟨U', l2, c2, s2⟩, hW₁, X', ⟨g', mk, t, L, e1, e2, hq, h1, hL, h2, h3⟩, st⟩ | ⟨q, vm₁, ⟨U', l2, c2, s2⟩, hW₁, X', ⟨g', mk, t, L, E, ce, e1, e2, hq, hce, hcv, hcl, h1, hL, h2, h3⟩, st⟩
  · dsimp only [Pt.U, Pt.locs, Pt.cells, Pt.slots] at X' e1 e2 h1 h2 h3 st
    subst h1; subst h2; subst h3
    exact Or.inl ⟨v, (T.setVm vm₁).calling g' mk (Value.ref b :: As).toArray, t, U', L, hT, X', hL, e1, e2, hq, st⟩
  · dsimp only [Pt.U, Pt.locs, Pt.cells, Pt.slots] at X' e1 e2 h1 h2 h3 st hcl
    subst h1; subst h2; subst h3
    exact Or.inr ⟨q, (T.setVm vm₁).calling g' mk (Value.ref b :: As).toArray, t, U', L, E, ce, hT, X', hL, e1, e2, hq, hce, hcv, vx_cls hW₁ hcl, st⟩
end
/-! ===== END ===== -/
/-! ===== BEGIN super.m(..) that may throw (follows va_callSU, va_runSU) ===== -/
section
variable {p : Program} {l : Launch} {e : Env} {R : Room} {s : State} {m : MethodId} {args : Array Value} {below : List Frame} {meth : Method} {c : Code} {H : Heap} {locs : List Loc} {cells slots : Nat}
theorem vx_callSU {T : State} {locs : List Loc} {cells slots : Nat} (X : Stand p l e R s m args below meth c T locs cells slots) (hexec : p.tables.exec = Jvm.exec) {own : String} {index : Nat} {y : MethodName} {bytes : ByteArray} {maxL : Nat} {ret : Option FieldType}
    (hown : s.vm.findClass own = some m.cls) (hlink : (Cond.methodLink own index y).before args s = true) (hsame : (Cond.sameMethod y.cls y.cls y.name y.desc).before args s = true) (hsup : (Cond.superclass own y.cls).before args s = true)
    (hinst : (Cond.instanceMethod y).before args s = true) (hcode : (Cond.code y bytes maxL ret).before args s = true) (hno : y.name ≠ "<init>")
    {W : Nat} {Pre : Pt → Array Value → Prop} {Post : Pt → Array Value → Option Value → Pt → Prop} {PostX : Pt → Array Value → Addr → Pt → Prop} (hK : vx_Back l R p e below s args y 3 W Pre Post PostX)
    {b : Addr} {cellB : Cell} {kB : Class} (hcell : T.heap[b]? = some cellB) (hobj : cellB.vm.isStatics = false) (hkB : s.vm.classes[cellB.cls]? = some kB)
    {g : JFrame} (hg : g.method = m) (hsize : g.locals.size = c.maxLocals) {argsL rest : List Value} (hlen : ∀ sig, parseMethodDescriptor y.desc = some sig → argsL.length = sig.parameters.length)
    (hstack : g.stack = argsL.reverse ++ .ref b :: rest) (hW : 2 * g.monitorRoom + (rest.map fun v => v.category).sum ≤ W) (hdg : decode c.code g.pc = .ok (.invokespecial index, 3))
    (hpre : ∀ vm₁, s.WarmedH vm₁ → Pre ⟨T.setVm vm₁, locs, cells, slots⟩ (Value.ref b :: argsL).toArray) :
    (∃ (v : Option Value) (vm₁ : Vm) (B : Pt), s.WarmedH vm₁ ∧ Stand p l e R s m args below meth c B.U B.locs B.cells B.slots ∧ Post ⟨T.setVm vm₁, locs, cells, slots⟩ (Value.ref b :: argsL).toArray v B ∧
      ∀ target, Steps p.tables e below (B.U.setTop { g with pc := g.pc + 3, stack := v.toList ++ rest }) target → Steps p.tables e below (T.setTop g) target) ∨
    (∃ (q : Addr) (vm₁ : Vm) (B : Pt), s.WarmedH vm₁ ∧ Stand p l e R s m args below meth c B.U B.locs B.cells B.slots ∧ PostX ⟨T.setVm vm₁, locs, cells, slots⟩ (Value.ref b :: argsL).toArray q B ∧
      Steps p.tables e below (T.setTop g) ((B.U.setTop { g with stack := rest }).pushFrame (.throwing q))) := by
  obtain ⟨mk, methM, hnamed, hmethM, hstM, habM⟩ := Cond.instanceMethod_spec hinst
  obtain ⟨methM', cM, hmethM', -, -, -, -, -, -, hsigM⟩ := Cond.code_spec hnamed hcode
  cases hmethM.symm.trans hmethM'
  obtain ⟨ps, dk, kp, hps, hdk, hkp, hsuper, -, -, hnid⟩ := Cond.superclass_spec hown hsup
  have hn : s.methodNamed? ⟨y.cls, y.name, y.desc⟩ = some mk := hnamed
  have hpm : ps = mk.cls := Option.some.inj (hps.symm.trans (findClass_of_methodNamed hnamed))
  have hsub : s.vm.isSubclass ps mk.cls = true := by rw [hpm]; simp [Vm.isSubclass, Vm.isSubclassAux]
  obtain ⟨vm₁, X₁, hstep₁⟩ := X.invokespecialUp hexec hown hlink hsame hn hmethM hstM habM hno hdk hnid hps hsuper hsub (a := b) (cell := cellB) hcell
    (fun z h => by rw [h] at hobj; cases hobj) hkB (g := g) hg (argsL := argsL) (rest := rest) (hlen _ hsigM) hstack hdg
  rcases hK m meth c ⟨T.setVm vm₁, locs, cells, slots⟩ { g with stack := rest } (.invokespecial index) mk (Value.ref b :: argsL).toArray X₁ hg hsize hdg hW (X₁.named hnamed) (hpre vm₁ X₁.warmed) with ⟨v, B, X', hpost, hsteps⟩ | ⟨q, B, X', hpost, hsteps⟩
  · exact Or.inl ⟨v, vm₁, B, X₁.warmed, X', hpost, fun target h => hstep₁ _ (by rw [doInvoke_state]; exact hsteps.trans h)⟩
  · exact Or.inr ⟨q, vm₁, B, X₁.warmed, X', hpost, hstep₁ _ (by rw [doInvoke_state]; exact hsteps)⟩
theorem vx_runSU {y : MethodName} {bytes cc : ByteArray} {maxL nL mc ms n index : Nat} {ret : Option FieldType} {ws : List Cond} {rm : Room} {Pc : Array Value → State → Prop} {Qc : Array Value → State → Outcome → State → Prop} {XC : String → State → State → Prop} {free : Addr → Prop} {Ts : List Cond} {own C : String} {cC : ClassId} {b : Addr} {As rest : List Value} {g : JFrame}
    (hat : ClassAt s C cC) (S : CallFix p m c cc nL s args Ts own) (hM : vx_Met l y ws rm Pc Qc XC mc ms free) (cw : va_CS R s args own index y bytes maxL ret ws rm mc ms n) (hp : PreV s H C b Pc As)
    (hg : g.method = m) (hn : As.length = n) (hsize : g.locals.size = nL) (hstack : g.stack = As.reverse ++ .ref b :: rest) (hW : 2 * g.monitorRoom + (rest.map fun v => v.category).sum ≤ 8) (hdg : decode cc g.pc = .ok (.invokespecial index, 3)) (hf : cells + mc ≤ R.cells ∧ slots + ms ≤ R.slots) :
    vx_Run p l e R s m args below meth c H locs cells slots mc ms g rest (Qc (Value.ref b :: As).toArray) XC free := by
  obtain ⟨⟨hrc, hrs, hfr, hlo, hws, hcw⟩, hl1, hl2, hl3, hl4, hini, hcode, hno, hlen⟩ := cw
  have hK : vx_Back l R p e below s args y 3 8 (PreOf R mc ms Pc) (PostOf Qc mc ms free) (vx_Post XC mc ms free) := vx_back (bytes := bytes) (maxL := maxL) (ret := ret) hM hp.1 hrc hrs hfr hlo hws hcw (fun a' U hW => word_at hW (Or.inl (by first | rfl | simp [Cond.onTables, Cond.keeps, Cond.steady])) hini)
  obtain ⟨hx, hb, hml, ho, -⟩ := S
  obtain ⟨-, ⟨cellB, hcB, hoB, hclB⟩, hPc⟩ := hp
  obtain ⟨hfc, kB, hkB, -⟩ := hat
  cases hfc.symm.trans hclB
  intro T hT X
  rcases vx_callSU X hx (bytes := bytes) (maxL := maxL) (ret := ret) ho hl1 hl2 hl3 hl4 hcode hno hK (by rw [hT]; exact hcB) hoB hkB hg (hsize.trans hml.symm) (argsL := As) (rest := rest) (fun sig h => hn.trans (hlen sig h)) hstack hW (by rw [hb]; exact hdg)
    (fun vm₁ hW₁ => ⟨hf.1, hf.2, hPc (T.setVm vm₁) hT hW₁⟩) with ⟨v, vm₁, ⟨U', l2, c2, s2⟩, hW₁, X', ⟨g', mk, t, L, e1, e2, hq, h1, hL, h2, h3⟩, st⟩ | ⟨q, vm₁, ⟨U', l2, c2, s2⟩, hW₁, X', ⟨g', mk, t, L, E, ce, e1, e2, hq, hce, hcv, hcl, h1, hL, h2, h3⟩, st⟩
  · dsimp only [Pt.U, Pt.locs, Pt.cells, Pt.slots] at X' e1 e2 h1 h2 h3 st
    subst h1; subst h2; subst h3
    exact Or.inl ⟨v, (T.setVm vm₁).calling g' mk (Value.ref b :: As).toArray, t, U', L, hT, X', hL, e1, e2, hq, st⟩
  · dsimp only [Pt.U, Pt.locs, Pt.cells, Pt.slots] at X' e1 e2 h1 h2 h3 st hcl
    subst h1; subst h2; subst h3
    exact Or.inr ⟨q, (T.setVm vm₁).calling g' mk (Value.ref b :: As).toArray, t, U', L, E, ce, hT, X', hL, e1, e2, hq, hce, hcv, vx_cls hW₁ hcl, st⟩
end
/-! ===== END ===== -/
/-! ===== BEGIN a private method of a nest mate that may throw (follows va_callVN, va_callSN, va_runVN, va_runSN) ===== -/
section
variable {p : Program} {l : Launch} {e : Env} {R : Room} {s : State} {m : MethodId} {args : Array Value} {below : List Frame} {meth : Method} {c : Code} {H : Heap} {locs : List Loc} {cells slots : Nat}
variable {T : State}
theorem vx_callVN (X : Stand p l e R s m args below meth c T locs cells slots) (hexec : p.tables.exec = Jvm.exec) {own C : String} {index : Nat} {host : String} {y : MethodName} {bytes : ByteArray} {maxL : Nat} {ret : Option FieldType}
    (hown : s.vm.findClass own = some m.cls) (hlink : (Cond.methodLinkNest own index y host).before args s = true) (hinst : (Cond.instanceMethod y).before args s = true) (hsel : (Cond.selects C y y).before args s = true)
    (hcode : (Cond.code y bytes maxL ret).before args s = true) (hy : y.cls ≠ "java/lang/invoke/MethodHandle" ∧ y.cls ≠ "java/lang/invoke/VarHandle")
    {W : Nat} {Pre : Pt → Array Value → Prop} {Post : Pt → Array Value → Option Value → Pt → Prop} {PostX : Pt → Array Value → Addr → Pt → Prop} (hK : vx_Back l R p e below s args y 3 W Pre Post PostX)
    {b : Addr} {cellB : Cell} (hcell : T.heap[b]? = some cellB) (hobj : cellB.vm.isStatics = false) (hcls : s.vm.findClass C = some cellB.cls)
    {g : JFrame} (hg : g.method = m) (hsize : g.locals.size = c.maxLocals) {argsL rest : List Value} (hlen : ∀ sig, parseMethodDescriptor y.desc = some sig → argsL.length = sig.parameters.length)
    (hstack : g.stack = argsL.reverse ++ .ref b :: rest) (hW : 2 * g.monitorRoom + (rest.map fun v => v.category).sum ≤ W) (hdg : decode c.code g.pc = .ok (.invokevirtual index, 3))
    (hpre : ∀ vm₁, s.WarmedH vm₁ → Pre ⟨T.setVm vm₁, locs, cells, slots⟩ (Value.ref b :: argsL).toArray) :
    (∃ (v : Option Value) (vm₁ : Vm) (B : Pt), s.WarmedH vm₁ ∧ Stand p l e R s m args below meth c B.U B.locs B.cells B.slots ∧ Post ⟨T.setVm vm₁, locs, cells, slots⟩ (Value.ref b :: argsL).toArray v B ∧
      ∀ target, Steps p.tables e below (B.U.setTop { g with pc := g.pc + 3, stack := v.toList ++ rest }) target → Steps p.tables e below (T.setTop g) target) ∨
    (∃ (q : Addr) (vm₁ : Vm) (B : Pt), s.WarmedH vm₁ ∧ Stand p l e R s m args below meth c B.U B.locs B.cells B.slots ∧ PostX ⟨T.setVm vm₁, locs, cells, slots⟩ (Value.ref b :: argsL).toArray q B ∧
      Steps p.tables e below (T.setTop g) ((B.U.setTop { g with stack := rest }).pushFrame (.throwing q))) := by
  obtain ⟨mk, methM, hnamed, hmethM, hstM, habM⟩ := Cond.instanceMethod_spec hinst
  obtain ⟨methM', cM, hmethM', -, -, -, -, -, -, hsigM⟩ := Cond.code_spec hnamed hcode
  cases hmethM.symm.trans hmethM'
  obtain ⟨c2, r2, m2, q1, q2, q3, q4, kP, hkP, hkPi⟩ := Cond.selects_spec hsel
  cases hcls.symm.trans q1
  cases (State.methodFound?_of_named hnamed hy).symm.trans q2
  cases hnamed.symm.trans q3
  have hselP : selectMethod e.platform s.vm cellB.cls mk = .method mk := by rw [Launch.admits_selectMethod X.admits]; exact q4
  obtain ⟨vm₁, X₁, hstep₁⟩ := X.invokevirtualNest hexec hown hlink hnamed hmethM hstM hkP hkPi hy (a := b) (cell := cellB) hcell
    (fun z h => by rw [h] at hobj; cases hobj) hselP hmethM habM hkP hkPi (g := g) hg (argsL := argsL) (rest := rest) (hlen _ hsigM) hstack hdg
  rcases hK m meth c ⟨T.setVm vm₁, locs, cells, slots⟩ { g with stack := rest } (.invokevirtual index) mk (Value.ref b :: argsL).toArray X₁ hg hsize hdg hW (X₁.named hnamed) (hpre vm₁ X₁.warmed) with ⟨v, B, X', hpost, hsteps⟩ | ⟨q, B, X', hpost, hsteps⟩
  · exact Or.inl ⟨v, vm₁, B, X₁.warmed, X', hpost, fun target h => hstep₁ _ fun acts => by rw [doInvoke_state]; exact hsteps.trans h⟩
  · exact Or.inr ⟨q, vm₁, B, X₁.warmed, X', hpost, hstep₁ _ fun acts => by rw [doInvoke_state]; exact hsteps⟩
theorem vx_callSN (X : Stand p l e R s m args below meth c T locs cells slots) (hexec : p.tables.exec = Jvm.exec) {own : String} {index : Nat} {host : String} {y : MethodName} {bytes : ByteArray} {maxL : Nat} {ret : Option FieldType}
    (hown : s.vm.findClass own = some m.cls) (hlink : (Cond.methodLinkNest own index y host).before args s = true) (hstat : (Cond.static y).before args s = true) (hinit : (Cond.initialized y.cls).before args s = true)
    (hcode : (Cond.code y bytes maxL ret).before args s = true) (hy : y.cls ≠ "java/lang/invoke/MethodHandle" ∧ y.cls ≠ "java/lang/invoke/VarHandle")
    {W : Nat} {Pre : Pt → Array Value → Prop} {Post : Pt → Array Value → Option Value → Pt → Prop} {PostX : Pt → Array Value → Addr → Pt → Prop} (hK : vx_Back l R p e below s args y 3 W Pre Post PostX)
    {g : JFrame} (hg : g.method = m) (hsize : g.locals.size = c.maxLocals) {argsL rest : List Value} (hlen : ∀ sig, parseMethodDescriptor y.desc = some sig → argsL.length = sig.parameters.length)
    (hstack : g.stack = argsL.reverse ++ rest) (hW : 2 * g.monitorRoom + (rest.map fun v => v.category).sum ≤ W) (hdg : decode c.code g.pc = .ok (.invokestatic index, 3))
    (hpre : ∀ vm₁, s.WarmedH vm₁ → Pre ⟨T.setVm vm₁, locs, cells, slots⟩ argsL.toArray) :
    (∃ (v : Option Value) (vm₁ : Vm) (B : Pt), s.WarmedH vm₁ ∧ Stand p l e R s m args below meth c B.U B.locs B.cells B.slots ∧ Post ⟨T.setVm vm₁, locs, cells, slots⟩ argsL.toArray v B ∧
      ∀ target, Steps p.tables e below (B.U.setTop { g with pc := g.pc + 3, stack := v.toList ++ rest }) target → Steps p.tables e below (T.setTop g) target) ∨
    (∃ (q : Addr) (vm₁ : Vm) (B : Pt), s.WarmedH vm₁ ∧ Stand p l e R s m args below meth c B.U B.locs B.cells B.slots ∧ PostX ⟨T.setVm vm₁, locs, cells, slots⟩ argsL.toArray q B ∧
      Steps p.tables e below (T.setTop g) ((B.U.setTop { g with stack := rest }).pushFrame (.throwing q))) := by
  obtain ⟨mk, hnamed⟩ := Cond.code_named hcode
  obtain ⟨methM, cM, hmethM, -, -, -, -, -, -, hsigM⟩ := Cond.code_spec hnamed hcode
  have hstatic : methM.isStatic = true := Cond.static_spec hnamed hmethM hstat
  obtain ⟨kP, hkP, -⟩ := className_of_methodNamed hnamed
  have hinitP : kP.init = .initialized := Cond.initialized_spec (findClass_of_methodNamed hnamed) hkP hinit
  obtain ⟨vm₁, X₁, hstep₁⟩ := X.invokestaticNest hexec hown hlink hnamed hmethM hstatic hkP hinitP hy (g := g) hg (argsL := argsL) (rest := rest) (hlen _ hsigM) hstack hdg
  rcases hK m meth c ⟨T.setVm vm₁, locs, cells, slots⟩ { g with stack := rest } (.invokestatic index) mk argsL.toArray X₁ hg hsize hdg hW (X₁.named hnamed) (hpre vm₁ X₁.warmed) with ⟨v, B, X', hpost, hsteps⟩ | ⟨q, B, X', hpost, hsteps⟩
  · exact Or.inl ⟨v, vm₁, B, X₁.warmed, X', hpost, fun target h => hstep₁ _ fun acts => by rw [doInvoke_state]; exact hsteps.trans h⟩
  · exact Or.inr ⟨q, vm₁, B, X₁.warmed, X', hpost, hstep₁ _ fun acts => by rw [doInvoke_state]; exact hsteps⟩
theorem vx_runVN {y : MethodName} {bytes cc : ByteArray} {maxL nL mc ms n index : Nat} {ret : Option FieldType} {ws : List Cond} {rm : Room} {Pc : Array Value → State → Prop} {Qc : Array Value → State → Outcome → State → Prop} {XC : String → State → State → Prop} {free : Addr → Prop} {Ts : List Cond} {own C host : String} {b : Addr} {As rest : List Value} {g : JFrame}
    (S : CallFix p m c cc nL s args Ts own) (hM : vx_Met l y ws rm Pc Qc XC mc ms free) (cw : va_CN R s args own index y host bytes maxL ret ws rm mc ms n ∧ (Cond.instanceMethod y).before args s = true ∧ (Cond.selects C y y).before args s = true) (hp : PreV s H C b Pc As)
    (hg : g.method = m) (hn : As.length = n) (hsize : g.locals.size = nL) (hstack : g.stack = As.reverse ++ .ref b :: rest) (hW : 2 * g.monitorRoom + (rest.map fun v => v.category).sum ≤ 8) (hdg : decode cc g.pc = .ok (.invokevirtual index, 3)) (hf : cells + mc ≤ R.cells ∧ slots + ms ≤ R.slots) :
    vx_Run p l e R s m args below meth c H locs cells slots mc ms g rest (Qc (Value.ref b :: As).toArray) XC free := by
  obtain ⟨⟨⟨hrc, hrs, hfr, hlo, hws, hcw⟩, hcode, hini, hy, hlen, hl⟩, hx1, hx2⟩ := cw
  have hK : vx_Back l R p e below s args y 3 8 (PreOf R mc ms Pc) (PostOf Qc mc ms free) (vx_Post XC mc ms free) := vx_back (bytes := bytes) (maxL := maxL) (ret := ret) hM hp.1 hrc hrs hfr hlo hws hcw (fun a' U hW => word_at hW (Or.inl (by first | rfl | simp [Cond.onTables, Cond.keeps, Cond.steady])) hini)
  obtain ⟨hx, hb, hml, ho, -⟩ := S
  obtain ⟨-, ⟨cellB, hcB, hoB, hclB⟩, hPc⟩ := hp
  intro T hT X
  rcases vx_callVN X hx (C := C) (bytes := bytes) (maxL := maxL) (ret := ret) ho hl hx1 hx2 hcode hy hK (by rw [hT]; exact hcB) hoB hclB hg (hsize.trans hml.symm) (argsL := As) (rest := rest) (fun sig h => hn.trans (hlen sig h)) hstack hW (by rw [hb]; exact hdg)
    (fun vm₁ hW₁ => ⟨hf.1, hf.2, hPc (T.setVm vm₁) hT hW₁⟩) with ⟨v, vm₁, ⟨U', l2, c2, s2⟩, hW₁, X', ⟨g', mk, t, L, e1, e2, hq, h1, hL, h2, h3⟩, st⟩ | ⟨q, vm₁, ⟨U', l2, c2, s2⟩, hW₁, X', ⟨g', mk, t, L, E, ce, e1, e2, hq, hce, hcv, hcl, h1, hL, h2, h3⟩, st⟩
  · dsimp only [Pt.U, Pt.locs, Pt.cells, Pt.slots] at X' e1 e2 h1 h2 h3 st
    subst h1; subst h2; subst h3
    exact Or.inl ⟨v, (T.setVm vm₁).calling g' mk (Value.ref b :: As).toArray, t, U', L, hT, X', hL, e1, e2, hq, st⟩
  · dsimp only [Pt.U, Pt.locs, Pt.cells, Pt.slots] at X' e1 e2 h1 h2 h3 st hcl
    subst h1; subst h2; subst h3
    exact Or.inr ⟨q, (T.setVm vm₁).calling g' mk (Value.ref b :: As).toArray, t, U', L, E, ce, hT, X', hL, e1, e2, hq, hce, hcv, vx_cls hW₁ hcl, st⟩
theorem vx_runSN {y : MethodName} {bytes cc : ByteArray} {maxL nL mc ms n index : Nat} {ret : Option FieldType} {ws : List Cond} {rm : Room} {Pc : Array Value → State → Prop} {Qc : Array Value → State → Outcome → State → Prop} {XC : String → State → State → Prop} {free : Addr → Prop} {Ts : List Cond} {own host : String} {As rest : List Value} {g : JFrame}
    (S : CallFix p m c cc nL s args Ts own) (hM : vx_Met l y ws rm Pc Qc XC mc ms free) (cw : va_CN R s args own index y host bytes maxL ret ws rm mc ms n ∧ (Cond.static y).before args s = true ∧ True) (hp : PreS s H Pc As)
    (hg : g.method = m) (hn : As.length = n) (hsize : g.locals.size = nL) (hstack : g.stack = As.reverse ++ rest) (hW : 2 * g.monitorRoom + (rest.map fun v => v.category).sum ≤ 8) (hdg : decode cc g.pc = .ok (.invokestatic index, 3)) (hf : cells + mc ≤ R.cells ∧ slots + ms ≤ R.slots) :
    vx_Run p l e R s m args below meth c H locs cells slots mc ms g rest (Qc As.toArray) XC free := by
  obtain ⟨⟨⟨hrc, hrs, hfr, hlo, hws, hcw⟩, hcode, hini, hy, hlen, hl⟩, hx1, hx2⟩ := cw
  have hK : vx_Back l R p e below s args y 3 8 (PreOf R mc ms Pc) (PostOf Qc mc ms free) (vx_Post XC mc ms free) := vx_back (bytes := bytes) (maxL := maxL) (ret := ret) hM hp.1 hrc hrs hfr hlo hws hcw (fun a' U hW => word_at hW (Or.inl (by first | rfl | simp [Cond.onTables, Cond.keeps, Cond.steady])) hini)
  obtain ⟨hx, hb, hml, ho, -⟩ := S
  have hPc := hp.2
  intro T hT X
  rcases vx_callSN X hx (bytes := bytes) (maxL := maxL) (ret := ret) ho hl hx1 hini hcode hy hK hg (hsize.trans hml.symm) (argsL := As) (rest := rest) (fun sig h => hn.trans (hlen sig h)) hstack hW (by rw [hb]; exact hdg)
    (fun vm₁ hW₁ => ⟨hf.1, hf.2, hPc (T.setVm vm₁) hT hW₁⟩) with ⟨v, vm₁, ⟨U', l2, c2, s2⟩, hW₁, X', ⟨g', mk, t, L, e1, e2, hq, h1, hL, h2, h3⟩, st⟩ | ⟨q, vm₁, ⟨U', l2, c2, s2⟩, hW₁, X', ⟨g', mk, t, L, E, ce, e1, e2, hq, hce, hcv, hcl, h1, hL, h2, h3⟩, st⟩
  · dsimp only [Pt.U, Pt.locs, Pt.cells, Pt.slots] at X' e1 e2 h1 h2 h3 st
    subst h1; subst h2; subst h3
    exact Or.inl ⟨v, (T.setVm vm₁).calling g' mk As.toArray, t, U', L, hT, X', hL, e1, e2, hq, st⟩
  · dsimp only [Pt.U, Pt.locs, Pt.cells, Pt.slots] at X' e1 e2 h1 h2 h3 st hcl
    subst h1; subst h2; subst h3
    exact Or.inr ⟨q, (T.setVm vm₁).calling g' mk As.toArray, t, U', L, E, ce, hT, X', hL, e1, e2, hq, hce, hcv, vx_cls hW₁ hcl, st⟩
end
/-! ===== END ===== -/
/-! ===== BEGIN calls by an interface of methods that may throw (vx_callIF, vx_runF follow va_callIF, va_runF of this kit) ===== -/
section
variable {p : Program} {l : Launch} {e : Env} {R : Room} {s : State} {m : MethodId} {args : Array Value} {below : List Frame} {meth : Method} {c : Code} {H : Heap} {locs : List Loc} {cells slots : Nat} {Q : State → Prop}
variable {mc ms : Nat} {free : Addr → Prop} {A0 A1 : Nat → Prop} {H0 : Heap} {a : Array Value} {pc : Nat} {ls : Array Slot} {st0 rest : List Value}
def vx_Run5 (p : Program) (l : Launch) (e : Env) (R : Room) (s : State) (m : MethodId) (args : Array Value) (below : List Frame) (meth : Method) (c : Code) (H : Heap) (locs : List Loc) (cells slots mc ms : Nat) (g : JFrame) (rest : List Value) (Qa : State → Outcome → State → Prop) (XC : String → State → State → Prop) (free : Addr → Prop) : Prop :=
  ∀ T : State, T.heap = H → Stand p l e R s m args below meth c T locs cells slots →
    (∃ (v : Option Value) (st₀ t T' : State) (L : List Loc), st₀.heap = H ∧ Stand p l e R s m args below meth c T' (locs ++ L) (cells + mc) (slots + ms) ∧ (∀ q ∈ L, free q.base) ∧ T'.heap = t.heap ∧ T'.vm = t.vm ∧ Qa st₀ (.returned v) t ∧
      Goes p e below T g T' { g with pc := g.pc + 5, stack := v.toList ++ rest }) ∨
    (∃ (q : Addr) (st₀ t T' : State) (L : List Loc) (E : String) (ce : Cell), st₀.heap = H ∧ Stand p l e R s m args below meth c T' (locs ++ L) (cells + mc) (slots + ms) ∧ (∀ z ∈ L, free z.base) ∧ T'.heap = t.heap ∧ T'.vm = t.vm ∧ XC E st₀ t ∧ t.heap[q]? = some ce ∧ ce.vm = .none ∧ s.vm.findClass E = some ce.cls ∧
      Steps p.tables e below (T.setTop g) ((T'.setTop { g with stack := rest }).pushFrame (.throwing q)))
theorem vx_callIF {T : State} (X : Stand p l e R s m args below meth c T locs cells slots) (hexec : p.tables.exec = Jvm.exec) {own C : String} {index count : Nat} {x y : MethodName} {bytes : ByteArray} {maxL : Nat} {ret : Option FieldType}
    (hown : s.vm.findClass own = some m.cls) (hlink : (Cond.methodLink own index x).before args s = true) (hdecl : (Cond.declares x).before args s = true) (hface : (Cond.interfaceMethod x.cls x.cls x.name x.desc).before args s = true)
    (hsel : (Cond.selects C x y).before args s = true) (hinst : (Cond.instanceMethod y).before args s = true) (hpub : (Cond.publicMethod y).before args s = true) (hunh : (Cond.unhidden C x.name x.desc).before args s = true)
    (hcast : (Cond.castable C x.cls).before args s = true) (hcode : (Cond.code y bytes maxL ret).before args s = true) (hx : x.cls ≠ "java/lang/invoke/MethodHandle" ∧ x.cls ≠ "java/lang/invoke/VarHandle")
    {W9 : Nat} {Pre : Pt → Array Value → Prop} {Post : Pt → Array Value → Option Value → Pt → Prop} {PostX : Pt → Array Value → Addr → Pt → Prop} (hK : vx_Back l R p e below s args y 5 W9 Pre Post PostX)
    {b : Addr} {cellB : Cell} {kB : Class} (hcell : T.heap[b]? = some cellB) (hobj : cellB.vm.isStatics = false) (hcls : s.vm.findClass C = some cellB.cls) (hkB : s.vm.classes[cellB.cls]? = some kB)
    {g : JFrame} (hg : g.method = m) (hsize : g.locals.size = c.maxLocals) {argsL rest : List Value} (hlen : ∀ sig, parseMethodDescriptor x.desc = some sig → argsL.length = sig.parameters.length)
    (hstack : g.stack = argsL.reverse ++ .ref b :: rest) (hW : 2 * g.monitorRoom + (rest.map fun v => v.category).sum ≤ W9) (hdg : decode c.code g.pc = .ok (.invokeinterface index count, 5))
    (hpre : ∀ vm₁, s.WarmedH vm₁ → Pre ⟨T.setVm vm₁, locs, cells, slots⟩ (Value.ref b :: argsL).toArray) :
    (∃ (v : Option Value) (vm₁ : Vm) (B : Pt), s.WarmedH vm₁ ∧ Stand p l e R s m args below meth c B.U B.locs B.cells B.slots ∧ Post ⟨T.setVm vm₁, locs, cells, slots⟩ (Value.ref b :: argsL).toArray v B ∧
      ∀ target, Steps p.tables e below (B.U.setTop { g with pc := g.pc + 5, stack := v.toList ++ rest }) target → Steps p.tables e below (T.setTop g) target) ∨
    (∃ (q : Addr) (vm₁ : Vm) (B : Pt), s.WarmedH vm₁ ∧ Stand p l e R s m args below meth c B.U B.locs B.cells B.slots ∧ PostX ⟨T.setVm vm₁, locs, cells, slots⟩ (Value.ref b :: argsL).toArray q B ∧
      Steps p.tables e below (T.setTop g) ((B.U.setTop { g with stack := rest }).pushFrame (.throwing q))) := by
  obtain ⟨r0, r, hn, hrm, hstR, hsigR⟩ := Cond.declares_spec hdecl
  obtain ⟨cL, kL, r1, hcL, hkL, hiL, hfoundL, hn1⟩ := Cond.interfaceMethod_spec hface
  cases hn.symm.trans hn1
  have hr0cls : r0.cls = cL := Option.some.inj ((findClass_of_methodNamed hn).symm.trans hcL)
  obtain ⟨hnameR, hdescR⟩ := name_of_methodNamed hn hrm
  obtain ⟨mk, methM, hnamed, hmethM, -, habM⟩ := Cond.instanceMethod_spec hinst
  obtain ⟨c2, r2, m2, q1, q2, q3, q4, -⟩ := Cond.selects_spec hsel
  cases hcls.symm.trans q1
  cases hfoundL.symm.trans q2
  cases hnamed.symm.trans q3
  have hselP : selectMethod e.platform s.vm cellB.cls r0 = .method mk := by rw [Launch.admits_selectMethod X.admits]; exact q4
  have hpubM : hasFlag methM.accessFlags Acc.public_ = true := Cond.publicMethod_spec hnamed hmethM hpub
  have hway : ((cellB.cls :: s.vm.superclasses cellB.cls).any fun k => (declaredIn s.vm r.name r.desc k).any fun (_, z) => z.isPrivate || z.isStatic) = false := by
    rw [hnameR, hdescR]; exact Cond.unhidden_spec hcls hunh
  obtain ⟨c3, t3, w1, w2, w3⟩ := Cond.castable_spec hcast
  cases hcls.symm.trans w1
  cases hcL.symm.trans w2
  obtain ⟨vm₁, X₁, hstep₁⟩ := X.invokeinterface hexec hown hlink hn hrm hstR (by rw [hr0cls]; exact hkL) hiL hx (a := b) (cell := cellB) (kcell := kB) hcell
    (fun z h => by rw [h] at hobj; cases hobj) hkB (by rw [hr0cls]; exact w3) hselP hmethM hway hpubM habM (g := g) hg (argsL := argsL) (rest := rest) (hlen _ hsigR) hstack hdg
  rcases hK m meth c ⟨T.setVm vm₁, locs, cells, slots⟩ { g with stack := rest } (.invokeinterface index count) mk (Value.ref b :: argsL).toArray X₁ hg hsize hdg hW (X₁.named hnamed) (hpre vm₁ X₁.warmed) with ⟨v, B, X', hpost, hsteps⟩ | ⟨q, B, X', hpost, hsteps⟩
  · exact Or.inl ⟨v, vm₁, B, X₁.warmed, X', hpost, fun target h => hstep₁ _ fun acts => by rw [doInvoke_state]; exact hsteps.trans h⟩
  · exact Or.inr ⟨q, vm₁, B, X₁.warmed, X', hpost, hstep₁ _ fun acts => by rw [doInvoke_state]; exact hsteps⟩
theorem vx_runF {x y : MethodName} {bytes cc : ByteArray} {maxL nL mc ms n index count : Nat} {ret : Option FieldType} {ws : List Cond} {rm : Room} {Pc : Array Value → State → Prop} {Qc : Array Value → State → Outcome → State → Prop} {XC : String → State → State → Prop} {free : Addr → Prop} {Ts : List Cond} {own C : String} {cC : ClassId} {b : Addr} {As rest : List Value} {g : JFrame}
    (hat : ClassAt s C cC) (S : CallFix p m c cc nL s args Ts own) (hM : vx_Met l y ws rm Pc Qc XC mc ms free) (cw : va_CI R s args own C index x y bytes maxL ret ws rm mc ms n) (hp : PreV s H C b Pc As)
    (hg : g.method = m) (hn : As.length = n) (hsize : g.locals.size = nL) (hstack : g.stack = As.reverse ++ .ref b :: rest) (hW : 2 * g.monitorRoom + (rest.map fun v => v.category).sum ≤ 8) (hdg : decode cc g.pc = .ok (.invokeinterface index count, 5)) (hf : cells + mc ≤ R.cells ∧ slots + ms ≤ R.slots) :
    vx_Run5 p l e R s m args below meth c H locs cells slots mc ms g rest (Qc (Value.ref b :: As).toArray) XC free := by
  obtain ⟨hrc, hrs, hfr, hlo, hws, hcw⟩ := cw.back
  have hini := cw.init
  have hK : vx_Back l R p e below s args y 5 8 (PreOf R mc ms Pc) (PostOf Qc mc ms free) (vx_Post XC mc ms free) := vx_back (bytes := bytes) (maxL := maxL) (ret := ret) hM hp.1 hrc hrs hfr hlo hws hcw (fun a' U hW => word_at hW (Or.inl (by first | rfl | simp [Cond.onTables, Cond.keeps, Cond.steady])) hini)
  obtain ⟨hx, hb, hml, ho, -⟩ := S
  obtain ⟨-, ⟨cellB, hcB, hoB, hclB⟩, hPc⟩ := hp
  obtain ⟨hfc, kB, hkB, -⟩ := hat
  cases hfc.symm.trans hclB
  intro T hT X
  rcases vx_callIF X hx (C := C) (bytes := bytes) (maxL := maxL) (ret := ret) ho cw.link cw.decl cw.face cw.sel cw.inst cw.pub cw.unh cw.cast cw.code cw.notMH hK (by rw [hT]; exact hcB) hoB hclB hkB hg (hsize.trans hml.symm) (argsL := As) (rest := rest) (fun sig h => hn.trans (cw.len sig h)) hstack hW (by rw [hb]; exact hdg)
    (fun vm₁ hW₁ => ⟨hf.1, hf.2, hPc (T.setVm vm₁) hT hW₁⟩) with ⟨v, vm₁, ⟨U', l2, c2, s2⟩, hW₁, X', ⟨g', mk, t, L, e1, e2, hq, h1, hL, h2, h3⟩, st⟩ | ⟨q, vm₁, ⟨U', l2, c2, s2⟩, hW₁, X', ⟨g', mk, t, L, E, ce, e1, e2, hq, hce, hcv, hcl, h1, hL, h2, h3⟩, st⟩
  · dsimp only [Pt.U, Pt.locs, Pt.cells, Pt.slots] at X' e1 e2 h1 h2 h3 st
    subst h1; subst h2; subst h3
    exact Or.inl ⟨v, (T.setVm vm₁).calling g' mk (Value.ref b :: As).toArray, t, U', L, hT, X', hL, e1, e2, hq, st⟩
  · dsimp only [Pt.U, Pt.locs, Pt.cells, Pt.slots] at X' e1 e2 h1 h2 h3 st hcl
    subst h1; subst h2; subst h3
    exact Or.inr ⟨q, (T.setVm vm₁).calling g' mk (Value.ref b :: As).toArray, t, U', L, E, ce, hT, X', hL, e1, e2, hq, hce, hcv, vx_cls hW₁ hcl, st⟩
theorem vx_callFv {S SX : Type} {post : S → Prop} {px : SX → Prop} {B : S → State → Prop} {BX : String → SX → State → Prop} {AX : Nat → Prop} (hr : vx_Run5 p l e R s m args below meth c H locs cells slots mc ms (F0 m pc ls st0) rest (va_Qv post B A1 a) (vx_X px BX AX) free) (hS : va_S A0 H0 H locs) (hA : ∀ q, q < H.size → A1 q → A0 q) (hf : ∀ q, free q → A0 q) (hAX : ∀ q, q < H.size → AX q → A0 q)
    (kx : ∀ (E : String) (ce : Cell) (q9 : Addr) (u : SX) (t : State) (H1 : Heap) (locs1 : List Loc), t.heap = H1 → s.vm.Alike t.vm → px u → BX E u t → H.size ≤ H1.size → (∀ q : Nat, q < H.size → ¬ AX q → H1[q]? = H[q]?) → va_S A0 H0 H1 locs1 → H1[q9]? = some ce → ce.vm = .none → s.vm.findClass E = some ce.cls → vx_W p l e R s m args below meth c H1 locs1 (cells + mc) (slots + ms) Q (F0 m pc ls rest) q9)
    (kk : ∀ (u : S) (t : State) (H1 : Heap) (locs1 : List Loc), t.heap = H1 → s.vm.Alike t.vm → post u → B u t → H.size ≤ H1.size → (∀ q : Nat, q < H.size → ¬ A1 q → H1[q]? = H[q]?) → va_S A0 H0 H1 locs1 → W p l e R s m args below meth c H1 locs1 (cells + mc) (slots + ms) Q (F0 m (pc + 5) ls (rest))) : W p l e R s m args below meth c H locs cells slots Q (F0 m pc ls st0) := by
  intro T hT X
  rcases hr T hT X with ⟨v, st₀, t, T', L, h0, X', hL, e1, e2, ⟨⟨u, hv, hp, hb⟩, hF⟩, st⟩ | ⟨q, st₀, t, T', L, E, ce, h0, X', hL, e1, e2, ⟨u, hp, hb, hF⟩, hce, hcv, hcl, st⟩
  · cases hv
    obtain ⟨k1, k2, k3⟩ := vx_keep h0 e1 hS hA hf hL hF
    obtain ⟨t2, a1, b1⟩ := kk u t T'.heap (locs ++ L) e1.symm (by rw [← e2]; exact X'.warmed.alike) hp hb k1 k2 k3 T' rfl X'
    exact ⟨t2, st t2 a1, b1⟩
  · obtain ⟨k1, k2, k3⟩ := vx_keep h0 e1 hS hAX hf hL hF
    obtain ⟨t2, a1, b1⟩ := kx E ce q u t T'.heap (locs ++ L) e1.symm (by rw [← e2]; exact X'.warmed.alike) hp hb k1 k2 k3 (by rw [e1]; exact hce) hcv hcl T' rfl X'
    exact ⟨t2, st.trans a1, b1⟩
theorem vx_callFi {S SX : Type} {post : Int32 → S → Prop} {px : SX → Prop} {B : S → State → Prop} {BX : String → SX → State → Prop} {AX : Nat → Prop} (hr : vx_Run5 p l e R s m args below meth c H locs cells slots mc ms (F0 m pc ls st0) rest (va_Qi post B A1 a) (vx_X px BX AX) free) (hS : va_S A0 H0 H locs) (hA : ∀ q, q < H.size → A1 q → A0 q) (hf : ∀ q, free q → A0 q) (hAX : ∀ q, q < H.size → AX q → A0 q)
    (kx : ∀ (E : String) (ce : Cell) (q9 : Addr) (u : SX) (t : State) (H1 : Heap) (locs1 : List Loc), t.heap = H1 → s.vm.Alike t.vm → px u → BX E u t → H.size ≤ H1.size → (∀ q : Nat, q < H.size → ¬ AX q → H1[q]? = H[q]?) → va_S A0 H0 H1 locs1 → H1[q9]? = some ce → ce.vm = .none → s.vm.findClass E = some ce.cls → vx_W p l e R s m args below meth c H1 locs1 (cells + mc) (slots + ms) Q (F0 m pc ls rest) q9)
    (kk : ∀ (r : Int32) (u : S) (t : State) (H1 : Heap) (locs1 : List Loc), t.heap = H1 → s.vm.Alike t.vm → post r u → B u t → H.size ≤ H1.size → (∀ q : Nat, q < H.size → ¬ A1 q → H1[q]? = H[q]?) → va_S A0 H0 H1 locs1 → W p l e R s m args below meth c H1 locs1 (cells + mc) (slots + ms) Q (F0 m (pc + 5) ls (.int r :: rest))) : W p l e R s m args below meth c H locs cells slots Q (F0 m pc ls st0) := by
  intro T hT X
  rcases hr T hT X with ⟨v, st₀, t, T', L, h0, X', hL, e1, e2, ⟨⟨r, u, hv, hp, hb⟩, hF⟩, st⟩ | ⟨q, st₀, t, T', L, E, ce, h0, X', hL, e1, e2, ⟨u, hp, hb, hF⟩, hce, hcv, hcl, st⟩
  · cases hv
    obtain ⟨k1, k2, k3⟩ := vx_keep h0 e1 hS hA hf hL hF
    obtain ⟨t2, a1, b1⟩ := kk r u t T'.heap (locs ++ L) e1.symm (by rw [← e2]; exact X'.warmed.alike) hp hb k1 k2 k3 T' rfl X'
    exact ⟨t2, st t2 a1, b1⟩
  · obtain ⟨k1, k2, k3⟩ := vx_keep h0 e1 hS hAX hf hL hF
    obtain ⟨t2, a1, b1⟩ := kx E ce q u t T'.heap (locs ++ L) e1.symm (by rw [← e2]; exact X'.warmed.alike) hp hb k1 k2 k3 (by rw [e1]; exact hce) hcv hcl T' rfl X'
    exact ⟨t2, st.trans a1, b1⟩
theorem vx_callFl {S SX : Type} {post : Int64 → S → Prop} {px : SX → Prop} {B : S → State → Prop} {BX : String → SX → State → Prop} {AX : Nat → Prop} (hr : vx_Run5 p l e R s m args below meth c H locs cells slots mc ms (F0 m pc ls st0) rest (va_Ql post B A1 a) (vx_X px BX AX) free) (hS : va_S A0 H0 H locs) (hA : ∀ q, q < H.size → A1 q → A0 q) (hf : ∀ q, free q → A0 q) (hAX : ∀ q, q < H.size → AX q → A0 q)
    (kx : ∀ (E : String) (ce : Cell) (q9 : Addr) (u : SX) (t : State) (H1 : Heap) (locs1 : List Loc), t.heap = H1 → s.vm.Alike t.vm → px u → BX E u t → H.size ≤ H1.size → (∀ q : Nat, q < H.size → ¬ AX q → H1[q]? = H[q]?) → va_S A0 H0 H1 locs1 → H1[q9]? = some ce → ce.vm = .none → s.vm.findClass E = some ce.cls → vx_W p l e R s m args below meth c H1 locs1 (cells + mc) (slots + ms) Q (F0 m pc ls rest) q9)
    (kk : ∀ (r : Int64) (u : S) (t : State) (H1 : Heap) (locs1 : List Loc), t.heap = H1 → s.vm.Alike t.vm → post r u → B u t → H.size ≤ H1.size → (∀ q : Nat, q < H.size → ¬ A1 q → H1[q]? = H[q]?) → va_S A0 H0 H1 locs1 → W p l e R s m args below meth c H1 locs1 (cells + mc) (slots + ms) Q (F0 m (pc + 5) ls (.long r :: rest))) : W p l e R s m args below meth c H locs cells slots Q (F0 m pc ls st0) := by
  intro T hT X
  rcases hr T hT X with ⟨v, st₀, t, T', L, h0, X', hL, e1, e2, ⟨⟨r, u, hv, hp, hb⟩, hF⟩, st⟩ | ⟨q, st₀, t, T', L, E, ce, h0, X', hL, e1, e2, ⟨u, hp, hb, hF⟩, hce, hcv, hcl, st⟩
  · cases hv
    obtain ⟨k1, k2, k3⟩ := vx_keep h0 e1 hS hA hf hL hF
    obtain ⟨t2, a1, b1⟩ := kk r u t T'.heap (locs ++ L) e1.symm (by rw [← e2]; exact X'.warmed.alike) hp hb k1 k2 k3 T' rfl X'
    exact ⟨t2, st t2 a1, b1⟩
  · obtain ⟨k1, k2, k3⟩ := vx_keep h0 e1 hS hAX hf hL hF
    obtain ⟨t2, a1, b1⟩ := kx E ce q u t T'.heap (locs ++ L) e1.symm (by rw [← e2]; exact X'.warmed.alike) hp hb k1 k2 k3 (by rw [e1]; exact hce) hcv hcl T' rfl X'
    exact ⟨t2, st.trans a1, b1⟩
theorem vx_callFf {S SX : Type} {post : UInt32 → S → Prop} {px : SX → Prop} {B : S → State → Prop} {BX : String → SX → State → Prop} {AX : Nat → Prop} (hr : vx_Run5 p l e R s m args below meth c H locs cells slots mc ms (F0 m pc ls st0) rest (va_Qf post B A1 a) (vx_X px BX AX) free) (hS : va_S A0 H0 H locs) (hA : ∀ q, q < H.size → A1 q → A0 q) (hf : ∀ q, free q → A0 q) (hAX : ∀ q, q < H.size → AX q → A0 q)
    (kx : ∀ (E : String) (ce : Cell) (q9 : Addr) (u : SX) (t : State) (H1 : Heap) (locs1 : List Loc), t.heap = H1 → s.vm.Alike t.vm → px u → BX E u t → H.size ≤ H1.size → (∀ q : Nat, q < H.size → ¬ AX q → H1[q]? = H[q]?) → va_S A0 H0 H1 locs1 → H1[q9]? = some ce → ce.vm = .none → s.vm.findClass E = some ce.cls → vx_W p l e R s m args below meth c H1 locs1 (cells + mc) (slots + ms) Q (F0 m pc ls rest) q9)
    (kk : ∀ (r : UInt32) (u : S) (t : State) (H1 : Heap) (locs1 : List Loc), t.heap = H1 → s.vm.Alike t.vm → post r u → B u t → H.size ≤ H1.size → (∀ q : Nat, q < H.size → ¬ A1 q → H1[q]? = H[q]?) → va_S A0 H0 H1 locs1 → W p l e R s m args below meth c H1 locs1 (cells + mc) (slots + ms) Q (F0 m (pc + 5) ls (.float r :: rest))) : W p l e R s m args below meth c H locs cells slots Q (F0 m pc ls st0) := by
  intro T hT X
  rcases hr T hT X with ⟨v, st₀, t, T', L, h0, X', hL, e1, e2, ⟨⟨r, u, hv, hp, hb⟩, hF⟩, st⟩ | ⟨q, st₀, t, T', L, E, ce, h0, X', hL, e1, e2, ⟨u, hp, hb, hF⟩, hce, hcv, hcl, st⟩
  · cases hv
    obtain ⟨k1, k2, k3⟩ := vx_keep h0 e1 hS hA hf hL hF
    obtain ⟨t2, a1, b1⟩ := kk r u t T'.heap (locs ++ L) e1.symm (by rw [← e2]; exact X'.warmed.alike) hp hb k1 k2 k3 T' rfl X'
    exact ⟨t2, st t2 a1, b1⟩
  · obtain ⟨k1, k2, k3⟩ := vx_keep h0 e1 hS hAX hf hL hF
    obtain ⟨t2, a1, b1⟩ := kx E ce q u t T'.heap (locs ++ L) e1.symm (by rw [← e2]; exact X'.warmed.alike) hp hb k1 k2 k3 (by rw [e1]; exact hce) hcv hcl T' rfl X'
    exact ⟨t2, st.trans a1, b1⟩
theorem vx_callFd {S SX : Type} {post : UInt64 → S → Prop} {px : SX → Prop} {B : S → State → Prop} {BX : String → SX → State → Prop} {AX : Nat → Prop} (hr : vx_Run5 p l e R s m args below meth c H locs cells slots mc ms (F0 m pc ls st0) rest (va_Qd post B A1 a) (vx_X px BX AX) free) (hS : va_S A0 H0 H locs) (hA : ∀ q, q < H.size → A1 q → A0 q) (hf : ∀ q, free q → A0 q) (hAX : ∀ q, q < H.size → AX q → A0 q)
    (kx : ∀ (E : String) (ce : Cell) (q9 : Addr) (u : SX) (t : State) (H1 : Heap) (locs1 : List Loc), t.heap = H1 → s.vm.Alike t.vm → px u → BX E u t → H.size ≤ H1.size → (∀ q : Nat, q < H.size → ¬ AX q → H1[q]? = H[q]?) → va_S A0 H0 H1 locs1 → H1[q9]? = some ce → ce.vm = .none → s.vm.findClass E = some ce.cls → vx_W p l e R s m args below meth c H1 locs1 (cells + mc) (slots + ms) Q (F0 m pc ls rest) q9)
    (kk : ∀ (r : UInt64) (u : S) (t : State) (H1 : Heap) (locs1 : List Loc), t.heap = H1 → s.vm.Alike t.vm → post r u → B u t → H.size ≤ H1.size → (∀ q : Nat, q < H.size → ¬ A1 q → H1[q]? = H[q]?) → va_S A0 H0 H1 locs1 → W p l e R s m args below meth c H1 locs1 (cells + mc) (slots + ms) Q (F0 m (pc + 5) ls (.double r :: rest))) : W p l e R s m args below meth c H locs cells slots Q (F0 m pc ls st0) := by
  intro T hT X
  rcases hr T hT X with ⟨v, st₀, t, T', L, h0, X', hL, e1, e2, ⟨⟨r, u, hv, hp, hb⟩, hF⟩, st⟩ | ⟨q, st₀, t, T', L, E, ce, h0, X', hL, e1, e2, ⟨u, hp, hb, hF⟩, hce, hcv, hcl, st⟩
  · cases hv
    obtain ⟨k1, k2, k3⟩ := vx_keep h0 e1 hS hA hf hL hF
    obtain ⟨t2, a1, b1⟩ := kk r u t T'.heap (locs ++ L) e1.symm (by rw [← e2]; exact X'.warmed.alike) hp hb k1 k2 k3 T' rfl X'
    exact ⟨t2, st t2 a1, b1⟩
  · obtain ⟨k1, k2, k3⟩ := vx_keep h0 e1 hS hAX hf hL hF
    obtain ⟨t2, a1, b1⟩ := kx E ce q u t T'.heap (locs ++ L) e1.symm (by rw [← e2]; exact X'.warmed.alike) hp hb k1 k2 k3 (by rw [e1]; exact hce) hcv hcl T' rfl X'
    exact ⟨t2, st.trans a1, b1⟩
end
/-! ===== END ===== -/
/-! ===== BEGIN by an interface, a method with a table of its own that may throw (follows va_callIFW, va_runFW) ===== -/
section
variable {p : Program} {l : Launch} {e : Env} {R : Room} {s : State} {m : MethodId} {args : Array Value} {below : List Frame} {meth : Method} {c : Code} {H : Heap} {locs : List Loc} {cells slots : Nat}
theorem vx_callIFW {T : State} (X : Stand p l e R s m args below meth c T locs cells slots) (hexec : p.tables.exec = Jvm.exec) {own C : String} {index count : Nat} {x y : MethodName} {bytes : ByteArray} {maxL : Nat} {ret : Option FieldType} {hh : List (Nat × Nat × Nat × Nat)}
    (hown : s.vm.findClass own = some m.cls) (hlink : (Cond.methodLink own index x).before args s = true) (hdecl : (Cond.declares x).before args s = true) (hface : (Cond.interfaceMethod x.cls x.cls x.name x.desc).before args s = true)
    (hsel : (Cond.selects C x y).before args s = true) (hinst : (Cond.instanceMethod y).before args s = true) (hpub : (Cond.publicMethod y).before args s = true) (hunh : (Cond.unhidden C x.name x.desc).before args s = true)
    (hcast : (Cond.castable C x.cls).before args s = true) (hcode : (Cond.codeWith y bytes maxL ret hh).before args s = true) (hx : x.cls ≠ "java/lang/invoke/MethodHandle" ∧ x.cls ≠ "java/lang/invoke/VarHandle")
    {W : Nat} {Pre : Pt → Array Value → Prop} {Post : Pt → Array Value → Option Value → Pt → Prop} {PostX : Pt → Array Value → Addr → Pt → Prop} (hK : vx_Back l R p e below s args y 5 W Pre Post PostX)
    {b : Addr} {cellB : Cell} {kB : Class} (hcell : T.heap[b]? = some cellB) (hobj : cellB.vm.isStatics = false) (hcls : s.vm.findClass C = some cellB.cls) (hkB : s.vm.classes[cellB.cls]? = some kB)
    {g : JFrame} (hg : g.method = m) (hsize : g.locals.size = c.maxLocals) {argsL rest : List Value} (hlen : ∀ sig, parseMethodDescriptor x.desc = some sig → argsL.length = sig.parameters.length)
    (hstack : g.stack = argsL.reverse ++ .ref b :: rest) (hW : 2 * g.monitorRoom + (rest.map fun v => v.category).sum ≤ W) (hdg : decode c.code g.pc = .ok (.invokeinterface index count, 5))
    (hpre : ∀ vm₁, s.WarmedH vm₁ → Pre ⟨T.setVm vm₁, locs, cells, slots⟩ (Value.ref b :: argsL).toArray) :
    (∃ (v : Option Value) (vm₁ : Vm) (B : Pt), s.WarmedH vm₁ ∧ Stand p l e R s m args below meth c B.U B.locs B.cells B.slots ∧ Post ⟨T.setVm vm₁, locs, cells, slots⟩ (Value.ref b :: argsL).toArray v B ∧
      ∀ target, Steps p.tables e below (B.U.setTop { g with pc := g.pc + 5, stack := v.toList ++ rest }) target → Steps p.tables e below (T.setTop g) target) ∨
    (∃ (q : Addr) (vm₁ : Vm) (B : Pt), s.WarmedH vm₁ ∧ Stand p l e R s m args below meth c B.U B.locs B.cells B.slots ∧ PostX ⟨T.setVm vm₁, locs, cells, slots⟩ (Value.ref b :: argsL).toArray q B ∧
      Steps p.tables e below (T.setTop g) ((B.U.setTop { g with stack := rest }).pushFrame (.throwing q))) := by
  obtain ⟨r0, r, hn, hrm, hstR, hsigR⟩ := Cond.declares_spec hdecl
  obtain ⟨cL, kL, r1, hcL, hkL, hiL, hfoundL, hn1⟩ := Cond.interfaceMethod_spec hface
  cases hn.symm.trans hn1
  have hr0cls : r0.cls = cL := Option.some.inj ((findClass_of_methodNamed hn).symm.trans hcL)
  obtain ⟨hnameR, hdescR⟩ := name_of_methodNamed hn hrm
  obtain ⟨mk, methM, hnamed, hmethM, -, habM⟩ := Cond.instanceMethod_spec hinst
  obtain ⟨c2, r2, m2, q1, q2, q3, q4, -⟩ := Cond.selects_spec hsel
  cases hcls.symm.trans q1
  cases hfoundL.symm.trans q2
  cases hnamed.symm.trans q3
  have hselP : selectMethod e.platform s.vm cellB.cls r0 = .method mk := by rw [Launch.admits_selectMethod X.admits]; exact q4
  have hpubM : hasFlag methM.accessFlags Acc.public_ = true := Cond.publicMethod_spec hnamed hmethM hpub
  have hway : ((cellB.cls :: s.vm.superclasses cellB.cls).any fun k => (declaredIn s.vm r.name r.desc k).any fun (_, z) => z.isPrivate || z.isStatic) = false := by
    rw [hnameR, hdescR]; exact Cond.unhidden_spec hcls hunh
  obtain ⟨c3, t3, w1, w2, w3⟩ := Cond.castable_spec hcast
  cases hcls.symm.trans w1
  cases hcL.symm.trans w2
  obtain ⟨vm₁, X₁, hstep₁⟩ := X.invokeinterface hexec hown hlink hn hrm hstR (by rw [hr0cls]; exact hkL) hiL hx (a := b) (cell := cellB) (kcell := kB) hcell
    (fun z h => by rw [h] at hobj; cases hobj) hkB (by rw [hr0cls]; exact w3) hselP hmethM hway hpubM habM (g := g) hg (argsL := argsL) (rest := rest) (hlen _ hsigR) hstack hdg
  rcases hK m meth c ⟨T.setVm vm₁, locs, cells, slots⟩ { g with stack := rest } (.invokeinterface index count) mk (Value.ref b :: argsL).toArray X₁ hg hsize hdg hW (X₁.named hnamed) (hpre vm₁ X₁.warmed) with ⟨v, B, X', hpost, hsteps⟩ | ⟨q, B, X', hpost, hsteps⟩
  · exact Or.inl ⟨v, vm₁, B, X₁.warmed, X', hpost, fun target h => hstep₁ _ fun acts => by rw [doInvoke_state]; exact hsteps.trans h⟩
  · exact Or.inr ⟨q, vm₁, B, X₁.warmed, X', hpost, hstep₁ _ fun acts => by rw [doInvoke_state]; exact hsteps⟩
theorem vx_runFW {x y : MethodName} {bytes cc : ByteArray} {maxL nL mc ms n index count : Nat} {ret : Option FieldType} {hh : List (Nat × Nat × Nat × Nat)} {ws : List Cond} {rm : Room} {Pc : Array Value → State → Prop} {Qc : Array Value → State → Outcome → State → Prop} {XC : String → State → State → Prop} {free : Addr → Prop} {Ts : List Cond} {own C : String} {cC : ClassId} {b : Addr} {As rest : List Value} {g : JFrame}
    (hat : ClassAt s C cC) (S : CallFix p m c cc nL s args Ts own) (hM : vx_Met l y ws rm Pc Qc XC mc ms free) (cw : va_CIW R s args own C index x y bytes maxL ret hh ws rm mc ms n) (hp : PreV s H C b Pc As)
    (hg : g.method = m) (hn : As.length = n) (hsize : g.locals.size = nL) (hstack : g.stack = As.reverse ++ .ref b :: rest) (hW : 2 * g.monitorRoom + (rest.map fun v => v.category).sum ≤ 8) (hdg : decode cc g.pc = .ok (.invokeinterface index count, 5)) (hf : cells + mc ≤ R.cells ∧ slots + ms ≤ R.slots) :
    vx_Run5 p l e R s m args below meth c H locs cells slots mc ms g rest (Qc (Value.ref b :: As).toArray) XC free := by
  obtain ⟨hrc, hrs, hfr, hlo, hws, hcw⟩ := cw.back
  have hini := cw.init
  have hK : vx_Back l R p e below s args y 5 8 (PreOf R mc ms Pc) (PostOf Qc mc ms free) (vx_Post XC mc ms free) := vx_backW (hh := hh) (bytes := bytes) (maxL := maxL) (ret := ret) hM hp.1 hrc hrs hfr hlo hws hcw (fun a' U hW => word_at hW (Or.inl (by first | rfl | simp [Cond.onTables, Cond.keeps, Cond.steady])) hini)
  obtain ⟨hx, hb, hml, ho, -⟩ := S
  obtain ⟨-, ⟨cellB, hcB, hoB, hclB⟩, hPc⟩ := hp
  obtain ⟨hfc, kB, hkB, -⟩ := hat
  cases hfc.symm.trans hclB
  intro T hT X
  rcases vx_callIFW X hx (C := C) (hh := hh) (bytes := bytes) (maxL := maxL) (ret := ret) ho cw.link cw.decl cw.face cw.sel cw.inst cw.pub cw.unh cw.cast cw.code cw.notMH hK (by rw [hT]; exact hcB) hoB hclB hkB hg (hsize.trans hml.symm) (argsL := As) (rest := rest) (fun sig h => hn.trans (cw.len sig h)) hstack hW (by rw [hb]; exact hdg)
    (fun vm₁ hW₁ => ⟨hf.1, hf.2, hPc (T.setVm vm₁) hT hW₁⟩) with ⟨v, vm₁, ⟨U', l2, c2, s2⟩, hW₁, X', ⟨g', mk, t, L, e1, e2, hq, h1, hL, h2, h3⟩, st⟩ | ⟨q, vm₁, ⟨U', l2, c2, s2⟩, hW₁, X', ⟨g', mk, t, L, E, ce, e1, e2, hq, hce, hcv, hcl, h1, hL, h2, h3⟩, st⟩
  · dsimp only [Pt.U, Pt.locs, Pt.cells, Pt.slots] at X' e1 e2 h1 h2 h3 st
    subst h1; subst h2; subst h3
    exact Or.inl ⟨v, (T.setVm vm₁).calling g' mk (Value.ref b :: As).toArray, t, U', L, hT, X', hL, e1, e2, hq, st⟩
  · dsimp only [Pt.U, Pt.locs, Pt.cells, Pt.slots] at X' e1 e2 h1 h2 h3 st hcl
    subst h1; subst h2; subst h3
    exact Or.inr ⟨q, (T.setVm vm₁).calling g' mk (Value.ref b :: As).toArray, t, U', L, E, ce, hT, X', hL, e1, e2, hq, hce, hcv, vx_cls hW₁ hcl, st⟩
end
/-! ===== END ===== -/
/-! ===== BEGIN .. of methods that hand back an object of the pool ===== -/
section
variable {p : Program} {l : Launch} {e : Env} {R : Room} {s : State} {m : MethodId} {args : Array Value} {below : List Frame} {meth : Method} {c : Code} {H : Heap} {locs : List Loc} {cells slots : Nat} {Q : State → Prop}
variable {mc ms : Nat} {free : Addr → Prop} {A0 A1 : Nat → Prop} {H0 : Heap} {a : Array Value} {pc : Nat} {ls : Array Slot} {st0 rest : List Value}
theorem vx_callq {S SX : Type} {post : Option Nat → S → Prop} {px : SX → Prop} {B : S → State → Prop} {BX : String → SX → State → Prop} {AX : Nat → Prop} (hr : vx_Run p l e R s m args below meth c H locs cells slots mc ms (F0 m pc ls st0) rest (va_Qq post B A1 a) (vx_X px BX AX) free) (hS : va_S A0 H0 H locs) (hA : ∀ q, q < H.size → A1 q → A0 q) (hf : ∀ q, free q → A0 q) (hAX : ∀ q, q < H.size → AX q → A0 q)
    (kx : ∀ (E : String) (ce : Cell) (q9 : Addr) (u : SX) (t : State) (H1 : Heap) (locs1 : List Loc), t.heap = H1 → s.vm.Alike t.vm → px u → BX E u t → H.size ≤ H1.size → (∀ q : Nat, q < H.size → ¬ AX q → H1[q]? = H[q]?) → va_S A0 H0 H1 locs1 → H1[q9]? = some ce → ce.vm = .none → s.vm.findClass E = some ce.cls → vx_W p l e R s m args below meth c H1 locs1 (cells + mc) (slots + ms) Q (F0 m pc ls rest) q9)
    (kk : ∀ (r : Option Nat) (u : S) (t : State) (H1 : Heap) (locs1 : List Loc), t.heap = H1 → s.vm.Alike t.vm → post r u → B u t → H.size ≤ H1.size → (∀ q : Nat, q < H.size → ¬ A1 q → H1[q]? = H[q]?) → va_S A0 H0 H1 locs1 → W p l e R s m args below meth c H1 locs1 (cells + mc) (slots + ms) Q (F0 m (pc + 3) ls (va_rf r :: rest))) : W p l e R s m args below meth c H locs cells slots Q (F0 m pc ls st0) := by
  intro T hT X
  rcases hr T hT X with ⟨v, st₀, t, T', L, h0, X', hL, e1, e2, ⟨⟨r, u, hv, hp, hb⟩, hF⟩, st⟩ | ⟨q, st₀, t, T', L, E, ce, h0, X', hL, e1, e2, ⟨u, hp, hb, hF⟩, hce, hcv, hcl, st⟩
  · cases hv
    obtain ⟨k1, k2, k3⟩ := vx_keep h0 e1 hS hA hf hL hF
    obtain ⟨t2, a1, b1⟩ := kk r u t T'.heap (locs ++ L) e1.symm (by rw [← e2]; exact X'.warmed.alike) hp hb k1 k2 k3 T' rfl X'
    exact ⟨t2, st t2 a1, b1⟩
  · obtain ⟨k1, k2, k3⟩ := vx_keep h0 e1 hS hAX hf hL hF
    obtain ⟨t2, a1, b1⟩ := kx E ce q u t T'.heap (locs ++ L) e1.symm (by rw [← e2]; exact X'.warmed.alike) hp hb k1 k2 k3 (by rw [e1]; exact hce) hcv hcl T' rfl X'
    exact ⟨t2, st.trans a1, b1⟩
end
/-! ===== END ===== -/
/-! ===== BEGIN .. a constant ===== -/
section
variable {p : Program} {l : Launch} {e : Env} {R : Room} {s : State} {m : MethodId} {args : Array Value} {below : List Frame} {meth : Method} {c : Code} {H : Heap} {locs : List Loc} {cells slots : Nat} {Q : State → Prop}
variable {mc ms : Nat} {free : Addr → Prop} {A0 A1 : Nat → Prop} {H0 : Heap} {a : Array Value} {pc : Nat} {ls : Array Slot} {st0 rest : List Value}
theorem vx_calle {ad : Nat → Nat} {S SX : Type} {post : Option Nat → S → Prop} {px : SX → Prop} {B : S → State → Prop} {BX : String → SX → State → Prop} {AX : Nat → Prop} (hr : vx_Run p l e R s m args below meth c H locs cells slots mc ms (F0 m pc ls st0) rest (va_Qe ad post B A1 a) (vx_X px BX AX) free) (hS : va_S A0 H0 H locs) (hA : ∀ q, q < H.size → A1 q → A0 q) (hf : ∀ q, free q → A0 q) (hAX : ∀ q, q < H.size → AX q → A0 q)
    (kx : ∀ (E : String) (ce : Cell) (q9 : Addr) (u : SX) (t : State) (H1 : Heap) (locs1 : List Loc), t.heap = H1 → s.vm.Alike t.vm → px u → BX E u t → H.size ≤ H1.size → (∀ q : Nat, q < H.size → ¬ AX q → H1[q]? = H[q]?) → va_S A0 H0 H1 locs1 → H1[q9]? = some ce → ce.vm = .none → s.vm.findClass E = some ce.cls → vx_W p l e R s m args below meth c H1 locs1 (cells + mc) (slots + ms) Q (F0 m pc ls rest) q9)
    (kk : ∀ (r : Option Nat) (u : S) (t : State) (H1 : Heap) (locs1 : List Loc), t.heap = H1 → s.vm.Alike t.vm → post r u → B u t → H.size ≤ H1.size → (∀ q : Nat, q < H.size → ¬ A1 q → H1[q]? = H[q]?) → va_S A0 H0 H1 locs1 → W p l e R s m args below meth c H1 locs1 (cells + mc) (slots + ms) Q (F0 m (pc + 3) ls (va_re ad r :: rest))) : W p l e R s m args below meth c H locs cells slots Q (F0 m pc ls st0) := by
  intro T hT X
  rcases hr T hT X with ⟨v, st₀, t, T', L, h0, X', hL, e1, e2, ⟨⟨r, u, hv, hp, hb⟩, hF⟩, st⟩ | ⟨q, st₀, t, T', L, E, ce, h0, X', hL, e1, e2, ⟨u, hp, hb, hF⟩, hce, hcv, hcl, st⟩
  · cases hv
    obtain ⟨k1, k2, k3⟩ := vx_keep h0 e1 hS hA hf hL hF
    obtain ⟨t2, a1, b1⟩ := kk r u t T'.heap (locs ++ L) e1.symm (by rw [← e2]; exact X'.warmed.alike) hp hb k1 k2 k3 T' rfl X'
    exact ⟨t2, st t2 a1, b1⟩
  · obtain ⟨k1, k2, k3⟩ := vx_keep h0 e1 hS hAX hf hL hF
    obtain ⟨t2, a1, b1⟩ := kx E ce q u t T'.heap (locs ++ L) e1.symm (by rw [← e2]; exact X'.warmed.alike) hp hb k1 k2 k3 (by rw [e1]; exact hce) hcv hcl T' rfl X'
    exact ⟨t2, st.trans a1, b1⟩
end
/-! ===== END ===== -/
/-! ===== BEGIN .. by an interface, an object ===== -/
section
variable {p : Program} {l : Launch} {e : Env} {R : Room} {s : State} {m : MethodId} {args : Array Value} {below : List Frame} {meth : Method} {c : Code} {H : Heap} {locs : List Loc} {cells slots : Nat} {Q : State → Prop}
variable {mc ms : Nat} {free : Addr → Prop} {A0 A1 : Nat → Prop} {H0 : Heap} {a : Array Value} {pc : Nat} {ls : Array Slot} {st0 rest : List Value}
theorem vx_callFq {S SX : Type} {post : Option Nat → S → Prop} {px : SX → Prop} {B : S → State → Prop} {BX : String → SX → State → Prop} {AX : Nat → Prop} (hr : vx_Run5 p l e R s m args below meth c H locs cells slots mc ms (F0 m pc ls st0) rest (va_Qq post B A1 a) (vx_X px BX AX) free) (hS : va_S A0 H0 H locs) (hA : ∀ q, q < H.size → A1 q → A0 q) (hf : ∀ q, free q → A0 q) (hAX : ∀ q, q < H.size → AX q → A0 q)
    (kx : ∀ (E : String) (ce : Cell) (q9 : Addr) (u : SX) (t : State) (H1 : Heap) (locs1 : List Loc), t.heap = H1 → s.vm.Alike t.vm → px u → BX E u t → H.size ≤ H1.size → (∀ q : Nat, q < H.size → ¬ AX q → H1[q]? = H[q]?) → va_S A0 H0 H1 locs1 → H1[q9]? = some ce → ce.vm = .none → s.vm.findClass E = some ce.cls → vx_W p l e R s m args below meth c H1 locs1 (cells + mc) (slots + ms) Q (F0 m pc ls rest) q9)
    (kk : ∀ (r : Option Nat) (u : S) (t : State) (H1 : Heap) (locs1 : List Loc), t.heap = H1 → s.vm.Alike t.vm → post r u → B u t → H.size ≤ H1.size → (∀ q : Nat, q < H.size → ¬ A1 q → H1[q]? = H[q]?) → va_S A0 H0 H1 locs1 → W p l e R s m args below meth c H1 locs1 (cells + mc) (slots + ms) Q (F0 m (pc + 5) ls (va_rf r :: rest))) : W p l e R s m args below meth c H locs cells slots Q (F0 m pc ls st0) := by
  intro T hT X
  rcases hr T hT X with ⟨v, st₀, t, T', L, h0, X', hL, e1, e2, ⟨⟨r, u, hv, hp, hb⟩, hF⟩, st⟩ | ⟨q, st₀, t, T', L, E, ce, h0, X', hL, e1, e2, ⟨u, hp, hb, hF⟩, hce, hcv, hcl, st⟩
  · cases hv
    obtain ⟨k1, k2, k3⟩ := vx_keep h0 e1 hS hA hf hL hF
    obtain ⟨t2, a1, b1⟩ := kk r u t T'.heap (locs ++ L) e1.symm (by rw [← e2]; exact X'.warmed.alike) hp hb k1 k2 k3 T' rfl X'
    exact ⟨t2, st t2 a1, b1⟩
  · obtain ⟨k1, k2, k3⟩ := vx_keep h0 e1 hS hAX hf hL hF
    obtain ⟨t2, a1, b1⟩ := kx E ce q u t T'.heap (locs ++ L) e1.symm (by rw [← e2]; exact X'.warmed.alike) hp hb k1 k2 k3 (by rw [e1]; exact hce) hcv hcl T' rfl X'
    exact ⟨t2, st.trans a1, b1⟩
end
/-! ===== END ===== -/
/-! ===== BEGIN .. by an interface, a constant ===== -/
section
variable {p : Program} {l : Launch} {e : Env} {R : Room} {s : State} {m : MethodId} {args : Array Value} {below : List Frame} {meth : Method} {c : Code} {H : Heap} {locs : List Loc} {cells slots : Nat} {Q : State → Prop}
variable {mc ms : Nat} {free : Addr → Prop} {A0 A1 : Nat → Prop} {H0 : Heap} {a : Array Value} {pc : Nat} {ls : Array Slot} {st0 rest : List Value}
theorem vx_callFe {ad : Nat → Nat} {S SX : Type} {post : Option Nat → S → Prop} {px : SX → Prop} {B : S → State → Prop} {BX : String → SX → State → Prop} {AX : Nat → Prop} (hr : vx_Run5 p l e R s m args below meth c H locs cells slots mc ms (F0 m pc ls st0) rest (va_Qe ad post B A1 a) (vx_X px BX AX) free) (hS : va_S A0 H0 H locs) (hA : ∀ q, q < H.size → A1 q → A0 q) (hf : ∀ q, free q → A0 q) (hAX : ∀ q, q < H.size → AX q → A0 q)
    (kx : ∀ (E : String) (ce : Cell) (q9 : Addr) (u : SX) (t : State) (H1 : Heap) (locs1 : List Loc), t.heap = H1 → s.vm.Alike t.vm → px u → BX E u t → H.size ≤ H1.size → (∀ q : Nat, q < H.size → ¬ AX q → H1[q]? = H[q]?) → va_S A0 H0 H1 locs1 → H1[q9]? = some ce → ce.vm = .none → s.vm.findClass E = some ce.cls → vx_W p l e R s m args below meth c H1 locs1 (cells + mc) (slots + ms) Q (F0 m pc ls rest) q9)
    (kk : ∀ (r : Option Nat) (u : S) (t : State) (H1 : Heap) (locs1 : List Loc), t.heap = H1 → s.vm.Alike t.vm → post r u → B u t → H.size ≤ H1.size → (∀ q : Nat, q < H.size → ¬ A1 q → H1[q]? = H[q]?) → va_S A0 H0 H1 locs1 → W p l e R s m args below meth c H1 locs1 (cells + mc) (slots + ms) Q (F0 m (pc + 5) ls (va_re ad r :: rest))) : W p l e R s m args below meth c H locs cells slots Q (F0 m pc ls st0) := by
  intro T hT X
  rcases hr T hT X with ⟨v, st₀, t, T', L, h0, X', hL, e1, e2, ⟨⟨r, u, hv, hp, hb⟩, hF⟩, st⟩ | ⟨q, st₀, t, T', L, E, ce, h0, X', hL, e1, e2, ⟨u, hp, hb, hF⟩, hce, hcv, hcl, st⟩
  · cases hv
    obtain ⟨k1, k2, k3⟩ := vx_keep h0 e1 hS hA hf hL hF
    obtain ⟨t2, a1, b1⟩ := kk r u t T'.heap (locs ++ L) e1.symm (by rw [← e2]; exact X'.warmed.alike) hp hb k1 k2 k3 T' rfl X'
    exact ⟨t2, st t2 a1, b1⟩
  · obtain ⟨k1, k2, k3⟩ := vx_keep h0 e1 hS hAX hf hL hF
    obtain ⟨t2, a1, b1⟩ := kx E ce q u t T'.heap (locs ++ L) e1.symm (by rw [← e2]; exact X'.warmed.alike) hp hb k1 k2 k3 (by rw [e1]; exact hce) hcv hcl T' rfl X'
    exact ⟨t2, st.trans a1, b1⟩
end
/-! ===== END ===== -/
/-! ===== BEGIN what the machine throws by itself: null at a field, at athrow ===== -/
section VXM2
variable {p : Program} {l : Launch} {e : Env} {R : Room} {s : State} {m : MethodId} {args : Array Value} {below : List Frame} {meth : Method} {c : Code} {H : Heap} {locs : List Loc} {cells slots : Nat}
variable {Q : State → Prop} {cc : ByteArray} {pc : Nat} {ls : Array Slot} {rest : List Value}
theorem vx_getfN {D cl tys} {own ref C : String} {T : u_T} {N ci index : Nat} {Ts : List Cond} (hexec : p.tables.exec = Jvm.exec) (hb : c.code = cc) (hts : ∀ w ∈ Ts, w.before args s = true) (hin : ∀ w ∈ u_ws C T N, w ∈ Ts) (hown : s.vm.findClass own = some m.cls) (hK : va_K D cl tys s) (hc : cl[ci]? = some (C, T, N)) (k : Nat) (hk : k < N) (hlink : (Cond.fieldLink own index ref (T k).2.1 (T k).2.2.1).before args s = true) (hsame : ∀ x, s.fieldFound? (T k).1 (T k).2.1 (T k).2.2.1 = some x → s.fieldFound? ref (T k).2.1 (T k).2.2.1 = some x) (hdg : decode cc pc = .ok (.getfield index, 3)) (kk : vx_NoteN p l e R s m args below meth c H locs cells slots Q (F0 m pc ls rest)) : W p l e R s m args below meth c H locs cells slots Q (F0 m pc ls (.null :: rest)) := by
  obtain ⟨hS, hfc, kC, hkC, -⟩ := hK.1 ci _ hc
  obtain ⟨cf, kf, fi, f, hi, -⟩ := hS k hk
  intro U hU X
  obtain ⟨vm', X1, st1⟩ := X.getfieldNull hexec hown hlink (hsame _ hi) (u_facts hfc hkC (u_lays hts hin hk) hi).1 (g := F0 m pc ls (.null :: rest)) rfl (rest := rest) rfl (by rw [hb]; exact hdg)
  obtain ⟨t, st, q⟩ := kk (U.setVm vm') hU X1
  exact ⟨t, st1 t st, q⟩
theorem vx_getfNN {D cl tys} {own ref C host : String} {T : u_T} {N ci index : Nat} {Ts : List Cond} (hexec : p.tables.exec = Jvm.exec) (hb : c.code = cc) (hts : ∀ w ∈ Ts, w.before args s = true) (hin : ∀ w ∈ u_ws C T N, w ∈ Ts) (hown : s.vm.findClass own = some m.cls) (hK : va_K D cl tys s) (hc : cl[ci]? = some (C, T, N)) (k : Nat) (hk : k < N) (hlink : (Cond.fieldLinkNest own index ref (T k).2.1 (T k).2.2.1 host).before args s = true) (hsame : ∀ x, s.fieldFound? (T k).1 (T k).2.1 (T k).2.2.1 = some x → s.fieldFound? ref (T k).2.1 (T k).2.2.1 = some x) (hdg : decode cc pc = .ok (.getfield index, 3)) (kk : vx_NoteN p l e R s m args below meth c H locs cells slots Q (F0 m pc ls rest)) : W p l e R s m args below meth c H locs cells slots Q (F0 m pc ls (.null :: rest)) := by
  obtain ⟨hS, hfc, kC, hkC, -⟩ := hK.1 ci _ hc
  obtain ⟨cf, kf, fi, f, hi, -⟩ := hS k hk
  intro U hU X
  obtain ⟨vm', X1, st1⟩ := X.getfieldNullNest hexec hown hlink (hsame _ hi) (u_facts hfc hkC (u_lays hts hin hk) hi).1 (g := F0 m pc ls (.null :: rest)) rfl (rest := rest) rfl (by rw [hb]; exact hdg)
  obtain ⟨t, st, q⟩ := kk (U.setVm vm') hU X1
  exact ⟨t, st1 t st, q⟩
theorem vx_putfN {D cl tys} {own ref C : String} {T : u_T} {N ci index : Nat} {Ts : List Cond} (hexec : p.tables.exec = Jvm.exec) (hb : c.code = cc) (hts : ∀ w ∈ Ts, w.before args s = true) (hin : ∀ w ∈ u_ws C T N, w ∈ Ts) (hown : s.vm.findClass own = some m.cls) (hK : va_K D cl tys s) (hc : cl[ci]? = some (C, T, N)) (k : Nat) (hk : k < N) (hlink : (Cond.fieldLink own index ref (T k).2.1 (T k).2.2.1).before args s = true) (hsame : ∀ x, s.fieldFound? (T k).1 (T k).2.1 (T k).2.2.1 = some x → s.fieldFound? ref (T k).2.1 (T k).2.2.1 = some x) (hfin : (T k).2.2.2 = false) {v : Value} (hdg : decode cc pc = .ok (.putfield index, 3)) (kk : vx_NoteN p l e R s m args below meth c H locs cells slots Q (F0 m pc ls rest)) : W p l e R s m args below meth c H locs cells slots Q (F0 m pc ls (v :: .null :: rest)) := by
  obtain ⟨hS, hfc, kC, hkC, -⟩ := hK.1 ci _ hc
  obtain ⟨cf, kf, fi, f, hi, -⟩ := hS k hk
  have hlay := hts _ (hin _ (u_in_lay hk))
  unfold u_lay at hlay
  rw [if_neg (by rw [hfin]; decide)] at hlay
  obtain ⟨c9, k9, cf9, kf9, fi9, f9, -, -, hi9, hst9, hnf9, -⟩ := Cond.lays_spec hlay
  cases hi.symm.trans hi9
  intro U hU X
  obtain ⟨vm', X1, st1⟩ := X.putfieldNull hexec hown hlink (hsame _ hi) hst9 hnf9 (g := F0 m pc ls (v :: .null :: rest)) rfl (v := v) (rest := rest) rfl (by rw [hb]; exact hdg)
  obtain ⟨t, st, q⟩ := kk (U.setVm vm') hU X1
  exact ⟨t, st1 t st, q⟩
theorem vx_putfNN {D cl tys} {own ref C host : String} {T : u_T} {N ci index : Nat} {Ts : List Cond} (hexec : p.tables.exec = Jvm.exec) (hb : c.code = cc) (hts : ∀ w ∈ Ts, w.before args s = true) (hin : ∀ w ∈ u_ws C T N, w ∈ Ts) (hown : s.vm.findClass own = some m.cls) (hK : va_K D cl tys s) (hc : cl[ci]? = some (C, T, N)) (k : Nat) (hk : k < N) (hlink : (Cond.fieldLinkNest own index ref (T k).2.1 (T k).2.2.1 host).before args s = true) (hsame : ∀ x, s.fieldFound? (T k).1 (T k).2.1 (T k).2.2.1 = some x → s.fieldFound? ref (T k).2.1 (T k).2.2.1 = some x) (hfin : (T k).2.2.2 = false) {v : Value} (hdg : decode cc pc = .ok (.putfield index, 3)) (kk : vx_NoteN p l e R s m args below meth c H locs cells slots Q (F0 m pc ls rest)) : W p l e R s m args below meth c H locs cells slots Q (F0 m pc ls (v :: .null :: rest)) := by
  obtain ⟨hS, hfc, kC, hkC, -⟩ := hK.1 ci _ hc
  obtain ⟨cf, kf, fi, f, hi, -⟩ := hS k hk
  have hlay := hts _ (hin _ (u_in_lay hk))
  unfold u_lay at hlay
  rw [if_neg (by rw [hfin]; decide)] at hlay
  obtain ⟨c9, k9, cf9, kf9, fi9, f9, -, -, hi9, hst9, hnf9, -⟩ := Cond.lays_spec hlay
  cases hi.symm.trans hi9
  intro U hU X
  obtain ⟨vm', X1, st1⟩ := X.putfieldNullNest hexec hown hlink (hsame _ hi) hst9 hnf9 (g := F0 m pc ls (v :: .null :: rest)) rfl (v := v) (rest := rest) rfl (by rw [hb]; exact hdg)
  obtain ⟨t, st, q⟩ := kk (U.setVm vm') hU X1
  exact ⟨t, st1 t st, q⟩
theorem vx_athrowN (hexec : p.tables.exec = Jvm.exec) (hb : c.code = cc) (hdg : decode cc pc = .ok (.athrow, 1)) (k : vx_NoteN p l e R s m args below meth c H locs cells slots Q (F0 m pc ls rest)) : W p l e R s m args below meth c H locs cells slots Q (F0 m pc ls (.null :: rest)) := by
  intro T hT X
  obtain ⟨t, st, q⟩ := k T hT X
  exact ⟨t, X.athrowNull hexec (g := F0 m pc ls (.null :: rest)) rfl (rest := rest) rfl (by rw [hb]; exact hdg) t st, q⟩
end VXM2
/-! ===== END ===== -/
end
section
/-! THE TABLES (printed by wip/whole/gen_tab.py): classes, methods, code with what its links come to -/
abbrev zRI : Type := Instr × (Nat × (Int32 × (Nat × Nat)))
def zC0 : String := "DoorstepRides$Plan"
def zF0 : u_T := fun k => match k with
  | 0 => ("DoorstepRides$Plan", "chairs", "Ljava/util/ArrayList;", true)
  | 1 => ("DoorstepRides$Plan", "place", "I", false)
  | 2 => ("DoorstepRides$Plan", "free", "I", false)
  | _ => ("DoorstepRides$Plan", "seatsTaken", "I", false)
def zT0 : Nat → FieldType := fun k => match k with
  | 0 => (.object "java/util/ArrayList")
  | 1 => .int
  | 2 => .int
  | _ => .int
theorem zFn0 : ∀ a, a < 4 → ∀ b, b < 4 → a ≠ b → (zF0 a).2.1 ≠ (zF0 b).2.1 := by decide +kernel
theorem zFt0 : ∀ k, k < 4 → parseFieldDescriptor (zF0 k).2.2.1 = some (zT0 k) := by decide +kernel
def zC1 : String := "DoorstepRides$Request"
def zF1 : u_T := fun k => match k with
  | 0 => ("DoorstepRides$Request", "rider", "LDoorstepRides$Rider;", true)
  | 1 => ("DoorstepRides$Request", "from", "I", true)
  | 2 => ("DoorstepRides$Request", "to", "I", true)
  | 3 => ("DoorstepRides$Request", "dayAsked", "I", true)
  | 4 => ("DoorstepRides$Request", "longestRide", "I", true)
  | 5 => ("DoorstepRides$Request", "state", "I", false)
  | 6 => ("DoorstepRides$Request", "reason", "I", false)
  | 7 => ("DoorstepRides$Request", "promised", "I", false)
  | 8 => ("DoorstepRides$Request", "vehicleNumber", "I", false)
  | 9 => ("DoorstepRides$Request", "pickEndsByPlan", "I", false)
  | 10 => ("DoorstepRides$Request", "pickBegan", "I", false)
  | 11 => ("DoorstepRides$Request", "pickEnded", "I", false)
  | 12 => ("DoorstepRides$Request", "dropBegan", "I", false)
  | 13 => ("DoorstepRides$Request", "riderIsAbsent", "Z", false)
  | _ => ("DoorstepRides$Request", "cancelledLate", "Z", false)
def zT1 : Nat → FieldType := fun k => match k with
  | 0 => (.object "DoorstepRides$Rider")
  | 1 => .int
  | 2 => .int
  | 3 => .int
  | 4 => .int
  | 5 => .int
  | 6 => .int
  | 7 => .int
  | 8 => .int
  | 9 => .int
  | 10 => .int
  | 11 => .int
  | 12 => .int
  | 13 => .boolean
  | _ => .boolean
theorem zFn1 : ∀ a, a < 15 → ∀ b, b < 15 → a ≠ b → (zF1 a).2.1 ≠ (zF1 b).2.1 := by decide +kernel
theorem zFt1 : ∀ k, k < 15 → parseFieldDescriptor (zF1 k).2.2.1 = some (zT1 k) := by decide +kernel
def zC2 : String := "DoorstepRides$Rider"
def zF2 : u_T := fun k => match k with
  | 0 => ("DoorstepRides$Rider", "kind", "I", true)
  | 1 => ("DoorstepRides$Rider", "weight", "I", true)
  | 2 => ("DoorstepRides$Rider", "walk", "I", true)
  | 3 => ("DoorstepRides$Rider", "seatsNeeded", "I", true)
  | _ => ("DoorstepRides$Rider", "stopMinutes", "I", true)
def zT2 : Nat → FieldType := fun k => match k with
  | 0 => .int
  | 1 => .int
  | 2 => .int
  | 3 => .int
  | _ => .int
theorem zFn2 : ∀ a, a < 5 → ∀ b, b < 5 → a ≠ b → (zF2 a).2.1 ≠ (zF2 b).2.1 := by decide +kernel
theorem zFt2 : ∀ k, k < 5 → parseFieldDescriptor (zF2 k).2.2.1 = some (zT2 k) := by decide +kernel
def zC3 : String := "DoorstepRides$Search"
def zF3 : u_T := fun k => match k with
  | 0 => ("DoorstepRides$Search", "best", "LDoorstepRides$Vehicle;", false)
  | 1 => ("DoorstepRides$Search", "leastGrowth", "I", false)
  | 2 => ("DoorstepRides$Search", "pickAt", "I", false)
  | _ => ("DoorstepRides$Search", "dropAt", "I", false)
def zT3 : Nat → FieldType := fun k => match k with
  | 0 => (.object "DoorstepRides$Vehicle")
  | 1 => .int
  | 2 => .int
  | _ => .int
theorem zFn3 : ∀ a, a < 4 → ∀ b, b < 4 → a ≠ b → (zF3 a).2.1 ≠ (zF3 b).2.1 := by decide +kernel
theorem zFt3 : ∀ k, k < 4 → parseFieldDescriptor (zF3 k).2.2.1 = some (zT3 k) := by decide +kernel
def zC4 : String := "DoorstepRides$Stop"
def zF4 : u_T := fun k => match k with
  | 0 => ("DoorstepRides$Stop", "request", "LDoorstepRides$Request;", true)
  | 1 => ("DoorstepRides$Stop", "isDrop", "Z", true)
  | 2 => ("DoorstepRides$Stop", "place", "I", true)
  | 3 => ("DoorstepRides$Stop", "begins", "I", false)
  | 4 => ("DoorstepRides$Stop", "ends", "I", false)
  | _ => ("DoorstepRides$Stop", "waitedForLift", "Z", false)
def zT4 : Nat → FieldType := fun k => match k with
  | 0 => (.object "DoorstepRides$Request")
  | 1 => .boolean
  | 2 => .int
  | 3 => .int
  | 4 => .int
  | _ => .boolean
theorem zFn4 : ∀ a, a < 6 → ∀ b, b < 6 → a ≠ b → (zF4 a).2.1 ≠ (zF4 b).2.1 := by decide +kernel
theorem zFt4 : ∀ k, k < 6 → parseFieldDescriptor (zF4 k).2.2.1 = some (zT4 k) := by decide +kernel
def zC5 : String := "DoorstepRides$Vehicle"
def zF5 : u_T := fun k => match k with
  | 0 => ("DoorstepRides$Vehicle", "number", "I", true)
  | 1 => ("DoorstepRides$Vehicle", "base", "I", true)
  | 2 => ("DoorstepRides$Vehicle", "seats", "I", true)
  | 3 => ("DoorstepRides$Vehicle", "ties", "I", true)
  | 4 => ("DoorstepRides$Vehicle", "liftBears", "I", true)
  | 5 => ("DoorstepRides$Vehicle", "stops", "Ljava/util/ArrayList;", true)
  | 6 => ("DoorstepRides$Vehicle", "doneStops", "Ljava/util/ArrayList;", true)
  | 7 => ("DoorstepRides$Vehicle", "aboard", "Ljava/util/ArrayList;", true)
  | 8 => ("DoorstepRides$Vehicle", "plan", "LDoorstepRides$Plan;", true)
  | 9 => ("DoorstepRides$Vehicle", "liftWorks", "Z", false)
  | 10 => ("DoorstepRides$Vehicle", "hasLeft", "Z", false)
  | 11 => ("DoorstepRides$Vehicle", "place", "I", false)
  | _ => ("DoorstepRides$Vehicle", "free", "I", false)
def zT5 : Nat → FieldType := fun k => match k with
  | 0 => .int
  | 1 => .int
  | 2 => .int
  | 3 => .int
  | 4 => .int
  | 5 => (.object "java/util/ArrayList")
  | 6 => (.object "java/util/ArrayList")
  | 7 => (.object "java/util/ArrayList")
  | 8 => (.object "DoorstepRides$Plan")
  | 9 => .boolean
  | 10 => .boolean
  | 11 => .int
  | _ => .int
theorem zFn5 : ∀ a, a < 13 → ∀ b, b < 13 → a ≠ b → (zF5 a).2.1 ≠ (zF5 b).2.1 := by decide +kernel
theorem zFt5 : ∀ k, k < 13 → parseFieldDescriptor (zF5 k).2.2.1 = some (zT5 k) := by decide +kernel
def zC6 : String := "DoorstepRides"
def zF6 : u_T := fun k => match k with
  | 0 => ("DoorstepRides", "riders", "Ljava/util/ArrayList;", true)
  | 1 => ("DoorstepRides", "vehicles", "Ljava/util/ArrayList;", true)
  | 2 => ("DoorstepRides", "requests", "Ljava/util/ArrayList;", true)
  | 3 => ("DoorstepRides", "toMend", "Ljava/util/ArrayList;", true)
  | 4 => ("DoorstepRides", "busStops", "[Z", true)
  | 5 => ("DoorstepRides", "search", "LDoorstepRides$Search;", true)
  | 6 => ("DoorstepRides", "isWinter", "Z", false)
  | 7 => ("DoorstepRides", "today", "I", false)
  | _ => ("DoorstepRides", "minuteNow", "I", false)
def zT6 : Nat → FieldType := fun k => match k with
  | 0 => (.object "java/util/ArrayList")
  | 1 => (.object "java/util/ArrayList")
  | 2 => (.object "java/util/ArrayList")
  | 3 => (.object "java/util/ArrayList")
  | 4 => (.array .boolean)
  | 5 => (.object "DoorstepRides$Search")
  | 6 => .boolean
  | 7 => .int
  | _ => .int
theorem zFn6 : ∀ a, a < 9 → ∀ b, b < 9 → a ≠ b → (zF6 a).2.1 ≠ (zF6 b).2.1 := by decide +kernel
theorem zFt6 : ∀ k, k < 9 → parseFieldDescriptor (zF6 k).2.2.1 = some (zT6 k) := by decide +kernel
def zC7 : String := "DoorstepRidesModel"
def zF7 : u_T := fun k => match k with
  | 0 => ("DoorstepRidesModel", "thrown", "I", false)
  | 1 => ("DoorstepRidesModel", "day", "I", false)
  | 2 => ("DoorstepRidesModel", "now", "I", false)
  | 3 => ("DoorstepRidesModel", "isWinter", "Z", false)
  | 4 => ("DoorstepRidesModel", "buses", "[Z", true)
  | 5 => ("DoorstepRidesModel", "busMany", "I", false)
  | 6 => ("DoorstepRidesModel", "riderMany", "I", false)
  | 7 => ("DoorstepRidesModel", "kinds", "[I", true)
  | 8 => ("DoorstepRidesModel", "weights", "[I", true)
  | 9 => ("DoorstepRidesModel", "walks", "[I", true)
  | 10 => ("DoorstepRidesModel", "helpers", "[Z", true)
  | 11 => ("DoorstepRidesModel", "vehicleMany", "I", false)
  | 12 => ("DoorstepRidesModel", "bases", "[I", true)
  | 13 => ("DoorstepRidesModel", "seats", "[I", true)
  | 14 => ("DoorstepRidesModel", "ties", "[I", true)
  | 15 => ("DoorstepRidesModel", "bears", "[I", true)
  | 16 => ("DoorstepRidesModel", "works", "[Z", true)
  | 17 => ("DoorstepRidesModel", "places", "[I", true)
  | 18 => ("DoorstepRidesModel", "frees", "[I", true)
  | 19 => ("DoorstepRidesModel", "lefts", "[Z", true)
  | 20 => ("DoorstepRidesModel", "leftBegins", "[I", true)
  | 21 => ("DoorstepRidesModel", "leftEnds", "[I", true)
  | 22 => ("DoorstepRidesModel", "delayed", "[Z", true)
  | 23 => ("DoorstepRidesModel", "taken", "[I", true)
  | 24 => ("DoorstepRidesModel", "chairs", "[I", true)
  | 25 => ("DoorstepRidesModel", "chairMany", "[I", true)
  | 26 => ("DoorstepRidesModel", "stops", "[I", true)
  | 27 => ("DoorstepRidesModel", "stopMany", "[I", true)
  | 28 => ("DoorstepRidesModel", "requestMany", "I", false)
  | 29 => ("DoorstepRidesModel", "riders", "[I", true)
  | 30 => ("DoorstepRidesModel", "froms", "[I", true)
  | 31 => ("DoorstepRidesModel", "tos", "[I", true)
  | 32 => ("DoorstepRidesModel", "states", "[I", true)
  | 33 => ("DoorstepRidesModel", "whys", "[I", true)
  | 34 => ("DoorstepRidesModel", "promises", "[I", true)
  | 35 => ("DoorstepRidesModel", "vehicles", "[I", true)
  | 36 => ("DoorstepRidesModel", "pickBegins", "[I", true)
  | 37 => ("DoorstepRidesModel", "pickEnds", "[I", true)
  | 38 => ("DoorstepRidesModel", "dropBegins", "[I", true)
  | 39 => ("DoorstepRidesModel", "days", "[I", true)
  | 40 => ("DoorstepRidesModel", "noShows", "[Z", true)
  | 41 => ("DoorstepRidesModel", "absents", "[Z", true)
  | 42 => ("DoorstepRidesModel", "tryMany", "I", false)
  | 43 => ("DoorstepRidesModel", "tries", "[I", true)
  | 44 => ("DoorstepRidesModel", "begins", "[I", true)
  | 45 => ("DoorstepRidesModel", "ends", "[I", true)
  | 46 => ("DoorstepRidesModel", "stack", "[I", true)
  | 47 => ("DoorstepRidesModel", "bestGrowth", "I", false)
  | 48 => ("DoorstepRidesModel", "bestVehicle", "I", false)
  | 49 => ("DoorstepRidesModel", "bestPick", "I", false)
  | 50 => ("DoorstepRidesModel", "bestDrop", "I", false)
  | _ => ("DoorstepRidesModel", "looked", "[I", true)
def zT7 : Nat → FieldType := fun k => match k with
  | 0 => .int
  | 1 => .int
  | 2 => .int
  | 3 => .boolean
  | 4 => (.array .boolean)
  | 5 => .int
  | 6 => .int
  | 7 => (.array .int)
  | 8 => (.array .int)
  | 9 => (.array .int)
  | 10 => (.array .boolean)
  | 11 => .int
  | 12 => (.array .int)
  | 13 => (.array .int)
  | 14 => (.array .int)
  | 15 => (.array .int)
  | 16 => (.array .boolean)
  | 17 => (.array .int)
  | 18 => (.array .int)
  | 19 => (.array .boolean)
  | 20 => (.array .int)
  | 21 => (.array .int)
  | 22 => (.array .boolean)
  | 23 => (.array .int)
  | 24 => (.array .int)
  | 25 => (.array .int)
  | 26 => (.array .int)
  | 27 => (.array .int)
  | 28 => .int
  | 29 => (.array .int)
  | 30 => (.array .int)
  | 31 => (.array .int)
  | 32 => (.array .int)
  | 33 => (.array .int)
  | 34 => (.array .int)
  | 35 => (.array .int)
  | 36 => (.array .int)
  | 37 => (.array .int)
  | 38 => (.array .int)
  | 39 => (.array .int)
  | 40 => (.array .boolean)
  | 41 => (.array .boolean)
  | 42 => .int
  | 43 => (.array .int)
  | 44 => (.array .int)
  | 45 => (.array .int)
  | 46 => (.array .int)
  | 47 => .int
  | 48 => .int
  | 49 => .int
  | 50 => .int
  | _ => (.array .int)
theorem zFn7 : ∀ a, a < 52 → ∀ b, b < 52 → a ≠ b → (zF7 a).2.1 ≠ (zF7 b).2.1 := by decide +kernel
theorem zFt7 : ∀ k, k < 52 → parseFieldDescriptor (zF7 k).2.2.1 = some (zT7 k) := by decide +kernel
def zC8 : String := "java/util/ArrayList"
def zF8 : u_T := fun k => match k with
  | 0 => ("java/util/AbstractList", "modCount", "I", false)
  | 1 => ("java/util/ArrayList", "elementData", "[Ljava/lang/Object;", false)
  | _ => ("java/util/ArrayList", "size", "I", false)
def zT8 : Nat → FieldType := fun k => match k with
  | 0 => .int
  | 1 => (.array (.object "java/lang/Object"))
  | _ => .int
theorem zFn8 : ∀ a, a < 3 → ∀ b, b < 3 → a ≠ b → (zF8 a).2.1 ≠ (zF8 b).2.1 := by decide +kernel
theorem zFt8 : ∀ k, k < 3 → parseFieldDescriptor (zF8 k).2.2.1 = some (zT8 k) := by decide +kernel
def zC9 : String := "java/lang/IllegalArgumentException"
def zF9 : u_T := fun k => match k with
  | _ => ("", "", "", false)
def zT9 : Nat → FieldType := fun k => match k with
  | _ => .int
theorem zFn9 : ∀ a, a < 0 → ∀ b, b < 0 → a ≠ b → (zF9 a).2.1 ≠ (zF9 b).2.1 := by decide +kernel
theorem zFt9 : ∀ k, k < 0 → parseFieldDescriptor (zF9 k).2.2.1 = some (zT9 k) := by decide +kernel
def zC10 : String := "java/lang/IllegalStateException"
def zF10 : u_T := fun k => match k with
  | _ => ("", "", "", false)
def zT10 : Nat → FieldType := fun k => match k with
  | _ => .int
theorem zFn10 : ∀ a, a < 0 → ∀ b, b < 0 → a ≠ b → (zF10 a).2.1 ≠ (zF10 b).2.1 := by decide +kernel
theorem zFt10 : ∀ k, k < 0 → parseFieldDescriptor (zF10 k).2.2.1 = some (zT10 k) := by decide +kernel
def zC11 : String := "java/lang/IndexOutOfBoundsException"
def zF11 : u_T := fun k => match k with
  | _ => ("", "", "", false)
def zT11 : Nat → FieldType := fun k => match k with
  | _ => .int
theorem zFn11 : ∀ a, a < 0 → ∀ b, b < 0 → a ≠ b → (zF11 a).2.1 ≠ (zF11 b).2.1 := by decide +kernel
theorem zFt11 : ∀ k, k < 0 → parseFieldDescriptor (zF11 k).2.2.1 = some (zT11 k) := by decide +kernel
abbrev classes : List vw_C := [(zC0, zF0, 4), (zC1, zF1, 15), (zC2, zF2, 5), (zC3, zF3, 4), (zC4, zF4, 6), (zC5, zF5, 13), (zC6, zF6, 9), (zC7, zF7, 52), (zC8, zF8, 3), (zC9, zF9, 0), (zC10, zF10, 0), (zC11, zF11, 0)]
/-- a field's type, by class and place: 0 int, 1 boolean, 2 reference, 3 long -/
def zfty : List (List Nat) := [[2, 0, 0, 0], [2, 0, 0, 0, 0, 0, 0, 0, 0, 0, 0, 0, 0, 1, 1], [0, 0, 0, 0, 0], [2, 0, 0, 0], [2, 1, 0, 0, 0, 1], [0, 0, 0, 0, 0, 2, 2, 2, 2, 1, 1, 0, 0], [2, 2, 2, 2, 2, 2, 1, 0, 0], [0, 0, 0, 1, 2, 0, 0, 2, 2, 2, 2, 0, 2, 2, 2, 2, 2, 2, 2, 2, 2, 2, 2, 2, 2, 2, 2, 2, 0, 2, 2, 2, 2, 2, 2, 2, 2, 2, 2, 2, 2, 2, 0, 2, 2, 2, 2, 0, 0, 0, 0, 2], [0, 2, 0], [], [], []]
def zfin : List (List Bool) := [[true, false, false, false], [true, true, true, true, true, false, false, false, false, false, false, false, false, false, false], [true, true, true, true, true], [false, false, false, false], [true, true, true, false, false, false], [true, true, true, true, true, true, true, true, true, false, false, false, false], [true, true, true, true, true, true, false, false, false], [false, false, false, false, true, false, false, true, true, true, true, false, true, true, true, true, true, true, true, true, true, true, true, true, true, true, true, true, false, true, true, true, true, true, true, true, true, true, true, true, true, true, false, true, true, true, true, false, false, false, false, true], [false, false, false], [], [], []]
/-- a new object's fields -/
def zdfs : List (List Value) := [[.null, .int 0, .int 0, .int 0], [.null, .int 0, .int 0, .int 0, .int 0, .int 0, .int 0, .int 0, .int 0, .int 0, .int 0, .int 0, .int 0, .int 0, .int 0], [.int 0, .int 0, .int 0, .int 0, .int 0], [.null, .int 0, .int 0, .int 0], [.null, .int 0, .int 0, .int 0, .int 0, .int 0], [.int 0, .int 0, .int 0, .int 0, .int 0, .null, .null, .null, .null, .int 0, .int 0, .int 0, .int 0], [.null, .null, .null, .null, .null, .null, .int 0, .int 0, .int 0], [.int 0, .int 0, .int 0, .int 0, .null, .int 0, .int 0, .null, .null, .null, .null, .int 0, .null, .null, .null, .null, .null, .null, .null, .null, .null, .null, .null, .null, .null, .null, .null, .null, .int 0, .null, .null, .null, .null, .null, .null, .null, .null, .null, .null, .null, .null, .null, .int 0, .null, .null, .null, .null, .int 0, .int 0, .int 0, .int 0, .null], [.int 0, .null, .int 0], [], [], []]
/-- 0: java/util/AbstractCollection.<init>()V -/
def zK0 : List (Nat × zRI) := [(0, (.aload_n 0, 1, 0, 0, 0)), (1, (.invokespecial 1, 3, 0, 2000, 0)), (4, (.return_, 1, 0, 0, 0))]
/-- 1: java/util/AbstractList.<init>()V -/
def zK1 : List (Nat × zRI) := [(0, (.aload_n 0, 1, 0, 0, 0)), (1, (.invokespecial 1, 3, 0, 0, 1)), (4, (.aload_n 0, 1, 0, 0, 0)), (5, (.iconst 0, 1, 0, 0, 0)), (6, (.putfield 7, 3, 0, 8, 0)), (9, (.return_, 1, 0, 0, 0))]
/-- 2: java/util/ArrayList.<init>()V -/
def zK2 : List (Nat × zRI) := [(0, (.aload_n 0, 1, 0, 0, 0)), (1, (.invokespecial 1, 3, 0, 1, 1)), (4, (.aload_n 0, 1, 0, 0, 0)), (5, (.getstatic 39, 3, 0, 0, 0)), (8, (.putfield 9, 3, 0, 8, 1)), (11, (.return_, 1, 0, 0, 0))]
/-- 3: java/util/ArrayList.size()I -/
def zK3 : List (Nat × zRI) := [(0, (.aload_n 0, 1, 0, 0, 0)), (1, (.getfield 48, 3, 0, 8, 2)), (4, (.ireturn, 1, 0, 0, 0))]
/-- 4: java/util/ArrayList.get(I)Ljava/lang/Object; -/
def zK4 : List (Nat × zRI) := [(0, (.iload_n 1, 1, 0, 0, 0)), (1, (.aload_n 0, 1, 0, 0, 0)), (2, (.getfield 48, 3, 0, 8, 2)), (5, (.invokestatic 118, 3, 0, 19, 2)), (8, (.pop, 1, 0, 0, 0)), (9, (.aload_n 0, 1, 0, 0, 0)), (10, (.iload_n 1, 1, 0, 0, 0)), (11, (.invokevirtual 123, 3, 0, 5, 0)), (14, (.areturn, 1, 0, 0, 0))]
/-- 5: java/util/ArrayList.elementData(I)Ljava/lang/Object; -/
def zK5 : List (Nat × zRI) := [(0, (.aload_n 0, 1, 0, 0, 0)), (1, (.getfield 9, 3, 0, 8, 1)), (4, (.iload_n 1, 1, 0, 0, 0)), (5, (.aaload, 1, 0, 0, 0)), (6, (.areturn, 1, 0, 0, 0))]
/-- 6: java/util/ArrayList.add(Ljava/lang/Object;)Z -/
def zK6 : List (Nat × zRI) := [(0, (.aload_n 0, 1, 0, 0, 0)), (1, (.dup, 1, 0, 0, 0)), (2, (.getfield 63, 3, 0, 8, 0)), (5, (.iconst 1, 1, 1, 0, 0)), (6, (.iadd, 1, 0, 0, 0)), (7, (.putfield 63, 3, 0, 8, 0)), (10, (.aload_n 0, 1, 0, 0, 0)), (11, (.aload_n 1, 1, 0, 0, 0)), (12, (.aload_n 0, 1, 0, 0, 0)), (13, (.getfield 9, 3, 0, 8, 1)), (16, (.aload_n 0, 1, 0, 0, 0)), (17, (.getfield 48, 3, 0, 8, 2)), (20, (.invokevirtual 131, 3, 0, 7, 0)), (23, (.iconst 1, 1, 1, 0, 0)), (24, (.ireturn, 1, 0, 0, 0))]
/-- 7: java/util/ArrayList.add(Ljava/lang/Object;[Ljava/lang/Object;I)V -/
def zK7 : List (Nat × zRI) := [(0, (.iload_n 3, 1, 0, 0, 0)), (1, (.aload_n 2, 1, 0, 0, 0)), (2, (.arraylength, 1, 0, 0, 0)), (3, (.if_icmp .ne 8, 3, 0, 11, 0)), (6, (.aload_n 0, 1, 0, 0, 0)), (7, (.invokevirtual 129, 3, 0, 8, 0)), (10, (.astore_n 2, 1, 0, 0, 0)), (11, (.aload_n 2, 1, 0, 0, 0)), (12, (.iload_n 3, 1, 0, 0, 0)), (13, (.aload_n 1, 1, 0, 0, 0)), (14, (.aastore, 1, 0, 0, 0)), (15, (.aload_n 0, 1, 0, 0, 0)), (16, (.iload_n 3, 1, 0, 0, 0)), (17, (.iconst 1, 1, 1, 0, 0)), (18, (.iadd, 1, 0, 0, 0)), (19, (.putfield 48, 3, 0, 8, 2)), (22, (.return_, 1, 0, 0, 0))]
/-- 8: java/util/ArrayList.grow()[Ljava/lang/Object; -/
def zK8 : List (Nat × zRI) := [(0, (.aload_n 0, 1, 0, 0, 0)), (1, (.aload_n 0, 1, 0, 0, 0)), (2, (.getfield 48, 3, 0, 8, 2)), (5, (.iconst 1, 1, 1, 0, 0)), (6, (.iadd, 1, 0, 0, 0)), (7, (.invokevirtual 69, 3, 0, 9, 0)), (10, (.areturn, 1, 0, 0, 0))]
/-- 9: java/util/ArrayList.grow(I)[Ljava/lang/Object; -/
def zK9 : List (Nat × zRI) := [(0, (.aload_n 0, 1, 0, 0, 0)), (1, (.getfield 9, 3, 0, 8, 1)), (4, (.arraylength, 1, 0, 0, 0)), (5, (.istore_n 2, 1, 0, 0, 0)), (6, (.iload_n 2, 1, 0, 0, 0)), (7, (.ifCond .gt 13, 3, 0, 20, 0)), (10, (.aload_n 0, 1, 0, 0, 0)), (11, (.getfield 9, 3, 0, 8, 1)), (14, (.getstatic 39, 3, 0, 0, 0)), (17, (.if_acmp .eq 28, 3, 0, 45, 0)), (20, (.iload_n 2, 1, 0, 0, 0)), (21, (.iload_n 1, 1, 0, 0, 0)), (22, (.iload_n 2, 1, 0, 0, 0)), (23, (.isub, 1, 0, 0, 0)), (24, (.iload_n 2, 1, 0, 0, 0)), (25, (.iconst 1, 1, 1, 0, 0)), (26, (.ishr, 1, 0, 0, 0)), (27, (.invokestatic 73, 3, 0, 20, 2)), (30, (.istore_n 3, 1, 0, 0, 0)), (31, (.aload_n 0, 1, 0, 0, 0)), (32, (.aload_n 0, 1, 0, 0, 0)), (33, (.getfield 9, 3, 0, 8, 1)), (36, (.iload_n 3, 1, 0, 0, 0)), (37, (.invokestatic 66, 3, 0, 17, 2)), (40, (.dup_x1, 1, 0, 0, 0)), (41, (.putfield 9, 3, 0, 8, 1)), (44, (.areturn, 1, 0, 0, 0)), (45, (.aload_n 0, 1, 0, 0, 0)), (46, (.bipush 10, 2, 10, 0, 0)), (48, (.iload_n 1, 1, 0, 0, 0)), (49, (.invokestatic 79, 3, 0, 2001, 0)), (52, (.anewarray 7, 3, 0, 0, 0)), (55, (.dup_x1, 1, 0, 0, 0)), (56, (.putfield 9, 3, 0, 8, 1)), (59, (.areturn, 1, 0, 0, 0))]
/-- 10: java/util/ArrayList.add(ILjava/lang/Object;)V -/
def zK10 : List (Nat × zRI) := [(0, (.aload_n 0, 1, 0, 0, 0)), (1, (.iload_n 1, 1, 0, 0, 0)), (2, (.invokevirtual 135, 3, 0, 11, 0)), (5, (.aload_n 0, 1, 0, 0, 0)), (6, (.dup, 1, 0, 0, 0)), (7, (.getfield 63, 3, 0, 8, 0)), (10, (.iconst 1, 1, 1, 0, 0)), (11, (.iadd, 1, 0, 0, 0)), (12, (.putfield 63, 3, 0, 8, 0)), (15, (.aload_n 0, 1, 0, 0, 0)), (16, (.getfield 48, 3, 0, 8, 2)), (19, (.dup, 1, 0, 0, 0)), (20, (.istore_n 3, 1, 0, 0, 0)), (21, (.aload_n 0, 1, 0, 0, 0)), (22, (.getfield 9, 3, 0, 8, 1)), (25, (.dup, 1, 0, 0, 0)), (26, (.astore 4, 2, 0, 0, 0)), (28, (.arraylength, 1, 0, 0, 0)), (29, (.if_icmp .ne 9, 3, 0, 38, 0)), (32, (.aload_n 0, 1, 0, 0, 0)), (33, (.invokevirtual 129, 3, 0, 8, 0)), (36, (.astore 4, 2, 0, 0, 0)), (38, (.aload 4, 2, 0, 0, 0)), (40, (.iload_n 1, 1, 0, 0, 0)), (41, (.aload 4, 2, 0, 0, 0)), (43, (.iload_n 1, 1, 0, 0, 0)), (44, (.iconst 1, 1, 1, 0, 0)), (45, (.iadd, 1, 0, 0, 0)), (46, (.iload_n 3, 1, 0, 0, 0)), (47, (.iload_n 1, 1, 0, 0, 0)), (48, (.isub, 1, 0, 0, 0)), (49, (.invokestatic 112, 3, 0, 2004, 0)), (52, (.aload 4, 2, 0, 0, 0)), (54, (.iload_n 1, 1, 0, 0, 0)), (55, (.aload_n 2, 1, 0, 0, 0)), (56, (.aastore, 1, 0, 0, 0)), (57, (.aload_n 0, 1, 0, 0, 0)), (58, (.iload_n 3, 1, 0, 0, 0)), (59, (.iconst 1, 1, 1, 0, 0)), (60, (.iadd, 1, 0, 0, 0)), (61, (.putfield 48, 3, 0, 8, 2)), (64, (.return_, 1, 0, 0, 0))]
/-- 11: java/util/ArrayList.rangeCheckForAdd(I)V -/
def zK11 : List (Nat × zRI) := [(0, (.iload_n 1, 1, 0, 0, 0)), (1, (.aload_n 0, 1, 0, 0, 0)), (2, (.getfield 48, 3, 0, 8, 2)), (5, (.if_icmp .gt 7, 3, 0, 12, 0)), (8, (.iload_n 1, 1, 0, 0, 0)), (9, (.ifCond .ge 16, 3, 0, 25, 0)), (15, (.dup, 1, 0, 0, 0)), (16, (.aload_n 0, 1, 0, 0, 0)), (17, (.iload_n 1, 1, 0, 0, 0)), (25, (.return_, 1, 0, 0, 0))]
/-- 12: java/util/ArrayList.clear()V -/
def zK12 : List (Nat × zRI) := [(0, (.aload_n 0, 1, 0, 0, 0)), (1, (.dup, 1, 0, 0, 0)), (2, (.getfield 63, 3, 0, 8, 0)), (5, (.iconst 1, 1, 1, 0, 0)), (6, (.iadd, 1, 0, 0, 0)), (7, (.putfield 63, 3, 0, 8, 0)), (10, (.aload_n 0, 1, 0, 0, 0)), (11, (.getfield 9, 3, 0, 8, 1)), (14, (.astore_n 1, 1, 0, 0, 0)), (15, (.aload_n 0, 1, 0, 0, 0)), (16, (.getfield 48, 3, 0, 8, 2)), (19, (.istore_n 2, 1, 0, 0, 0)), (20, (.aload_n 0, 1, 0, 0, 0)), (21, (.iconst 0, 1, 0, 0, 0)), (22, (.dup_x1, 1, 0, 0, 0)), (23, (.putfield 48, 3, 0, 8, 2)), (26, (.istore_n 3, 1, 0, 0, 0)), (27, (.iload_n 3, 1, 0, 0, 0)), (28, (.iload_n 2, 1, 0, 0, 0)), (29, (.if_icmp .ge 13, 3, 0, 42, 0)), (32, (.aload_n 1, 1, 0, 0, 0)), (33, (.iload_n 3, 1, 0, 0, 0)), (34, (.aconst_null, 1, 0, 0, 0)), (35, (.aastore, 1, 0, 0, 0)), (36, (.iinc 3 1, 3, 1, 0, 0)), (39, (.goto (-12), 3, 0, 27, 0)), (42, (.return_, 1, 0, 0, 0))]
/-- 13: java/util/ArrayList.remove(I)Ljava/lang/Object; -/
def zK13 : List (Nat × zRI) := [(0, (.iload_n 1, 1, 0, 0, 0)), (1, (.aload_n 0, 1, 0, 0, 0)), (2, (.getfield 48, 3, 0, 8, 2)), (5, (.invokestatic 118, 3, 0, 19, 2)), (8, (.pop, 1, 0, 0, 0)), (9, (.aload_n 0, 1, 0, 0, 0)), (10, (.getfield 9, 3, 0, 8, 1)), (13, (.astore_n 2, 1, 0, 0, 0)), (14, (.aload_n 2, 1, 0, 0, 0)), (15, (.iload_n 1, 1, 0, 0, 0)), (16, (.aaload, 1, 0, 0, 0)), (17, (.astore_n 3, 1, 0, 0, 0)), (18, (.aload_n 0, 1, 0, 0, 0)), (19, (.aload_n 2, 1, 0, 0, 0)), (20, (.iload_n 1, 1, 0, 0, 0)), (21, (.invokevirtual 144, 3, 0, 14, 0)), (24, (.aload_n 3, 1, 0, 0, 0)), (25, (.areturn, 1, 0, 0, 0))]
/-- 14: java/util/ArrayList.fastRemove([Ljava/lang/Object;I)V -/
def zK14 : List (Nat × zRI) := [(0, (.aload_n 0, 1, 0, 0, 0)), (1, (.dup, 1, 0, 0, 0)), (2, (.getfield 63, 3, 0, 8, 0)), (5, (.iconst 1, 1, 1, 0, 0)), (6, (.iadd, 1, 0, 0, 0)), (7, (.putfield 63, 3, 0, 8, 0)), (10, (.aload_n 0, 1, 0, 0, 0)), (11, (.getfield 48, 3, 0, 8, 2)), (14, (.iconst 1, 1, 1, 0, 0)), (15, (.isub, 1, 0, 0, 0)), (16, (.dup, 1, 0, 0, 0)), (17, (.istore_n 3, 1, 0, 0, 0)), (18, (.iload_n 2, 1, 0, 0, 0)), (19, (.if_icmp .le 15, 3, 0, 34, 0)), (22, (.aload_n 1, 1, 0, 0, 0)), (23, (.iload_n 2, 1, 0, 0, 0)), (24, (.iconst 1, 1, 1, 0, 0)), (25, (.iadd, 1, 0, 0, 0)), (26, (.aload_n 1, 1, 0, 0, 0)), (27, (.iload_n 2, 1, 0, 0, 0)), (28, (.iload_n 3, 1, 0, 0, 0)), (29, (.iload_n 2, 1, 0, 0, 0)), (30, (.isub, 1, 0, 0, 0)), (31, (.invokestatic 112, 3, 0, 2004, 0)), (34, (.aload_n 1, 1, 0, 0, 0)), (35, (.aload_n 0, 1, 0, 0, 0)), (36, (.iload_n 3, 1, 0, 0, 0)), (37, (.dup_x1, 1, 0, 0, 0)), (38, (.putfield 48, 3, 0, 8, 2)), (41, (.aconst_null, 1, 0, 0, 0)), (42, (.aastore, 1, 0, 0, 0)), (43, (.return_, 1, 0, 0, 0))]
/-- 15: java/util/ArrayList.isEmpty()Z -/
def zK15 : List (Nat × zRI) := [(0, (.aload_n 0, 1, 0, 0, 0)), (1, (.getfield 48, 3, 0, 8, 2)), (4, (.ifCond .ne 7, 3, 0, 11, 0)), (7, (.iconst 1, 1, 1, 0, 0)), (8, (.goto 4, 3, 0, 12, 0)), (11, (.iconst 0, 1, 0, 0, 0)), (12, (.ireturn, 1, 0, 0, 0))]
/-- 16: java/util/ArrayList.set(ILjava/lang/Object;)Ljava/lang/Object; -/
def zK16 : List (Nat × zRI) := [(0, (.iload_n 1, 1, 0, 0, 0)), (1, (.aload_n 0, 1, 0, 0, 0)), (2, (.getfield 48, 3, 0, 8, 2)), (5, (.invokestatic 118, 3, 0, 19, 2)), (8, (.pop, 1, 0, 0, 0)), (9, (.aload_n 0, 1, 0, 0, 0)), (10, (.iload_n 1, 1, 0, 0, 0)), (11, (.invokevirtual 123, 3, 0, 5, 0)), (14, (.astore_n 3, 1, 0, 0, 0)), (15, (.aload_n 0, 1, 0, 0, 0)), (16, (.getfield 9, 3, 0, 8, 1)), (19, (.iload_n 1, 1, 0, 0, 0)), (20, (.aload_n 2, 1, 0, 0, 0)), (21, (.aastore, 1, 0, 0, 0)), (22, (.aload_n 3, 1, 0, 0, 0)), (23, (.areturn, 1, 0, 0, 0))]
/-- 17: java/util/Arrays.copyOf([Ljava/lang/Object;I)[Ljava/lang/Object; -/
def zK17 : List (Nat × zRI) := [(0, (.aload_n 0, 1, 0, 0, 0)), (1, (.iload_n 1, 1, 0, 0, 0)), (2, (.aload_n 0, 1, 0, 0, 0)), (3, (.invokevirtual 86, 3, 0, 2005, 0)), (6, (.invokestatic 300, 3, 0, 18, 2)), (9, (.areturn, 1, 0, 0, 0))]
/-- 18: java/util/Arrays.copyOf([Ljava/lang/Object;ILjava/lang/Class;)[Ljava/lang/Object; -/
def zK18 : List (Nat × zRI) := [(0, (.aload_n 2, 1, 0, 0, 0)), (1, (.ldc 110, 2, 0, 1, 0)), (3, (.if_acmp .ne 10, 3, 0, 13, 0)), (6, (.iload_n 1, 1, 0, 0, 0)), (7, (.anewarray 2, 3, 0, 0, 0)), (10, (.goto 14, 3, 0, 24, 0)), (13, (.aload_n 2, 1, 0, 0, 0)), (17, (.iload_n 1, 1, 0, 0, 0)), (24, (.astore_n 3, 1, 0, 0, 0)), (25, (.aload_n 0, 1, 0, 0, 0)), (26, (.iconst 0, 1, 0, 0, 0)), (27, (.aload_n 3, 1, 0, 0, 0)), (28, (.iconst 0, 1, 0, 0, 0)), (29, (.aload_n 0, 1, 0, 0, 0)), (30, (.arraylength, 1, 0, 0, 0)), (31, (.iload_n 1, 1, 0, 0, 0)), (32, (.invokestatic 304, 3, 0, 2002, 0)), (35, (.invokestatic 150, 3, 0, 2004, 0)), (38, (.aload_n 3, 1, 0, 0, 0)), (39, (.areturn, 1, 0, 0, 0))]
/-- 19: java/util/Objects.checkIndex(II)I -/
def zK19 : List (Nat × zRI) := [(0, (.iload_n 0, 1, 0, 0, 0)), (1, (.iload_n 1, 1, 0, 0, 0)), (2, (.aconst_null, 1, 0, 0, 0)), (3, (.invokestatic 105, 3, 0, 21, 2)), (6, (.ireturn, 1, 0, 0, 0))]
/-- 20: jdk/internal/util/ArraysSupport.newLength(III)I -/
def zK20 : List (Nat × zRI) := [(0, (.iload_n 0, 1, 0, 0, 0)), (1, (.iload_n 1, 1, 0, 0, 0)), (2, (.iload_n 2, 1, 0, 0, 0)), (3, (.invokestatic 194, 3, 0, 2001, 0)), (6, (.iadd, 1, 0, 0, 0)), (7, (.istore_n 3, 1, 0, 0, 0)), (8, (.iconst 0, 1, 0, 0, 0)), (9, (.iload_n 3, 1, 0, 0, 0)), (10, (.if_icmp .ge 11, 3, 0, 21, 0)), (13, (.iload_n 3, 1, 0, 0, 0)), (14, (.ldc 200, 2, 2147483639, 0, 0)), (16, (.if_icmp .gt 5, 3, 0, 21, 0)), (19, (.iload_n 3, 1, 0, 0, 0)), (20, (.ireturn, 1, 0, 0, 0)), (21, (.iload_n 0, 1, 0, 0, 0)), (22, (.iload_n 1, 1, 0, 0, 0)), (26, (.ireturn, 1, 0, 0, 0))]
/-- 21: jdk/internal/util/Preconditions.checkIndex(IILjava/util/function/BiFunction;)I -/
def zK21 : List (Nat × zRI) := [(0, (.iload_n 0, 1, 0, 0, 0)), (1, (.ifCond .lt 8, 3, 0, 9, 0)), (4, (.iload_n 0, 1, 0, 0, 0)), (5, (.iload_n 1, 1, 0, 0, 0)), (6, (.if_icmp .lt 10, 3, 0, 16, 0)), (9, (.aload_n 2, 1, 0, 0, 0)), (10, (.iload_n 0, 1, 0, 0, 0)), (11, (.iload_n 1, 1, 0, 0, 0)), (16, (.iload_n 0, 1, 0, 0, 0)), (17, (.ireturn, 1, 0, 0, 0))]
/-- 22: DoorstepRides.<init>()V -/
def zK22 : List (Nat × zRI) := [(0, (.aload_n 0, 1, 0, 0, 0)), (1, (.invokespecial 1, 3, 0, 2000, 0)), (4, (.aload_n 0, 1, 0, 0, 0)), (5, (.new 7, 3, 0, 8, 0)), (8, (.dup, 1, 0, 0, 0)), (9, (.invokespecial 9, 3, 0, 2, 1)), (12, (.putfield 10, 3, 0, 6, 0)), (15, (.aload_n 0, 1, 0, 0, 0)), (16, (.new 7, 3, 0, 8, 0)), (19, (.dup, 1, 0, 0, 0)), (20, (.invokespecial 9, 3, 0, 2, 1)), (23, (.putfield 16, 3, 0, 6, 1)), (26, (.aload_n 0, 1, 0, 0, 0)), (27, (.new 7, 3, 0, 8, 0)), (30, (.dup, 1, 0, 0, 0)), (31, (.invokespecial 9, 3, 0, 2, 1)), (34, (.putfield 19, 3, 0, 6, 2)), (37, (.aload_n 0, 1, 0, 0, 0)), (38, (.new 7, 3, 0, 8, 0)), (41, (.dup, 1, 0, 0, 0)), (42, (.invokespecial 9, 3, 0, 2, 1)), (45, (.putfield 22, 3, 0, 6, 3)), (48, (.aload_n 0, 1, 0, 0, 0)), (49, (.bipush 36, 2, 36, 0, 0)), (51, (.newarray .boolean, 2, 0, 101, 0)), (53, (.putfield 25, 3, 0, 6, 4)), (56, (.aload_n 0, 1, 0, 0, 0)), (57, (.new 29, 3, 0, 3, 0)), (60, (.dup, 1, 0, 0, 0)), (61, (.invokespecial 31, 3, 0, 88, 4)), (64, (.putfield 32, 3, 0, 6, 5)), (67, (.aload_n 0, 1, 0, 0, 0)), (68, (.iconst 0, 1, 0, 0, 0)), (69, (.putfield 36, 3, 0, 6, 6)), (72, (.aload_n 0, 1, 0, 0, 0)), (73, (.iconst 0, 1, 0, 0, 0)), (74, (.putfield 40, 3, 0, 6, 7)), (77, (.aload_n 0, 1, 0, 0, 0)), (78, (.iconst 0, 1, 0, 0, 0)), (79, (.putfield 44, 3, 0, 6, 8)), (82, (.return_, 1, 0, 0, 0))]
/-- 23: DoorstepRides.winter(Z)Z -/
def zK23 : List (Nat × zRI) := [(0, (.aload_n 0, 1, 0, 0, 0)), (1, (.getfield 36, 3, 0, 6, 6)), (4, (.istore_n 2, 1, 0, 0, 0)), (5, (.aload_n 0, 1, 0, 0, 0)), (6, (.iload_n 1, 1, 0, 0, 0)), (7, (.putfield 36, 3, 0, 6, 6)), (10, (.iload_n 2, 1, 0, 0, 0)), (11, (.ireturn, 1, 0, 0, 0))]
/-- 24: DoorstepRides.day()I -/
def zK24 : List (Nat × zRI) := [(0, (.aload_n 0, 1, 0, 0, 0)), (1, (.getfield 40, 3, 0, 6, 7)), (4, (.ireturn, 1, 0, 0, 0))]
/-- 25: DoorstepRides.now()I -/
def zK25 : List (Nat × zRI) := [(0, (.aload_n 0, 1, 0, 0, 0)), (1, (.getfield 44, 3, 0, 6, 8)), (4, (.ireturn, 1, 0, 0, 0))]
/-- 26: DoorstepRides.patterns()I -/
def zK26 : List (Nat × zRI) := [(0, (.aload_n 0, 1, 0, 0, 0)), (1, (.invokevirtual 226, 3, 0, 27, 0)), (4, (.ifCond .eq 7, 3, 0, 11, 0)), (7, (.iconst 1, 1, 1, 0, 0)), (8, (.goto 4, 3, 0, 12, 0)), (11, (.iconst 0, 1, 0, 0, 0)), (12, (.aload_n 0, 1, 0, 0, 0)), (13, (.invokevirtual 229, 3, 0, 29, 0)), (16, (.ifCond .eq 7, 3, 0, 23, 0)), (19, (.iconst 2, 1, 2, 0, 0)), (20, (.goto 4, 3, 0, 24, 0)), (23, (.iconst 0, 1, 0, 0, 0)), (24, (.iadd, 1, 0, 0, 0)), (25, (.ireturn, 1, 0, 0, 0))]
/-- 27: DoorstepRides.isPatternOfNo()Z -/
def zK27 : List (Nat × zRI) := [(0, (.iconst 0, 1, 0, 0, 0)), (1, (.istore_n 1, 1, 0, 0, 0)), (2, (.iconst 0, 1, 0, 0, 0)), (3, (.istore_n 2, 1, 0, 0, 0)), (4, (.iconst 0, 1, 0, 0, 0)), (5, (.istore_n 3, 1, 0, 0, 0)), (6, (.iload_n 3, 1, 0, 0, 0)), (7, (.aload_n 0, 1, 0, 0, 0)), (8, (.getfield 19, 3, 0, 6, 2)), (11, (.invokevirtual 51, 3, 0, 3, 0)), (14, (.if_icmp .ge 71, 3, 0, 85, 0)), (17, (.aload_n 0, 1, 0, 0, 0)), (18, (.getfield 19, 3, 0, 6, 2)), (21, (.iload_n 3, 1, 0, 0, 0)), (22, (.invokevirtual 152, 3, 0, 4, 0)), (25, (.checkcast 94, 3, 0, 1, 0)), (28, (.astore 4, 2, 0, 0, 0)), (30, (.aload_n 0, 1, 0, 0, 0)), (31, (.bipush 20, 2, 20, 0, 0)), (33, (.aload 4, 2, 0, 0, 0)), (35, (.invokevirtual 324, 3, 0, 28, 0)), (38, (.ifCond .eq 41, 3, 0, 79, 0)), (41, (.aload 4, 2, 0, 0, 0)), (43, (.getfield 331, 3, 0, 1, 6)), (46, (.iconst 1, 1, 1, 0, 0)), (47, (.if_icmp .eq 32, 3, 0, 79, 0)), (50, (.aload 4, 2, 0, 0, 0)), (52, (.getfield 331, 3, 0, 1, 6)), (55, (.iconst 2, 1, 2, 0, 0)), (56, (.if_icmp .eq 23, 3, 0, 79, 0)), (59, (.iinc 2 1, 3, 1, 0, 0)), (62, (.iload_n 1, 1, 0, 0, 0)), (63, (.aload 4, 2, 0, 0, 0)), (65, (.getfield 331, 3, 0, 1, 6)), (68, (.iconst 3, 1, 3, 0, 0)), (69, (.if_icmp .ne 7, 3, 0, 76, 0)), (72, (.iconst 1, 1, 1, 0, 0)), (73, (.goto 4, 3, 0, 77, 0)), (76, (.iconst 0, 1, 0, 0, 0)), (77, (.iadd, 1, 0, 0, 0)), (78, (.istore_n 1, 1, 0, 0, 0)), (79, (.iinc 3 1, 3, 1, 0, 0)), (82, (.goto (-76), 3, 0, 6, 0)), (85, (.iload_n 1, 1, 0, 0, 0)), (86, (.iconst 2, 1, 2, 0, 0)), (87, (.if_icmp .lt 15, 3, 0, 102, 0)), (90, (.bipush 20, 2, 20, 0, 0)), (92, (.iload_n 1, 1, 0, 0, 0)), (93, (.imul, 1, 0, 0, 0)), (94, (.iload_n 2, 1, 0, 0, 0)), (95, (.if_icmp .le 7, 3, 0, 102, 0)), (98, (.iconst 1, 1, 1, 0, 0)), (99, (.goto 4, 3, 0, 103, 0)), (102, (.iconst 0, 1, 0, 0, 0)), (103, (.ireturn, 1, 0, 0, 0))]
/-- 28: DoorstepRides.isOfLast(ILDoorstepRides$Request;)Z -/
def zK28 : List (Nat × zRI) := [(0, (.aload_n 2, 1, 0, 0, 0)), (1, (.getfield 328, 3, 0, 1, 3)), (4, (.aload_n 0, 1, 0, 0, 0)), (5, (.getfield 40, 3, 0, 6, 7)), (8, (.iload_n 1, 1, 0, 0, 0)), (9, (.isub, 1, 0, 0, 0)), (10, (.if_icmp .le 7, 3, 0, 17, 0)), (13, (.iconst 1, 1, 1, 0, 0)), (14, (.goto 4, 3, 0, 18, 0)), (17, (.iconst 0, 1, 0, 0, 0)), (18, (.ireturn, 1, 0, 0, 0))]
/-- 29: DoorstepRides.isPatternOfLateRides()Z -/
def zK29 : List (Nat × zRI) := [(0, (.iconst 0, 1, 0, 0, 0)), (1, (.istore_n 1, 1, 0, 0, 0)), (2, (.iconst 0, 1, 0, 0, 0)), (3, (.istore_n 2, 1, 0, 0, 0)), (4, (.iconst 0, 1, 0, 0, 0)), (5, (.istore_n 3, 1, 0, 0, 0)), (6, (.iload_n 3, 1, 0, 0, 0)), (7, (.aload_n 0, 1, 0, 0, 0)), (8, (.getfield 19, 3, 0, 6, 2)), (11, (.invokevirtual 51, 3, 0, 3, 0)), (14, (.if_icmp .ge 69, 3, 0, 83, 0)), (17, (.aload_n 0, 1, 0, 0, 0)), (18, (.getfield 19, 3, 0, 6, 2)), (21, (.iload_n 3, 1, 0, 0, 0)), (22, (.invokevirtual 152, 3, 0, 4, 0)), (25, (.checkcast 94, 3, 0, 1, 0)), (28, (.astore 4, 2, 0, 0, 0)), (30, (.aload_n 0, 1, 0, 0, 0)), (31, (.bipush 20, 2, 20, 0, 0)), (33, (.aload 4, 2, 0, 0, 0)), (35, (.invokevirtual 324, 3, 0, 28, 0)), (38, (.ifCond .eq 39, 3, 0, 77, 0)), (41, (.aload 4, 2, 0, 0, 0)), (43, (.getfield 118, 3, 0, 1, 5)), (46, (.iconst 2, 1, 2, 0, 0)), (47, (.if_icmp .ne 30, 3, 0, 77, 0)), (50, (.iinc 2 1, 3, 1, 0, 0)), (53, (.iload_n 1, 1, 0, 0, 0)), (54, (.aload 4, 2, 0, 0, 0)), (56, (.invokevirtual 334, 3, 0, 79, 0)), (59, (.ifCond .ne 11, 3, 0, 70, 0)), (62, (.aload 4, 2, 0, 0, 0)), (64, (.invokevirtual 337, 3, 0, 80, 0)), (67, (.ifCond .eq 7, 3, 0, 74, 0)), (70, (.iconst 1, 1, 1, 0, 0)), (71, (.goto 4, 3, 0, 75, 0)), (74, (.iconst 0, 1, 0, 0, 0)), (75, (.iadd, 1, 0, 0, 0)), (76, (.istore_n 1, 1, 0, 0, 0)), (77, (.iinc 3 1, 3, 1, 0, 0)), (80, (.goto (-74), 3, 0, 6, 0)), (83, (.bipush 10, 2, 10, 0, 0)), (85, (.iload_n 1, 1, 0, 0, 0)), (86, (.imul, 1, 0, 0, 0)), (87, (.iload_n 2, 1, 0, 0, 0)), (88, (.if_icmp .le 7, 3, 0, 95, 0)), (91, (.iconst 1, 1, 1, 0, 0)), (92, (.goto 4, 3, 0, 96, 0)), (95, (.iconst 0, 1, 0, 0, 0)), (96, (.ireturn, 1, 0, 0, 0))]
/-- 30: DoorstepRides.money()J -/
def zK30 : List (Nat × zRI) := [(0, (.lconst 0, 1, 0, 0, 0)), (1, (.lstore_n 1, 1, 0, 0, 0)), (2, (.iconst 0, 1, 0, 0, 0)), (3, (.istore_n 3, 1, 0, 0, 0)), (4, (.iload_n 3, 1, 0, 0, 0)), (5, (.aload_n 0, 1, 0, 0, 0)), (6, (.getfield 19, 3, 0, 6, 2)), (9, (.invokevirtual 51, 3, 0, 3, 0)), (12, (.if_icmp .ge 27, 3, 0, 39, 0)), (15, (.lload_n 1, 1, 0, 0, 0)), (16, (.aload_n 0, 1, 0, 0, 0)), (17, (.getfield 19, 3, 0, 6, 2)), (20, (.iload_n 3, 1, 0, 0, 0)), (21, (.invokevirtual 152, 3, 0, 4, 0)), (24, (.checkcast 94, 3, 0, 1, 0)), (27, (.invokevirtual 235, 3, 0, 81, 0)), (30, (.i2l, 1, 0, 0, 0)), (31, (.ladd, 1, 0, 0, 0)), (32, (.lstore_n 1, 1, 0, 0, 0)), (33, (.iinc 3 1, 3, 1, 0, 0)), (36, (.goto (-32), 3, 0, 4, 0)), (39, (.lload_n 1, 1, 0, 0, 0)), (40, (.lreturn, 1, 0, 0, 0))]
/-- 31: DoorstepRides.steps(II)I -/
def zK31 : List (Nat × zRI) := [(0, (.iload_n 0, 1, 0, 0, 0)), (1, (.bipush 6, 2, 6, 0, 0)), (3, (.idiv, 1, 0, 0, 0)), (4, (.iload_n 1, 1, 0, 0, 0)), (5, (.bipush 6, 2, 6, 0, 0)), (7, (.idiv, 1, 0, 0, 0)), (8, (.isub, 1, 0, 0, 0)), (9, (.invokestatic 261, 3, 0, 2003, 0)), (12, (.iload_n 0, 1, 0, 0, 0)), (13, (.bipush 6, 2, 6, 0, 0)), (15, (.irem, 1, 0, 0, 0)), (16, (.iload_n 1, 1, 0, 0, 0)), (17, (.bipush 6, 2, 6, 0, 0)), (19, (.irem, 1, 0, 0, 0)), (20, (.isub, 1, 0, 0, 0)), (21, (.invokestatic 261, 3, 0, 2003, 0)), (24, (.iadd, 1, 0, 0, 0)), (25, (.ireturn, 1, 0, 0, 0))]
/-- 32: DoorstepRides.rider(IIIZ)I -/
def zK32 : List (Nat × zRI) := [(0, (.iload_n 1, 1, 0, 0, 0)), (1, (.iconst 0, 1, 0, 0, 0)), (2, (.iconst 2, 1, 2, 0, 0)), (3, (.invokestatic 47, 3, 0, 33, 2)), (6, (.iload_n 2, 1, 0, 0, 0)), (7, (.bipush 30, 2, 30, 0, 0)), (9, (.sipush 300, 3, 300, 0, 0)), (12, (.invokestatic 47, 3, 0, 33, 2)), (15, (.iload_n 3, 1, 0, 0, 0)), (16, (.iconst 0, 1, 0, 0, 0)), (17, (.bipush 10, 2, 10, 0, 0)), (19, (.invokestatic 47, 3, 0, 33, 2)), (22, (.aload_n 0, 1, 0, 0, 0)), (23, (.getfield 10, 3, 0, 6, 0)), (26, (.invokevirtual 51, 3, 0, 3, 0)), (29, (.bipush 16, 2, 16, 0, 0)), (31, (.if_icmp .ge 7, 3, 0, 38, 0)), (34, (.iconst 1, 1, 1, 0, 0)), (35, (.goto 4, 3, 0, 39, 0)), (38, (.iconst 0, 1, 0, 0, 0)), (39, (.invokestatic 55, 3, 0, 35, 2)), (42, (.aload_n 0, 1, 0, 0, 0)), (43, (.getfield 10, 3, 0, 6, 0)), (46, (.new 59, 3, 0, 2, 0)), (49, (.dup, 1, 0, 0, 0)), (50, (.iload_n 1, 1, 0, 0, 0)), (51, (.iload_n 2, 1, 0, 0, 0)), (52, (.iload_n 3, 1, 0, 0, 0)), (53, (.iload 4, 2, 0, 0, 0)), (55, (.invokespecial 61, 3, 0, 87, 1)), (58, (.invokevirtual 64, 3, 0, 6, 0)), (61, (.pop, 1, 0, 0, 0)), (62, (.aload_n 0, 1, 0, 0, 0)), (63, (.getfield 10, 3, 0, 6, 0)), (66, (.invokevirtual 51, 3, 0, 3, 0)), (69, (.iconst 1, 1, 1, 0, 0)), (70, (.isub, 1, 0, 0, 0)), (71, (.ireturn, 1, 0, 0, 0))]
/-- 33: DoorstepRides.demand(III)V -/
def zK33 : List (Nat × zRI) := [(0, (.iload_n 0, 1, 0, 0, 0)), (1, (.iload_n 1, 1, 0, 0, 0)), (2, (.if_icmp .lt 12, 3, 0, 14, 0)), (5, (.iload_n 0, 1, 0, 0, 0)), (6, (.iload_n 2, 1, 0, 0, 0)), (7, (.if_icmp .gt 7, 3, 0, 14, 0)), (10, (.iconst 1, 1, 1, 0, 0)), (11, (.goto 4, 3, 0, 15, 0)), (14, (.iconst 0, 1, 0, 0, 0)), (15, (.invokestatic 91, 3, 0, 34, 2)), (18, (.return_, 1, 0, 0, 0))]
/-- 34: DoorstepRides.demandArgument(Z)V -/
def zK34 : List (Nat × zRI) := [(0, (.iload_n 0, 1, 0, 0, 0)), (1, (.ifCond .ne 13, 3, 0, 14, 0)), (4, (.new 238, 3, 0, 9, 1)), (14, (.return_, 1, 0, 0, 0))]
/-- 35: DoorstepRides.demandState(Z)V -/
def zK35 : List (Nat × zRI) := [(0, (.iload_n 0, 1, 0, 0, 0)), (1, (.ifCond .ne 13, 3, 0, 14, 0)), (4, (.new 245, 3, 0, 10, 1)), (14, (.return_, 1, 0, 0, 0))]
/-- 36: DoorstepRides.busStop(IZ)I -/
def zK36 : List (Nat × zRI) := [(0, (.iload_n 1, 1, 0, 0, 0)), (1, (.invokestatic 68, 3, 0, 37, 2)), (4, (.iload_n 1, 1, 0, 0, 0)), (5, (.ifCond .lt 19, 3, 0, 24, 0)), (8, (.iload_n 1, 1, 0, 0, 0)), (9, (.aload_n 0, 1, 0, 0, 0)), (10, (.getfield 25, 3, 0, 6, 4)), (13, (.arraylength, 1, 0, 0, 0)), (14, (.if_icmp .ge 10, 3, 0, 24, 0)), (17, (.aload_n 0, 1, 0, 0, 0)), (18, (.getfield 25, 3, 0, 6, 4)), (21, (.iload_n 1, 1, 0, 0, 0)), (22, (.iload_n 2, 1, 0, 0, 0)), (23, (.bastore, 1, 0, 0, 0)), (24, (.aload_n 0, 1, 0, 0, 0)), (25, (.invokevirtual 72, 3, 0, 38, 0)), (28, (.ireturn, 1, 0, 0, 0))]
/-- 37: DoorstepRides.demandPlace(I)V -/
def zK37 : List (Nat × zRI) := [(0, (.iload_n 0, 1, 0, 0, 0)), (1, (.iconst 0, 1, 0, 0, 0)), (2, (.bipush 35, 2, 35, 0, 0)), (4, (.invokestatic 47, 3, 0, 33, 2)), (7, (.return_, 1, 0, 0, 0))]
/-- 38: DoorstepRides.busStopsInAll()I -/
def zK38 : List (Nat × zRI) := [(0, (.iconst 0, 1, 0, 0, 0)), (1, (.istore_n 1, 1, 0, 0, 0)), (2, (.iconst 0, 1, 0, 0, 0)), (3, (.istore_n 2, 1, 0, 0, 0)), (4, (.iload_n 2, 1, 0, 0, 0)), (5, (.aload_n 0, 1, 0, 0, 0)), (6, (.getfield 25, 3, 0, 6, 4)), (9, (.arraylength, 1, 0, 0, 0)), (10, (.if_icmp .ge 21, 3, 0, 31, 0)), (13, (.aload_n 0, 1, 0, 0, 0)), (14, (.getfield 25, 3, 0, 6, 4)), (17, (.iload_n 2, 1, 0, 0, 0)), (18, (.baload, 1, 0, 0, 0)), (19, (.ifCond .eq 6, 3, 0, 25, 0)), (22, (.iinc 1 1, 3, 1, 0, 0)), (25, (.iinc 2 1, 3, 1, 0, 0)), (28, (.goto (-24), 3, 0, 4, 0)), (31, (.iload_n 1, 1, 0, 0, 0)), (32, (.ireturn, 1, 0, 0, 0))]
/-- 39: DoorstepRides.vehicle(IIII)I -/
def zK39 : List (Nat × zRI) := [(0, (.iload_n 1, 1, 0, 0, 0)), (1, (.invokestatic 68, 3, 0, 37, 2)), (4, (.iload_n 2, 1, 0, 0, 0)), (5, (.iconst 1, 1, 1, 0, 0)), (6, (.bipush 8, 2, 8, 0, 0)), (8, (.invokestatic 47, 3, 0, 33, 2)), (11, (.iload_n 3, 1, 0, 0, 0)), (12, (.iconst 0, 1, 0, 0, 0)), (13, (.iconst 3, 1, 3, 0, 0)), (14, (.invokestatic 47, 3, 0, 33, 2)), (17, (.iload 4, 2, 0, 0, 0)), (19, (.bipush 50, 2, 50, 0, 0)), (21, (.sipush 400, 3, 400, 0, 0)), (24, (.invokestatic 47, 3, 0, 33, 2)), (27, (.aload_n 0, 1, 0, 0, 0)), (28, (.getfield 16, 3, 0, 6, 1)), (31, (.invokevirtual 51, 3, 0, 3, 0)), (34, (.iconst 4, 1, 4, 0, 0)), (35, (.if_icmp .ge 7, 3, 0, 42, 0)), (38, (.iconst 1, 1, 1, 0, 0)), (39, (.goto 4, 3, 0, 43, 0)), (42, (.iconst 0, 1, 0, 0, 0)), (43, (.invokestatic 55, 3, 0, 35, 2)), (46, (.aload_n 0, 1, 0, 0, 0)), (47, (.getfield 16, 3, 0, 6, 1)), (50, (.new 75, 3, 0, 5, 0)), (53, (.dup, 1, 0, 0, 0)), (54, (.aload_n 0, 1, 0, 0, 0)), (55, (.getfield 16, 3, 0, 6, 1)), (58, (.invokevirtual 51, 3, 0, 3, 0)), (61, (.iload_n 1, 1, 0, 0, 0)), (62, (.iload_n 2, 1, 0, 0, 0)), (63, (.iload_n 3, 1, 0, 0, 0)), (64, (.iload 4, 2, 0, 0, 0)), (66, (.invokespecial 77, 3, 0, 96, 1)), (69, (.invokevirtual 64, 3, 0, 6, 0)), (72, (.pop, 1, 0, 0, 0)), (73, (.aload_n 0, 1, 0, 0, 0)), (74, (.getfield 16, 3, 0, 6, 1)), (77, (.invokevirtual 51, 3, 0, 3, 0)), (80, (.iconst 1, 1, 1, 0, 0)), (81, (.isub, 1, 0, 0, 0)), (82, (.ireturn, 1, 0, 0, 0))]
/-- 40: DoorstepRides.lift(IZ)Z -/
def zK40 : List (Nat × zRI) := [(0, (.aload_n 0, 1, 0, 0, 0)), (1, (.iload_n 1, 1, 0, 0, 0)), (2, (.invokevirtual 80, 3, 0, 41, 0)), (5, (.astore_n 3, 1, 0, 0, 0)), (6, (.aload_n 3, 1, 0, 0, 0)), (7, (.getfield 84, 3, 0, 5, 9)), (10, (.istore 4, 2, 0, 0, 0)), (12, (.aload_n 3, 1, 0, 0, 0)), (13, (.iload_n 2, 1, 0, 0, 0)), (14, (.putfield 84, 3, 0, 5, 9)), (17, (.iload 4, 2, 0, 0, 0)), (19, (.ireturn, 1, 0, 0, 0))]
/-- 41: DoorstepRides.vehicleNumbered(I)LDoorstepRides$Vehicle; -/
def zK41 : List (Nat × zRI) := [(0, (.iload_n 1, 1, 0, 0, 0)), (1, (.ifCond .lt 14, 3, 0, 15, 0)), (4, (.iload_n 1, 1, 0, 0, 0)), (5, (.aload_n 0, 1, 0, 0, 0)), (6, (.getfield 16, 3, 0, 6, 1)), (9, (.invokevirtual 51, 3, 0, 3, 0)), (12, (.if_icmp .lt 13, 3, 0, 25, 0)), (15, (.new 250, 3, 0, 11, 1)), (25, (.aload_n 0, 1, 0, 0, 0)), (26, (.getfield 16, 3, 0, 6, 1)), (29, (.iload_n 1, 1, 0, 0, 0)), (30, (.invokevirtual 152, 3, 0, 4, 0)), (33, (.checkcast 75, 3, 0, 5, 0)), (36, (.areturn, 1, 0, 0, 0))]
/-- 42: DoorstepRides.ask(IIII)I -/
def zK42 : List (Nat × zRI) := [(0, (.aload_n 0, 1, 0, 0, 0)), (1, (.iload_n 1, 1, 0, 0, 0)), (2, (.invokevirtual 87, 3, 0, 43, 0)), (5, (.astore 5, 2, 0, 0, 0)), (7, (.iload_n 2, 1, 0, 0, 0)), (8, (.invokestatic 68, 3, 0, 37, 2)), (11, (.iload_n 3, 1, 0, 0, 0)), (12, (.invokestatic 68, 3, 0, 37, 2)), (15, (.iload 4, 2, 0, 0, 0)), (17, (.iconst 0, 1, 0, 0, 0)), (18, (.sipush 600, 3, 600, 0, 0)), (21, (.invokestatic 47, 3, 0, 33, 2)), (24, (.iload_n 2, 1, 0, 0, 0)), (25, (.iload_n 3, 1, 0, 0, 0)), (26, (.if_icmp .eq 7, 3, 0, 33, 0)), (29, (.iconst 1, 1, 1, 0, 0)), (30, (.goto 4, 3, 0, 34, 0)), (33, (.iconst 0, 1, 0, 0, 0)), (34, (.invokestatic 91, 3, 0, 34, 2)), (37, (.aload_n 0, 1, 0, 0, 0)), (38, (.getfield 19, 3, 0, 6, 2)), (41, (.invokevirtual 51, 3, 0, 3, 0)), (44, (.bipush 60, 2, 60, 0, 0)), (46, (.if_icmp .ge 7, 3, 0, 53, 0)), (49, (.iconst 1, 1, 1, 0, 0)), (50, (.goto 4, 3, 0, 54, 0)), (53, (.iconst 0, 1, 0, 0, 0)), (54, (.invokestatic 55, 3, 0, 35, 2)), (57, (.new 94, 3, 0, 1, 0)), (60, (.dup, 1, 0, 0, 0)), (61, (.aload 5, 2, 0, 0, 0)), (63, (.iload_n 2, 1, 0, 0, 0)), (64, (.iload_n 3, 1, 0, 0, 0)), (65, (.aload_n 0, 1, 0, 0, 0)), (66, (.getfield 40, 3, 0, 6, 7)), (69, (.invokespecial 96, 3, 0, 82, 1)), (72, (.astore 6, 2, 0, 0, 0)), (74, (.aload_n 0, 1, 0, 0, 0)), (75, (.aload 5, 2, 0, 0, 0)), (77, (.iload_n 2, 1, 0, 0, 0)), (78, (.iload_n 3, 1, 0, 0, 0)), (79, (.invokevirtual 99, 3, 0, 44, 0)), (82, (.ifCond .ne 12, 3, 0, 94, 0)), (85, (.aload 6, 2, 0, 0, 0)), (87, (.iconst 1, 1, 1, 0, 0)), (88, (.invokevirtual 103, 3, 0, 83, 0)), (91, (.goto 38, 3, 0, 129, 0)), (94, (.aload_n 0, 1, 0, 0, 0)), (95, (.aload 5, 2, 0, 0, 0)), (97, (.invokevirtual 106, 3, 0, 46, 0)), (100, (.ifCond .eq 12, 3, 0, 112, 0)), (103, (.aload 6, 2, 0, 0, 0)), (105, (.iconst 2, 1, 2, 0, 0)), (106, (.invokevirtual 103, 3, 0, 83, 0)), (109, (.goto 20, 3, 0, 129, 0)), (112, (.aload_n 0, 1, 0, 0, 0)), (113, (.aload 6, 2, 0, 0, 0)), (115, (.iload 4, 2, 0, 0, 0)), (117, (.invokevirtual 110, 3, 0, 48, 0)), (120, (.ifCond .ne 9, 3, 0, 129, 0)), (123, (.aload 6, 2, 0, 0, 0)), (125, (.iconst 3, 1, 3, 0, 0)), (126, (.invokevirtual 103, 3, 0, 83, 0)), (129, (.aload_n 0, 1, 0, 0, 0)), (130, (.getfield 19, 3, 0, 6, 2)), (133, (.aload 6, 2, 0, 0, 0)), (135, (.invokevirtual 64, 3, 0, 6, 0)), (138, (.pop, 1, 0, 0, 0)), (139, (.aload_n 0, 1, 0, 0, 0)), (140, (.getfield 19, 3, 0, 6, 2)), (143, (.invokevirtual 51, 3, 0, 3, 0)), (146, (.iconst 1, 1, 1, 0, 0)), (147, (.isub, 1, 0, 0, 0)), (148, (.ireturn, 1, 0, 0, 0))]
/-- 43: DoorstepRides.riderNumbered(I)LDoorstepRides$Rider; -/
def zK43 : List (Nat × zRI) := [(0, (.iload_n 1, 1, 0, 0, 0)), (1, (.ifCond .lt 14, 3, 0, 15, 0)), (4, (.iload_n 1, 1, 0, 0, 0)), (5, (.aload_n 0, 1, 0, 0, 0)), (6, (.getfield 10, 3, 0, 6, 0)), (9, (.invokevirtual 51, 3, 0, 3, 0)), (12, (.if_icmp .lt 13, 3, 0, 25, 0)), (15, (.new 250, 3, 0, 11, 1)), (25, (.aload_n 0, 1, 0, 0, 0)), (26, (.getfield 10, 3, 0, 6, 0)), (29, (.iload_n 1, 1, 0, 0, 0)), (30, (.invokevirtual 152, 3, 0, 4, 0)), (33, (.checkcast 59, 3, 0, 2, 0)), (36, (.areturn, 1, 0, 0, 0))]
/-- 44: DoorstepRides.isOwed(LDoorstepRides$Rider;II)Z -/
def zK44 : List (Nat × zRI) := [(0, (.aload_n 0, 1, 0, 0, 0)), (1, (.invokevirtual 72, 3, 0, 38, 0)), (4, (.ifCond .ne 5, 3, 0, 9, 0)), (7, (.iconst 1, 1, 1, 0, 0)), (8, (.ireturn, 1, 0, 0, 0)), (9, (.aload_n 0, 1, 0, 0, 0)), (10, (.getfield 36, 3, 0, 6, 6)), (13, (.ifCond .eq 14, 3, 0, 27, 0)), (16, (.aload_n 1, 1, 0, 0, 0)), (17, (.getfield 272, 3, 0, 2, 0)), (20, (.ifCond .eq 7, 3, 0, 27, 0)), (23, (.iconst 1, 1, 1, 0, 0)), (24, (.goto 4, 3, 0, 28, 0)), (27, (.iconst 0, 1, 0, 0, 0)), (28, (.istore 4, 2, 0, 0, 0)), (30, (.iload 4, 2, 0, 0, 0)), (32, (.ifCond .eq 12, 3, 0, 44, 0)), (35, (.aload_n 1, 1, 0, 0, 0)), (36, (.getfield 275, 3, 0, 2, 2)), (39, (.iconst 2, 1, 2, 0, 0)), (40, (.idiv, 1, 0, 0, 0)), (41, (.goto 7, 3, 0, 48, 0)), (44, (.aload_n 1, 1, 0, 0, 0)), (45, (.getfield 275, 3, 0, 2, 2)), (48, (.istore 5, 2, 0, 0, 0)), (50, (.aload_n 0, 1, 0, 0, 0)), (51, (.iload_n 2, 1, 0, 0, 0)), (52, (.invokevirtual 278, 3, 0, 45, 0)), (55, (.aload_n 0, 1, 0, 0, 0)), (56, (.iload_n 3, 1, 0, 0, 0)), (57, (.invokevirtual 278, 3, 0, 45, 0)), (60, (.iadd, 1, 0, 0, 0)), (61, (.iload 5, 2, 0, 0, 0)), (63, (.if_icmp .le 7, 3, 0, 70, 0)), (66, (.iconst 1, 1, 1, 0, 0)), (67, (.goto 4, 3, 0, 71, 0)), (70, (.iconst 0, 1, 0, 0, 0)), (71, (.ireturn, 1, 0, 0, 0))]
/-- 45: DoorstepRides.stepsToBus(I)I -/
def zK45 : List (Nat × zRI) := [(0, (.bipush 36, 2, 36, 0, 0)), (2, (.istore_n 2, 1, 0, 0, 0)), (3, (.iconst 0, 1, 0, 0, 0)), (4, (.istore_n 3, 1, 0, 0, 0)), (5, (.iload_n 3, 1, 0, 0, 0)), (6, (.aload_n 0, 1, 0, 0, 0)), (7, (.getfield 25, 3, 0, 6, 4)), (10, (.arraylength, 1, 0, 0, 0)), (11, (.if_icmp .ge 28, 3, 0, 39, 0)), (14, (.aload_n 0, 1, 0, 0, 0)), (15, (.getfield 25, 3, 0, 6, 4)), (18, (.iload_n 3, 1, 0, 0, 0)), (19, (.baload, 1, 0, 0, 0)), (20, (.ifCond .eq 13, 3, 0, 33, 0)), (23, (.iload_n 2, 1, 0, 0, 0)), (24, (.iload_n 1, 1, 0, 0, 0)), (25, (.iload_n 3, 1, 0, 0, 0)), (26, (.invokestatic 266, 3, 0, 31, 2)), (29, (.invokestatic 269, 3, 0, 2002, 0)), (32, (.istore_n 2, 1, 0, 0, 0)), (33, (.iinc 3 1, 3, 1, 0, 0)), (36, (.goto (-31), 3, 0, 5, 0)), (39, (.iload_n 2, 1, 0, 0, 0)), (40, (.ireturn, 1, 0, 0, 0))]
/-- 46: DoorstepRides.isSuspended(LDoorstepRides$Rider;)Z -/
def zK46 : List (Nat × zRI) := [(0, (.aload_n 0, 1, 0, 0, 0)), (1, (.aload_n 1, 1, 0, 0, 0)), (2, (.iconst 1, 1, 1, 0, 0)), (3, (.invokevirtual 174, 3, 0, 47, 0)), (6, (.istore_n 2, 1, 0, 0, 0)), (7, (.iload_n 2, 1, 0, 0, 0)), (8, (.iconst 3, 1, 3, 0, 0)), (9, (.if_icmp .lt 19, 3, 0, 28, 0)), (12, (.iconst 5, 1, 5, 0, 0)), (13, (.iload_n 2, 1, 0, 0, 0)), (14, (.imul, 1, 0, 0, 0)), (15, (.aload_n 0, 1, 0, 0, 0)), (16, (.aload_n 1, 1, 0, 0, 0)), (17, (.iconst 0, 1, 0, 0, 0)), (18, (.invokevirtual 174, 3, 0, 47, 0)), (21, (.if_icmp .lt 7, 3, 0, 28, 0)), (24, (.iconst 1, 1, 1, 0, 0)), (25, (.goto 4, 3, 0, 29, 0)), (28, (.iconst 0, 1, 0, 0, 0)), (29, (.ireturn, 1, 0, 0, 0))]
/-- 47: DoorstepRides.lately(LDoorstepRides$Rider;Z)I -/
def zK47 : List (Nat × zRI) := [(0, (.iconst 0, 1, 0, 0, 0)), (1, (.istore_n 3, 1, 0, 0, 0)), (2, (.iconst 0, 1, 0, 0, 0)), (3, (.istore 4, 2, 0, 0, 0)), (5, (.iload 4, 2, 0, 0, 0)), (7, (.aload_n 0, 1, 0, 0, 0)), (8, (.getfield 19, 3, 0, 6, 2)), (11, (.invokevirtual 51, 3, 0, 3, 0)), (14, (.if_icmp .ge 80, 3, 0, 94, 0)), (17, (.aload_n 0, 1, 0, 0, 0)), (18, (.getfield 19, 3, 0, 6, 2)), (21, (.iload 4, 2, 0, 0, 0)), (23, (.invokevirtual 152, 3, 0, 4, 0)), (26, (.checkcast 94, 3, 0, 1, 0)), (29, (.astore 5, 2, 0, 0, 0)), (31, (.aload 5, 2, 0, 0, 0)), (33, (.getfield 320, 3, 0, 1, 0)), (36, (.aload_n 1, 1, 0, 0, 0)), (37, (.if_acmp .ne 28, 3, 0, 65, 0)), (40, (.aload 5, 2, 0, 0, 0)), (42, (.getfield 118, 3, 0, 1, 5)), (45, (.bipush 6, 2, 6, 0, 0)), (47, (.if_icmp .eq 18, 3, 0, 65, 0)), (50, (.aload_n 0, 1, 0, 0, 0)), (51, (.bipush 30, 2, 30, 0, 0)), (53, (.aload 5, 2, 0, 0, 0)), (55, (.invokevirtual 324, 3, 0, 28, 0)), (58, (.ifCond .eq 7, 3, 0, 65, 0)), (61, (.iconst 1, 1, 1, 0, 0)), (62, (.goto 4, 3, 0, 66, 0)), (65, (.iconst 0, 1, 0, 0, 0)), (66, (.istore 6, 2, 0, 0, 0)), (68, (.iload 6, 2, 0, 0, 0)), (70, (.ifCond .eq 18, 3, 0, 88, 0)), (73, (.iload_n 2, 1, 0, 0, 0)), (74, (.ifCond .eq 11, 3, 0, 85, 0)), (77, (.aload 5, 2, 0, 0, 0)), (79, (.invokevirtual 139, 3, 0, 84, 0)), (82, (.ifCond .eq 6, 3, 0, 88, 0)), (85, (.iinc 3 1, 3, 1, 0, 0)), (88, (.iinc 4 1, 3, 1, 0, 0)), (91, (.goto (-86), 3, 0, 5, 0)), (94, (.iload_n 3, 1, 0, 0, 0)), (95, (.ireturn, 1, 0, 0, 0))]
/-- 48: DoorstepRides.promise(LDoorstepRides$Request;I)Z -/
def zK48 : List (Nat × zRI) := [(0, (.new 189, 3, 0, 4, 0)), (3, (.dup, 1, 0, 0, 0)), (4, (.aload_n 1, 1, 0, 0, 0)), (5, (.iconst 0, 1, 0, 0, 0)), (6, (.invokespecial 284, 3, 0, 92, 1)), (9, (.astore_n 3, 1, 0, 0, 0)), (10, (.new 189, 3, 0, 4, 0)), (13, (.dup, 1, 0, 0, 0)), (14, (.aload_n 1, 1, 0, 0, 0)), (15, (.iconst 1, 1, 1, 0, 0)), (16, (.invokespecial 284, 3, 0, 92, 1)), (19, (.astore 4, 2, 0, 0, 0)), (21, (.iconst 0, 1, 0, 0, 0)), (22, (.istore 5, 2, 0, 0, 0)), (24, (.iload 5, 2, 0, 0, 0)), (26, (.bipush 12, 2, 12, 0, 0)), (28, (.if_icmp .gt 99, 3, 0, 127, 0)), (31, (.bipush 10, 2, 10, 0, 0)), (33, (.iload 5, 2, 0, 0, 0)), (35, (.iconst 1, 1, 1, 0, 0)), (36, (.iadd, 1, 0, 0, 0)), (37, (.iconst 2, 1, 2, 0, 0)), (38, (.idiv, 1, 0, 0, 0)), (39, (.imul, 1, 0, 0, 0)), (40, (.istore 6, 2, 0, 0, 0)), (42, (.aload_n 1, 1, 0, 0, 0)), (43, (.iload 5, 2, 0, 0, 0)), (45, (.iconst 2, 1, 2, 0, 0)), (46, (.irem, 1, 0, 0, 0)), (47, (.iconst 1, 1, 1, 0, 0)), (48, (.if_icmp .ne 10, 3, 0, 58, 0)), (51, (.iload_n 2, 1, 0, 0, 0)), (52, (.iload 6, 2, 0, 0, 0)), (54, (.iadd, 1, 0, 0, 0)), (55, (.goto 7, 3, 0, 62, 0)), (58, (.iload_n 2, 1, 0, 0, 0)), (59, (.iload 6, 2, 0, 0, 0)), (61, (.isub, 1, 0, 0, 0)), (62, (.putfield 133, 3, 0, 1, 7)), (65, (.aload_n 1, 1, 0, 0, 0)), (66, (.getfield 133, 3, 0, 1, 7)), (69, (.aload_n 0, 1, 0, 0, 0)), (70, (.getfield 44, 3, 0, 6, 8)), (73, (.if_icmp .le 17, 3, 0, 90, 0)), (76, (.aload_n 1, 1, 0, 0, 0)), (77, (.getfield 133, 3, 0, 1, 7)), (80, (.sipush 600, 3, 600, 0, 0)), (83, (.if_icmp .gt 7, 3, 0, 90, 0)), (86, (.iconst 1, 1, 1, 0, 0)), (87, (.goto 4, 3, 0, 91, 0)), (90, (.iconst 0, 1, 0, 0, 0)), (91, (.istore 7, 2, 0, 0, 0)), (93, (.iload 7, 2, 0, 0, 0)), (95, (.ifCond .eq 26, 3, 0, 121, 0)), (98, (.aload_n 0, 1, 0, 0, 0)), (99, (.getfield 32, 3, 0, 6, 5)), (102, (.aload_n 0, 1, 0, 0, 0)), (103, (.getfield 16, 3, 0, 6, 1)), (106, (.aload_n 3, 1, 0, 0, 0)), (107, (.aload 4, 2, 0, 0, 0)), (109, (.aload_n 0, 1, 0, 0, 0)), (110, (.getfield 44, 3, 0, 6, 8)), (113, (.invokevirtual 287, 3, 0, 89, 0)), (116, (.ifCond .eq 5, 3, 0, 121, 0)), (119, (.iconst 1, 1, 1, 0, 0)), (120, (.ireturn, 1, 0, 0, 0)), (121, (.iinc 5 1, 3, 1, 0, 0)), (124, (.goto (-100), 3, 0, 24, 0)), (127, (.iconst 0, 1, 0, 0, 0)), (128, (.ireturn, 1, 0, 0, 0))]
/-- 49: DoorstepRides.cancel(I)Z -/
def zK49 : List (Nat × zRI) := [(0, (.aload_n 0, 1, 0, 0, 0)), (1, (.iload_n 1, 1, 0, 0, 0)), (2, (.invokevirtual 114, 3, 0, 50, 0)), (5, (.astore_n 2, 1, 0, 0, 0)), (6, (.aload_n 2, 1, 0, 0, 0)), (7, (.getfield 118, 3, 0, 1, 5)), (10, (.ifCond .ne 7, 3, 0, 17, 0)), (13, (.iconst 1, 1, 1, 0, 0)), (14, (.goto 4, 3, 0, 18, 0)), (17, (.iconst 0, 1, 0, 0, 0)), (18, (.invokestatic 55, 3, 0, 35, 2)), (21, (.aload_n 0, 1, 0, 0, 0)), (22, (.aload_n 2, 1, 0, 0, 0)), (23, (.invokevirtual 121, 3, 0, 51, 0)), (26, (.astore_n 3, 1, 0, 0, 0)), (27, (.aload_n 3, 1, 0, 0, 0)), (28, (.ifnull 11, 3, 0, 39, 0)), (31, (.aload_n 3, 1, 0, 0, 0)), (32, (.aload_n 2, 1, 0, 0, 0)), (33, (.invokevirtual 125, 3, 0, 103, 0)), (36, (.ifCond .ne 7, 3, 0, 43, 0)), (39, (.iconst 1, 1, 1, 0, 0)), (40, (.goto 4, 3, 0, 44, 0)), (43, (.iconst 0, 1, 0, 0, 0)), (44, (.invokestatic 55, 3, 0, 35, 2)), (47, (.aload_n 3, 1, 0, 0, 0)), (48, (.ifnull 8, 3, 0, 56, 0)), (51, (.aload_n 3, 1, 0, 0, 0)), (52, (.aload_n 2, 1, 0, 0, 0)), (53, (.invokevirtual 129, 3, 0, 104, 0)), (56, (.aload_n 2, 1, 0, 0, 0)), (57, (.iconst 4, 1, 4, 0, 0)), (58, (.putfield 118, 3, 0, 1, 5)), (61, (.aload_n 2, 1, 0, 0, 0)), (62, (.aload_n 2, 1, 0, 0, 0)), (63, (.getfield 133, 3, 0, 1, 7)), (66, (.aload_n 0, 1, 0, 0, 0)), (67, (.getfield 44, 3, 0, 6, 8)), (70, (.isub, 1, 0, 0, 0)), (71, (.bipush 60, 2, 60, 0, 0)), (73, (.if_icmp .ge 7, 3, 0, 80, 0)), (76, (.iconst 1, 1, 1, 0, 0)), (77, (.goto 4, 3, 0, 81, 0)), (80, (.iconst 0, 1, 0, 0, 0)), (81, (.putfield 136, 3, 0, 1, 14)), (84, (.aload_n 2, 1, 0, 0, 0)), (85, (.invokevirtual 139, 3, 0, 84, 0)), (88, (.ireturn, 1, 0, 0, 0))]
/-- 50: DoorstepRides.requestNumbered(I)LDoorstepRides$Request; -/
def zK50 : List (Nat × zRI) := [(0, (.iload_n 1, 1, 0, 0, 0)), (1, (.ifCond .lt 14, 3, 0, 15, 0)), (4, (.iload_n 1, 1, 0, 0, 0)), (5, (.aload_n 0, 1, 0, 0, 0)), (6, (.getfield 19, 3, 0, 6, 2)), (9, (.invokevirtual 51, 3, 0, 3, 0)), (12, (.if_icmp .lt 14, 3, 0, 26, 0)), (15, (.new 250, 3, 0, 11, 2)), (26, (.aload_n 0, 1, 0, 0, 0)), (27, (.getfield 19, 3, 0, 6, 2)), (30, (.iload_n 1, 1, 0, 0, 0)), (31, (.invokevirtual 152, 3, 0, 4, 0)), (34, (.checkcast 94, 3, 0, 1, 0)), (37, (.areturn, 1, 0, 0, 0))]
/-- 51: DoorstepRides.carrierOf(LDoorstepRides$Request;)LDoorstepRides$Vehicle; -/
def zK51 : List (Nat × zRI) := [(0, (.aload_n 1, 1, 0, 0, 0)), (1, (.getfield 281, 3, 0, 1, 8)), (4, (.istore_n 2, 1, 0, 0, 0)), (5, (.iload_n 2, 1, 0, 0, 0)), (6, (.ifCond .lt 28, 3, 0, 34, 0)), (9, (.iload_n 2, 1, 0, 0, 0)), (10, (.aload_n 0, 1, 0, 0, 0)), (11, (.getfield 16, 3, 0, 6, 1)), (14, (.invokevirtual 51, 3, 0, 3, 0)), (17, (.if_icmp .ge 17, 3, 0, 34, 0)), (20, (.aload_n 0, 1, 0, 0, 0)), (21, (.getfield 16, 3, 0, 6, 1)), (24, (.iload_n 2, 1, 0, 0, 0)), (25, (.invokevirtual 152, 3, 0, 4, 0)), (28, (.checkcast 75, 3, 0, 5, 0)), (31, (.goto 4, 3, 0, 35, 0)), (34, (.aconst_null, 1, 0, 0, 0)), (35, (.areturn, 1, 0, 0, 0))]
/-- 52: DoorstepRides.absent(I)V -/
def zK52 : List (Nat × zRI) := [(0, (.aload_n 0, 1, 0, 0, 0)), (1, (.iload_n 1, 1, 0, 0, 0)), (2, (.invokevirtual 114, 3, 0, 50, 0)), (5, (.astore_n 2, 1, 0, 0, 0)), (6, (.aload_n 2, 1, 0, 0, 0)), (7, (.getfield 118, 3, 0, 1, 5)), (10, (.ifCond .ne 7, 3, 0, 17, 0)), (13, (.iconst 1, 1, 1, 0, 0)), (14, (.goto 4, 3, 0, 18, 0)), (17, (.iconst 0, 1, 0, 0, 0)), (18, (.invokestatic 55, 3, 0, 35, 2)), (21, (.aload_n 2, 1, 0, 0, 0)), (22, (.iconst 1, 1, 1, 0, 0)), (23, (.putfield 143, 3, 0, 1, 13)), (26, (.return_, 1, 0, 0, 0))]
/-- 53: DoorstepRides.pass(I)I -/
def zK53 : List (Nat × zRI) := [(0, (.iload_n 1, 1, 0, 0, 0)), (1, (.iconst 1, 1, 1, 0, 0)), (2, (.bipush 120, 2, 120, 0, 0)), (4, (.invokestatic 47, 3, 0, 33, 2)), (7, (.aload_n 0, 1, 0, 0, 0)), (8, (.getfield 44, 3, 0, 6, 8)), (11, (.iload_n 1, 1, 0, 0, 0)), (12, (.iadd, 1, 0, 0, 0)), (13, (.sipush 600, 3, 600, 0, 0)), (16, (.if_icmp .gt 7, 3, 0, 23, 0)), (19, (.iconst 1, 1, 1, 0, 0)), (20, (.goto 4, 3, 0, 24, 0)), (23, (.iconst 0, 1, 0, 0, 0)), (24, (.invokestatic 55, 3, 0, 35, 2)), (27, (.iconst 0, 1, 0, 0, 0)), (28, (.istore_n 2, 1, 0, 0, 0)), (29, (.iload_n 2, 1, 0, 0, 0)), (30, (.iload_n 1, 1, 0, 0, 0)), (31, (.if_icmp .ge 13, 3, 0, 44, 0)), (34, (.aload_n 0, 1, 0, 0, 0)), (35, (.invokevirtual 146, 3, 0, 54, 0)), (38, (.iinc 2 1, 3, 1, 0, 0)), (41, (.goto (-12), 3, 0, 29, 0)), (44, (.aload_n 0, 1, 0, 0, 0)), (45, (.getfield 44, 3, 0, 6, 8)), (48, (.ireturn, 1, 0, 0, 0))]
/-- 54: DoorstepRides.passMinute()V -/
def zK54 : List (Nat × zRI) := [(0, (.aload_n 0, 1, 0, 0, 0)), (1, (.dup, 1, 0, 0, 0)), (2, (.getfield 44, 3, 0, 6, 8)), (5, (.iconst 1, 1, 1, 0, 0)), (6, (.iadd, 1, 0, 0, 0)), (7, (.putfield 44, 3, 0, 6, 8)), (10, (.iconst 0, 1, 0, 0, 0)), (11, (.istore_n 1, 1, 0, 0, 0)), (12, (.iload_n 1, 1, 0, 0, 0)), (13, (.aload_n 0, 1, 0, 0, 0)), (14, (.getfield 16, 3, 0, 6, 1)), (17, (.invokevirtual 51, 3, 0, 3, 0)), (20, (.if_icmp .ge 45, 3, 0, 65, 0)), (23, (.aload_n 0, 1, 0, 0, 0)), (24, (.getfield 16, 3, 0, 6, 1)), (27, (.iload_n 1, 1, 0, 0, 0)), (28, (.invokevirtual 152, 3, 0, 4, 0)), (31, (.checkcast 75, 3, 0, 5, 0)), (34, (.aload_n 0, 1, 0, 0, 0)), (35, (.getfield 44, 3, 0, 6, 8)), (38, (.invokevirtual 314, 3, 0, 105, 0)), (41, (.aload_n 0, 1, 0, 0, 0)), (42, (.getfield 16, 3, 0, 6, 1)), (45, (.iload_n 1, 1, 0, 0, 0)), (46, (.invokevirtual 152, 3, 0, 4, 0)), (49, (.checkcast 75, 3, 0, 5, 0)), (52, (.aload_n 0, 1, 0, 0, 0)), (53, (.getfield 44, 3, 0, 6, 8)), (56, (.invokevirtual 317, 3, 0, 108, 0)), (59, (.iinc 1 1, 3, 1, 0, 0)), (62, (.goto (-50), 3, 0, 12, 0)), (65, (.return_, 1, 0, 0, 0))]
/-- 55: DoorstepRides.end()I -/
def zK55 : List (Nat × zRI) := [(0, (.aload_n 0, 1, 0, 0, 0)), (1, (.getfield 40, 3, 0, 6, 7)), (4, (.sipush 400, 3, 400, 0, 0)), (7, (.if_icmp .ge 7, 3, 0, 14, 0)), (10, (.iconst 1, 1, 1, 0, 0)), (11, (.goto 4, 3, 0, 15, 0)), (14, (.iconst 0, 1, 0, 0, 0)), (15, (.invokestatic 55, 3, 0, 35, 2)), (18, (.sipush 600, 3, 600, 0, 0)), (21, (.aload_n 0, 1, 0, 0, 0)), (22, (.getfield 44, 3, 0, 6, 8)), (25, (.isub, 1, 0, 0, 0)), (26, (.istore_n 1, 1, 0, 0, 0)), (27, (.iconst 0, 1, 0, 0, 0)), (28, (.istore_n 2, 1, 0, 0, 0)), (29, (.iload_n 2, 1, 0, 0, 0)), (30, (.iload_n 1, 1, 0, 0, 0)), (31, (.if_icmp .ge 13, 3, 0, 44, 0)), (34, (.aload_n 0, 1, 0, 0, 0)), (35, (.invokevirtual 146, 3, 0, 54, 0)), (38, (.iinc 2 1, 3, 1, 0, 0)), (41, (.goto (-12), 3, 0, 29, 0)), (44, (.aload_n 0, 1, 0, 0, 0)), (45, (.invokevirtual 149, 3, 0, 56, 0)), (48, (.istore_n 2, 1, 0, 0, 0)), (49, (.iconst 0, 1, 0, 0, 0)), (50, (.istore_n 3, 1, 0, 0, 0)), (51, (.iload_n 3, 1, 0, 0, 0)), (52, (.aload_n 0, 1, 0, 0, 0)), (53, (.getfield 16, 3, 0, 6, 1)), (56, (.invokevirtual 51, 3, 0, 3, 0)), (59, (.if_icmp .ge 23, 3, 0, 82, 0)), (62, (.aload_n 0, 1, 0, 0, 0)), (63, (.getfield 16, 3, 0, 6, 1)), (66, (.iload_n 3, 1, 0, 0, 0)), (67, (.invokevirtual 152, 3, 0, 4, 0)), (70, (.checkcast 75, 3, 0, 5, 0)), (73, (.invokevirtual 156, 3, 0, 109, 0)), (76, (.iinc 3 1, 3, 1, 0, 0)), (79, (.goto (-28), 3, 0, 51, 0)), (82, (.aload_n 0, 1, 0, 0, 0)), (83, (.dup, 1, 0, 0, 0)), (84, (.getfield 40, 3, 0, 6, 7)), (87, (.iconst 1, 1, 1, 0, 0)), (88, (.iadd, 1, 0, 0, 0)), (89, (.putfield 40, 3, 0, 6, 7)), (92, (.aload_n 0, 1, 0, 0, 0)), (93, (.iconst 0, 1, 0, 0, 0)), (94, (.putfield 44, 3, 0, 6, 8)), (97, (.iload_n 2, 1, 0, 0, 0)), (98, (.ireturn, 1, 0, 0, 0))]
/-- 56: DoorstepRides.failAllOpen()I -/
def zK56 : List (Nat × zRI) := [(0, (.iconst 0, 1, 0, 0, 0)), (1, (.istore_n 1, 1, 0, 0, 0)), (2, (.iconst 0, 1, 0, 0, 0)), (3, (.istore_n 2, 1, 0, 0, 0)), (4, (.iload_n 2, 1, 0, 0, 0)), (5, (.aload_n 0, 1, 0, 0, 0)), (6, (.getfield 19, 3, 0, 6, 2)), (9, (.invokevirtual 51, 3, 0, 3, 0)), (12, (.if_icmp .ge 44, 3, 0, 56, 0)), (15, (.aload_n 0, 1, 0, 0, 0)), (16, (.getfield 19, 3, 0, 6, 2)), (19, (.iload_n 2, 1, 0, 0, 0)), (20, (.invokevirtual 152, 3, 0, 4, 0)), (23, (.checkcast 94, 3, 0, 1, 0)), (26, (.astore_n 3, 1, 0, 0, 0)), (27, (.aload_n 3, 1, 0, 0, 0)), (28, (.getfield 118, 3, 0, 1, 5)), (31, (.ifCond .eq 11, 3, 0, 42, 0)), (34, (.aload_n 3, 1, 0, 0, 0)), (35, (.getfield 118, 3, 0, 1, 5)), (38, (.iconst 1, 1, 1, 0, 0)), (39, (.if_icmp .ne 11, 3, 0, 50, 0)), (42, (.aload_n 3, 1, 0, 0, 0)), (43, (.iconst 5, 1, 5, 0, 0)), (44, (.putfield 118, 3, 0, 1, 5)), (47, (.iinc 1 1, 3, 1, 0, 0)), (50, (.iinc 2 1, 3, 1, 0, 0)), (53, (.goto (-49), 3, 0, 4, 0)), (56, (.iload_n 1, 1, 0, 0, 0)), (57, (.ireturn, 1, 0, 0, 0))]
/-- 57: DoorstepRides.traffic(II)I -/
def zK57 : List (Nat × zRI) := [(0, (.aload_n 0, 1, 0, 0, 0)), (1, (.iload_n 1, 1, 0, 0, 0)), (2, (.invokevirtual 80, 3, 0, 41, 0)), (5, (.astore_n 3, 1, 0, 0, 0)), (6, (.iload_n 2, 1, 0, 0, 0)), (7, (.iconst 1, 1, 1, 0, 0)), (8, (.bipush 60, 2, 60, 0, 0)), (10, (.invokestatic 47, 3, 0, 33, 2)), (13, (.aload_n 3, 1, 0, 0, 0)), (14, (.iload_n 2, 1, 0, 0, 0)), (15, (.aload_n 0, 1, 0, 0, 0)), (16, (.getfield 44, 3, 0, 6, 8)), (19, (.invokevirtual 159, 3, 0, 110, 0)), (22, (.ireturn, 1, 0, 0, 0))]
/-- 58: DoorstepRides.mend(I)I -/
def zK58 : List (Nat × zRI) := [(0, (.aload_n 0, 1, 0, 0, 0)), (1, (.iload_n 1, 1, 0, 0, 0)), (2, (.invokevirtual 80, 3, 0, 41, 0)), (5, (.astore_n 2, 1, 0, 0, 0)), (6, (.aload_n 2, 1, 0, 0, 0)), (7, (.aload_n 0, 1, 0, 0, 0)), (8, (.getfield 22, 3, 0, 6, 3)), (11, (.invokevirtual 163, 3, 0, 111, 0)), (14, (.iconst 0, 1, 0, 0, 0)), (15, (.istore_n 3, 1, 0, 0, 0)), (16, (.iconst 0, 1, 0, 0, 0)), (17, (.istore 4, 2, 0, 0, 0)), (19, (.iload 4, 2, 0, 0, 0)), (21, (.aload_n 0, 1, 0, 0, 0)), (22, (.getfield 22, 3, 0, 6, 3)), (25, (.invokevirtual 51, 3, 0, 3, 0)), (28, (.if_icmp .ge 49, 3, 0, 77, 0)), (31, (.aload_n 0, 1, 0, 0, 0)), (32, (.getfield 22, 3, 0, 6, 3)), (35, (.iload 4, 2, 0, 0, 0)), (37, (.invokevirtual 152, 3, 0, 4, 0)), (40, (.checkcast 94, 3, 0, 1, 0)), (43, (.astore 5, 2, 0, 0, 0)), (45, (.aload_n 2, 1, 0, 0, 0)), (46, (.aload 5, 2, 0, 0, 0)), (48, (.aload_n 0, 1, 0, 0, 0)), (49, (.getfield 44, 3, 0, 6, 8)), (52, (.invokevirtual 167, 3, 0, 112, 0)), (55, (.ifCond .eq 16, 3, 0, 71, 0)), (58, (.aload_n 0, 1, 0, 0, 0)), (59, (.aload_n 2, 1, 0, 0, 0)), (60, (.aload 5, 2, 0, 0, 0)), (62, (.invokevirtual 170, 3, 0, 59, 0)), (65, (.ifCond .eq 6, 3, 0, 71, 0)), (68, (.iinc 3 1, 3, 1, 0, 0)), (71, (.iinc 4 1, 3, 1, 0, 0)), (74, (.goto (-55), 3, 0, 19, 0)), (77, (.iload_n 3, 1, 0, 0, 0)), (78, (.ireturn, 1, 0, 0, 0))]
/-- 59: DoorstepRides.move(LDoorstepRides$Vehicle;LDoorstepRides$Request;)Z -/
def zK59 : List (Nat × zRI) := [(0, (.aload_n 1, 1, 0, 0, 0)), (1, (.aload_n 2, 1, 0, 0, 0)), (2, (.iconst 0, 1, 0, 0, 0)), (3, (.invokevirtual 291, 3, 0, 114, 0)), (6, (.istore_n 3, 1, 0, 0, 0)), (7, (.aload_n 1, 1, 0, 0, 0)), (8, (.aload_n 2, 1, 0, 0, 0)), (9, (.iconst 1, 1, 1, 0, 0)), (10, (.invokevirtual 291, 3, 0, 114, 0)), (13, (.istore 4, 2, 0, 0, 0)), (15, (.iload_n 3, 1, 0, 0, 0)), (16, (.ifCond .lt 21, 3, 0, 37, 0)), (19, (.iload 4, 2, 0, 0, 0)), (21, (.iload_n 3, 1, 0, 0, 0)), (22, (.if_icmp .le 15, 3, 0, 37, 0)), (25, (.iload 4, 2, 0, 0, 0)), (27, (.aload_n 1, 1, 0, 0, 0)), (28, (.getfield 216, 3, 0, 5, 5)), (31, (.invokevirtual 51, 3, 0, 3, 0)), (34, (.if_icmp .lt 5, 3, 0, 39, 0)), (37, (.iconst 0, 1, 0, 0, 0)), (38, (.ireturn, 1, 0, 0, 0)), (39, (.aload_n 1, 1, 0, 0, 0)), (40, (.getfield 216, 3, 0, 5, 5)), (43, (.iload 4, 2, 0, 0, 0)), (45, (.invokevirtual 295, 3, 0, 13, 0)), (48, (.checkcast 189, 3, 0, 4, 0)), (51, (.astore 5, 2, 0, 0, 0)), (53, (.aload_n 1, 1, 0, 0, 0)), (54, (.getfield 216, 3, 0, 5, 5)), (57, (.iload_n 3, 1, 0, 0, 0)), (58, (.invokevirtual 295, 3, 0, 13, 0)), (61, (.checkcast 189, 3, 0, 4, 0)), (64, (.astore 6, 2, 0, 0, 0)), (66, (.aload_n 0, 1, 0, 0, 0)), (67, (.getfield 32, 3, 0, 6, 5)), (70, (.aload_n 0, 1, 0, 0, 0)), (71, (.getfield 16, 3, 0, 6, 1)), (74, (.aload 6, 2, 0, 0, 0)), (76, (.aload 5, 2, 0, 0, 0)), (78, (.aload_n 0, 1, 0, 0, 0)), (79, (.getfield 44, 3, 0, 6, 8)), (82, (.invokevirtual 287, 3, 0, 89, 0)), (85, (.ifCond .eq 5, 3, 0, 90, 0)), (88, (.iconst 1, 1, 1, 0, 0)), (89, (.ireturn, 1, 0, 0, 0)), (90, (.aload_n 1, 1, 0, 0, 0)), (91, (.aload 6, 2, 0, 0, 0)), (93, (.iload_n 3, 1, 0, 0, 0)), (94, (.aload 5, 2, 0, 0, 0)), (96, (.iload 4, 2, 0, 0, 0)), (98, (.invokevirtual 298, 3, 0, 102, 0)), (101, (.iconst 0, 1, 0, 0, 0)), (102, (.ireturn, 1, 0, 0, 0))]
/-- 60: DoorstepRides.owes(III)Z -/
def zK60 : List (Nat × zRI) := [(0, (.aload_n 0, 1, 0, 0, 0)), (1, (.iload_n 1, 1, 0, 0, 0)), (2, (.invokevirtual 87, 3, 0, 43, 0)), (5, (.astore 4, 2, 0, 0, 0)), (7, (.iload_n 2, 1, 0, 0, 0)), (8, (.invokestatic 68, 3, 0, 37, 2)), (11, (.iload_n 3, 1, 0, 0, 0)), (12, (.invokestatic 68, 3, 0, 37, 2)), (15, (.aload_n 0, 1, 0, 0, 0)), (16, (.aload 4, 2, 0, 0, 0)), (18, (.iload_n 2, 1, 0, 0, 0)), (19, (.iload_n 3, 1, 0, 0, 0)), (20, (.invokevirtual 99, 3, 0, 44, 0)), (23, (.ireturn, 1, 0, 0, 0))]
/-- 61: DoorstepRides.riderOf(II)I -/
def zK61 : List (Nat × zRI) := [(0, (.aload_n 0, 1, 0, 0, 0)), (1, (.iload_n 1, 1, 0, 0, 0)), (2, (.invokevirtual 87, 3, 0, 43, 0)), (5, (.astore_n 3, 1, 0, 0, 0)), (6, (.iload_n 2, 1, 0, 0, 0)), (7, (.iconst 0, 1, 0, 0, 0)), (8, (.iconst 2, 1, 2, 0, 0)), (9, (.invokestatic 47, 3, 0, 33, 2)), (12, (.iload_n 2, 1, 0, 0, 0)), (13, (.ifCond .ne 10, 3, 0, 23, 0)), (16, (.aload_n 0, 1, 0, 0, 0)), (17, (.aload_n 3, 1, 0, 0, 0)), (18, (.iconst 0, 1, 0, 0, 0)), (19, (.invokevirtual 174, 3, 0, 47, 0)), (22, (.ireturn, 1, 0, 0, 0)), (23, (.iload_n 2, 1, 0, 0, 0)), (24, (.iconst 1, 1, 1, 0, 0)), (25, (.if_icmp .ne 10, 3, 0, 35, 0)), (28, (.aload_n 0, 1, 0, 0, 0)), (29, (.aload_n 3, 1, 0, 0, 0)), (30, (.iconst 1, 1, 1, 0, 0)), (31, (.invokevirtual 174, 3, 0, 47, 0)), (34, (.ireturn, 1, 0, 0, 0)), (35, (.aload_n 0, 1, 0, 0, 0)), (36, (.aload_n 3, 1, 0, 0, 0)), (37, (.invokevirtual 106, 3, 0, 46, 0)), (40, (.ifCond .eq 7, 3, 0, 47, 0)), (43, (.iconst 1, 1, 1, 0, 0)), (44, (.goto 4, 3, 0, 48, 0)), (47, (.iconst 0, 1, 0, 0, 0)), (48, (.ireturn, 1, 0, 0, 0))]
/-- 62: DoorstepRides.requestOf(II)I -/
def zK62 : List (Nat × zRI) := [(0, (.aload_n 0, 1, 0, 0, 0)), (1, (.iload_n 1, 1, 0, 0, 0)), (2, (.invokevirtual 114, 3, 0, 50, 0)), (5, (.astore_n 3, 1, 0, 0, 0)), (6, (.iload_n 2, 1, 0, 0, 0)), (7, (.iconst 0, 1, 0, 0, 0)), (8, (.bipush 10, 2, 10, 0, 0)), (10, (.invokestatic 47, 3, 0, 33, 2)), (13, (.aload_n 3, 1, 0, 0, 0)), (14, (.iload_n 2, 1, 0, 0, 0)), (15, (.invokevirtual 178, 3, 0, 86, 0)), (18, (.ireturn, 1, 0, 0, 0))]
/-- 63: DoorstepRides.vehicleOf(II)I -/
def zK63 : List (Nat × zRI) := [(0, (.aload_n 0, 1, 0, 0, 0)), (1, (.iload_n 1, 1, 0, 0, 0)), (2, (.invokevirtual 80, 3, 0, 41, 0)), (5, (.astore_n 3, 1, 0, 0, 0)), (6, (.iload_n 2, 1, 0, 0, 0)), (7, (.iconst 0, 1, 0, 0, 0)), (8, (.bipush 8, 2, 8, 0, 0)), (10, (.invokestatic 47, 3, 0, 33, 2)), (13, (.aload_n 3, 1, 0, 0, 0)), (14, (.iload_n 2, 1, 0, 0, 0)), (15, (.aload_n 0, 1, 0, 0, 0)), (16, (.getfield 44, 3, 0, 6, 8)), (19, (.invokevirtual 182, 3, 0, 115, 0)), (22, (.ireturn, 1, 0, 0, 0))]
/-- 64: DoorstepRides.stopOf(III)I -/
def zK64 : List (Nat × zRI) := [(0, (.aload_n 0, 1, 0, 0, 0)), (1, (.iload_n 1, 1, 0, 0, 0)), (2, (.invokevirtual 80, 3, 0, 41, 0)), (5, (.astore 4, 2, 0, 0, 0)), (7, (.aload 4, 2, 0, 0, 0)), (9, (.iload_n 2, 1, 0, 0, 0)), (10, (.invokestatic 184, 3, 0, 65, 2)), (13, (.astore 5, 2, 0, 0, 0)), (15, (.iload_n 3, 1, 0, 0, 0)), (16, (.iconst 0, 1, 0, 0, 0)), (17, (.iconst 3, 1, 3, 0, 0)), (18, (.invokestatic 47, 3, 0, 33, 2)), (21, (.iload_n 3, 1, 0, 0, 0)), (22, (.ifCond .ne 13, 3, 0, 35, 0)), (25, (.aload_n 0, 1, 0, 0, 0)), (26, (.aload 5, 2, 0, 0, 0)), (28, (.getfield 188, 3, 0, 4, 0)), (31, (.invokevirtual 194, 3, 0, 66, 0)), (34, (.ireturn, 1, 0, 0, 0)), (35, (.iload_n 3, 1, 0, 0, 0)), (36, (.iconst 1, 1, 1, 0, 0)), (37, (.if_icmp .ne 17, 3, 0, 54, 0)), (40, (.aload 5, 2, 0, 0, 0)), (42, (.getfield 198, 3, 0, 4, 1)), (45, (.ifCond .eq 7, 3, 0, 52, 0)), (48, (.iconst 1, 1, 1, 0, 0)), (49, (.goto 4, 3, 0, 53, 0)), (52, (.iconst 0, 1, 0, 0, 0)), (53, (.ireturn, 1, 0, 0, 0)), (54, (.aload 4, 2, 0, 0, 0)), (56, (.aload_n 0, 1, 0, 0, 0)), (57, (.getfield 44, 3, 0, 6, 8)), (60, (.invokevirtual 201, 3, 0, 113, 0)), (63, (.pop, 1, 0, 0, 0)), (64, (.iload_n 3, 1, 0, 0, 0)), (65, (.iconst 2, 1, 2, 0, 0)), (66, (.if_icmp .ne 11, 3, 0, 77, 0)), (69, (.aload 5, 2, 0, 0, 0)), (71, (.getfield 204, 3, 0, 4, 3)), (74, (.goto 8, 3, 0, 82, 0)), (77, (.aload 5, 2, 0, 0, 0)), (79, (.getfield 207, 3, 0, 4, 4)), (82, (.ireturn, 1, 0, 0, 0))]
/-- 65: DoorstepRides.openStop(LDoorstepRides$Vehicle;I)LDoorstepRides$Stop; -/
def zK65 : List (Nat × zRI) := [(0, (.iload_n 1, 1, 0, 0, 0)), (1, (.ifCond .lt 14, 3, 0, 15, 0)), (4, (.iload_n 1, 1, 0, 0, 0)), (5, (.aload_n 0, 1, 0, 0, 0)), (6, (.getfield 216, 3, 0, 5, 5)), (9, (.invokevirtual 51, 3, 0, 3, 0)), (12, (.if_icmp .lt 14, 3, 0, 26, 0)), (15, (.new 250, 3, 0, 11, 2)), (26, (.aload_n 0, 1, 0, 0, 0)), (27, (.getfield 216, 3, 0, 5, 5)), (30, (.iload_n 1, 1, 0, 0, 0)), (31, (.invokevirtual 152, 3, 0, 4, 0)), (34, (.checkcast 189, 3, 0, 4, 0)), (37, (.areturn, 1, 0, 0, 0))]
/-- 66: DoorstepRides.numberOf(LDoorstepRides$Request;)I -/
def zK66 : List (Nat × zRI) := [(0, (.iconst 0, 1, 0, 0, 0)), (1, (.istore_n 2, 1, 0, 0, 0)), (2, (.iload_n 2, 1, 0, 0, 0)), (3, (.aload_n 0, 1, 0, 0, 0)), (4, (.getfield 19, 3, 0, 6, 2)), (7, (.invokevirtual 51, 3, 0, 3, 0)), (10, (.if_icmp .ge 23, 3, 0, 33, 0)), (13, (.aload_n 0, 1, 0, 0, 0)), (14, (.getfield 19, 3, 0, 6, 2)), (17, (.iload_n 2, 1, 0, 0, 0)), (18, (.invokevirtual 152, 3, 0, 4, 0)), (21, (.aload_n 1, 1, 0, 0, 0)), (22, (.if_acmp .ne 5, 3, 0, 27, 0)), (25, (.iload_n 2, 1, 0, 0, 0)), (26, (.ireturn, 1, 0, 0, 0)), (27, (.iinc 2 1, 3, 1, 0, 0)), (30, (.goto (-28), 3, 0, 2, 0)), (33, (.iconst (-1), 1, (-1), 0, 0)), (34, (.ireturn, 1, 0, 0, 0))]
/-- 67: DoorstepRides.seatsAnew(I)I -/
def zK67 : List (Nat × zRI) := [(0, (.aload_n 0, 1, 0, 0, 0)), (1, (.iload_n 1, 1, 0, 0, 0)), (2, (.invokevirtual 80, 3, 0, 41, 0)), (5, (.invokevirtual 210, 3, 0, 117, 0)), (8, (.ireturn, 1, 0, 0, 0))]
/-- 68: DoorstepRides.drive(I)I -/
def zK68 : List (Nat × zRI) := [(0, (.aload_n 0, 1, 0, 0, 0)), (1, (.iload_n 1, 1, 0, 0, 0)), (2, (.invokevirtual 80, 3, 0, 41, 0)), (5, (.invokevirtual 213, 3, 0, 98, 0)), (8, (.ireturn, 1, 0, 0, 0))]
/-- 69: DoorstepRides.leastDrive(I)I -/
def zK69 : List (Nat × zRI) := [(0, (.aload_n 0, 1, 0, 0, 0)), (1, (.iload_n 1, 1, 0, 0, 0)), (2, (.invokevirtual 80, 3, 0, 41, 0)), (5, (.astore_n 2, 1, 0, 0, 0)), (6, (.aload_n 2, 1, 0, 0, 0)), (7, (.getfield 216, 3, 0, 5, 5)), (10, (.invokevirtual 51, 3, 0, 3, 0)), (13, (.bipush 6, 2, 6, 0, 0)), (15, (.if_icmp .le 5, 3, 0, 20, 0)), (18, (.iconst (-1), 1, (-1), 0, 0)), (19, (.ireturn, 1, 0, 0, 0)), (20, (.aload_n 2, 1, 0, 0, 0)), (21, (.aload_n 2, 1, 0, 0, 0)), (22, (.invokevirtual 219, 3, 0, 99, 0)), (25, (.aload_n 0, 1, 0, 0, 0)), (26, (.getfield 44, 3, 0, 6, 8)), (29, (.iconst (-1), 1, (-1), 0, 0)), (30, (.invokestatic 222, 3, 0, 70, 2)), (33, (.ireturn, 1, 0, 0, 0))]
/-- 70: DoorstepRides.leastArranged(LDoorstepRides$Vehicle;III)I -/
def zK70 : List (Nat × zRI) := [(0, (.aload_n 0, 1, 0, 0, 0)), (1, (.getfield 216, 3, 0, 5, 5)), (4, (.astore 4, 2, 0, 0, 0)), (6, (.iload_n 1, 1, 0, 0, 0)), (7, (.aload 4, 2, 0, 0, 0)), (9, (.invokevirtual 51, 3, 0, 3, 0)), (12, (.if_icmp .ge 9, 3, 0, 21, 0)), (15, (.iload_n 1, 1, 0, 0, 0)), (16, (.bipush 6, 2, 6, 0, 0)), (18, (.if_icmp .lt 47, 3, 0, 65, 0)), (21, (.aload_n 0, 1, 0, 0, 0)), (22, (.invokevirtual 213, 3, 0, 98, 0)), (25, (.istore 5, 2, 0, 0, 0)), (27, (.iload_n 3, 1, 0, 0, 0)), (28, (.iconst (-1), 1, (-1), 0, 0)), (29, (.if_icmp .eq 9, 3, 0, 38, 0)), (32, (.iload 5, 2, 0, 0, 0)), (34, (.iload_n 3, 1, 0, 0, 0)), (35, (.if_icmp .ge 7, 3, 0, 42, 0)), (38, (.iconst 1, 1, 1, 0, 0)), (39, (.goto 4, 3, 0, 43, 0)), (42, (.iconst 0, 1, 0, 0, 0)), (43, (.istore 6, 2, 0, 0, 0)), (45, (.iload 6, 2, 0, 0, 0)), (47, (.ifCond .eq 16, 3, 0, 63, 0)), (50, (.aload_n 0, 1, 0, 0, 0)), (51, (.iload_n 2, 1, 0, 0, 0)), (52, (.invokevirtual 302, 3, 0, 100, 0)), (55, (.ifCond .eq 8, 3, 0, 63, 0)), (58, (.iload 5, 2, 0, 0, 0)), (60, (.goto 4, 3, 0, 64, 0)), (63, (.iload_n 3, 1, 0, 0, 0)), (64, (.ireturn, 1, 0, 0, 0)), (65, (.iload_n 3, 1, 0, 0, 0)), (66, (.istore 5, 2, 0, 0, 0)), (68, (.iload_n 1, 1, 0, 0, 0)), (69, (.istore 6, 2, 0, 0, 0)), (71, (.iload 6, 2, 0, 0, 0)), (73, (.aload 4, 2, 0, 0, 0)), (75, (.invokevirtual 51, 3, 0, 3, 0)), (78, (.if_icmp .ge 45, 3, 0, 123, 0)), (81, (.aload_n 0, 1, 0, 0, 0)), (82, (.iload_n 1, 1, 0, 0, 0)), (83, (.iload 6, 2, 0, 0, 0)), (85, (.invokevirtual 306, 3, 0, 118, 0)), (88, (.ifCond .eq 29, 3, 0, 117, 0)), (91, (.aload_n 0, 1, 0, 0, 0)), (92, (.iload_n 1, 1, 0, 0, 0)), (93, (.iload 6, 2, 0, 0, 0)), (95, (.invokevirtual 310, 3, 0, 119, 0)), (98, (.aload_n 0, 1, 0, 0, 0)), (99, (.iload_n 1, 1, 0, 0, 0)), (100, (.iconst 1, 1, 1, 0, 0)), (101, (.iadd, 1, 0, 0, 0)), (102, (.iload_n 2, 1, 0, 0, 0)), (103, (.iload 5, 2, 0, 0, 0)), (105, (.invokestatic 222, 3, 0, 70, 2)), (108, (.istore 5, 2, 0, 0, 0)), (110, (.aload_n 0, 1, 0, 0, 0)), (111, (.iload_n 1, 1, 0, 0, 0)), (112, (.iload 6, 2, 0, 0, 0)), (114, (.invokevirtual 310, 3, 0, 119, 0)), (117, (.iinc 6 1, 3, 1, 0, 0)), (120, (.goto (-49), 3, 0, 71, 0)), (123, (.iload 5, 2, 0, 0, 0)), (125, (.ireturn, 1, 0, 0, 0))]
/-- 71: DoorstepRides.count(I)I -/
def zK71 : List (Nat × zRI) := [(0, (.iload_n 1, 1, 0, 0, 0)), (1, (.iconst 0, 1, 0, 0, 0)), (2, (.bipush 9, 2, 9, 0, 0)), (4, (.invokestatic 47, 3, 0, 33, 2)), (7, (.iconst 0, 1, 0, 0, 0)), (8, (.istore_n 2, 1, 0, 0, 0)), (9, (.iconst 0, 1, 0, 0, 0)), (10, (.istore_n 3, 1, 0, 0, 0)), (11, (.iload_n 3, 1, 0, 0, 0)), (12, (.aload_n 0, 1, 0, 0, 0)), (13, (.getfield 19, 3, 0, 6, 2)), (16, (.invokevirtual 51, 3, 0, 3, 0)), (19, (.if_icmp .ge 30, 3, 0, 49, 0)), (22, (.aload_n 0, 1, 0, 0, 0)), (23, (.getfield 19, 3, 0, 6, 2)), (26, (.iload_n 3, 1, 0, 0, 0)), (27, (.invokevirtual 152, 3, 0, 4, 0)), (30, (.checkcast 94, 3, 0, 1, 0)), (33, (.iload_n 1, 1, 0, 0, 0)), (34, (.invokestatic 232, 3, 0, 72, 2)), (37, (.ifCond .eq 6, 3, 0, 43, 0)), (40, (.iinc 2 1, 3, 1, 0, 0)), (43, (.iinc 3 1, 3, 1, 0, 0)), (46, (.goto (-35), 3, 0, 11, 0)), (49, (.iload_n 2, 1, 0, 0, 0)), (50, (.ireturn, 1, 0, 0, 0))]
/-- 72: DoorstepRides.isCounted(LDoorstepRides$Request;I)Z -/
def zK72 : List (Nat × zRI) := [(0, (.iload_n 1, 1, 0, 0, 0)), (1, (.tableswitch 42 7 9 #[27, 32, 37], 27, 0, 0, 0)), (28, (.aload_n 0, 1, 0, 0, 0)), (29, (.invokevirtual 334, 3, 0, 79, 0)), (32, (.ireturn, 1, 0, 0, 0)), (33, (.aload_n 0, 1, 0, 0, 0)), (34, (.invokevirtual 337, 3, 0, 80, 0)), (37, (.ireturn, 1, 0, 0, 0)), (38, (.aload_n 0, 1, 0, 0, 0)), (39, (.invokevirtual 139, 3, 0, 84, 0)), (42, (.ireturn, 1, 0, 0, 0)), (43, (.aload_n 0, 1, 0, 0, 0)), (44, (.getfield 118, 3, 0, 1, 5)), (47, (.iload_n 1, 1, 0, 0, 0)), (48, (.if_icmp .ne 7, 3, 0, 55, 0)), (51, (.iconst 1, 1, 1, 0, 0)), (52, (.goto 4, 3, 0, 56, 0)), (55, (.iconst 0, 1, 0, 0, 0)), (56, (.ireturn, 1, 0, 0, 0))]
/-- 73: DoorstepRides$Plan.<init>()V -/
def zK73 : List (Nat × zRI) := [(0, (.aload_n 0, 1, 0, 0, 0)), (1, (.invokespecial 3, 3, 0, 2000, 0)), (4, (.aload_n 0, 1, 0, 0, 0)), (5, (.new 9, 3, 0, 8, 0)), (8, (.dup, 1, 0, 0, 0)), (9, (.invokespecial 11, 3, 0, 2, 1)), (12, (.putfield 12, 3, 0, 0, 0)), (15, (.return_, 1, 0, 0, 0))]
/-- 74: DoorstepRides$Plan.start(LDoorstepRides$Vehicle;I)V -/
def zK74 : List (Nat × zRI) := [(0, (.aload_n 0, 1, 0, 0, 0)), (1, (.aload_n 1, 1, 0, 0, 0)), (2, (.getfield 18, 3, 0, 5, 11)), (5, (.putfield 24, 3, 0, 0, 1)), (8, (.aload_n 0, 1, 0, 0, 0)), (9, (.aload_n 1, 1, 0, 0, 0)), (10, (.getfield 25, 3, 0, 5, 12)), (13, (.iload_n 2, 1, 0, 0, 0)), (14, (.iconst 1, 1, 1, 0, 0)), (15, (.iadd, 1, 0, 0, 0)), (16, (.invokestatic 28, 3, 0, 2001, 0)), (19, (.putfield 34, 3, 0, 0, 2)), (22, (.aload_n 0, 1, 0, 0, 0)), (23, (.aload_n 1, 1, 0, 0, 0)), (24, (.invokevirtual 35, 3, 0, 101, 0)), (27, (.putfield 39, 3, 0, 0, 3)), (30, (.aload_n 0, 1, 0, 0, 0)), (31, (.getfield 12, 3, 0, 0, 0)), (34, (.invokevirtual 41, 3, 0, 12, 0)), (37, (.iconst 0, 1, 0, 0, 0)), (38, (.istore_n 3, 1, 0, 0, 0)), (39, (.iload_n 3, 1, 0, 0, 0)), (40, (.aload_n 1, 1, 0, 0, 0)), (41, (.getfield 44, 3, 0, 5, 7)), (44, (.invokevirtual 47, 3, 0, 3, 0)), (47, (.if_icmp .ge 49, 3, 0, 96, 0)), (50, (.aload_n 1, 1, 0, 0, 0)), (51, (.getfield 44, 3, 0, 5, 7)), (54, (.iload_n 3, 1, 0, 0, 0)), (55, (.invokevirtual 50, 3, 0, 4, 0)), (58, (.checkcast 54, 3, 0, 1, 0)), (61, (.getfield 56, 3, 0, 1, 0)), (64, (.getfield 60, 3, 0, 2, 0)), (67, (.iconst 2, 1, 2, 0, 0)), (68, (.if_icmp .ne 22, 3, 0, 90, 0)), (71, (.aload_n 0, 1, 0, 0, 0)), (72, (.getfield 12, 3, 0, 0, 0)), (75, (.aload_n 1, 1, 0, 0, 0)), (76, (.getfield 44, 3, 0, 5, 7)), (79, (.iload_n 3, 1, 0, 0, 0)), (80, (.invokevirtual 50, 3, 0, 4, 0)), (83, (.checkcast 54, 3, 0, 1, 0)), (86, (.invokevirtual 65, 3, 0, 6, 0)), (89, (.pop, 1, 0, 0, 0)), (90, (.iinc 3 1, 3, 1, 0, 0)), (93, (.goto (-54), 3, 0, 39, 0)), (96, (.return_, 1, 0, 0, 0))]
/-- 75: DoorstepRides$Plan.goTo(LDoorstepRides$Stop;Z)V -/
def zK75 : List (Nat × zRI) := [(0, (.iload_n 2, 1, 0, 0, 0)), (1, (.ifCond .ne 76, 3, 0, 77, 0)), (4, (.iconst 2, 1, 2, 0, 0)), (5, (.aload_n 0, 1, 0, 0, 0)), (6, (.getfield 24, 3, 0, 0, 1)), (9, (.aload_n 1, 1, 0, 0, 0)), (10, (.getfield 69, 3, 0, 4, 2)), (13, (.invokestatic 72, 3, 0, 31, 5)), (16, (.imul, 1, 0, 0, 0)), (17, (.istore_n 3, 1, 0, 0, 0)), (18, (.aload_n 1, 1, 0, 0, 0)), (19, (.getfield 75, 3, 0, 4, 1)), (22, (.ifCond .eq 10, 3, 0, 32, 0)), (25, (.aload_n 0, 1, 0, 0, 0)), (26, (.getfield 34, 3, 0, 0, 2)), (29, (.goto 19, 3, 0, 48, 0)), (32, (.aload_n 0, 1, 0, 0, 0)), (33, (.getfield 34, 3, 0, 0, 2)), (36, (.aload_n 1, 1, 0, 0, 0)), (37, (.getfield 79, 3, 0, 4, 0)), (40, (.getfield 83, 3, 0, 1, 7)), (43, (.iload_n 3, 1, 0, 0, 0)), (44, (.isub, 1, 0, 0, 0)), (45, (.invokestatic 28, 3, 0, 2001, 0)), (48, (.istore 4, 2, 0, 0, 0)), (50, (.aload_n 1, 1, 0, 0, 0)), (51, (.iload 4, 2, 0, 0, 0)), (53, (.iload_n 3, 1, 0, 0, 0)), (54, (.iadd, 1, 0, 0, 0)), (55, (.putfield 86, 3, 0, 4, 3)), (58, (.aload_n 1, 1, 0, 0, 0)), (59, (.aload_n 1, 1, 0, 0, 0)), (60, (.getfield 86, 3, 0, 4, 3)), (63, (.aload_n 1, 1, 0, 0, 0)), (64, (.getfield 79, 3, 0, 4, 0)), (67, (.getfield 56, 3, 0, 1, 0)), (70, (.getfield 89, 3, 0, 2, 4)), (73, (.iadd, 1, 0, 0, 0)), (74, (.putfield 92, 3, 0, 4, 4)), (77, (.aload_n 1, 1, 0, 0, 0)), (78, (.getfield 75, 3, 0, 4, 1)), (81, (.ifCond .ne 14, 3, 0, 95, 0)), (84, (.aload_n 1, 1, 0, 0, 0)), (85, (.getfield 79, 3, 0, 4, 0)), (88, (.aload_n 1, 1, 0, 0, 0)), (89, (.getfield 92, 3, 0, 4, 4)), (92, (.putfield 95, 3, 0, 1, 9)), (95, (.aload_n 0, 1, 0, 0, 0)), (96, (.aload_n 1, 1, 0, 0, 0)), (97, (.getfield 69, 3, 0, 4, 2)), (100, (.putfield 24, 3, 0, 0, 1)), (103, (.aload_n 0, 1, 0, 0, 0)), (104, (.aload_n 1, 1, 0, 0, 0)), (105, (.getfield 92, 3, 0, 4, 4)), (108, (.putfield 34, 3, 0, 0, 2)), (111, (.return_, 1, 0, 0, 0))]
/-- 76: DoorstepRides$Plan.canLoad(LDoorstepRides$Stop;II)Z -/
def zK76 : List (Nat × zRI) := [(0, (.aload_n 1, 1, 0, 0, 0)), (1, (.getfield 79, 3, 0, 4, 0)), (4, (.getfield 56, 3, 0, 1, 0)), (7, (.getfield 98, 3, 0, 2, 3)), (10, (.istore 4, 2, 0, 0, 0)), (12, (.aload_n 0, 1, 0, 0, 0)), (13, (.dup, 1, 0, 0, 0)), (14, (.getfield 39, 3, 0, 0, 3)), (17, (.aload_n 1, 1, 0, 0, 0)), (18, (.getfield 75, 3, 0, 4, 1)), (21, (.ifCond .eq 9, 3, 0, 30, 0)), (24, (.iload 4, 2, 0, 0, 0)), (26, (.ineg, 1, 0, 0, 0)), (27, (.goto 5, 3, 0, 32, 0)), (30, (.iload 4, 2, 0, 0, 0)), (32, (.iadd, 1, 0, 0, 0)), (33, (.putfield 39, 3, 0, 0, 3)), (36, (.aload_n 1, 1, 0, 0, 0)), (37, (.invokevirtual 101, 3, 0, 94, 0)), (40, (.ifCond .eq 31, 3, 0, 71, 0)), (43, (.aload_n 1, 1, 0, 0, 0)), (44, (.getfield 75, 3, 0, 4, 1)), (47, (.ifCond .eq 12, 3, 0, 59, 0)), (50, (.aload_n 0, 1, 0, 0, 0)), (51, (.aload_n 1, 1, 0, 0, 0)), (52, (.getfield 79, 3, 0, 4, 0)), (55, (.invokevirtual 105, 3, 0, 77, 0)), (58, (.ireturn, 1, 0, 0, 0)), (59, (.aload_n 0, 1, 0, 0, 0)), (60, (.getfield 12, 3, 0, 0, 0)), (63, (.aload_n 1, 1, 0, 0, 0)), (64, (.getfield 79, 3, 0, 4, 0)), (67, (.invokevirtual 65, 3, 0, 6, 0)), (70, (.pop, 1, 0, 0, 0)), (71, (.aload_n 0, 1, 0, 0, 0)), (72, (.getfield 39, 3, 0, 0, 3)), (75, (.iload_n 2, 1, 0, 0, 0)), (76, (.if_icmp .gt 18, 3, 0, 94, 0)), (79, (.aload_n 0, 1, 0, 0, 0)), (80, (.getfield 12, 3, 0, 0, 0)), (83, (.invokevirtual 47, 3, 0, 3, 0)), (86, (.iload_n 3, 1, 0, 0, 0)), (87, (.if_icmp .gt 7, 3, 0, 94, 0)), (90, (.iconst 1, 1, 1, 0, 0)), (91, (.goto 4, 3, 0, 95, 0)), (94, (.iconst 0, 1, 0, 0, 0)), (95, (.ireturn, 1, 0, 0, 0))]
/-- 77: DoorstepRides$Plan.latestChairLeaves(LDoorstepRides$Request;)Z -/
def zK77 : List (Nat × zRI) := [(0, (.aload_n 0, 1, 0, 0, 0)), (1, (.getfield 12, 3, 0, 0, 0)), (4, (.invokevirtual 47, 3, 0, 3, 0)), (7, (.iconst 1, 1, 1, 0, 0)), (8, (.isub, 1, 0, 0, 0)), (9, (.istore_n 2, 1, 0, 0, 0)), (10, (.iload_n 2, 1, 0, 0, 0)), (11, (.ifCond .lt 15, 3, 0, 26, 0)), (14, (.aload_n 0, 1, 0, 0, 0)), (15, (.getfield 12, 3, 0, 0, 0)), (18, (.iload_n 2, 1, 0, 0, 0)), (19, (.invokevirtual 50, 3, 0, 4, 0)), (22, (.aload_n 1, 1, 0, 0, 0)), (23, (.if_acmp .eq 5, 3, 0, 28, 0)), (26, (.iconst 0, 1, 0, 0, 0)), (27, (.ireturn, 1, 0, 0, 0)), (28, (.aload_n 0, 1, 0, 0, 0)), (29, (.getfield 12, 3, 0, 0, 0)), (32, (.iload_n 2, 1, 0, 0, 0)), (33, (.invokevirtual 109, 3, 0, 13, 0)), (36, (.pop, 1, 0, 0, 0)), (37, (.iconst 1, 1, 1, 0, 0)), (38, (.ireturn, 1, 0, 0, 0))]
/-- 78: DoorstepRides$Plan.backAt(I)I -/
def zK78 : List (Nat × zRI) := [(0, (.aload_n 0, 1, 0, 0, 0)), (1, (.getfield 34, 3, 0, 0, 2)), (4, (.iconst 2, 1, 2, 0, 0)), (5, (.aload_n 0, 1, 0, 0, 0)), (6, (.getfield 24, 3, 0, 0, 1)), (9, (.iload_n 1, 1, 0, 0, 0)), (10, (.invokestatic 72, 3, 0, 31, 5)), (13, (.imul, 1, 0, 0, 0)), (14, (.iadd, 1, 0, 0, 0)), (15, (.ireturn, 1, 0, 0, 0))]
/-- 79: DoorstepRides$Request.isLate()Z -/
def zK79 : List (Nat × zRI) := [(0, (.aload_n 0, 1, 0, 0, 0)), (1, (.getfield 24, 3, 0, 1, 10)), (4, (.iconst (-1), 1, (-1), 0, 0)), (5, (.if_icmp .eq 21, 3, 0, 26, 0)), (8, (.aload_n 0, 1, 0, 0, 0)), (9, (.getfield 24, 3, 0, 1, 10)), (12, (.aload_n 0, 1, 0, 0, 0)), (13, (.getfield 15, 3, 0, 1, 7)), (16, (.bipush 20, 2, 20, 0, 0)), (18, (.iadd, 1, 0, 0, 0)), (19, (.if_icmp .le 7, 3, 0, 26, 0)), (22, (.iconst 1, 1, 1, 0, 0)), (23, (.goto 4, 3, 0, 27, 0)), (26, (.iconst 0, 1, 0, 0, 0)), (27, (.ireturn, 1, 0, 0, 0))]
/-- 80: DoorstepRides$Request.isLong()Z -/
def zK80 : List (Nat × zRI) := [(0, (.aload_n 0, 1, 0, 0, 0)), (1, (.getfield 30, 3, 0, 1, 12)), (4, (.iconst (-1), 1, (-1), 0, 0)), (5, (.if_icmp .eq 23, 3, 0, 28, 0)), (8, (.aload_n 0, 1, 0, 0, 0)), (9, (.getfield 30, 3, 0, 1, 12)), (12, (.aload_n 0, 1, 0, 0, 0)), (13, (.getfield 27, 3, 0, 1, 11)), (16, (.aload_n 0, 1, 0, 0, 0)), (17, (.getfield 50, 3, 0, 1, 4)), (20, (.iadd, 1, 0, 0, 0)), (21, (.if_icmp .le 7, 3, 0, 28, 0)), (24, (.iconst 1, 1, 1, 0, 0)), (25, (.goto 4, 3, 0, 29, 0)), (28, (.iconst 0, 1, 0, 0, 0)), (29, (.ireturn, 1, 0, 0, 0))]
/-- 81: DoorstepRides$Request.fare()I -/
def zK81 : List (Nat × zRI) := [(0, (.aload_n 0, 1, 0, 0, 0)), (1, (.getfield 9, 3, 0, 1, 5)), (4, (.iconst 2, 1, 2, 0, 0)), (5, (.if_icmp .ne 17, 3, 0, 22, 0)), (8, (.aload_n 0, 1, 0, 0, 0)), (9, (.invokevirtual 60, 3, 0, 79, 0)), (12, (.ifCond .ne 10, 3, 0, 22, 0)), (15, (.aload_n 0, 1, 0, 0, 0)), (16, (.invokevirtual 64, 3, 0, 80, 0)), (19, (.ifCond .eq 5, 3, 0, 24, 0)), (22, (.iconst 0, 1, 0, 0, 0)), (23, (.ireturn, 1, 0, 0, 0)), (24, (.sipush 200, 3, 200, 0, 0)), (27, (.bipush 20, 2, 20, 0, 0)), (29, (.aload_n 0, 1, 0, 0, 0)), (30, (.getfield 37, 3, 0, 1, 1)), (33, (.aload_n 0, 1, 0, 0, 0)), (34, (.getfield 40, 3, 0, 1, 2)), (37, (.invokestatic 46, 3, 0, 31, 5)), (40, (.imul, 1, 0, 0, 0)), (41, (.iadd, 1, 0, 0, 0)), (42, (.ireturn, 1, 0, 0, 0))]
/-- 82: DoorstepRides$Request.<init>(LDoorstepRides$Rider;III)V -/
def zK82 : List (Nat × zRI) := [(0, (.aload_n 0, 1, 0, 0, 0)), (1, (.invokespecial 3, 3, 0, 2000, 0)), (4, (.aload_n 0, 1, 0, 0, 0)), (5, (.iconst 0, 1, 0, 0, 0)), (6, (.putfield 9, 3, 0, 1, 5)), (9, (.aload_n 0, 1, 0, 0, 0)), (10, (.iconst (-1), 1, (-1), 0, 0)), (11, (.putfield 15, 3, 0, 1, 7)), (14, (.aload_n 0, 1, 0, 0, 0)), (15, (.iconst (-1), 1, (-1), 0, 0)), (16, (.putfield 18, 3, 0, 1, 8)), (19, (.aload_n 0, 1, 0, 0, 0)), (20, (.iconst (-1), 1, (-1), 0, 0)), (21, (.putfield 21, 3, 0, 1, 9)), (24, (.aload_n 0, 1, 0, 0, 0)), (25, (.iconst (-1), 1, (-1), 0, 0)), (26, (.putfield 24, 3, 0, 1, 10)), (29, (.aload_n 0, 1, 0, 0, 0)), (30, (.iconst (-1), 1, (-1), 0, 0)), (31, (.putfield 27, 3, 0, 1, 11)), (34, (.aload_n 0, 1, 0, 0, 0)), (35, (.iconst (-1), 1, (-1), 0, 0)), (36, (.putfield 30, 3, 0, 1, 12)), (39, (.aload_n 0, 1, 0, 0, 0)), (40, (.aload_n 1, 1, 0, 0, 0)), (41, (.putfield 33, 3, 0, 1, 0)), (44, (.aload_n 0, 1, 0, 0, 0)), (45, (.iload_n 2, 1, 0, 0, 0)), (46, (.putfield 37, 3, 0, 1, 1)), (49, (.aload_n 0, 1, 0, 0, 0)), (50, (.iload_n 3, 1, 0, 0, 0)), (51, (.putfield 40, 3, 0, 1, 2)), (54, (.aload_n 0, 1, 0, 0, 0)), (55, (.iload 4, 2, 0, 0, 0)), (57, (.putfield 43, 3, 0, 1, 3)), (60, (.aload_n 0, 1, 0, 0, 0)), (61, (.bipush 10, 2, 10, 0, 0)), (63, (.iconst 4, 1, 4, 0, 0)), (64, (.iload_n 2, 1, 0, 0, 0)), (65, (.iload_n 3, 1, 0, 0, 0)), (66, (.invokestatic 46, 3, 0, 31, 5)), (69, (.imul, 1, 0, 0, 0)), (70, (.iadd, 1, 0, 0, 0)), (71, (.putfield 50, 3, 0, 1, 4)), (74, (.return_, 1, 0, 0, 0))]
/-- 83: DoorstepRides$Request.deny(I)V -/
def zK83 : List (Nat × zRI) := [(0, (.aload_n 0, 1, 0, 0, 0)), (1, (.bipush 6, 2, 6, 0, 0)), (3, (.putfield 9, 3, 0, 1, 5)), (6, (.aload_n 0, 1, 0, 0, 0)), (7, (.iload_n 1, 1, 0, 0, 0)), (8, (.putfield 53, 3, 0, 1, 6)), (11, (.aload_n 0, 1, 0, 0, 0)), (12, (.iconst (-1), 1, (-1), 0, 0)), (13, (.putfield 15, 3, 0, 1, 7)), (16, (.return_, 1, 0, 0, 0))]
/-- 84: DoorstepRides$Request.isNoShow()Z -/
def zK84 : List (Nat × zRI) := [(0, (.aload_n 0, 1, 0, 0, 0)), (1, (.getfield 9, 3, 0, 1, 5)), (4, (.iconst 3, 1, 3, 0, 0)), (5, (.if_icmp .eq 18, 3, 0, 23, 0)), (8, (.aload_n 0, 1, 0, 0, 0)), (9, (.getfield 9, 3, 0, 1, 5)), (12, (.iconst 4, 1, 4, 0, 0)), (13, (.if_icmp .ne 14, 3, 0, 27, 0)), (16, (.aload_n 0, 1, 0, 0, 0)), (17, (.getfield 56, 3, 0, 1, 14)), (20, (.ifCond .eq 7, 3, 0, 27, 0)), (23, (.iconst 1, 1, 1, 0, 0)), (24, (.goto 4, 3, 0, 28, 0)), (27, (.iconst 0, 1, 0, 0, 0)), (28, (.ireturn, 1, 0, 0, 0))]
/-- 85: DoorstepRides$Request.dropDue()I -/
def zK85 : List (Nat × zRI) := [(0, (.aload_n 0, 1, 0, 0, 0)), (1, (.getfield 27, 3, 0, 1, 11)), (4, (.iconst (-1), 1, (-1), 0, 0)), (5, (.if_icmp .eq 10, 3, 0, 15, 0)), (8, (.aload_n 0, 1, 0, 0, 0)), (9, (.getfield 27, 3, 0, 1, 11)), (12, (.goto 7, 3, 0, 19, 0)), (15, (.aload_n 0, 1, 0, 0, 0)), (16, (.getfield 21, 3, 0, 1, 9)), (19, (.aload_n 0, 1, 0, 0, 0)), (20, (.getfield 50, 3, 0, 1, 4)), (23, (.iadd, 1, 0, 0, 0)), (24, (.ireturn, 1, 0, 0, 0))]
/-- 86: DoorstepRides$Request.tell(I)I -/
def zK86 : List (Nat × zRI) := [(0, (.iload_n 1, 1, 0, 0, 0)), (1, (.tableswitch 121 0 9 #[55, 60, 65, 70, 75, 80, 85, 90, 103, 116], 55, 0, 0, 0)), (56, (.aload_n 0, 1, 0, 0, 0)), (57, (.getfield 9, 3, 0, 1, 5)), (60, (.ireturn, 1, 0, 0, 0)), (61, (.aload_n 0, 1, 0, 0, 0)), (62, (.getfield 53, 3, 0, 1, 6)), (65, (.ireturn, 1, 0, 0, 0)), (66, (.aload_n 0, 1, 0, 0, 0)), (67, (.getfield 15, 3, 0, 1, 7)), (70, (.ireturn, 1, 0, 0, 0)), (71, (.aload_n 0, 1, 0, 0, 0)), (72, (.getfield 18, 3, 0, 1, 8)), (75, (.ireturn, 1, 0, 0, 0)), (76, (.aload_n 0, 1, 0, 0, 0)), (77, (.getfield 24, 3, 0, 1, 10)), (80, (.ireturn, 1, 0, 0, 0)), (81, (.aload_n 0, 1, 0, 0, 0)), (82, (.getfield 27, 3, 0, 1, 11)), (85, (.ireturn, 1, 0, 0, 0)), (86, (.aload_n 0, 1, 0, 0, 0)), (87, (.getfield 30, 3, 0, 1, 12)), (90, (.ireturn, 1, 0, 0, 0)), (91, (.aload_n 0, 1, 0, 0, 0)), (92, (.invokevirtual 60, 3, 0, 79, 0)), (95, (.ifCond .eq 7, 3, 0, 102, 0)), (98, (.iconst 1, 1, 1, 0, 0)), (99, (.goto 4, 3, 0, 103, 0)), (102, (.iconst 0, 1, 0, 0, 0)), (103, (.ireturn, 1, 0, 0, 0)), (104, (.aload_n 0, 1, 0, 0, 0)), (105, (.invokevirtual 64, 3, 0, 80, 0)), (108, (.ifCond .eq 7, 3, 0, 115, 0)), (111, (.iconst 1, 1, 1, 0, 0)), (112, (.goto 4, 3, 0, 116, 0)), (115, (.iconst 0, 1, 0, 0, 0)), (116, (.ireturn, 1, 0, 0, 0)), (117, (.aload_n 0, 1, 0, 0, 0)), (118, (.getfield 43, 3, 0, 1, 3)), (121, (.ireturn, 1, 0, 0, 0)), (122, (.aload_n 0, 1, 0, 0, 0)), (123, (.invokevirtual 67, 3, 0, 84, 0)), (126, (.ifCond .eq 7, 3, 0, 133, 0)), (129, (.iconst 1, 1, 1, 0, 0)), (130, (.goto 4, 3, 0, 134, 0)), (133, (.iconst 0, 1, 0, 0, 0)), (134, (.ireturn, 1, 0, 0, 0))]
/-- 87: DoorstepRides$Rider.<init>(IIIZ)V -/
def zK87 : List (Nat × zRI) := [(0, (.aload_n 0, 1, 0, 0, 0)), (1, (.invokespecial 3, 3, 0, 2000, 0)), (4, (.aload_n 0, 1, 0, 0, 0)), (5, (.iload_n 1, 1, 0, 0, 0)), (6, (.putfield 9, 3, 0, 2, 0)), (9, (.aload_n 0, 1, 0, 0, 0)), (10, (.iload_n 2, 1, 0, 0, 0)), (11, (.putfield 15, 3, 0, 2, 1)), (14, (.aload_n 0, 1, 0, 0, 0)), (15, (.iload_n 3, 1, 0, 0, 0)), (16, (.putfield 18, 3, 0, 2, 2)), (19, (.aload_n 0, 1, 0, 0, 0)), (20, (.iload_n 1, 1, 0, 0, 0)), (21, (.iconst 2, 1, 2, 0, 0)), (22, (.if_icmp .ne 7, 3, 0, 29, 0)), (25, (.iconst 2, 1, 2, 0, 0)), (26, (.goto 4, 3, 0, 30, 0)), (29, (.iconst 1, 1, 1, 0, 0)), (30, (.iload 4, 2, 0, 0, 0)), (32, (.ifCond .eq 7, 3, 0, 39, 0)), (35, (.iconst 1, 1, 1, 0, 0)), (36, (.goto 4, 3, 0, 40, 0)), (39, (.iconst 0, 1, 0, 0, 0)), (40, (.iadd, 1, 0, 0, 0)), (41, (.putfield 21, 3, 0, 2, 3)), (44, (.aload_n 0, 1, 0, 0, 0)), (45, (.iload_n 1, 1, 0, 0, 0)), (46, (.iconst 2, 1, 2, 0, 0)), (47, (.if_icmp .ne 8, 3, 0, 55, 0)), (50, (.bipush 6, 2, 6, 0, 0)), (52, (.goto 13, 3, 0, 65, 0)), (55, (.iload_n 1, 1, 0, 0, 0)), (56, (.iconst 1, 1, 1, 0, 0)), (57, (.if_icmp .ne 7, 3, 0, 64, 0)), (60, (.iconst 4, 1, 4, 0, 0)), (61, (.goto 4, 3, 0, 65, 0)), (64, (.iconst 2, 1, 2, 0, 0)), (65, (.putfield 24, 3, 0, 2, 4)), (68, (.return_, 1, 0, 0, 0))]
/-- 88: DoorstepRides$Search.<init>()V -/
def zK88 : List (Nat × zRI) := [(0, (.aload_n 0, 1, 0, 0, 0)), (1, (.invokespecial 1, 3, 0, 2000, 0)), (4, (.return_, 1, 0, 0, 0))]
/-- 89: DoorstepRides$Search.putBest(Ljava/util/ArrayList;LDoorstepRides$Stop;LDoorstepRides$Stop;I)Z -/
def zK89 : List (Nat × zRI) := [(0, (.aload_n 0, 1, 0, 0, 0)), (1, (.aconst_null, 1, 0, 0, 0)), (2, (.putfield 7, 3, 0, 3, 0)), (5, (.iconst 0, 1, 0, 0, 0)), (6, (.istore 5, 2, 0, 0, 0)), (8, (.iload 5, 2, 0, 0, 0)), (10, (.aload_n 1, 1, 0, 0, 0)), (11, (.invokevirtual 13, 3, 0, 3, 0)), (14, (.if_icmp .ge 26, 3, 0, 40, 0)), (17, (.aload_n 0, 1, 0, 0, 0)), (18, (.aload_n 1, 1, 0, 0, 0)), (19, (.iload 5, 2, 0, 0, 0)), (21, (.invokevirtual 19, 3, 0, 4, 0)), (24, (.checkcast 23, 3, 0, 5, 0)), (27, (.aload_n 2, 1, 0, 0, 0)), (28, (.aload_n 3, 1, 0, 0, 0)), (29, (.iload 4, 2, 0, 0, 0)), (31, (.invokevirtual 25, 3, 0, 90, 0)), (34, (.iinc 5 1, 3, 1, 0, 0)), (37, (.goto (-29), 3, 0, 8, 0)), (40, (.aload_n 0, 1, 0, 0, 0)), (41, (.getfield 7, 3, 0, 3, 0)), (44, (.ifnonnull 5, 3, 0, 49, 0)), (47, (.iconst 0, 1, 0, 0, 0)), (48, (.ireturn, 1, 0, 0, 0)), (49, (.aload_n 0, 1, 0, 0, 0)), (50, (.getfield 7, 3, 0, 3, 0)), (53, (.aload_n 2, 1, 0, 0, 0)), (54, (.aload_n 0, 1, 0, 0, 0)), (55, (.getfield 29, 3, 0, 3, 2)), (58, (.aload_n 3, 1, 0, 0, 0)), (59, (.aload_n 0, 1, 0, 0, 0)), (60, (.getfield 33, 3, 0, 3, 3)), (63, (.invokevirtual 36, 3, 0, 102, 0)), (66, (.iconst 1, 1, 1, 0, 0)), (67, (.ireturn, 1, 0, 0, 0))]
/-- 90: DoorstepRides$Search.tryRoute(LDoorstepRides$Vehicle;LDoorstepRides$Stop;LDoorstepRides$Stop;I)V -/
def zK90 : List (Nat × zRI) := [(0, (.aload_n 1, 1, 0, 0, 0)), (1, (.aload_n 2, 1, 0, 0, 0)), (2, (.getfield 40, 3, 0, 4, 0)), (5, (.getfield 46, 3, 0, 1, 0)), (8, (.invokevirtual 52, 3, 0, 97, 0)), (11, (.ifCond .ne 4, 3, 0, 15, 0)), (14, (.return_, 1, 0, 0, 0)), (15, (.aload_n 1, 1, 0, 0, 0)), (16, (.getfield 56, 3, 0, 5, 5)), (19, (.astore 5, 2, 0, 0, 0)), (21, (.aload_n 1, 1, 0, 0, 0)), (22, (.invokevirtual 60, 3, 0, 98, 0)), (25, (.istore 6, 2, 0, 0, 0)), (27, (.aload 5, 2, 0, 0, 0)), (29, (.invokevirtual 13, 3, 0, 3, 0)), (32, (.istore 7, 2, 0, 0, 0)), (34, (.aload_n 1, 1, 0, 0, 0)), (35, (.invokevirtual 63, 3, 0, 99, 0)), (38, (.istore 8, 2, 0, 0, 0)), (40, (.iload 8, 2, 0, 0, 0)), (42, (.iload 7, 2, 0, 0, 0)), (44, (.if_icmp .gt 107, 3, 0, 151, 0)), (47, (.aload 5, 2, 0, 0, 0)), (49, (.iload 8, 2, 0, 0, 0)), (51, (.aload_n 2, 1, 0, 0, 0)), (52, (.invokevirtual 66, 3, 0, 10, 0)), (55, (.iload 8, 2, 0, 0, 0)), (57, (.iconst 1, 1, 1, 0, 0)), (58, (.iadd, 1, 0, 0, 0)), (59, (.istore 9, 2, 0, 0, 0)), (61, (.iload 9, 2, 0, 0, 0)), (63, (.iload 7, 2, 0, 0, 0)), (65, (.iconst 1, 1, 1, 0, 0)), (66, (.iadd, 1, 0, 0, 0)), (67, (.if_icmp .gt 70, 3, 0, 137, 0)), (70, (.aload 5, 2, 0, 0, 0)), (72, (.iload 9, 2, 0, 0, 0)), (74, (.aload_n 3, 1, 0, 0, 0)), (75, (.invokevirtual 66, 3, 0, 10, 0)), (78, (.aload_n 1, 1, 0, 0, 0)), (79, (.invokevirtual 60, 3, 0, 98, 0)), (82, (.iload 6, 2, 0, 0, 0)), (84, (.isub, 1, 0, 0, 0)), (85, (.istore 10, 2, 0, 0, 0)), (87, (.aload_n 0, 1, 0, 0, 0)), (88, (.getfield 7, 3, 0, 3, 0)), (91, (.ifnull 12, 3, 0, 103, 0)), (94, (.iload 10, 2, 0, 0, 0)), (96, (.aload_n 0, 1, 0, 0, 0)), (97, (.getfield 70, 3, 0, 3, 1)), (100, (.if_icmp .ge 23, 3, 0, 123, 0)), (103, (.aload_n 1, 1, 0, 0, 0)), (104, (.iload 4, 2, 0, 0, 0)), (106, (.invokevirtual 73, 3, 0, 100, 0)), (109, (.ifCond .eq 14, 3, 0, 123, 0)), (112, (.aload_n 0, 1, 0, 0, 0)), (113, (.aload_n 1, 1, 0, 0, 0)), (114, (.iload 10, 2, 0, 0, 0)), (116, (.iload 8, 2, 0, 0, 0)), (118, (.iload 9, 2, 0, 0, 0)), (120, (.invokevirtual 77, 3, 0, 91, 0)), (123, (.aload 5, 2, 0, 0, 0)), (125, (.iload 9, 2, 0, 0, 0)), (127, (.invokevirtual 81, 3, 0, 13, 0)), (130, (.pop, 1, 0, 0, 0)), (131, (.iinc 9 1, 3, 1, 0, 0)), (134, (.goto (-73), 3, 0, 61, 0)), (137, (.aload 5, 2, 0, 0, 0)), (139, (.iload 8, 2, 0, 0, 0)), (141, (.invokevirtual 81, 3, 0, 13, 0)), (144, (.pop, 1, 0, 0, 0)), (145, (.iinc 8 1, 3, 1, 0, 0)), (148, (.goto (-108), 3, 0, 40, 0)), (151, (.return_, 1, 0, 0, 0))]
/-- 91: DoorstepRides$Search.keep(LDoorstepRides$Vehicle;III)V -/
def zK91 : List (Nat × zRI) := [(0, (.aload_n 0, 1, 0, 0, 0)), (1, (.aload_n 1, 1, 0, 0, 0)), (2, (.putfield 7, 3, 0, 3, 0)), (5, (.aload_n 0, 1, 0, 0, 0)), (6, (.iload_n 2, 1, 0, 0, 0)), (7, (.putfield 70, 3, 0, 3, 1)), (10, (.aload_n 0, 1, 0, 0, 0)), (11, (.iload_n 3, 1, 0, 0, 0)), (12, (.putfield 29, 3, 0, 3, 2)), (15, (.aload_n 0, 1, 0, 0, 0)), (16, (.iload 4, 2, 0, 0, 0)), (18, (.putfield 33, 3, 0, 3, 3)), (21, (.return_, 1, 0, 0, 0))]
/-- 92: DoorstepRides$Stop.<init>(LDoorstepRides$Request;Z)V -/
def zK92 : List (Nat × zRI) := [(0, (.aload_n 0, 1, 0, 0, 0)), (1, (.invokespecial 3, 3, 0, 2000, 0)), (4, (.aload_n 0, 1, 0, 0, 0)), (5, (.aload_n 1, 1, 0, 0, 0)), (6, (.putfield 9, 3, 0, 4, 0)), (9, (.aload_n 0, 1, 0, 0, 0)), (10, (.iload_n 2, 1, 0, 0, 0)), (11, (.putfield 15, 3, 0, 4, 1)), (14, (.aload_n 0, 1, 0, 0, 0)), (15, (.iload_n 2, 1, 0, 0, 0)), (16, (.ifCond .eq 10, 3, 0, 26, 0)), (19, (.aload_n 1, 1, 0, 0, 0)), (20, (.getfield 19, 3, 0, 1, 2)), (23, (.goto 7, 3, 0, 30, 0)), (26, (.aload_n 1, 1, 0, 0, 0)), (27, (.getfield 25, 3, 0, 1, 1)), (30, (.putfield 28, 3, 0, 4, 2)), (33, (.return_, 1, 0, 0, 0))]
/-- 93: DoorstepRides$Stop.isInTime()Z -/
def zK93 : List (Nat × zRI) := [(0, (.aload_n 0, 1, 0, 0, 0)), (1, (.getfield 40, 3, 0, 4, 3)), (4, (.aload_n 0, 1, 0, 0, 0)), (5, (.getfield 15, 3, 0, 4, 1)), (8, (.ifCond .eq 13, 3, 0, 21, 0)), (11, (.aload_n 0, 1, 0, 0, 0)), (12, (.getfield 9, 3, 0, 4, 0)), (15, (.invokevirtual 43, 3, 0, 85, 0)), (18, (.goto 13, 3, 0, 31, 0)), (21, (.aload_n 0, 1, 0, 0, 0)), (22, (.getfield 9, 3, 0, 4, 0)), (25, (.getfield 47, 3, 0, 1, 7)), (28, (.bipush 20, 2, 20, 0, 0)), (30, (.iadd, 1, 0, 0, 0)), (31, (.if_icmp .gt 7, 3, 0, 38, 0)), (34, (.iconst 1, 1, 1, 0, 0)), (35, (.goto 4, 3, 0, 39, 0)), (38, (.iconst 0, 1, 0, 0, 0)), (39, (.ireturn, 1, 0, 0, 0))]
/-- 94: DoorstepRides$Stop.isChairs()Z -/
def zK94 : List (Nat × zRI) := [(0, (.aload_n 0, 1, 0, 0, 0)), (1, (.getfield 9, 3, 0, 4, 0)), (4, (.getfield 31, 3, 0, 1, 0)), (7, (.getfield 35, 3, 0, 2, 0)), (10, (.iconst 2, 1, 2, 0, 0)), (11, (.if_icmp .ne 7, 3, 0, 18, 0)), (14, (.iconst 1, 1, 1, 0, 0)), (15, (.goto 4, 3, 0, 19, 0)), (18, (.iconst 0, 1, 0, 0, 0)), (19, (.ireturn, 1, 0, 0, 0))]
/-- 95: DoorstepRides$Stop.hold(I)V -/
def zK95 : List (Nat × zRI) := [(0, (.aload_n 0, 1, 0, 0, 0)), (1, (.dup, 1, 0, 0, 0)), (2, (.getfield 40, 3, 0, 4, 3)), (5, (.iload_n 1, 1, 0, 0, 0)), (6, (.iadd, 1, 0, 0, 0)), (7, (.putfield 40, 3, 0, 4, 3)), (10, (.aload_n 0, 1, 0, 0, 0)), (11, (.dup, 1, 0, 0, 0)), (12, (.getfield 50, 3, 0, 4, 4)), (15, (.iload_n 1, 1, 0, 0, 0)), (16, (.iadd, 1, 0, 0, 0)), (17, (.putfield 50, 3, 0, 4, 4)), (20, (.return_, 1, 0, 0, 0))]
/-- 96: DoorstepRides$Vehicle.<init>(IIIII)V -/
def zK96 : List (Nat × zRI) := [(0, (.aload_n 0, 1, 0, 0, 0)), (1, (.invokespecial 3, 3, 0, 2000, 0)), (4, (.aload_n 0, 1, 0, 0, 0)), (5, (.new 9, 3, 0, 8, 0)), (8, (.dup, 1, 0, 0, 0)), (9, (.invokespecial 11, 3, 0, 2, 1)), (12, (.putfield 12, 3, 0, 5, 5)), (15, (.aload_n 0, 1, 0, 0, 0)), (16, (.new 9, 3, 0, 8, 0)), (19, (.dup, 1, 0, 0, 0)), (20, (.invokespecial 11, 3, 0, 2, 1)), (23, (.putfield 18, 3, 0, 5, 6)), (26, (.aload_n 0, 1, 0, 0, 0)), (27, (.new 9, 3, 0, 8, 0)), (30, (.dup, 1, 0, 0, 0)), (31, (.invokespecial 11, 3, 0, 2, 1)), (34, (.putfield 21, 3, 0, 5, 7)), (37, (.aload_n 0, 1, 0, 0, 0)), (38, (.new 24, 3, 0, 0, 0)), (41, (.dup, 1, 0, 0, 0)), (42, (.invokespecial 26, 3, 0, 73, 4)), (45, (.putfield 27, 3, 0, 5, 8)), (48, (.aload_n 0, 1, 0, 0, 0)), (49, (.iconst 1, 1, 1, 0, 0)), (50, (.putfield 31, 3, 0, 5, 9)), (53, (.aload_n 0, 1, 0, 0, 0)), (54, (.iload_n 1, 1, 0, 0, 0)), (55, (.putfield 35, 3, 0, 5, 0)), (58, (.aload_n 0, 1, 0, 0, 0)), (59, (.iload_n 2, 1, 0, 0, 0)), (60, (.putfield 39, 3, 0, 5, 1)), (63, (.aload_n 0, 1, 0, 0, 0)), (64, (.iload_n 3, 1, 0, 0, 0)), (65, (.putfield 42, 3, 0, 5, 2)), (68, (.aload_n 0, 1, 0, 0, 0)), (69, (.iload 4, 2, 0, 0, 0)), (71, (.putfield 45, 3, 0, 5, 3)), (74, (.aload_n 0, 1, 0, 0, 0)), (75, (.iload 5, 2, 0, 0, 0)), (77, (.putfield 48, 3, 0, 5, 4)), (80, (.aload_n 0, 1, 0, 0, 0)), (81, (.iload_n 2, 1, 0, 0, 0)), (82, (.putfield 51, 3, 0, 5, 11)), (85, (.return_, 1, 0, 0, 0))]
/-- 97: DoorstepRides$Vehicle.mayPut(LDoorstepRides$Rider;)Z -/
def zK97 : List (Nat × zRI) := [(0, (.aload_n 1, 1, 0, 0, 0)), (1, (.getfield 84, 3, 0, 2, 0)), (4, (.iconst 2, 1, 2, 0, 0)), (5, (.if_icmp .ne 21, 3, 0, 26, 0)), (8, (.aload_n 0, 1, 0, 0, 0)), (9, (.getfield 31, 3, 0, 5, 9)), (12, (.ifCond .eq 18, 3, 0, 30, 0)), (15, (.aload_n 0, 1, 0, 0, 0)), (16, (.getfield 48, 3, 0, 5, 4)), (19, (.aload_n 1, 1, 0, 0, 0)), (20, (.getfield 89, 3, 0, 2, 1)), (23, (.if_icmp .lt 7, 3, 0, 30, 0)), (26, (.iconst 1, 1, 1, 0, 0)), (27, (.goto 4, 3, 0, 31, 0)), (30, (.iconst 0, 1, 0, 0, 0)), (31, (.istore_n 2, 1, 0, 0, 0)), (32, (.iload_n 2, 1, 0, 0, 0)), (33, (.ifCond .eq 21, 3, 0, 54, 0)), (36, (.aload_n 0, 1, 0, 0, 0)), (37, (.getfield 12, 3, 0, 5, 5)), (40, (.invokevirtual 77, 3, 0, 3, 0)), (43, (.iconst 2, 1, 2, 0, 0)), (44, (.iadd, 1, 0, 0, 0)), (45, (.bipush 16, 2, 16, 0, 0)), (47, (.if_icmp .gt 7, 3, 0, 54, 0)), (50, (.iconst 1, 1, 1, 0, 0)), (51, (.goto 4, 3, 0, 55, 0)), (54, (.iconst 0, 1, 0, 0, 0)), (55, (.ireturn, 1, 0, 0, 0))]
/-- 98: DoorstepRides$Vehicle.driveMinutes()I -/
def zK98 : List (Nat × zRI) := [(0, (.aload_n 0, 1, 0, 0, 0)), (1, (.getfield 51, 3, 0, 5, 11)), (4, (.istore_n 1, 1, 0, 0, 0)), (5, (.iconst 0, 1, 0, 0, 0)), (6, (.istore_n 2, 1, 0, 0, 0)), (7, (.iconst 0, 1, 0, 0, 0)), (8, (.istore_n 3, 1, 0, 0, 0)), (9, (.iload_n 3, 1, 0, 0, 0)), (10, (.aload_n 0, 1, 0, 0, 0)), (11, (.getfield 12, 3, 0, 5, 5)), (14, (.invokevirtual 77, 3, 0, 3, 0)), (17, (.if_icmp .ge 45, 3, 0, 62, 0)), (20, (.iload_n 2, 1, 0, 0, 0)), (21, (.iload_n 1, 1, 0, 0, 0)), (22, (.aload_n 0, 1, 0, 0, 0)), (23, (.getfield 12, 3, 0, 5, 5)), (26, (.iload_n 3, 1, 0, 0, 0)), (27, (.invokevirtual 67, 3, 0, 4, 0)), (30, (.checkcast 71, 3, 0, 4, 0)), (33, (.getfield 99, 3, 0, 4, 2)), (36, (.invokestatic 100, 3, 0, 31, 5)), (39, (.iadd, 1, 0, 0, 0)), (40, (.istore_n 2, 1, 0, 0, 0)), (41, (.aload_n 0, 1, 0, 0, 0)), (42, (.getfield 12, 3, 0, 5, 5)), (45, (.iload_n 3, 1, 0, 0, 0)), (46, (.invokevirtual 67, 3, 0, 4, 0)), (49, (.checkcast 71, 3, 0, 4, 0)), (52, (.getfield 99, 3, 0, 4, 2)), (55, (.istore_n 1, 1, 0, 0, 0)), (56, (.iinc 3 1, 3, 1, 0, 0)), (59, (.goto (-50), 3, 0, 9, 0)), (62, (.iconst 2, 1, 2, 0, 0)), (63, (.iload_n 2, 1, 0, 0, 0)), (64, (.iload_n 1, 1, 0, 0, 0)), (65, (.aload_n 0, 1, 0, 0, 0)), (66, (.getfield 39, 3, 0, 5, 1)), (69, (.invokestatic 100, 3, 0, 31, 5)), (72, (.iadd, 1, 0, 0, 0)), (73, (.imul, 1, 0, 0, 0)), (74, (.ireturn, 1, 0, 0, 0))]
/-- 99: DoorstepRides$Vehicle.firstOpen()I -/
def zK99 : List (Nat × zRI) := [(0, (.aload_n 0, 1, 0, 0, 0)), (1, (.getfield 57, 3, 0, 5, 10)), (4, (.ifCond .eq 7, 3, 0, 11, 0)), (7, (.iconst 1, 1, 1, 0, 0)), (8, (.goto 4, 3, 0, 12, 0)), (11, (.iconst 0, 1, 0, 0, 0)), (12, (.ireturn, 1, 0, 0, 0))]
/-- 100: DoorstepRides$Vehicle.isRight(I)Z -/
def zK100 : List (Nat × zRI) := [(0, (.aload_n 0, 1, 0, 0, 0)), (1, (.getfield 27, 3, 0, 5, 8)), (4, (.aload_n 0, 1, 0, 0, 0)), (5, (.iload_n 1, 1, 0, 0, 0)), (6, (.invokevirtual 104, 3, 0, 74, 0)), (9, (.iconst 0, 1, 0, 0, 0)), (10, (.istore_n 2, 1, 0, 0, 0)), (11, (.iload_n 2, 1, 0, 0, 0)), (12, (.aload_n 0, 1, 0, 0, 0)), (13, (.getfield 12, 3, 0, 5, 5)), (16, (.invokevirtual 77, 3, 0, 3, 0)), (19, (.if_icmp .ge 73, 3, 0, 92, 0)), (22, (.aload_n 0, 1, 0, 0, 0)), (23, (.getfield 12, 3, 0, 5, 5)), (26, (.iload_n 2, 1, 0, 0, 0)), (27, (.invokevirtual 67, 3, 0, 4, 0)), (30, (.checkcast 71, 3, 0, 4, 0)), (33, (.astore_n 3, 1, 0, 0, 0)), (34, (.aload_n 0, 1, 0, 0, 0)), (35, (.getfield 27, 3, 0, 5, 8)), (38, (.aload_n 3, 1, 0, 0, 0)), (39, (.iload_n 2, 1, 0, 0, 0)), (40, (.ifCond .ne 14, 3, 0, 54, 0)), (43, (.aload_n 0, 1, 0, 0, 0)), (44, (.getfield 57, 3, 0, 5, 10)), (47, (.ifCond .eq 7, 3, 0, 54, 0)), (50, (.iconst 1, 1, 1, 0, 0)), (51, (.goto 4, 3, 0, 55, 0)), (54, (.iconst 0, 1, 0, 0, 0)), (55, (.invokevirtual 108, 3, 0, 75, 0)), (58, (.aload_n 3, 1, 0, 0, 0)), (59, (.invokevirtual 116, 3, 0, 93, 0)), (62, (.ifCond .eq 22, 3, 0, 84, 0)), (65, (.aload_n 0, 1, 0, 0, 0)), (66, (.getfield 27, 3, 0, 5, 8)), (69, (.aload_n 3, 1, 0, 0, 0)), (70, (.aload_n 0, 1, 0, 0, 0)), (71, (.getfield 42, 3, 0, 5, 2)), (74, (.aload_n 0, 1, 0, 0, 0)), (75, (.getfield 45, 3, 0, 5, 3)), (78, (.invokevirtual 119, 3, 0, 76, 0)), (81, (.ifCond .ne 5, 3, 0, 86, 0)), (84, (.iconst 0, 1, 0, 0, 0)), (85, (.ireturn, 1, 0, 0, 0)), (86, (.iinc 2 1, 3, 1, 0, 0)), (89, (.goto (-78), 3, 0, 11, 0)), (92, (.aload_n 0, 1, 0, 0, 0)), (93, (.getfield 12, 3, 0, 5, 5)), (96, (.invokevirtual 63, 3, 0, 15, 0)), (99, (.ifCond .ne 20, 3, 0, 119, 0)), (102, (.aload_n 0, 1, 0, 0, 0)), (103, (.getfield 27, 3, 0, 5, 8)), (106, (.aload_n 0, 1, 0, 0, 0)), (107, (.getfield 39, 3, 0, 5, 1)), (110, (.invokevirtual 112, 3, 0, 78, 0)), (113, (.sipush 600, 3, 600, 0, 0)), (116, (.if_icmp .gt 7, 3, 0, 123, 0)), (119, (.iconst 1, 1, 1, 0, 0)), (120, (.goto 4, 3, 0, 124, 0)), (123, (.iconst 0, 1, 0, 0, 0)), (124, (.ireturn, 1, 0, 0, 0))]
/-- 101: DoorstepRides$Vehicle.seatsTaken()I -/
def zK101 : List (Nat × zRI) := [(0, (.iconst 0, 1, 0, 0, 0)), (1, (.istore_n 1, 1, 0, 0, 0)), (2, (.iconst 0, 1, 0, 0, 0)), (3, (.istore_n 2, 1, 0, 0, 0)), (4, (.iload_n 2, 1, 0, 0, 0)), (5, (.aload_n 0, 1, 0, 0, 0)), (6, (.getfield 21, 3, 0, 5, 7)), (9, (.invokevirtual 77, 3, 0, 3, 0)), (12, (.if_icmp .ge 29, 3, 0, 41, 0)), (15, (.iload_n 1, 1, 0, 0, 0)), (16, (.aload_n 0, 1, 0, 0, 0)), (17, (.getfield 21, 3, 0, 5, 7)), (20, (.iload_n 2, 1, 0, 0, 0)), (21, (.invokevirtual 67, 3, 0, 4, 0)), (24, (.checkcast 136, 3, 0, 1, 0)), (27, (.getfield 138, 3, 0, 1, 0)), (30, (.getfield 142, 3, 0, 2, 3)), (33, (.iadd, 1, 0, 0, 0)), (34, (.istore_n 1, 1, 0, 0, 0)), (35, (.iinc 2 1, 3, 1, 0, 0)), (38, (.goto (-34), 3, 0, 4, 0)), (41, (.iload_n 1, 1, 0, 0, 0)), (42, (.ireturn, 1, 0, 0, 0))]
/-- 102: DoorstepRides$Vehicle.putIn(LDoorstepRides$Stop;ILDoorstepRides$Stop;I)V -/
def zK102 : List (Nat × zRI) := [(0, (.iload_n 2, 1, 0, 0, 0)), (1, (.ifCond .lt 34, 3, 0, 35, 0)), (4, (.iload_n 2, 1, 0, 0, 0)), (5, (.aload_n 0, 1, 0, 0, 0)), (6, (.getfield 12, 3, 0, 5, 5)), (9, (.invokevirtual 77, 3, 0, 3, 0)), (12, (.if_icmp .gt 23, 3, 0, 35, 0)), (15, (.iload 4, 2, 0, 0, 0)), (17, (.iload_n 2, 1, 0, 0, 0)), (18, (.if_icmp .le 17, 3, 0, 35, 0)), (21, (.iload 4, 2, 0, 0, 0)), (23, (.aload_n 0, 1, 0, 0, 0)), (24, (.getfield 12, 3, 0, 5, 5)), (27, (.invokevirtual 77, 3, 0, 3, 0)), (30, (.iconst 1, 1, 1, 0, 0)), (31, (.iadd, 1, 0, 0, 0)), (32, (.if_icmp .le 4, 3, 0, 36, 0)), (35, (.return_, 1, 0, 0, 0)), (36, (.aload_n 0, 1, 0, 0, 0)), (37, (.getfield 12, 3, 0, 5, 5)), (40, (.iload_n 2, 1, 0, 0, 0)), (41, (.aload_n 1, 1, 0, 0, 0)), (42, (.invokevirtual 148, 3, 0, 10, 0)), (45, (.aload_n 0, 1, 0, 0, 0)), (46, (.getfield 12, 3, 0, 5, 5)), (49, (.iload 4, 2, 0, 0, 0)), (51, (.aload_n 3, 1, 0, 0, 0)), (52, (.invokevirtual 148, 3, 0, 10, 0)), (55, (.aload_n 1, 1, 0, 0, 0)), (56, (.getfield 73, 3, 0, 4, 0)), (59, (.aload_n 0, 1, 0, 0, 0)), (60, (.getfield 35, 3, 0, 5, 0)), (63, (.putfield 151, 3, 0, 1, 8)), (66, (.return_, 1, 0, 0, 0))]
/-- 103: DoorstepRides$Vehicle.hasLeftFor(LDoorstepRides$Request;)Z -/
def zK103 : List (Nat × zRI) := [(0, (.aload_n 0, 1, 0, 0, 0)), (1, (.getfield 57, 3, 0, 5, 10)), (4, (.ifCond .eq 35, 3, 0, 39, 0)), (7, (.aload_n 0, 1, 0, 0, 0)), (8, (.getfield 12, 3, 0, 5, 5)), (11, (.invokevirtual 63, 3, 0, 15, 0)), (14, (.ifCond .ne 25, 3, 0, 39, 0)), (17, (.aload_n 0, 1, 0, 0, 0)), (18, (.getfield 12, 3, 0, 5, 5)), (21, (.iconst 0, 1, 0, 0, 0)), (22, (.invokevirtual 67, 3, 0, 4, 0)), (25, (.checkcast 71, 3, 0, 4, 0)), (28, (.getfield 73, 3, 0, 4, 0)), (31, (.aload_n 1, 1, 0, 0, 0)), (32, (.if_acmp .ne 7, 3, 0, 39, 0)), (35, (.iconst 1, 1, 1, 0, 0)), (36, (.goto 4, 3, 0, 40, 0)), (39, (.iconst 0, 1, 0, 0, 0)), (40, (.ireturn, 1, 0, 0, 0))]
/-- 104: DoorstepRides$Vehicle.takeOutStopsOf(LDoorstepRides$Request;)V -/
def zK104 : List (Nat × zRI) := [(0, (.aload_n 0, 1, 0, 0, 0)), (1, (.getfield 12, 3, 0, 5, 5)), (4, (.invokevirtual 77, 3, 0, 3, 0)), (7, (.iconst 1, 1, 1, 0, 0)), (8, (.isub, 1, 0, 0, 0)), (9, (.istore_n 2, 1, 0, 0, 0)), (10, (.iload_n 2, 1, 0, 0, 0)), (11, (.ifCond .lt 47, 3, 0, 58, 0)), (14, (.iload_n 2, 1, 0, 0, 0)), (15, (.aload_n 0, 1, 0, 0, 0)), (16, (.getfield 12, 3, 0, 5, 5)), (19, (.invokevirtual 77, 3, 0, 3, 0)), (22, (.if_icmp .ge 30, 3, 0, 52, 0)), (25, (.aload_n 0, 1, 0, 0, 0)), (26, (.getfield 12, 3, 0, 5, 5)), (29, (.iload_n 2, 1, 0, 0, 0)), (30, (.invokevirtual 67, 3, 0, 4, 0)), (33, (.checkcast 71, 3, 0, 4, 0)), (36, (.getfield 73, 3, 0, 4, 0)), (39, (.aload_n 1, 1, 0, 0, 0)), (40, (.if_acmp .ne 12, 3, 0, 52, 0)), (43, (.aload_n 0, 1, 0, 0, 0)), (44, (.getfield 12, 3, 0, 5, 5)), (47, (.iload_n 2, 1, 0, 0, 0)), (48, (.invokevirtual 154, 3, 0, 13, 0)), (51, (.pop, 1, 0, 0, 0)), (52, (.iinc 2 (-1), 3, (-1), 0, 0)), (55, (.goto (-45), 3, 0, 10, 0)), (58, (.return_, 1, 0, 0, 0))]
/-- 105: DoorstepRides$Vehicle.finishStop(I)V -/
def zK105 : List (Nat × zRI) := [(0, (.aload_n 0, 1, 0, 0, 0)), (1, (.getfield 57, 3, 0, 5, 10)), (4, (.ifCond .eq 31, 3, 0, 35, 0)), (7, (.aload_n 0, 1, 0, 0, 0)), (8, (.getfield 12, 3, 0, 5, 5)), (11, (.invokevirtual 63, 3, 0, 15, 0)), (14, (.ifCond .ne 21, 3, 0, 35, 0)), (17, (.aload_n 0, 1, 0, 0, 0)), (18, (.getfield 12, 3, 0, 5, 5)), (21, (.iconst 0, 1, 0, 0, 0)), (22, (.invokevirtual 67, 3, 0, 4, 0)), (25, (.checkcast 71, 3, 0, 4, 0)), (28, (.getfield 169, 3, 0, 4, 4)), (31, (.iload_n 1, 1, 0, 0, 0)), (32, (.if_icmp .eq 4, 3, 0, 36, 0)), (35, (.return_, 1, 0, 0, 0)), (36, (.aload_n 0, 1, 0, 0, 0)), (37, (.getfield 12, 3, 0, 5, 5)), (40, (.iconst 0, 1, 0, 0, 0)), (41, (.invokevirtual 67, 3, 0, 4, 0)), (44, (.checkcast 71, 3, 0, 4, 0)), (47, (.astore_n 2, 1, 0, 0, 0)), (48, (.aload_n 2, 1, 0, 0, 0)), (49, (.getfield 81, 3, 0, 4, 1)), (52, (.ifCond .eq 41, 3, 0, 93, 0)), (55, (.aload_n 2, 1, 0, 0, 0)), (56, (.invokevirtual 186, 3, 0, 94, 0)), (59, (.ifCond .eq 34, 3, 0, 93, 0)), (62, (.aload_n 0, 1, 0, 0, 0)), (63, (.getfield 31, 3, 0, 5, 9)), (66, (.ifCond .ne 27, 3, 0, 93, 0)), (69, (.aload_n 2, 1, 0, 0, 0)), (70, (.getfield 189, 3, 0, 4, 5)), (73, (.ifCond .ne 20, 3, 0, 93, 0)), (76, (.aload_n 2, 1, 0, 0, 0)), (77, (.iconst 1, 1, 1, 0, 0)), (78, (.putfield 189, 3, 0, 4, 5)), (81, (.aload_n 2, 1, 0, 0, 0)), (82, (.dup, 1, 0, 0, 0)), (83, (.getfield 169, 3, 0, 4, 4)), (86, (.bipush 30, 2, 30, 0, 0)), (88, (.iadd, 1, 0, 0, 0)), (89, (.putfield 169, 3, 0, 4, 4)), (92, (.return_, 1, 0, 0, 0)), (93, (.aload_n 0, 1, 0, 0, 0)), (94, (.getfield 12, 3, 0, 5, 5)), (97, (.iconst 0, 1, 0, 0, 0)), (98, (.invokevirtual 154, 3, 0, 13, 0)), (101, (.pop, 1, 0, 0, 0)), (102, (.aload_n 0, 1, 0, 0, 0)), (103, (.getfield 18, 3, 0, 5, 6)), (106, (.aload_n 2, 1, 0, 0, 0)), (107, (.invokevirtual 95, 3, 0, 6, 0)), (110, (.pop, 1, 0, 0, 0)), (111, (.aload_n 0, 1, 0, 0, 0)), (112, (.iconst 0, 1, 0, 0, 0)), (113, (.putfield 57, 3, 0, 5, 10)), (116, (.aload_n 0, 1, 0, 0, 0)), (117, (.aload_n 2, 1, 0, 0, 0)), (118, (.getfield 99, 3, 0, 4, 2)), (121, (.putfield 51, 3, 0, 5, 11)), (124, (.aload_n 0, 1, 0, 0, 0)), (125, (.iload_n 1, 1, 0, 0, 0)), (126, (.putfield 60, 3, 0, 5, 12)), (129, (.aload_n 2, 1, 0, 0, 0)), (130, (.getfield 81, 3, 0, 4, 1)), (133, (.ifCond .eq 11, 3, 0, 144, 0)), (136, (.aload_n 0, 1, 0, 0, 0)), (137, (.aload_n 2, 1, 0, 0, 0)), (138, (.invokevirtual 192, 3, 0, 106, 0)), (141, (.goto 8, 3, 0, 149, 0)), (144, (.aload_n 0, 1, 0, 0, 0)), (145, (.aload_n 2, 1, 0, 0, 0)), (146, (.invokevirtual 196, 3, 0, 107, 0)), (149, (.return_, 1, 0, 0, 0))]
/-- 106: DoorstepRides$Vehicle.dropIsDone(LDoorstepRides$Stop;)V -/
def zK106 : List (Nat × zRI) := [(0, (.aload_n 1, 1, 0, 0, 0)), (1, (.getfield 73, 3, 0, 4, 0)), (4, (.aload_n 1, 1, 0, 0, 0)), (5, (.getfield 180, 3, 0, 4, 3)), (8, (.putfield 199, 3, 0, 1, 12)), (11, (.aload_n 1, 1, 0, 0, 0)), (12, (.getfield 73, 3, 0, 4, 0)), (15, (.iconst 2, 1, 2, 0, 0)), (16, (.putfield 145, 3, 0, 1, 5)), (19, (.aload_n 0, 1, 0, 0, 0)), (20, (.getfield 21, 3, 0, 5, 7)), (23, (.invokevirtual 77, 3, 0, 3, 0)), (26, (.iconst 1, 1, 1, 0, 0)), (27, (.isub, 1, 0, 0, 0)), (28, (.istore_n 2, 1, 0, 0, 0)), (29, (.iload_n 2, 1, 0, 0, 0)), (30, (.ifCond .lt 44, 3, 0, 74, 0)), (33, (.iload_n 2, 1, 0, 0, 0)), (34, (.aload_n 0, 1, 0, 0, 0)), (35, (.getfield 21, 3, 0, 5, 7)), (38, (.invokevirtual 77, 3, 0, 3, 0)), (41, (.if_icmp .ge 27, 3, 0, 68, 0)), (44, (.aload_n 0, 1, 0, 0, 0)), (45, (.getfield 21, 3, 0, 5, 7)), (48, (.iload_n 2, 1, 0, 0, 0)), (49, (.invokevirtual 67, 3, 0, 4, 0)), (52, (.aload_n 1, 1, 0, 0, 0)), (53, (.getfield 73, 3, 0, 4, 0)), (56, (.if_acmp .ne 12, 3, 0, 68, 0)), (59, (.aload_n 0, 1, 0, 0, 0)), (60, (.getfield 21, 3, 0, 5, 7)), (63, (.iload_n 2, 1, 0, 0, 0)), (64, (.invokevirtual 154, 3, 0, 13, 0)), (67, (.pop, 1, 0, 0, 0)), (68, (.iinc 2 (-1), 3, (-1), 0, 0)), (71, (.goto (-42), 3, 0, 29, 0)), (74, (.return_, 1, 0, 0, 0))]
/-- 107: DoorstepRides$Vehicle.pickIsDone(LDoorstepRides$Stop;)V -/
def zK107 : List (Nat × zRI) := [(0, (.aload_n 1, 1, 0, 0, 0)), (1, (.getfield 73, 3, 0, 4, 0)), (4, (.astore_n 2, 1, 0, 0, 0)), (5, (.aload_n 2, 1, 0, 0, 0)), (6, (.aload_n 1, 1, 0, 0, 0)), (7, (.getfield 180, 3, 0, 4, 3)), (10, (.putfield 202, 3, 0, 1, 10)), (13, (.aload_n 2, 1, 0, 0, 0)), (14, (.aload_n 1, 1, 0, 0, 0)), (15, (.getfield 169, 3, 0, 4, 4)), (18, (.putfield 205, 3, 0, 1, 11)), (21, (.aload_n 2, 1, 0, 0, 0)), (22, (.getfield 208, 3, 0, 1, 13)), (25, (.ifCond .eq 11, 3, 0, 36, 0)), (28, (.aload_n 2, 1, 0, 0, 0)), (29, (.iconst 3, 1, 3, 0, 0)), (30, (.putfield 145, 3, 0, 1, 5)), (33, (.goto 40, 3, 0, 73, 0)), (36, (.aload_n 1, 1, 0, 0, 0)), (37, (.invokevirtual 186, 3, 0, 94, 0)), (40, (.ifCond .eq 18, 3, 0, 58, 0)), (43, (.aload_n 0, 1, 0, 0, 0)), (44, (.getfield 31, 3, 0, 5, 9)), (47, (.ifCond .ne 11, 3, 0, 58, 0)), (50, (.aload_n 2, 1, 0, 0, 0)), (51, (.iconst 5, 1, 5, 0, 0)), (52, (.putfield 145, 3, 0, 1, 5)), (55, (.goto 18, 3, 0, 73, 0)), (58, (.aload_n 2, 1, 0, 0, 0)), (59, (.iconst 1, 1, 1, 0, 0)), (60, (.putfield 145, 3, 0, 1, 5)), (63, (.aload_n 0, 1, 0, 0, 0)), (64, (.getfield 21, 3, 0, 5, 7)), (67, (.aload_n 2, 1, 0, 0, 0)), (68, (.invokevirtual 95, 3, 0, 6, 0)), (71, (.pop, 1, 0, 0, 0)), (72, (.return_, 1, 0, 0, 0)), (73, (.aload_n 0, 1, 0, 0, 0)), (74, (.aload_n 2, 1, 0, 0, 0)), (75, (.invokevirtual 211, 3, 0, 104, 0)), (78, (.return_, 1, 0, 0, 0))]
/-- 108: DoorstepRides$Vehicle.leaveIfDue(I)V -/
def zK108 : List (Nat × zRI) := [(0, (.aload_n 0, 1, 0, 0, 0)), (1, (.getfield 57, 3, 0, 5, 10)), (4, (.ifCond .ne 21, 3, 0, 25, 0)), (7, (.aload_n 0, 1, 0, 0, 0)), (8, (.getfield 60, 3, 0, 5, 12)), (11, (.iload_n 1, 1, 0, 0, 0)), (12, (.if_icmp .gt 13, 3, 0, 25, 0)), (15, (.aload_n 0, 1, 0, 0, 0)), (16, (.getfield 12, 3, 0, 5, 5)), (19, (.invokevirtual 63, 3, 0, 15, 0)), (22, (.ifCond .eq 4, 3, 0, 26, 0)), (25, (.return_, 1, 0, 0, 0)), (26, (.aload_n 0, 1, 0, 0, 0)), (27, (.getfield 12, 3, 0, 5, 5)), (30, (.iconst 0, 1, 0, 0, 0)), (31, (.invokevirtual 67, 3, 0, 4, 0)), (34, (.checkcast 71, 3, 0, 4, 0)), (37, (.astore_n 2, 1, 0, 0, 0)), (38, (.iconst 2, 1, 2, 0, 0)), (39, (.aload_n 0, 1, 0, 0, 0)), (40, (.getfield 51, 3, 0, 5, 11)), (43, (.aload_n 2, 1, 0, 0, 0)), (44, (.getfield 99, 3, 0, 4, 2)), (47, (.invokestatic 100, 3, 0, 31, 5)), (50, (.imul, 1, 0, 0, 0)), (51, (.istore_n 3, 1, 0, 0, 0)), (52, (.aload_n 2, 1, 0, 0, 0)), (53, (.getfield 81, 3, 0, 4, 1)), (56, (.ifCond .ne 16, 3, 0, 72, 0)), (59, (.aload_n 2, 1, 0, 0, 0)), (60, (.getfield 73, 3, 0, 4, 0)), (63, (.getfield 177, 3, 0, 1, 7)), (66, (.iload_n 3, 1, 0, 0, 0)), (67, (.isub, 1, 0, 0, 0)), (68, (.iload_n 1, 1, 0, 0, 0)), (69, (.if_icmp .gt 34, 3, 0, 103, 0)), (72, (.aload_n 0, 1, 0, 0, 0)), (73, (.iconst 1, 1, 1, 0, 0)), (74, (.putfield 57, 3, 0, 5, 10)), (77, (.aload_n 2, 1, 0, 0, 0)), (78, (.iload_n 1, 1, 0, 0, 0)), (79, (.iload_n 3, 1, 0, 0, 0)), (80, (.iadd, 1, 0, 0, 0)), (81, (.putfield 180, 3, 0, 4, 3)), (84, (.aload_n 2, 1, 0, 0, 0)), (85, (.aload_n 2, 1, 0, 0, 0)), (86, (.getfield 180, 3, 0, 4, 3)), (89, (.aload_n 2, 1, 0, 0, 0)), (90, (.getfield 73, 3, 0, 4, 0)), (93, (.getfield 138, 3, 0, 1, 0)), (96, (.getfield 183, 3, 0, 2, 4)), (99, (.iadd, 1, 0, 0, 0)), (100, (.putfield 169, 3, 0, 4, 4)), (103, (.return_, 1, 0, 0, 0))]
/-- 109: DoorstepRides$Vehicle.beginDay()V -/
def zK109 : List (Nat × zRI) := [(0, (.aload_n 0, 1, 0, 0, 0)), (1, (.getfield 12, 3, 0, 5, 5)), (4, (.invokevirtual 54, 3, 0, 12, 0)), (7, (.aload_n 0, 1, 0, 0, 0)), (8, (.getfield 18, 3, 0, 5, 6)), (11, (.invokevirtual 54, 3, 0, 12, 0)), (14, (.aload_n 0, 1, 0, 0, 0)), (15, (.getfield 21, 3, 0, 5, 7)), (18, (.invokevirtual 54, 3, 0, 12, 0)), (21, (.aload_n 0, 1, 0, 0, 0)), (22, (.iconst 0, 1, 0, 0, 0)), (23, (.putfield 57, 3, 0, 5, 10)), (26, (.aload_n 0, 1, 0, 0, 0)), (27, (.aload_n 0, 1, 0, 0, 0)), (28, (.getfield 39, 3, 0, 5, 1)), (31, (.putfield 51, 3, 0, 5, 11)), (34, (.aload_n 0, 1, 0, 0, 0)), (35, (.iconst 0, 1, 0, 0, 0)), (36, (.putfield 60, 3, 0, 5, 12)), (39, (.return_, 1, 0, 0, 0))]
/-- 110: DoorstepRides$Vehicle.holdUp(II)I -/
def zK110 : List (Nat × zRI) := [(0, (.aload_n 0, 1, 0, 0, 0)), (1, (.getfield 57, 3, 0, 5, 10)), (4, (.ifCond .eq 43, 3, 0, 47, 0)), (7, (.aload_n 0, 1, 0, 0, 0)), (8, (.getfield 12, 3, 0, 5, 5)), (11, (.invokevirtual 63, 3, 0, 15, 0)), (14, (.ifCond .ne 33, 3, 0, 47, 0)), (17, (.aload_n 0, 1, 0, 0, 0)), (18, (.getfield 12, 3, 0, 5, 5)), (21, (.iconst 0, 1, 0, 0, 0)), (22, (.invokevirtual 67, 3, 0, 4, 0)), (25, (.checkcast 71, 3, 0, 4, 0)), (28, (.iload_n 1, 1, 0, 0, 0)), (29, (.invokevirtual 165, 3, 0, 95, 0)), (32, (.aload_n 0, 1, 0, 0, 0)), (33, (.getfield 12, 3, 0, 5, 5)), (36, (.iconst 0, 1, 0, 0, 0)), (37, (.invokevirtual 67, 3, 0, 4, 0)), (40, (.checkcast 71, 3, 0, 4, 0)), (43, (.getfield 169, 3, 0, 4, 4)), (46, (.ireturn, 1, 0, 0, 0)), (47, (.aload_n 0, 1, 0, 0, 0)), (48, (.aload_n 0, 1, 0, 0, 0)), (49, (.getfield 60, 3, 0, 5, 12)), (52, (.iload_n 2, 1, 0, 0, 0)), (53, (.invokestatic 172, 3, 0, 2001, 0)), (56, (.iload_n 1, 1, 0, 0, 0)), (57, (.iadd, 1, 0, 0, 0)), (58, (.putfield 60, 3, 0, 5, 12)), (61, (.aload_n 0, 1, 0, 0, 0)), (62, (.getfield 60, 3, 0, 5, 12)), (65, (.ireturn, 1, 0, 0, 0))]
/-- 111: DoorstepRides$Vehicle.listOpenPicks(Ljava/util/ArrayList;)V -/
def zK111 : List (Nat × zRI) := [(0, (.aload_n 1, 1, 0, 0, 0)), (1, (.invokevirtual 54, 3, 0, 12, 0)), (4, (.aload_n 0, 1, 0, 0, 0)), (5, (.invokevirtual 92, 3, 0, 99, 0)), (8, (.istore_n 2, 1, 0, 0, 0)), (9, (.iload_n 2, 1, 0, 0, 0)), (10, (.aload_n 0, 1, 0, 0, 0)), (11, (.getfield 12, 3, 0, 5, 5)), (14, (.invokevirtual 77, 3, 0, 3, 0)), (17, (.if_icmp .ge 45, 3, 0, 62, 0)), (20, (.aload_n 0, 1, 0, 0, 0)), (21, (.getfield 12, 3, 0, 5, 5)), (24, (.iload_n 2, 1, 0, 0, 0)), (25, (.invokevirtual 67, 3, 0, 4, 0)), (28, (.checkcast 71, 3, 0, 4, 0)), (31, (.getfield 81, 3, 0, 4, 1)), (34, (.ifCond .ne 22, 3, 0, 56, 0)), (37, (.aload_n 1, 1, 0, 0, 0)), (38, (.aload_n 0, 1, 0, 0, 0)), (39, (.getfield 12, 3, 0, 5, 5)), (42, (.iload_n 2, 1, 0, 0, 0)), (43, (.invokevirtual 67, 3, 0, 4, 0)), (46, (.checkcast 71, 3, 0, 4, 0)), (49, (.getfield 73, 3, 0, 4, 0)), (52, (.invokevirtual 95, 3, 0, 6, 0)), (55, (.pop, 1, 0, 0, 0)), (56, (.iinc 2 1, 3, 1, 0, 0)), (59, (.goto (-50), 3, 0, 9, 0)), (62, (.return_, 1, 0, 0, 0))]
/-- 112: DoorstepRides$Vehicle.wouldFail(LDoorstepRides$Request;I)Z -/
def zK112 : List (Nat × zRI) := [(0, (.aload_n 0, 1, 0, 0, 0)), (1, (.iload_n 2, 1, 0, 0, 0)), (2, (.invokevirtual 123, 3, 0, 113, 0)), (5, (.pop, 1, 0, 0, 0)), (6, (.iconst 0, 1, 0, 0, 0)), (7, (.istore_n 3, 1, 0, 0, 0)), (8, (.iload_n 3, 1, 0, 0, 0)), (9, (.aload_n 0, 1, 0, 0, 0)), (10, (.getfield 12, 3, 0, 5, 5)), (13, (.invokevirtual 77, 3, 0, 3, 0)), (16, (.if_icmp .ge 46, 3, 0, 62, 0)), (19, (.aload_n 0, 1, 0, 0, 0)), (20, (.getfield 12, 3, 0, 5, 5)), (23, (.iload_n 3, 1, 0, 0, 0)), (24, (.invokevirtual 67, 3, 0, 4, 0)), (27, (.checkcast 71, 3, 0, 4, 0)), (30, (.getfield 73, 3, 0, 4, 0)), (33, (.aload_n 1, 1, 0, 0, 0)), (34, (.if_acmp .ne 22, 3, 0, 56, 0)), (37, (.aload_n 0, 1, 0, 0, 0)), (38, (.getfield 12, 3, 0, 5, 5)), (41, (.iload_n 3, 1, 0, 0, 0)), (42, (.invokevirtual 67, 3, 0, 4, 0)), (45, (.checkcast 71, 3, 0, 4, 0)), (48, (.invokevirtual 116, 3, 0, 93, 0)), (51, (.ifCond .ne 5, 3, 0, 56, 0)), (54, (.iconst 1, 1, 1, 0, 0)), (55, (.ireturn, 1, 0, 0, 0)), (56, (.iinc 3 1, 3, 1, 0, 0)), (59, (.goto (-51), 3, 0, 8, 0)), (62, (.iconst 0, 1, 0, 0, 0)), (63, (.ireturn, 1, 0, 0, 0))]
/-- 113: DoorstepRides$Vehicle.layPlan(I)I -/
def zK113 : List (Nat × zRI) := [(0, (.aload_n 0, 1, 0, 0, 0)), (1, (.getfield 27, 3, 0, 5, 8)), (4, (.aload_n 0, 1, 0, 0, 0)), (5, (.iload_n 1, 1, 0, 0, 0)), (6, (.invokevirtual 104, 3, 0, 74, 0)), (9, (.iconst 0, 1, 0, 0, 0)), (10, (.istore_n 2, 1, 0, 0, 0)), (11, (.iload_n 2, 1, 0, 0, 0)), (12, (.aload_n 0, 1, 0, 0, 0)), (13, (.getfield 12, 3, 0, 5, 5)), (16, (.invokevirtual 77, 3, 0, 3, 0)), (19, (.if_icmp .ge 43, 3, 0, 62, 0)), (22, (.aload_n 0, 1, 0, 0, 0)), (23, (.getfield 27, 3, 0, 5, 8)), (26, (.aload_n 0, 1, 0, 0, 0)), (27, (.getfield 12, 3, 0, 5, 5)), (30, (.iload_n 2, 1, 0, 0, 0)), (31, (.invokevirtual 67, 3, 0, 4, 0)), (34, (.checkcast 71, 3, 0, 4, 0)), (37, (.iload_n 2, 1, 0, 0, 0)), (38, (.ifCond .ne 14, 3, 0, 52, 0)), (41, (.aload_n 0, 1, 0, 0, 0)), (42, (.getfield 57, 3, 0, 5, 10)), (45, (.ifCond .eq 7, 3, 0, 52, 0)), (48, (.iconst 1, 1, 1, 0, 0)), (49, (.goto 4, 3, 0, 53, 0)), (52, (.iconst 0, 1, 0, 0, 0)), (53, (.invokevirtual 108, 3, 0, 75, 0)), (56, (.iinc 2 1, 3, 1, 0, 0)), (59, (.goto (-48), 3, 0, 11, 0)), (62, (.aload_n 0, 1, 0, 0, 0)), (63, (.getfield 27, 3, 0, 5, 8)), (66, (.aload_n 0, 1, 0, 0, 0)), (67, (.getfield 39, 3, 0, 5, 1)), (70, (.invokevirtual 112, 3, 0, 78, 0)), (73, (.ireturn, 1, 0, 0, 0))]
/-- 114: DoorstepRides$Vehicle.placeOf(LDoorstepRides$Request;Z)I -/
def zK114 : List (Nat × zRI) := [(0, (.iconst 0, 1, 0, 0, 0)), (1, (.istore_n 3, 1, 0, 0, 0)), (2, (.iload_n 3, 1, 0, 0, 0)), (3, (.aload_n 0, 1, 0, 0, 0)), (4, (.getfield 12, 3, 0, 5, 5)), (7, (.invokevirtual 77, 3, 0, 3, 0)), (10, (.if_icmp .ge 47, 3, 0, 57, 0)), (13, (.aload_n 0, 1, 0, 0, 0)), (14, (.getfield 12, 3, 0, 5, 5)), (17, (.iload_n 3, 1, 0, 0, 0)), (18, (.invokevirtual 67, 3, 0, 4, 0)), (21, (.checkcast 71, 3, 0, 4, 0)), (24, (.getfield 73, 3, 0, 4, 0)), (27, (.aload_n 1, 1, 0, 0, 0)), (28, (.if_acmp .ne 23, 3, 0, 51, 0)), (31, (.aload_n 0, 1, 0, 0, 0)), (32, (.getfield 12, 3, 0, 5, 5)), (35, (.iload_n 3, 1, 0, 0, 0)), (36, (.invokevirtual 67, 3, 0, 4, 0)), (39, (.checkcast 71, 3, 0, 4, 0)), (42, (.getfield 81, 3, 0, 4, 1)), (45, (.iload_n 2, 1, 0, 0, 0)), (46, (.if_icmp .ne 5, 3, 0, 51, 0)), (49, (.iload_n 3, 1, 0, 0, 0)), (50, (.ireturn, 1, 0, 0, 0)), (51, (.iinc 3 1, 3, 1, 0, 0)), (54, (.goto (-52), 3, 0, 2, 0)), (57, (.iconst (-1), 1, (-1), 0, 0)), (58, (.ireturn, 1, 0, 0, 0))]
/-- 115: DoorstepRides$Vehicle.tell(II)I -/
def zK115 : List (Nat × zRI) := [(0, (.iload_n 1, 1, 0, 0, 0)), (1, (.tableswitch 121 0 7 #[47, 52, 57, 65, 70, 75, 88, 101], 47, 0, 0, 0)), (48, (.aload_n 0, 1, 0, 0, 0)), (49, (.getfield 51, 3, 0, 5, 11)), (52, (.ireturn, 1, 0, 0, 0)), (53, (.aload_n 0, 1, 0, 0, 0)), (54, (.getfield 60, 3, 0, 5, 12)), (57, (.ireturn, 1, 0, 0, 0)), (58, (.aload_n 0, 1, 0, 0, 0)), (59, (.getfield 12, 3, 0, 5, 5)), (62, (.invokevirtual 77, 3, 0, 3, 0)), (65, (.ireturn, 1, 0, 0, 0)), (66, (.aload_n 0, 1, 0, 0, 0)), (67, (.invokevirtual 126, 3, 0, 101, 0)), (70, (.ireturn, 1, 0, 0, 0)), (71, (.aload_n 0, 1, 0, 0, 0)), (72, (.invokevirtual 129, 3, 0, 116, 0)), (75, (.ireturn, 1, 0, 0, 0)), (76, (.aload_n 0, 1, 0, 0, 0)), (77, (.getfield 57, 3, 0, 5, 10)), (80, (.ifCond .eq 7, 3, 0, 87, 0)), (83, (.iconst 1, 1, 1, 0, 0)), (84, (.goto 4, 3, 0, 88, 0)), (87, (.iconst 0, 1, 0, 0, 0)), (88, (.ireturn, 1, 0, 0, 0)), (89, (.aload_n 0, 1, 0, 0, 0)), (90, (.getfield 31, 3, 0, 5, 9)), (93, (.ifCond .eq 7, 3, 0, 100, 0)), (96, (.iconst 1, 1, 1, 0, 0)), (97, (.goto 4, 3, 0, 101, 0)), (100, (.iconst 0, 1, 0, 0, 0)), (101, (.ireturn, 1, 0, 0, 0)), (102, (.aload_n 0, 1, 0, 0, 0)), (103, (.getfield 12, 3, 0, 5, 5)), (106, (.invokevirtual 63, 3, 0, 15, 0)), (109, (.ifCond .eq 7, 3, 0, 116, 0)), (112, (.iconst (-1), 1, (-1), 0, 0)), (113, (.goto 8, 3, 0, 121, 0)), (116, (.aload_n 0, 1, 0, 0, 0)), (117, (.iload_n 2, 1, 0, 0, 0)), (118, (.invokevirtual 123, 3, 0, 113, 0)), (121, (.ireturn, 1, 0, 0, 0)), (122, (.aload_n 0, 1, 0, 0, 0)), (123, (.iload_n 2, 1, 0, 0, 0)), (124, (.invokevirtual 132, 3, 0, 100, 0)), (127, (.ifCond .eq 7, 3, 0, 134, 0)), (130, (.iconst 1, 1, 1, 0, 0)), (131, (.goto 4, 3, 0, 135, 0)), (134, (.iconst 0, 1, 0, 0, 0)), (135, (.ireturn, 1, 0, 0, 0))]
/-- 116: DoorstepRides$Vehicle.chairsAboard()I -/
def zK116 : List (Nat × zRI) := [(0, (.iconst 0, 1, 0, 0, 0)), (1, (.istore_n 1, 1, 0, 0, 0)), (2, (.iconst 0, 1, 0, 0, 0)), (3, (.istore_n 2, 1, 0, 0, 0)), (4, (.iload_n 2, 1, 0, 0, 0)), (5, (.aload_n 0, 1, 0, 0, 0)), (6, (.getfield 21, 3, 0, 5, 7)), (9, (.invokevirtual 77, 3, 0, 3, 0)), (12, (.if_icmp .ge 38, 3, 0, 50, 0)), (15, (.iload_n 1, 1, 0, 0, 0)), (16, (.aload_n 0, 1, 0, 0, 0)), (17, (.getfield 21, 3, 0, 5, 7)), (20, (.iload_n 2, 1, 0, 0, 0)), (21, (.invokevirtual 67, 3, 0, 4, 0)), (24, (.checkcast 136, 3, 0, 1, 0)), (27, (.getfield 138, 3, 0, 1, 0)), (30, (.getfield 84, 3, 0, 2, 0)), (33, (.iconst 2, 1, 2, 0, 0)), (34, (.if_icmp .ne 7, 3, 0, 41, 0)), (37, (.iconst 1, 1, 1, 0, 0)), (38, (.goto 4, 3, 0, 42, 0)), (41, (.iconst 0, 1, 0, 0, 0)), (42, (.iadd, 1, 0, 0, 0)), (43, (.istore_n 1, 1, 0, 0, 0)), (44, (.iinc 2 1, 3, 1, 0, 0)), (47, (.goto (-43), 3, 0, 4, 0)), (50, (.iload_n 1, 1, 0, 0, 0)), (51, (.ireturn, 1, 0, 0, 0))]
/-- 117: DoorstepRides$Vehicle.seatsByDoneStops()I -/
def zK117 : List (Nat × zRI) := [(0, (.iconst 0, 1, 0, 0, 0)), (1, (.istore_n 1, 1, 0, 0, 0)), (2, (.iconst 0, 1, 0, 0, 0)), (3, (.istore_n 2, 1, 0, 0, 0)), (4, (.iload_n 2, 1, 0, 0, 0)), (5, (.aload_n 0, 1, 0, 0, 0)), (6, (.getfield 18, 3, 0, 5, 6)), (9, (.invokevirtual 77, 3, 0, 3, 0)), (12, (.if_icmp .ge 75, 3, 0, 87, 0)), (15, (.aload_n 0, 1, 0, 0, 0)), (16, (.getfield 18, 3, 0, 5, 6)), (19, (.iload_n 2, 1, 0, 0, 0)), (20, (.invokevirtual 67, 3, 0, 4, 0)), (23, (.checkcast 71, 3, 0, 4, 0)), (26, (.astore_n 3, 1, 0, 0, 0)), (27, (.aload_n 3, 1, 0, 0, 0)), (28, (.getfield 73, 3, 0, 4, 0)), (31, (.getfield 138, 3, 0, 1, 0)), (34, (.getfield 142, 3, 0, 2, 3)), (37, (.istore 4, 2, 0, 0, 0)), (39, (.aload_n 3, 1, 0, 0, 0)), (40, (.getfield 81, 3, 0, 4, 1)), (43, (.ifCond .eq 11, 3, 0, 54, 0)), (46, (.iload_n 1, 1, 0, 0, 0)), (47, (.iload 4, 2, 0, 0, 0)), (49, (.isub, 1, 0, 0, 0)), (50, (.istore_n 1, 1, 0, 0, 0)), (51, (.goto 30, 3, 0, 81, 0)), (54, (.aload_n 3, 1, 0, 0, 0)), (55, (.getfield 73, 3, 0, 4, 0)), (58, (.getfield 145, 3, 0, 1, 5)), (61, (.iconst 1, 1, 1, 0, 0)), (62, (.if_icmp .eq 14, 3, 0, 76, 0)), (65, (.aload_n 3, 1, 0, 0, 0)), (66, (.getfield 73, 3, 0, 4, 0)), (69, (.getfield 145, 3, 0, 1, 5)), (72, (.iconst 2, 1, 2, 0, 0)), (73, (.if_icmp .ne 8, 3, 0, 81, 0)), (76, (.iload_n 1, 1, 0, 0, 0)), (77, (.iload 4, 2, 0, 0, 0)), (79, (.iadd, 1, 0, 0, 0)), (80, (.istore_n 1, 1, 0, 0, 0)), (81, (.iinc 2 1, 3, 1, 0, 0)), (84, (.goto (-80), 3, 0, 4, 0)), (87, (.iload_n 1, 1, 0, 0, 0)), (88, (.ireturn, 1, 0, 0, 0))]
/-- 118: DoorstepRides$Vehicle.mayComeNext(II)Z -/
def zK118 : List (Nat × zRI) := [(0, (.iload_n 2, 1, 0, 0, 0)), (1, (.ifCond .lt 31, 3, 0, 32, 0)), (4, (.iload_n 2, 1, 0, 0, 0)), (5, (.aload_n 0, 1, 0, 0, 0)), (6, (.getfield 12, 3, 0, 5, 5)), (9, (.invokevirtual 77, 3, 0, 3, 0)), (12, (.if_icmp .ge 20, 3, 0, 32, 0)), (15, (.aload_n 0, 1, 0, 0, 0)), (16, (.getfield 12, 3, 0, 5, 5)), (19, (.iload_n 2, 1, 0, 0, 0)), (20, (.invokevirtual 67, 3, 0, 4, 0)), (23, (.checkcast 71, 3, 0, 4, 0)), (26, (.getfield 81, 3, 0, 4, 1)), (29, (.ifCond .ne 5, 3, 0, 34, 0)), (32, (.iconst 1, 1, 1, 0, 0)), (33, (.ireturn, 1, 0, 0, 0)), (34, (.aload_n 0, 1, 0, 0, 0)), (35, (.aload_n 0, 1, 0, 0, 0)), (36, (.getfield 12, 3, 0, 5, 5)), (39, (.iload_n 2, 1, 0, 0, 0)), (40, (.invokevirtual 67, 3, 0, 4, 0)), (43, (.checkcast 71, 3, 0, 4, 0)), (46, (.getfield 73, 3, 0, 4, 0)), (49, (.iconst 0, 1, 0, 0, 0)), (50, (.invokevirtual 157, 3, 0, 114, 0)), (53, (.iload_n 1, 1, 0, 0, 0)), (54, (.if_icmp .ge 7, 3, 0, 61, 0)), (57, (.iconst 1, 1, 1, 0, 0)), (58, (.goto 4, 3, 0, 62, 0)), (61, (.iconst 0, 1, 0, 0, 0)), (62, (.ireturn, 1, 0, 0, 0))]
/-- 119: DoorstepRides$Vehicle.swapStops(II)V -/
def zK119 : List (Nat × zRI) := [(0, (.aload_n 0, 1, 0, 0, 0)), (1, (.getfield 12, 3, 0, 5, 5)), (4, (.invokevirtual 77, 3, 0, 3, 0)), (7, (.istore_n 3, 1, 0, 0, 0)), (8, (.iload_n 1, 1, 0, 0, 0)), (9, (.ifCond .lt 17, 3, 0, 26, 0)), (12, (.iload_n 2, 1, 0, 0, 0)), (13, (.ifCond .lt 13, 3, 0, 26, 0)), (16, (.iload_n 1, 1, 0, 0, 0)), (17, (.iload_n 3, 1, 0, 0, 0)), (18, (.if_icmp .ge 8, 3, 0, 26, 0)), (21, (.iload_n 2, 1, 0, 0, 0)), (22, (.iload_n 3, 1, 0, 0, 0)), (23, (.if_icmp .lt 4, 3, 0, 27, 0)), (26, (.return_, 1, 0, 0, 0)), (27, (.aload_n 0, 1, 0, 0, 0)), (28, (.getfield 12, 3, 0, 5, 5)), (31, (.iload_n 1, 1, 0, 0, 0)), (32, (.invokevirtual 67, 3, 0, 4, 0)), (35, (.checkcast 71, 3, 0, 4, 0)), (38, (.astore 4, 2, 0, 0, 0)), (40, (.aload_n 0, 1, 0, 0, 0)), (41, (.getfield 12, 3, 0, 5, 5)), (44, (.iload_n 1, 1, 0, 0, 0)), (45, (.aload_n 0, 1, 0, 0, 0)), (46, (.getfield 12, 3, 0, 5, 5)), (49, (.iload_n 2, 1, 0, 0, 0)), (50, (.invokevirtual 67, 3, 0, 4, 0)), (53, (.checkcast 71, 3, 0, 4, 0)), (56, (.invokevirtual 161, 3, 0, 16, 0)), (59, (.pop, 1, 0, 0, 0)), (60, (.aload_n 0, 1, 0, 0, 0)), (61, (.getfield 12, 3, 0, 5, 5)), (64, (.iload_n 2, 1, 0, 0, 0)), (65, (.aload 4, 2, 0, 0, 0)), (67, (.invokevirtual 161, 3, 0, 16, 0)), (70, (.pop, 1, 0, 0, 0)), (71, (.return_, 1, 0, 0, 0))]
/-- 120: DoorstepRidesModel.<init>()V -/
def zK120 : List (Nat × zRI) := [(0, (.aload_n 0, 1, 0, 0, 0)), (1, (.invokespecial 1, 3, 0, 2000, 0)), (4, (.aload_n 0, 1, 0, 0, 0)), (5, (.bipush 36, 2, 36, 0, 0)), (7, (.newarray .boolean, 2, 0, 101, 0)), (9, (.putfield 7, 3, 0, 7, 4)), (12, (.aload_n 0, 1, 0, 0, 0)), (13, (.bipush 16, 2, 16, 0, 0)), (15, (.newarray .int, 2, 0, 100, 0)), (17, (.putfield 13, 3, 0, 7, 7)), (20, (.aload_n 0, 1, 0, 0, 0)), (21, (.bipush 16, 2, 16, 0, 0)), (23, (.newarray .int, 2, 0, 100, 0)), (25, (.putfield 17, 3, 0, 7, 8)), (28, (.aload_n 0, 1, 0, 0, 0)), (29, (.bipush 16, 2, 16, 0, 0)), (31, (.newarray .int, 2, 0, 100, 0)), (33, (.putfield 20, 3, 0, 7, 9)), (36, (.aload_n 0, 1, 0, 0, 0)), (37, (.bipush 16, 2, 16, 0, 0)), (39, (.newarray .boolean, 2, 0, 101, 0)), (41, (.putfield 23, 3, 0, 7, 10)), (44, (.aload_n 0, 1, 0, 0, 0)), (45, (.iconst 4, 1, 4, 0, 0)), (46, (.newarray .int, 2, 0, 100, 0)), (48, (.putfield 26, 3, 0, 7, 12)), (51, (.aload_n 0, 1, 0, 0, 0)), (52, (.iconst 4, 1, 4, 0, 0)), (53, (.newarray .int, 2, 0, 100, 0)), (55, (.putfield 29, 3, 0, 7, 13)), (58, (.aload_n 0, 1, 0, 0, 0)), (59, (.iconst 4, 1, 4, 0, 0)), (60, (.newarray .int, 2, 0, 100, 0)), (62, (.putfield 32, 3, 0, 7, 14)), (65, (.aload_n 0, 1, 0, 0, 0)), (66, (.iconst 4, 1, 4, 0, 0)), (67, (.newarray .int, 2, 0, 100, 0)), (69, (.putfield 35, 3, 0, 7, 15)), (72, (.aload_n 0, 1, 0, 0, 0)), (73, (.iconst 4, 1, 4, 0, 0)), (74, (.newarray .boolean, 2, 0, 101, 0)), (76, (.putfield 38, 3, 0, 7, 16)), (79, (.aload_n 0, 1, 0, 0, 0)), (80, (.iconst 4, 1, 4, 0, 0)), (81, (.newarray .int, 2, 0, 100, 0)), (83, (.putfield 41, 3, 0, 7, 17)), (86, (.aload_n 0, 1, 0, 0, 0)), (87, (.iconst 4, 1, 4, 0, 0)), (88, (.newarray .int, 2, 0, 100, 0)), (90, (.putfield 44, 3, 0, 7, 18)), (93, (.aload_n 0, 1, 0, 0, 0)), (94, (.iconst 4, 1, 4, 0, 0)), (95, (.newarray .boolean, 2, 0, 101, 0)), (97, (.putfield 47, 3, 0, 7, 19)), (100, (.aload_n 0, 1, 0, 0, 0)), (101, (.iconst 4, 1, 4, 0, 0)), (102, (.newarray .int, 2, 0, 100, 0)), (104, (.putfield 50, 3, 0, 7, 20)), (107, (.aload_n 0, 1, 0, 0, 0)), (108, (.iconst 4, 1, 4, 0, 0)), (109, (.newarray .int, 2, 0, 100, 0)), (111, (.putfield 53, 3, 0, 7, 21)), (114, (.aload_n 0, 1, 0, 0, 0)), (115, (.iconst 4, 1, 4, 0, 0)), (116, (.newarray .boolean, 2, 0, 101, 0)), (118, (.putfield 56, 3, 0, 7, 22)), (121, (.aload_n 0, 1, 0, 0, 0)), (122, (.iconst 4, 1, 4, 0, 0)), (123, (.newarray .int, 2, 0, 100, 0)), (125, (.putfield 59, 3, 0, 7, 23)), (128, (.aload_n 0, 1, 0, 0, 0)), (129, (.bipush 12, 2, 12, 0, 0)), (131, (.newarray .int, 2, 0, 100, 0)), (133, (.putfield 62, 3, 0, 7, 24)), (136, (.aload_n 0, 1, 0, 0, 0)), (137, (.iconst 4, 1, 4, 0, 0)), (138, (.newarray .int, 2, 0, 100, 0)), (140, (.putfield 65, 3, 0, 7, 25)), (143, (.aload_n 0, 1, 0, 0, 0)), (144, (.bipush 64, 2, 64, 0, 0)), (146, (.newarray .int, 2, 0, 100, 0)), (148, (.putfield 68, 3, 0, 7, 26)), (151, (.aload_n 0, 1, 0, 0, 0)), (152, (.iconst 4, 1, 4, 0, 0)), (153, (.newarray .int, 2, 0, 100, 0)), (155, (.putfield 71, 3, 0, 7, 27)), (158, (.aload_n 0, 1, 0, 0, 0)), (159, (.bipush 60, 2, 60, 0, 0)), (161, (.newarray .int, 2, 0, 100, 0)), (163, (.putfield 74, 3, 0, 7, 29)), (166, (.aload_n 0, 1, 0, 0, 0)), (167, (.bipush 60, 2, 60, 0, 0)), (169, (.newarray .int, 2, 0, 100, 0)), (171, (.putfield 77, 3, 0, 7, 30)), (174, (.aload_n 0, 1, 0, 0, 0)), (175, (.bipush 60, 2, 60, 0, 0)), (177, (.newarray .int, 2, 0, 100, 0)), (179, (.putfield 80, 3, 0, 7, 31)), (182, (.aload_n 0, 1, 0, 0, 0)), (183, (.bipush 60, 2, 60, 0, 0)), (185, (.newarray .int, 2, 0, 100, 0)), (187, (.putfield 83, 3, 0, 7, 32)), (190, (.aload_n 0, 1, 0, 0, 0)), (191, (.bipush 60, 2, 60, 0, 0)), (193, (.newarray .int, 2, 0, 100, 0)), (195, (.putfield 86, 3, 0, 7, 33)), (198, (.aload_n 0, 1, 0, 0, 0)), (199, (.bipush 60, 2, 60, 0, 0)), (201, (.newarray .int, 2, 0, 100, 0)), (203, (.putfield 89, 3, 0, 7, 34)), (206, (.aload_n 0, 1, 0, 0, 0)), (207, (.bipush 60, 2, 60, 0, 0)), (209, (.newarray .int, 2, 0, 100, 0)), (211, (.putfield 92, 3, 0, 7, 35)), (214, (.aload_n 0, 1, 0, 0, 0)), (215, (.bipush 60, 2, 60, 0, 0)), (217, (.newarray .int, 2, 0, 100, 0)), (219, (.putfield 95, 3, 0, 7, 36)), (222, (.aload_n 0, 1, 0, 0, 0)), (223, (.bipush 60, 2, 60, 0, 0)), (225, (.newarray .int, 2, 0, 100, 0)), (227, (.putfield 98, 3, 0, 7, 37)), (230, (.aload_n 0, 1, 0, 0, 0)), (231, (.bipush 60, 2, 60, 0, 0)), (233, (.newarray .int, 2, 0, 100, 0)), (235, (.putfield 101, 3, 0, 7, 38)), (238, (.aload_n 0, 1, 0, 0, 0)), (239, (.bipush 60, 2, 60, 0, 0)), (241, (.newarray .int, 2, 0, 100, 0)), (243, (.putfield 104, 3, 0, 7, 39)), (246, (.aload_n 0, 1, 0, 0, 0)), (247, (.bipush 60, 2, 60, 0, 0)), (249, (.newarray .boolean, 2, 0, 101, 0)), (251, (.putfield 107, 3, 0, 7, 40)), (254, (.aload_n 0, 1, 0, 0, 0)), (255, (.bipush 60, 2, 60, 0, 0)), (257, (.newarray .boolean, 2, 0, 101, 0)), (259, (.putfield 110, 3, 0, 7, 41)), (262, (.aload_n 0, 1, 0, 0, 0)), (263, (.bipush 20, 2, 20, 0, 0)), (265, (.newarray .int, 2, 0, 100, 0)), (267, (.putfield 113, 3, 0, 7, 43)), (270, (.aload_n 0, 1, 0, 0, 0)), (271, (.bipush 20, 2, 20, 0, 0)), (273, (.newarray .int, 2, 0, 100, 0)), (275, (.putfield 116, 3, 0, 7, 44)), (278, (.aload_n 0, 1, 0, 0, 0)), (279, (.bipush 20, 2, 20, 0, 0)), (281, (.newarray .int, 2, 0, 100, 0)), (283, (.putfield 119, 3, 0, 7, 45)), (286, (.aload_n 0, 1, 0, 0, 0)), (287, (.bipush 24, 2, 24, 0, 0)), (289, (.newarray .int, 2, 0, 100, 0)), (291, (.putfield 122, 3, 0, 7, 46)), (294, (.aload_n 0, 1, 0, 0, 0)), (295, (.bipush 16, 2, 16, 0, 0)), (297, (.newarray .int, 2, 0, 100, 0)), (299, (.putfield 125, 3, 0, 7, 51)), (302, (.aload_n 0, 1, 0, 0, 0)), (303, (.iconst 0, 1, 0, 0, 0)), (304, (.putfield 128, 3, 0, 7, 0)), (307, (.return_, 1, 0, 0, 0))]
/-- 121: DoorstepRidesModel.thrown()I -/
def zK121 : List (Nat × zRI) := [(0, (.aload_n 0, 1, 0, 0, 0)), (1, (.getfield 128, 3, 0, 7, 0)), (4, (.ireturn, 1, 0, 0, 0))]
/-- 122: DoorstepRidesModel.rider(IIIZ)I -/
def zK122 : List (Nat × zRI) := [(0, (.aload_n 0, 1, 0, 0, 0)), (1, (.aload_n 0, 1, 0, 0, 0)), (2, (.iload_n 1, 1, 0, 0, 0)), (3, (.iconst 0, 1, 0, 0, 0)), (4, (.iconst 2, 1, 2, 0, 0)), (5, (.invokevirtual 132, 3, 0, 123, 0)), (8, (.ifCond .eq 27, 3, 0, 35, 0)), (11, (.aload_n 0, 1, 0, 0, 0)), (12, (.iload_n 2, 1, 0, 0, 0)), (13, (.bipush 30, 2, 30, 0, 0)), (15, (.sipush 300, 3, 300, 0, 0)), (18, (.invokevirtual 132, 3, 0, 123, 0)), (21, (.ifCond .eq 14, 3, 0, 35, 0)), (24, (.aload_n 0, 1, 0, 0, 0)), (25, (.iload_n 3, 1, 0, 0, 0)), (26, (.iconst 0, 1, 0, 0, 0)), (27, (.bipush 10, 2, 10, 0, 0)), (29, (.invokevirtual 132, 3, 0, 123, 0)), (32, (.ifCond .ne 7, 3, 0, 39, 0)), (35, (.iconst 1, 1, 1, 0, 0)), (36, (.goto 17, 3, 0, 53, 0)), (39, (.aload_n 0, 1, 0, 0, 0)), (40, (.getfield 136, 3, 0, 7, 6)), (43, (.bipush 16, 2, 16, 0, 0)), (45, (.if_icmp .ne 7, 3, 0, 52, 0)), (48, (.iconst 2, 1, 2, 0, 0)), (49, (.goto 4, 3, 0, 53, 0)), (52, (.iconst 0, 1, 0, 0, 0)), (53, (.putfield 128, 3, 0, 7, 0)), (56, (.aload_n 0, 1, 0, 0, 0)), (57, (.getfield 128, 3, 0, 7, 0)), (60, (.ifCond .le 5, 3, 0, 65, 0)), (63, (.iconst 0, 1, 0, 0, 0)), (64, (.ireturn, 1, 0, 0, 0)), (65, (.aload_n 0, 1, 0, 0, 0)), (66, (.getfield 13, 3, 0, 7, 7)), (69, (.aload_n 0, 1, 0, 0, 0)), (70, (.getfield 136, 3, 0, 7, 6)), (73, (.iload_n 1, 1, 0, 0, 0)), (74, (.iastore, 1, 0, 0, 0)), (75, (.aload_n 0, 1, 0, 0, 0)), (76, (.getfield 17, 3, 0, 7, 8)), (79, (.aload_n 0, 1, 0, 0, 0)), (80, (.getfield 136, 3, 0, 7, 6)), (83, (.iload_n 2, 1, 0, 0, 0)), (84, (.iastore, 1, 0, 0, 0)), (85, (.aload_n 0, 1, 0, 0, 0)), (86, (.getfield 20, 3, 0, 7, 9)), (89, (.aload_n 0, 1, 0, 0, 0)), (90, (.getfield 136, 3, 0, 7, 6)), (93, (.iload_n 3, 1, 0, 0, 0)), (94, (.iastore, 1, 0, 0, 0)), (95, (.aload_n 0, 1, 0, 0, 0)), (96, (.getfield 23, 3, 0, 7, 10)), (99, (.aload_n 0, 1, 0, 0, 0)), (100, (.getfield 136, 3, 0, 7, 6)), (103, (.iload 4, 2, 0, 0, 0)), (105, (.bastore, 1, 0, 0, 0)), (106, (.aload_n 0, 1, 0, 0, 0)), (107, (.dup, 1, 0, 0, 0)), (108, (.getfield 136, 3, 0, 7, 6)), (111, (.iconst 1, 1, 1, 0, 0)), (112, (.iadd, 1, 0, 0, 0)), (113, (.putfield 136, 3, 0, 7, 6)), (116, (.aload_n 0, 1, 0, 0, 0)), (117, (.getfield 136, 3, 0, 7, 6)), (120, (.iconst 1, 1, 1, 0, 0)), (121, (.isub, 1, 0, 0, 0)), (122, (.ireturn, 1, 0, 0, 0))]
/-- 123: DoorstepRidesModel.between(III)Z -/
def zK123 : List (Nat × zRI) := [(0, (.iload_n 1, 1, 0, 0, 0)), (1, (.iload_n 2, 1, 0, 0, 0)), (2, (.if_icmp .lt 12, 3, 0, 14, 0)), (5, (.iload_n 1, 1, 0, 0, 0)), (6, (.iload_n 3, 1, 0, 0, 0)), (7, (.if_icmp .gt 7, 3, 0, 14, 0)), (10, (.iconst 1, 1, 1, 0, 0)), (11, (.goto 4, 3, 0, 15, 0)), (14, (.iconst 0, 1, 0, 0, 0)), (15, (.ireturn, 1, 0, 0, 0))]
/-- 124: DoorstepRidesModel.winter(Z)Z -/
def zK124 : List (Nat × zRI) := [(0, (.aload_n 0, 1, 0, 0, 0)), (1, (.iconst 0, 1, 0, 0, 0)), (2, (.putfield 128, 3, 0, 7, 0)), (5, (.aload_n 0, 1, 0, 0, 0)), (6, (.getfield 152, 3, 0, 7, 3)), (9, (.istore_n 2, 1, 0, 0, 0)), (10, (.aload_n 0, 1, 0, 0, 0)), (11, (.iload_n 1, 1, 0, 0, 0)), (12, (.putfield 152, 3, 0, 7, 3)), (15, (.iload_n 2, 1, 0, 0, 0)), (16, (.ireturn, 1, 0, 0, 0))]
/-- 125: DoorstepRidesModel.busStop(IZ)I -/
def zK125 : List (Nat × zRI) := [(0, (.aload_n 0, 1, 0, 0, 0)), (1, (.aload_n 0, 1, 0, 0, 0)), (2, (.iload_n 1, 1, 0, 0, 0)), (3, (.invokevirtual 156, 3, 0, 126, 0)), (6, (.ifCond .ne 7, 3, 0, 13, 0)), (9, (.iconst 1, 1, 1, 0, 0)), (10, (.goto 4, 3, 0, 14, 0)), (13, (.iconst 0, 1, 0, 0, 0)), (14, (.putfield 128, 3, 0, 7, 0)), (17, (.aload_n 0, 1, 0, 0, 0)), (18, (.getfield 128, 3, 0, 7, 0)), (21, (.ifCond .le 5, 3, 0, 26, 0)), (24, (.iconst 0, 1, 0, 0, 0)), (25, (.ireturn, 1, 0, 0, 0)), (26, (.aload_n 0, 1, 0, 0, 0)), (27, (.dup, 1, 0, 0, 0)), (28, (.getfield 160, 3, 0, 7, 5)), (31, (.aload_n 0, 1, 0, 0, 0)), (32, (.getfield 7, 3, 0, 7, 4)), (35, (.iload_n 1, 1, 0, 0, 0)), (36, (.baload, 1, 0, 0, 0)), (37, (.iload_n 2, 1, 0, 0, 0)), (38, (.if_icmp .ne 7, 3, 0, 45, 0)), (41, (.iconst 0, 1, 0, 0, 0)), (42, (.goto 12, 3, 0, 54, 0)), (45, (.iload_n 2, 1, 0, 0, 0)), (46, (.ifCond .eq 7, 3, 0, 53, 0)), (49, (.iconst 1, 1, 1, 0, 0)), (50, (.goto 4, 3, 0, 54, 0)), (53, (.iconst (-1), 1, (-1), 0, 0)), (54, (.iadd, 1, 0, 0, 0)), (55, (.putfield 160, 3, 0, 7, 5)), (58, (.aload_n 0, 1, 0, 0, 0)), (59, (.getfield 7, 3, 0, 7, 4)), (62, (.iload_n 1, 1, 0, 0, 0)), (63, (.iload_n 2, 1, 0, 0, 0)), (64, (.bastore, 1, 0, 0, 0)), (65, (.aload_n 0, 1, 0, 0, 0)), (66, (.getfield 160, 3, 0, 7, 5)), (69, (.ireturn, 1, 0, 0, 0))]
/-- 126: DoorstepRidesModel.isPlace(I)Z -/
def zK126 : List (Nat × zRI) := [(0, (.aload_n 0, 1, 0, 0, 0)), (1, (.iload_n 1, 1, 0, 0, 0)), (2, (.iconst 0, 1, 0, 0, 0)), (3, (.bipush 35, 2, 35, 0, 0)), (5, (.invokevirtual 132, 3, 0, 123, 0)), (8, (.ireturn, 1, 0, 0, 0))]
/-- 127: DoorstepRidesModel.vehicle(IIII)I -/
def zK127 : List (Nat × zRI) := [(0, (.aload_n 0, 1, 0, 0, 0)), (1, (.iload_n 1, 1, 0, 0, 0)), (2, (.invokevirtual 156, 3, 0, 126, 0)), (5, (.ifCond .eq 42, 3, 0, 47, 0)), (8, (.aload_n 0, 1, 0, 0, 0)), (9, (.iload_n 2, 1, 0, 0, 0)), (10, (.iconst 1, 1, 1, 0, 0)), (11, (.bipush 8, 2, 8, 0, 0)), (13, (.invokevirtual 132, 3, 0, 123, 0)), (16, (.ifCond .eq 31, 3, 0, 47, 0)), (19, (.aload_n 0, 1, 0, 0, 0)), (20, (.iload_n 3, 1, 0, 0, 0)), (21, (.iconst 0, 1, 0, 0, 0)), (22, (.iconst 3, 1, 3, 0, 0)), (23, (.invokevirtual 132, 3, 0, 123, 0)), (26, (.ifCond .eq 21, 3, 0, 47, 0)), (29, (.aload_n 0, 1, 0, 0, 0)), (30, (.iload 4, 2, 0, 0, 0)), (32, (.bipush 50, 2, 50, 0, 0)), (34, (.sipush 400, 3, 400, 0, 0)), (37, (.invokevirtual 132, 3, 0, 123, 0)), (40, (.ifCond .eq 7, 3, 0, 47, 0)), (43, (.iconst 1, 1, 1, 0, 0)), (44, (.goto 4, 3, 0, 48, 0)), (47, (.iconst 0, 1, 0, 0, 0)), (48, (.istore 5, 2, 0, 0, 0)), (50, (.aload_n 0, 1, 0, 0, 0)), (51, (.iload 5, 2, 0, 0, 0)), (53, (.ifCond .ne 7, 3, 0, 60, 0)), (56, (.iconst 1, 1, 1, 0, 0)), (57, (.goto 16, 3, 0, 73, 0)), (60, (.aload_n 0, 1, 0, 0, 0)), (61, (.getfield 139, 3, 0, 7, 11)), (64, (.iconst 4, 1, 4, 0, 0)), (65, (.if_icmp .ne 7, 3, 0, 72, 0)), (68, (.iconst 2, 1, 2, 0, 0)), (69, (.goto 4, 3, 0, 73, 0)), (72, (.iconst 0, 1, 0, 0, 0)), (73, (.putfield 128, 3, 0, 7, 0)), (76, (.aload_n 0, 1, 0, 0, 0)), (77, (.getfield 128, 3, 0, 7, 0)), (80, (.ifCond .le 5, 3, 0, 85, 0)), (83, (.iconst 0, 1, 0, 0, 0)), (84, (.ireturn, 1, 0, 0, 0)), (85, (.aload_n 0, 1, 0, 0, 0)), (86, (.getfield 26, 3, 0, 7, 12)), (89, (.aload_n 0, 1, 0, 0, 0)), (90, (.getfield 139, 3, 0, 7, 11)), (93, (.iload_n 1, 1, 0, 0, 0)), (94, (.iastore, 1, 0, 0, 0)), (95, (.aload_n 0, 1, 0, 0, 0)), (96, (.getfield 29, 3, 0, 7, 13)), (99, (.aload_n 0, 1, 0, 0, 0)), (100, (.getfield 139, 3, 0, 7, 11)), (103, (.iload_n 2, 1, 0, 0, 0)), (104, (.iastore, 1, 0, 0, 0)), (105, (.aload_n 0, 1, 0, 0, 0)), (106, (.getfield 32, 3, 0, 7, 14)), (109, (.aload_n 0, 1, 0, 0, 0)), (110, (.getfield 139, 3, 0, 7, 11)), (113, (.iload_n 3, 1, 0, 0, 0)), (114, (.iastore, 1, 0, 0, 0)), (115, (.aload_n 0, 1, 0, 0, 0)), (116, (.getfield 35, 3, 0, 7, 15)), (119, (.aload_n 0, 1, 0, 0, 0)), (120, (.getfield 139, 3, 0, 7, 11)), (123, (.iload 4, 2, 0, 0, 0)), (125, (.iastore, 1, 0, 0, 0)), (126, (.aload_n 0, 1, 0, 0, 0)), (127, (.getfield 38, 3, 0, 7, 16)), (130, (.aload_n 0, 1, 0, 0, 0)), (131, (.getfield 139, 3, 0, 7, 11)), (134, (.iconst 1, 1, 1, 0, 0)), (135, (.bastore, 1, 0, 0, 0)), (136, (.aload_n 0, 1, 0, 0, 0)), (137, (.getfield 41, 3, 0, 7, 17)), (140, (.aload_n 0, 1, 0, 0, 0)), (141, (.getfield 139, 3, 0, 7, 11)), (144, (.iload_n 1, 1, 0, 0, 0)), (145, (.iastore, 1, 0, 0, 0)), (146, (.aload_n 0, 1, 0, 0, 0)), (147, (.dup, 1, 0, 0, 0)), (148, (.getfield 139, 3, 0, 7, 11)), (151, (.iconst 1, 1, 1, 0, 0)), (152, (.iadd, 1, 0, 0, 0)), (153, (.putfield 139, 3, 0, 7, 11)), (156, (.aload_n 0, 1, 0, 0, 0)), (157, (.getfield 139, 3, 0, 7, 11)), (160, (.iconst 1, 1, 1, 0, 0)), (161, (.isub, 1, 0, 0, 0)), (162, (.ireturn, 1, 0, 0, 0))]
/-- 128: DoorstepRidesModel.lift(IZ)Z -/
def zK128 : List (Nat × zRI) := [(0, (.aload_n 0, 1, 0, 0, 0)), (1, (.aload_n 0, 1, 0, 0, 0)), (2, (.iload_n 1, 1, 0, 0, 0)), (3, (.invokevirtual 163, 3, 0, 129, 0)), (6, (.ifCond .ne 7, 3, 0, 13, 0)), (9, (.iconst 1, 1, 1, 0, 0)), (10, (.goto 4, 3, 0, 14, 0)), (13, (.iconst 0, 1, 0, 0, 0)), (14, (.putfield 128, 3, 0, 7, 0)), (17, (.aload_n 0, 1, 0, 0, 0)), (18, (.getfield 128, 3, 0, 7, 0)), (21, (.ifCond .le 5, 3, 0, 26, 0)), (24, (.iconst 0, 1, 0, 0, 0)), (25, (.ireturn, 1, 0, 0, 0)), (26, (.aload_n 0, 1, 0, 0, 0)), (27, (.getfield 38, 3, 0, 7, 16)), (30, (.iload_n 1, 1, 0, 0, 0)), (31, (.baload, 1, 0, 0, 0)), (32, (.istore_n 3, 1, 0, 0, 0)), (33, (.aload_n 0, 1, 0, 0, 0)), (34, (.getfield 38, 3, 0, 7, 16)), (37, (.iload_n 1, 1, 0, 0, 0)), (38, (.iload_n 2, 1, 0, 0, 0)), (39, (.bastore, 1, 0, 0, 0)), (40, (.iload_n 3, 1, 0, 0, 0)), (41, (.ireturn, 1, 0, 0, 0))]
/-- 129: DoorstepRidesModel.isVehicle(I)Z -/
def zK129 : List (Nat × zRI) := [(0, (.aload_n 0, 1, 0, 0, 0)), (1, (.iload_n 1, 1, 0, 0, 0)), (2, (.iconst 0, 1, 0, 0, 0)), (3, (.aload_n 0, 1, 0, 0, 0)), (4, (.getfield 139, 3, 0, 7, 11)), (7, (.iconst 1, 1, 1, 0, 0)), (8, (.isub, 1, 0, 0, 0)), (9, (.invokevirtual 132, 3, 0, 123, 0)), (12, (.ireturn, 1, 0, 0, 0))]
/-- 130: DoorstepRidesModel.ask(IIII)I -/
def zK130 : List (Nat × zRI) := [(0, (.aload_n 0, 1, 0, 0, 0)), (1, (.iload_n 2, 1, 0, 0, 0)), (2, (.invokevirtual 156, 3, 0, 126, 0)), (5, (.ifCond .eq 33, 3, 0, 38, 0)), (8, (.aload_n 0, 1, 0, 0, 0)), (9, (.iload_n 3, 1, 0, 0, 0)), (10, (.invokevirtual 156, 3, 0, 126, 0)), (13, (.ifCond .eq 25, 3, 0, 38, 0)), (16, (.aload_n 0, 1, 0, 0, 0)), (17, (.iload 4, 2, 0, 0, 0)), (19, (.iconst 0, 1, 0, 0, 0)), (20, (.sipush 600, 3, 600, 0, 0)), (23, (.invokevirtual 132, 3, 0, 123, 0)), (26, (.ifCond .eq 12, 3, 0, 38, 0)), (29, (.iload_n 2, 1, 0, 0, 0)), (30, (.iload_n 3, 1, 0, 0, 0)), (31, (.if_icmp .eq 7, 3, 0, 38, 0)), (34, (.iconst 1, 1, 1, 0, 0)), (35, (.goto 4, 3, 0, 39, 0)), (38, (.iconst 0, 1, 0, 0, 0)), (39, (.istore 5, 2, 0, 0, 0)), (41, (.aload_n 0, 1, 0, 0, 0)), (42, (.aload_n 0, 1, 0, 0, 0)), (43, (.iload_n 1, 1, 0, 0, 0)), (44, (.invokevirtual 258, 3, 0, 131, 0)), (47, (.ifCond .ne 7, 3, 0, 54, 0)), (50, (.iconst 1, 1, 1, 0, 0)), (51, (.goto 26, 3, 0, 77, 0)), (54, (.iload 5, 2, 0, 0, 0)), (56, (.ifCond .ne 7, 3, 0, 63, 0)), (59, (.iconst 2, 1, 2, 0, 0)), (60, (.goto 17, 3, 0, 77, 0)), (63, (.aload_n 0, 1, 0, 0, 0)), (64, (.getfield 142, 3, 0, 7, 28)), (67, (.bipush 60, 2, 60, 0, 0)), (69, (.if_icmp .ne 7, 3, 0, 76, 0)), (72, (.iconst 3, 1, 3, 0, 0)), (73, (.goto 4, 3, 0, 77, 0)), (76, (.iconst 0, 1, 0, 0, 0)), (77, (.putfield 128, 3, 0, 7, 0)), (80, (.aload_n 0, 1, 0, 0, 0)), (81, (.getfield 128, 3, 0, 7, 0)), (84, (.ifCond .le 5, 3, 0, 89, 0)), (87, (.iconst 0, 1, 0, 0, 0)), (88, (.ireturn, 1, 0, 0, 0)), (89, (.aload_n 0, 1, 0, 0, 0)), (90, (.getfield 142, 3, 0, 7, 28)), (93, (.istore 6, 2, 0, 0, 0)), (95, (.aload_n 0, 1, 0, 0, 0)), (96, (.iload_n 1, 1, 0, 0, 0)), (97, (.iload_n 2, 1, 0, 0, 0)), (98, (.iload_n 3, 1, 0, 0, 0)), (99, (.invokevirtual 261, 3, 0, 132, 0)), (102, (.ifCond .ne 7, 3, 0, 109, 0)), (105, (.iconst 1, 1, 1, 0, 0)), (106, (.goto 16, 3, 0, 122, 0)), (109, (.aload_n 0, 1, 0, 0, 0)), (110, (.iload_n 1, 1, 0, 0, 0)), (111, (.invokevirtual 264, 3, 0, 136, 0)), (114, (.ifCond .eq 7, 3, 0, 121, 0)), (117, (.iconst 2, 1, 2, 0, 0)), (118, (.goto 4, 3, 0, 122, 0)), (121, (.iconst 0, 1, 0, 0, 0)), (122, (.istore 7, 2, 0, 0, 0)), (124, (.aload_n 0, 1, 0, 0, 0)), (125, (.getfield 74, 3, 0, 7, 29)), (128, (.iload 6, 2, 0, 0, 0)), (130, (.iload_n 1, 1, 0, 0, 0)), (131, (.iastore, 1, 0, 0, 0)), (132, (.aload_n 0, 1, 0, 0, 0)), (133, (.getfield 77, 3, 0, 7, 30)), (136, (.iload 6, 2, 0, 0, 0)), (138, (.iload_n 2, 1, 0, 0, 0)), (139, (.iastore, 1, 0, 0, 0)), (140, (.aload_n 0, 1, 0, 0, 0)), (141, (.getfield 80, 3, 0, 7, 31)), (144, (.iload 6, 2, 0, 0, 0)), (146, (.iload_n 3, 1, 0, 0, 0)), (147, (.iastore, 1, 0, 0, 0)), (148, (.aload_n 0, 1, 0, 0, 0)), (149, (.getfield 104, 3, 0, 7, 39)), (152, (.iload 6, 2, 0, 0, 0)), (154, (.aload_n 0, 1, 0, 0, 0)), (155, (.getfield 244, 3, 0, 7, 1)), (158, (.iastore, 1, 0, 0, 0)), (159, (.aload_n 0, 1, 0, 0, 0)), (160, (.getfield 95, 3, 0, 7, 36)), (163, (.iload 6, 2, 0, 0, 0)), (165, (.iconst (-1), 1, (-1), 0, 0)), (166, (.iastore, 1, 0, 0, 0)), (167, (.aload_n 0, 1, 0, 0, 0)), (168, (.getfield 98, 3, 0, 7, 37)), (171, (.iload 6, 2, 0, 0, 0)), (173, (.iconst (-1), 1, (-1), 0, 0)), (174, (.iastore, 1, 0, 0, 0)), (175, (.aload_n 0, 1, 0, 0, 0)), (176, (.getfield 101, 3, 0, 7, 38)), (179, (.iload 6, 2, 0, 0, 0)), (181, (.iconst (-1), 1, (-1), 0, 0)), (182, (.iastore, 1, 0, 0, 0)), (183, (.aload_n 0, 1, 0, 0, 0)), (184, (.getfield 83, 3, 0, 7, 32)), (187, (.iload 6, 2, 0, 0, 0)), (189, (.iconst 0, 1, 0, 0, 0)), (190, (.iastore, 1, 0, 0, 0)), (191, (.iload 7, 2, 0, 0, 0)), (193, (.ifCond .ne 18, 3, 0, 211, 0)), (196, (.aload_n 0, 1, 0, 0, 0)), (197, (.iload 6, 2, 0, 0, 0)), (199, (.iload 4, 2, 0, 0, 0)), (201, (.invokevirtual 267, 3, 0, 138, 0)), (204, (.ifCond .ne 7, 3, 0, 211, 0)), (207, (.iconst 3, 1, 3, 0, 0)), (208, (.goto 5, 3, 0, 213, 0)), (211, (.iload 7, 2, 0, 0, 0)), (213, (.istore 7, 2, 0, 0, 0)), (215, (.iload 7, 2, 0, 0, 0)), (217, (.ifCond .le 37, 3, 0, 254, 0)), (220, (.aload_n 0, 1, 0, 0, 0)), (221, (.getfield 83, 3, 0, 7, 32)), (224, (.iload 6, 2, 0, 0, 0)), (226, (.bipush 6, 2, 6, 0, 0)), (228, (.iastore, 1, 0, 0, 0)), (229, (.aload_n 0, 1, 0, 0, 0)), (230, (.getfield 86, 3, 0, 7, 33)), (233, (.iload 6, 2, 0, 0, 0)), (235, (.iload 7, 2, 0, 0, 0)), (237, (.iastore, 1, 0, 0, 0)), (238, (.aload_n 0, 1, 0, 0, 0)), (239, (.getfield 89, 3, 0, 7, 34)), (242, (.iload 6, 2, 0, 0, 0)), (244, (.iconst (-1), 1, (-1), 0, 0)), (245, (.iastore, 1, 0, 0, 0)), (246, (.aload_n 0, 1, 0, 0, 0)), (247, (.getfield 92, 3, 0, 7, 35)), (250, (.iload 6, 2, 0, 0, 0)), (252, (.iconst (-1), 1, (-1), 0, 0)), (253, (.iastore, 1, 0, 0, 0)), (254, (.aload_n 0, 1, 0, 0, 0)), (255, (.dup, 1, 0, 0, 0)), (256, (.getfield 142, 3, 0, 7, 28)), (259, (.iconst 1, 1, 1, 0, 0)), (260, (.iadd, 1, 0, 0, 0)), (261, (.putfield 142, 3, 0, 7, 28)), (264, (.iload 6, 2, 0, 0, 0)), (266, (.ireturn, 1, 0, 0, 0))]
/-- 131: DoorstepRidesModel.isRider(I)Z -/
def zK131 : List (Nat × zRI) := [(0, (.aload_n 0, 1, 0, 0, 0)), (1, (.iload_n 1, 1, 0, 0, 0)), (2, (.iconst 0, 1, 0, 0, 0)), (3, (.aload_n 0, 1, 0, 0, 0)), (4, (.getfield 136, 3, 0, 7, 6)), (7, (.iconst 1, 1, 1, 0, 0)), (8, (.isub, 1, 0, 0, 0)), (9, (.invokevirtual 132, 3, 0, 123, 0)), (12, (.ireturn, 1, 0, 0, 0))]
/-- 132: DoorstepRidesModel.isOwed(III)Z -/
def zK132 : List (Nat × zRI) := [(0, (.aload_n 0, 1, 0, 0, 0)), (1, (.getfield 152, 3, 0, 7, 3)), (4, (.ifCond .eq 23, 3, 0, 27, 0)), (7, (.aload_n 0, 1, 0, 0, 0)), (8, (.getfield 13, 3, 0, 7, 7)), (11, (.iload_n 1, 1, 0, 0, 0)), (12, (.iaload, 1, 0, 0, 0)), (13, (.ifCond .eq 14, 3, 0, 27, 0)), (16, (.aload_n 0, 1, 0, 0, 0)), (17, (.getfield 20, 3, 0, 7, 9)), (20, (.iload_n 1, 1, 0, 0, 0)), (21, (.iaload, 1, 0, 0, 0)), (22, (.iconst 2, 1, 2, 0, 0)), (23, (.idiv, 1, 0, 0, 0)), (24, (.goto 9, 3, 0, 33, 0)), (27, (.aload_n 0, 1, 0, 0, 0)), (28, (.getfield 20, 3, 0, 7, 9)), (31, (.iload_n 1, 1, 0, 0, 0)), (32, (.iaload, 1, 0, 0, 0)), (33, (.istore 4, 2, 0, 0, 0)), (35, (.aload_n 0, 1, 0, 0, 0)), (36, (.getfield 160, 3, 0, 7, 5)), (39, (.ifCond .eq 19, 3, 0, 58, 0)), (42, (.aload_n 0, 1, 0, 0, 0)), (43, (.iload_n 2, 1, 0, 0, 0)), (44, (.invokevirtual 241, 3, 0, 133, 0)), (47, (.aload_n 0, 1, 0, 0, 0)), (48, (.iload_n 3, 1, 0, 0, 0)), (49, (.invokevirtual 241, 3, 0, 133, 0)), (52, (.iadd, 1, 0, 0, 0)), (53, (.iload 4, 2, 0, 0, 0)), (55, (.if_icmp .le 7, 3, 0, 62, 0)), (58, (.iconst 1, 1, 1, 0, 0)), (59, (.goto 4, 3, 0, 63, 0)), (62, (.iconst 0, 1, 0, 0, 0)), (63, (.ireturn, 1, 0, 0, 0))]
/-- 133: DoorstepRidesModel.nearest(I)I -/
def zK133 : List (Nat × zRI) := [(0, (.bipush 99, 2, 99, 0, 0)), (2, (.istore_n 2, 1, 0, 0, 0)), (3, (.iconst 0, 1, 0, 0, 0)), (4, (.istore_n 3, 1, 0, 0, 0)), (5, (.iload_n 3, 1, 0, 0, 0)), (6, (.bipush 36, 2, 36, 0, 0)), (8, (.if_icmp .ge 39, 3, 0, 47, 0)), (11, (.aload_n 0, 1, 0, 0, 0)), (12, (.iload_n 1, 1, 0, 0, 0)), (13, (.iload_n 3, 1, 0, 0, 0)), (14, (.invokevirtual 149, 3, 0, 134, 0)), (17, (.istore 4, 2, 0, 0, 0)), (19, (.aload_n 0, 1, 0, 0, 0)), (20, (.getfield 7, 3, 0, 7, 4)), (23, (.iload_n 3, 1, 0, 0, 0)), (24, (.baload, 1, 0, 0, 0)), (25, (.ifCond .eq 14, 3, 0, 39, 0)), (28, (.iload 4, 2, 0, 0, 0)), (30, (.iload_n 2, 1, 0, 0, 0)), (31, (.if_icmp .ge 8, 3, 0, 39, 0)), (34, (.iload 4, 2, 0, 0, 0)), (36, (.goto 4, 3, 0, 40, 0)), (39, (.iload_n 2, 1, 0, 0, 0)), (40, (.istore_n 2, 1, 0, 0, 0)), (41, (.iinc 3 1, 3, 1, 0, 0)), (44, (.goto (-39), 3, 0, 5, 0)), (47, (.iload_n 2, 1, 0, 0, 0)), (48, (.ireturn, 1, 0, 0, 0))]
/-- 134: DoorstepRidesModel.steps(II)I -/
def zK134 : List (Nat × zRI) := [(0, (.aload_n 0, 1, 0, 0, 0)), (1, (.iload_n 1, 1, 0, 0, 0)), (2, (.bipush 6, 2, 6, 0, 0)), (4, (.idiv, 1, 0, 0, 0)), (5, (.iload_n 2, 1, 0, 0, 0)), (6, (.bipush 6, 2, 6, 0, 0)), (8, (.idiv, 1, 0, 0, 0)), (9, (.invokevirtual 145, 3, 0, 135, 0)), (12, (.aload_n 0, 1, 0, 0, 0)), (13, (.iload_n 1, 1, 0, 0, 0)), (14, (.bipush 6, 2, 6, 0, 0)), (16, (.irem, 1, 0, 0, 0)), (17, (.iload_n 2, 1, 0, 0, 0)), (18, (.bipush 6, 2, 6, 0, 0)), (20, (.irem, 1, 0, 0, 0)), (21, (.invokevirtual 145, 3, 0, 135, 0)), (24, (.iadd, 1, 0, 0, 0)), (25, (.ireturn, 1, 0, 0, 0))]
/-- 135: DoorstepRidesModel.apart(II)I -/
def zK135 : List (Nat × zRI) := [(0, (.iload_n 1, 1, 0, 0, 0)), (1, (.iload_n 2, 1, 0, 0, 0)), (2, (.if_icmp .le 9, 3, 0, 11, 0)), (5, (.iload_n 1, 1, 0, 0, 0)), (6, (.iload_n 2, 1, 0, 0, 0)), (7, (.isub, 1, 0, 0, 0)), (8, (.goto 6, 3, 0, 14, 0)), (11, (.iload_n 2, 1, 0, 0, 0)), (12, (.iload_n 1, 1, 0, 0, 0)), (13, (.isub, 1, 0, 0, 0)), (14, (.ireturn, 1, 0, 0, 0))]
/-- 136: DoorstepRidesModel.isSuspended(I)Z -/
def zK136 : List (Nat × zRI) := [(0, (.aload_n 0, 1, 0, 0, 0)), (1, (.iload_n 1, 1, 0, 0, 0)), (2, (.iconst 1, 1, 1, 0, 0)), (3, (.invokevirtual 247, 3, 0, 137, 0)), (6, (.istore_n 2, 1, 0, 0, 0)), (7, (.iload_n 2, 1, 0, 0, 0)), (8, (.iconst 3, 1, 3, 0, 0)), (9, (.if_icmp .lt 19, 3, 0, 28, 0)), (12, (.iconst 5, 1, 5, 0, 0)), (13, (.iload_n 2, 1, 0, 0, 0)), (14, (.imul, 1, 0, 0, 0)), (15, (.aload_n 0, 1, 0, 0, 0)), (16, (.iload_n 1, 1, 0, 0, 0)), (17, (.iconst 0, 1, 0, 0, 0)), (18, (.invokevirtual 247, 3, 0, 137, 0)), (21, (.if_icmp .lt 7, 3, 0, 28, 0)), (24, (.iconst 1, 1, 1, 0, 0)), (25, (.goto 4, 3, 0, 29, 0)), (28, (.iconst 0, 1, 0, 0, 0)), (29, (.ireturn, 1, 0, 0, 0))]
/-- 137: DoorstepRidesModel.askedBy(IZ)I -/
def zK137 : List (Nat × zRI) := [(0, (.iconst 0, 1, 0, 0, 0)), (1, (.istore_n 3, 1, 0, 0, 0)), (2, (.iconst 0, 1, 0, 0, 0)), (3, (.istore 4, 2, 0, 0, 0)), (5, (.iload 4, 2, 0, 0, 0)), (7, (.aload_n 0, 1, 0, 0, 0)), (8, (.getfield 142, 3, 0, 7, 28)), (11, (.if_icmp .ge 83, 3, 0, 94, 0)), (14, (.aload_n 0, 1, 0, 0, 0)), (15, (.getfield 74, 3, 0, 7, 29)), (18, (.iload 4, 2, 0, 0, 0)), (20, (.iaload, 1, 0, 0, 0)), (21, (.iload_n 1, 1, 0, 0, 0)), (22, (.if_icmp .ne 36, 3, 0, 58, 0)), (25, (.aload_n 0, 1, 0, 0, 0)), (26, (.getfield 104, 3, 0, 7, 39)), (29, (.iload 4, 2, 0, 0, 0)), (31, (.iaload, 1, 0, 0, 0)), (32, (.aload_n 0, 1, 0, 0, 0)), (33, (.getfield 244, 3, 0, 7, 1)), (36, (.bipush 30, 2, 30, 0, 0)), (38, (.isub, 1, 0, 0, 0)), (39, (.if_icmp .le 19, 3, 0, 58, 0)), (42, (.aload_n 0, 1, 0, 0, 0)), (43, (.getfield 83, 3, 0, 7, 32)), (46, (.iload 4, 2, 0, 0, 0)), (48, (.iaload, 1, 0, 0, 0)), (49, (.bipush 6, 2, 6, 0, 0)), (51, (.if_icmp .eq 7, 3, 0, 58, 0)), (54, (.iconst 1, 1, 1, 0, 0)), (55, (.goto 4, 3, 0, 59, 0)), (58, (.iconst 0, 1, 0, 0, 0)), (59, (.istore 5, 2, 0, 0, 0)), (61, (.iload_n 3, 1, 0, 0, 0)), (62, (.iload 5, 2, 0, 0, 0)), (64, (.ifCond .eq 21, 3, 0, 85, 0)), (67, (.iload_n 2, 1, 0, 0, 0)), (68, (.ifCond .eq 13, 3, 0, 81, 0)), (71, (.aload_n 0, 1, 0, 0, 0)), (72, (.getfield 107, 3, 0, 7, 40)), (75, (.iload 4, 2, 0, 0, 0)), (77, (.baload, 1, 0, 0, 0)), (78, (.ifCond .eq 7, 3, 0, 85, 0)), (81, (.iconst 1, 1, 1, 0, 0)), (82, (.goto 4, 3, 0, 86, 0)), (85, (.iconst 0, 1, 0, 0, 0)), (86, (.iadd, 1, 0, 0, 0)), (87, (.istore_n 3, 1, 0, 0, 0)), (88, (.iinc 4 1, 3, 1, 0, 0)), (91, (.goto (-86), 3, 0, 5, 0)), (94, (.iload_n 3, 1, 0, 0, 0)), (95, (.ireturn, 1, 0, 0, 0))]
/-- 138: DoorstepRidesModel.promiseNear(II)Z -/
def zK138 : List (Nat × zRI) := [(0, (.aload_n 0, 1, 0, 0, 0)), (1, (.iload_n 1, 1, 0, 0, 0)), (2, (.iload_n 2, 1, 0, 0, 0)), (3, (.invokevirtual 254, 3, 0, 139, 0)), (6, (.istore_n 3, 1, 0, 0, 0)), (7, (.bipush 10, 2, 10, 0, 0)), (9, (.istore 4, 2, 0, 0, 0)), (11, (.iload 4, 2, 0, 0, 0)), (13, (.bipush 60, 2, 60, 0, 0)), (15, (.if_icmp .gt 43, 3, 0, 58, 0)), (18, (.iload_n 3, 1, 0, 0, 0)), (19, (.ifCond .ne 39, 3, 0, 58, 0)), (22, (.aload_n 0, 1, 0, 0, 0)), (23, (.iload_n 1, 1, 0, 0, 0)), (24, (.iload_n 2, 1, 0, 0, 0)), (25, (.iload 4, 2, 0, 0, 0)), (27, (.iadd, 1, 0, 0, 0)), (28, (.invokevirtual 254, 3, 0, 139, 0)), (31, (.ifCond .ne 15, 3, 0, 46, 0)), (34, (.aload_n 0, 1, 0, 0, 0)), (35, (.iload_n 1, 1, 0, 0, 0)), (36, (.iload_n 2, 1, 0, 0, 0)), (37, (.iload 4, 2, 0, 0, 0)), (39, (.isub, 1, 0, 0, 0)), (40, (.invokevirtual 254, 3, 0, 139, 0)), (43, (.ifCond .eq 7, 3, 0, 50, 0)), (46, (.iconst 1, 1, 1, 0, 0)), (47, (.goto 4, 3, 0, 51, 0)), (50, (.iconst 0, 1, 0, 0, 0)), (51, (.istore_n 3, 1, 0, 0, 0)), (52, (.iinc 4 10, 3, 10, 0, 0)), (55, (.goto (-44), 3, 0, 11, 0)), (58, (.iload_n 3, 1, 0, 0, 0)), (59, (.ireturn, 1, 0, 0, 0))]
/-- 139: DoorstepRidesModel.promise(II)Z -/
def zK139 : List (Nat × zRI) := [(0, (.aload_n 0, 1, 0, 0, 0)), (1, (.getfield 89, 3, 0, 7, 34)), (4, (.iload_n 1, 1, 0, 0, 0)), (5, (.iload_n 2, 1, 0, 0, 0)), (6, (.iastore, 1, 0, 0, 0)), (7, (.iload_n 2, 1, 0, 0, 0)), (8, (.aload_n 0, 1, 0, 0, 0)), (9, (.getfield 176, 3, 0, 7, 2)), (12, (.if_icmp .le 22, 3, 0, 34, 0)), (15, (.iload_n 2, 1, 0, 0, 0)), (16, (.sipush 600, 3, 600, 0, 0)), (19, (.if_icmp .gt 15, 3, 0, 34, 0)), (22, (.aload_n 0, 1, 0, 0, 0)), (23, (.iload_n 1, 1, 0, 0, 0)), (24, (.invokevirtual 251, 3, 0, 140, 0)), (27, (.ifCond .eq 7, 3, 0, 34, 0)), (30, (.iconst 1, 1, 1, 0, 0)), (31, (.goto 4, 3, 0, 35, 0)), (34, (.iconst 0, 1, 0, 0, 0)), (35, (.ireturn, 1, 0, 0, 0))]
/-- 140: DoorstepRidesModel.put(I)Z -/
def zK140 : List (Nat × zRI) := [(0, (.aload_n 0, 1, 0, 0, 0)), (1, (.iconst (-1), 1, (-1), 0, 0)), (2, (.putfield 217, 3, 0, 7, 48)), (5, (.iconst 0, 1, 0, 0, 0)), (6, (.istore_n 2, 1, 0, 0, 0)), (7, (.iload_n 2, 1, 0, 0, 0)), (8, (.aload_n 0, 1, 0, 0, 0)), (9, (.getfield 139, 3, 0, 7, 11)), (12, (.if_icmp .ge 15, 3, 0, 27, 0)), (15, (.aload_n 0, 1, 0, 0, 0)), (16, (.iload_n 2, 1, 0, 0, 0)), (17, (.iload_n 1, 1, 0, 0, 0)), (18, (.invokevirtual 232, 3, 0, 141, 0)), (21, (.iinc 2 1, 3, 1, 0, 0)), (24, (.goto (-17), 3, 0, 7, 0)), (27, (.aload_n 0, 1, 0, 0, 0)), (28, (.getfield 217, 3, 0, 7, 48)), (31, (.iconst (-1), 1, (-1), 0, 0)), (32, (.if_icmp .ne 5, 3, 0, 37, 0)), (35, (.iconst 0, 1, 0, 0, 0)), (36, (.ireturn, 1, 0, 0, 0)), (37, (.aload_n 0, 1, 0, 0, 0)), (38, (.aload_n 0, 1, 0, 0, 0)), (39, (.getfield 217, 3, 0, 7, 48)), (42, (.invokevirtual 207, 3, 0, 143, 0)), (45, (.aload_n 0, 1, 0, 0, 0)), (46, (.aload_n 0, 1, 0, 0, 0)), (47, (.getfield 226, 3, 0, 7, 49)), (50, (.iconst 2, 1, 2, 0, 0)), (51, (.iload_n 1, 1, 0, 0, 0)), (52, (.imul, 1, 0, 0, 0)), (53, (.invokevirtual 213, 3, 0, 147, 0)), (56, (.aload_n 0, 1, 0, 0, 0)), (57, (.aload_n 0, 1, 0, 0, 0)), (58, (.getfield 229, 3, 0, 7, 50)), (61, (.iconst 2, 1, 2, 0, 0)), (62, (.iload_n 1, 1, 0, 0, 0)), (63, (.imul, 1, 0, 0, 0)), (64, (.iconst 1, 1, 1, 0, 0)), (65, (.iadd, 1, 0, 0, 0)), (66, (.invokevirtual 213, 3, 0, 147, 0)), (69, (.aload_n 0, 1, 0, 0, 0)), (70, (.aload_n 0, 1, 0, 0, 0)), (71, (.getfield 217, 3, 0, 7, 48)), (74, (.invokevirtual 235, 3, 0, 157, 0)), (77, (.aload_n 0, 1, 0, 0, 0)), (78, (.getfield 92, 3, 0, 7, 35)), (81, (.iload_n 1, 1, 0, 0, 0)), (82, (.aload_n 0, 1, 0, 0, 0)), (83, (.getfield 217, 3, 0, 7, 48)), (86, (.iastore, 1, 0, 0, 0)), (87, (.iconst 1, 1, 1, 0, 0)), (88, (.ireturn, 1, 0, 0, 0))]
/-- 141: DoorstepRidesModel.look(II)V -/
def zK141 : List (Nat × zRI) := [(0, (.aload_n 0, 1, 0, 0, 0)), (1, (.iload_n 2, 1, 0, 0, 0)), (2, (.invokevirtual 166, 3, 0, 142, 0)), (5, (.iconst 2, 1, 2, 0, 0)), (6, (.if_icmp .ne 32, 3, 0, 38, 0)), (9, (.aload_n 0, 1, 0, 0, 0)), (10, (.getfield 38, 3, 0, 7, 16)), (13, (.iload_n 1, 1, 0, 0, 0)), (14, (.baload, 1, 0, 0, 0)), (15, (.ifCond .eq 27, 3, 0, 42, 0)), (18, (.aload_n 0, 1, 0, 0, 0)), (19, (.getfield 17, 3, 0, 7, 8)), (22, (.aload_n 0, 1, 0, 0, 0)), (23, (.getfield 74, 3, 0, 7, 29)), (26, (.iload_n 2, 1, 0, 0, 0)), (27, (.iaload, 1, 0, 0, 0)), (28, (.iaload, 1, 0, 0, 0)), (29, (.aload_n 0, 1, 0, 0, 0)), (30, (.getfield 35, 3, 0, 7, 15)), (33, (.iload_n 1, 1, 0, 0, 0)), (34, (.iaload, 1, 0, 0, 0)), (35, (.if_icmp .gt 7, 3, 0, 42, 0)), (38, (.iconst 1, 1, 1, 0, 0)), (39, (.goto 4, 3, 0, 43, 0)), (42, (.iconst 0, 1, 0, 0, 0)), (43, (.istore_n 3, 1, 0, 0, 0)), (44, (.aload_n 0, 1, 0, 0, 0)), (45, (.iload_n 1, 1, 0, 0, 0)), (46, (.invokevirtual 207, 3, 0, 143, 0)), (49, (.aload_n 0, 1, 0, 0, 0)), (50, (.iload_n 1, 1, 0, 0, 0)), (51, (.invokevirtual 210, 3, 0, 144, 0)), (54, (.istore 4, 2, 0, 0, 0)), (56, (.aload_n 0, 1, 0, 0, 0)), (57, (.getfield 173, 3, 0, 7, 42)), (60, (.istore 5, 2, 0, 0, 0)), (62, (.aload_n 0, 1, 0, 0, 0)), (63, (.getfield 47, 3, 0, 7, 19)), (66, (.iload_n 1, 1, 0, 0, 0)), (67, (.baload, 1, 0, 0, 0)), (68, (.ifCond .eq 7, 3, 0, 75, 0)), (71, (.iconst 1, 1, 1, 0, 0)), (72, (.goto 4, 3, 0, 76, 0)), (75, (.iconst 0, 1, 0, 0, 0)), (76, (.istore 6, 2, 0, 0, 0)), (78, (.iload 6, 2, 0, 0, 0)), (80, (.istore 7, 2, 0, 0, 0)), (82, (.iload 7, 2, 0, 0, 0)), (84, (.iload 5, 2, 0, 0, 0)), (86, (.if_icmp .gt 124, 3, 0, 210, 0)), (89, (.iload_n 3, 1, 0, 0, 0)), (90, (.ifCond .eq 120, 3, 0, 210, 0)), (93, (.iload 5, 2, 0, 0, 0)), (95, (.bipush 14, 2, 14, 0, 0)), (97, (.if_icmp .gt 113, 3, 0, 210, 0)), (100, (.iload 7, 2, 0, 0, 0)), (102, (.iconst 1, 1, 1, 0, 0)), (103, (.iadd, 1, 0, 0, 0)), (104, (.istore 8, 2, 0, 0, 0)), (106, (.iload 8, 2, 0, 0, 0)), (108, (.iload 5, 2, 0, 0, 0)), (110, (.iconst 1, 1, 1, 0, 0)), (111, (.iadd, 1, 0, 0, 0)), (112, (.if_icmp .gt 92, 3, 0, 204, 0)), (115, (.aload_n 0, 1, 0, 0, 0)), (116, (.iload_n 1, 1, 0, 0, 0)), (117, (.invokevirtual 207, 3, 0, 143, 0)), (120, (.aload_n 0, 1, 0, 0, 0)), (121, (.iload 7, 2, 0, 0, 0)), (123, (.iconst 2, 1, 2, 0, 0)), (124, (.iload_n 2, 1, 0, 0, 0)), (125, (.imul, 1, 0, 0, 0)), (126, (.invokevirtual 213, 3, 0, 147, 0)), (129, (.aload_n 0, 1, 0, 0, 0)), (130, (.iload 8, 2, 0, 0, 0)), (132, (.iconst 2, 1, 2, 0, 0)), (133, (.iload_n 2, 1, 0, 0, 0)), (134, (.imul, 1, 0, 0, 0)), (135, (.iconst 1, 1, 1, 0, 0)), (136, (.iadd, 1, 0, 0, 0)), (137, (.invokevirtual 213, 3, 0, 147, 0)), (140, (.aload_n 0, 1, 0, 0, 0)), (141, (.iload_n 1, 1, 0, 0, 0)), (142, (.invokevirtual 210, 3, 0, 144, 0)), (145, (.iload 4, 2, 0, 0, 0)), (147, (.isub, 1, 0, 0, 0)), (148, (.istore 9, 2, 0, 0, 0)), (150, (.aload_n 0, 1, 0, 0, 0)), (151, (.getfield 217, 3, 0, 7, 48)), (154, (.iconst (-1), 1, (-1), 0, 0)), (155, (.if_icmp .eq 12, 3, 0, 167, 0)), (158, (.iload 9, 2, 0, 0, 0)), (160, (.aload_n 0, 1, 0, 0, 0)), (161, (.getfield 220, 3, 0, 7, 47)), (164, (.if_icmp .ge 34, 3, 0, 198, 0)), (167, (.aload_n 0, 1, 0, 0, 0)), (168, (.iload_n 1, 1, 0, 0, 0)), (169, (.invokevirtual 223, 3, 0, 148, 0)), (172, (.ifCond .eq 26, 3, 0, 198, 0)), (175, (.aload_n 0, 1, 0, 0, 0)), (176, (.iload 9, 2, 0, 0, 0)), (178, (.putfield 220, 3, 0, 7, 47)), (181, (.aload_n 0, 1, 0, 0, 0)), (182, (.iload_n 1, 1, 0, 0, 0)), (183, (.putfield 217, 3, 0, 7, 48)), (186, (.aload_n 0, 1, 0, 0, 0)), (187, (.iload 7, 2, 0, 0, 0)), (189, (.putfield 226, 3, 0, 7, 49)), (192, (.aload_n 0, 1, 0, 0, 0)), (193, (.iload 8, 2, 0, 0, 0)), (195, (.putfield 229, 3, 0, 7, 50)), (198, (.iinc 8 1, 3, 1, 0, 0)), (201, (.goto (-95), 3, 0, 106, 0)), (204, (.iinc 7 1, 3, 1, 0, 0)), (207, (.goto (-125), 3, 0, 82, 0)), (210, (.return_, 1, 0, 0, 0))]
/-- 142: DoorstepRidesModel.kindOf(I)I -/
def zK142 : List (Nat × zRI) := [(0, (.aload_n 0, 1, 0, 0, 0)), (1, (.getfield 13, 3, 0, 7, 7)), (4, (.aload_n 0, 1, 0, 0, 0)), (5, (.getfield 74, 3, 0, 7, 29)), (8, (.iload_n 1, 1, 0, 0, 0)), (9, (.iaload, 1, 0, 0, 0)), (10, (.iaload, 1, 0, 0, 0)), (11, (.ireturn, 1, 0, 0, 0))]
/-- 143: DoorstepRidesModel.tryRoute(I)V -/
def zK143 : List (Nat × zRI) := [(0, (.aload_n 0, 1, 0, 0, 0)), (1, (.aload_n 0, 1, 0, 0, 0)), (2, (.getfield 71, 3, 0, 7, 27)), (5, (.iload_n 1, 1, 0, 0, 0)), (6, (.iaload, 1, 0, 0, 0)), (7, (.putfield 173, 3, 0, 7, 42)), (10, (.iconst 0, 1, 0, 0, 0)), (11, (.istore_n 2, 1, 0, 0, 0)), (12, (.iload_n 2, 1, 0, 0, 0)), (13, (.aload_n 0, 1, 0, 0, 0)), (14, (.getfield 173, 3, 0, 7, 42)), (17, (.if_icmp .ge 26, 3, 0, 43, 0)), (20, (.aload_n 0, 1, 0, 0, 0)), (21, (.getfield 113, 3, 0, 7, 43)), (24, (.iload_n 2, 1, 0, 0, 0)), (25, (.aload_n 0, 1, 0, 0, 0)), (26, (.getfield 68, 3, 0, 7, 26)), (29, (.bipush 16, 2, 16, 0, 0)), (31, (.iload_n 1, 1, 0, 0, 0)), (32, (.imul, 1, 0, 0, 0)), (33, (.iload_n 2, 1, 0, 0, 0)), (34, (.iadd, 1, 0, 0, 0)), (35, (.iaload, 1, 0, 0, 0)), (36, (.iastore, 1, 0, 0, 0)), (37, (.iinc 2 1, 3, 1, 0, 0)), (40, (.goto (-28), 3, 0, 12, 0)), (43, (.return_, 1, 0, 0, 0))]
/-- 144: DoorstepRidesModel.driveOfTry(I)I -/
def zK144 : List (Nat × zRI) := [(0, (.iconst 0, 1, 0, 0, 0)), (1, (.istore_n 2, 1, 0, 0, 0)), (2, (.aload_n 0, 1, 0, 0, 0)), (3, (.getfield 41, 3, 0, 7, 17)), (6, (.iload_n 1, 1, 0, 0, 0)), (7, (.iaload, 1, 0, 0, 0)), (8, (.istore_n 3, 1, 0, 0, 0)), (9, (.iconst 0, 1, 0, 0, 0)), (10, (.istore 4, 2, 0, 0, 0)), (12, (.iload 4, 2, 0, 0, 0)), (14, (.aload_n 0, 1, 0, 0, 0)), (15, (.getfield 173, 3, 0, 7, 42)), (18, (.if_icmp .ge 40, 3, 0, 58, 0)), (21, (.iload_n 2, 1, 0, 0, 0)), (22, (.aload_n 0, 1, 0, 0, 0)), (23, (.iload_n 3, 1, 0, 0, 0)), (24, (.aload_n 0, 1, 0, 0, 0)), (25, (.aload_n 0, 1, 0, 0, 0)), (26, (.getfield 113, 3, 0, 7, 43)), (29, (.iload 4, 2, 0, 0, 0)), (31, (.iaload, 1, 0, 0, 0)), (32, (.invokevirtual 179, 3, 0, 145, 0)), (35, (.invokevirtual 170, 3, 0, 146, 0)), (38, (.iadd, 1, 0, 0, 0)), (39, (.istore_n 2, 1, 0, 0, 0)), (40, (.aload_n 0, 1, 0, 0, 0)), (41, (.aload_n 0, 1, 0, 0, 0)), (42, (.getfield 113, 3, 0, 7, 43)), (45, (.iload 4, 2, 0, 0, 0)), (47, (.iaload, 1, 0, 0, 0)), (48, (.invokevirtual 179, 3, 0, 145, 0)), (51, (.istore_n 3, 1, 0, 0, 0)), (52, (.iinc 4 1, 3, 1, 0, 0)), (55, (.goto (-43), 3, 0, 12, 0)), (58, (.iload_n 2, 1, 0, 0, 0)), (59, (.aload_n 0, 1, 0, 0, 0)), (60, (.iload_n 3, 1, 0, 0, 0)), (61, (.aload_n 0, 1, 0, 0, 0)), (62, (.getfield 26, 3, 0, 7, 12)), (65, (.iload_n 1, 1, 0, 0, 0)), (66, (.iaload, 1, 0, 0, 0)), (67, (.invokevirtual 170, 3, 0, 146, 0)), (70, (.iadd, 1, 0, 0, 0)), (71, (.ireturn, 1, 0, 0, 0))]
/-- 145: DoorstepRidesModel.placeOf(I)I -/
def zK145 : List (Nat × zRI) := [(0, (.iload_n 1, 1, 0, 0, 0)), (1, (.iconst 2, 1, 2, 0, 0)), (2, (.irem, 1, 0, 0, 0)), (3, (.ifCond .ne 14, 3, 0, 17, 0)), (6, (.aload_n 0, 1, 0, 0, 0)), (7, (.getfield 77, 3, 0, 7, 30)), (10, (.iload_n 1, 1, 0, 0, 0)), (11, (.iconst 2, 1, 2, 0, 0)), (12, (.idiv, 1, 0, 0, 0)), (13, (.iaload, 1, 0, 0, 0)), (14, (.goto 11, 3, 0, 25, 0)), (17, (.aload_n 0, 1, 0, 0, 0)), (18, (.getfield 80, 3, 0, 7, 31)), (21, (.iload_n 1, 1, 0, 0, 0)), (22, (.iconst 2, 1, 2, 0, 0)), (23, (.idiv, 1, 0, 0, 0)), (24, (.iaload, 1, 0, 0, 0)), (25, (.ireturn, 1, 0, 0, 0))]
/-- 146: DoorstepRidesModel.driveOf(II)I -/
def zK146 : List (Nat × zRI) := [(0, (.iconst 2, 1, 2, 0, 0)), (1, (.aload_n 0, 1, 0, 0, 0)), (2, (.iload_n 1, 1, 0, 0, 0)), (3, (.iload_n 2, 1, 0, 0, 0)), (4, (.invokevirtual 149, 3, 0, 134, 0)), (7, (.imul, 1, 0, 0, 0)), (8, (.ireturn, 1, 0, 0, 0))]
/-- 147: DoorstepRidesModel.putStop(II)V -/
def zK147 : List (Nat × zRI) := [(0, (.aload_n 0, 1, 0, 0, 0)), (1, (.getfield 173, 3, 0, 7, 42)), (4, (.istore_n 3, 1, 0, 0, 0)), (5, (.iload_n 3, 1, 0, 0, 0)), (6, (.iload_n 1, 1, 0, 0, 0)), (7, (.if_icmp .le 23, 3, 0, 30, 0)), (10, (.aload_n 0, 1, 0, 0, 0)), (11, (.getfield 113, 3, 0, 7, 43)), (14, (.iload_n 3, 1, 0, 0, 0)), (15, (.aload_n 0, 1, 0, 0, 0)), (16, (.getfield 113, 3, 0, 7, 43)), (19, (.iload_n 3, 1, 0, 0, 0)), (20, (.iconst 1, 1, 1, 0, 0)), (21, (.isub, 1, 0, 0, 0)), (22, (.iaload, 1, 0, 0, 0)), (23, (.iastore, 1, 0, 0, 0)), (24, (.iinc 3 (-1), 3, (-1), 0, 0)), (27, (.goto (-22), 3, 0, 5, 0)), (30, (.aload_n 0, 1, 0, 0, 0)), (31, (.getfield 113, 3, 0, 7, 43)), (34, (.iload_n 1, 1, 0, 0, 0)), (35, (.iload_n 2, 1, 0, 0, 0)), (36, (.iastore, 1, 0, 0, 0)), (37, (.aload_n 0, 1, 0, 0, 0)), (38, (.dup, 1, 0, 0, 0)), (39, (.getfield 173, 3, 0, 7, 42)), (42, (.iconst 1, 1, 1, 0, 0)), (43, (.iadd, 1, 0, 0, 0)), (44, (.putfield 173, 3, 0, 7, 42)), (47, (.return_, 1, 0, 0, 0))]
/-- 148: DoorstepRidesModel.isRight(I)Z -/
def zK148 : List (Nat × zRI) := [(0, (.aload_n 0, 1, 0, 0, 0)), (1, (.iload_n 1, 1, 0, 0, 0)), (2, (.invokevirtual 194, 3, 0, 149, 0)), (5, (.aload_n 0, 1, 0, 0, 0)), (6, (.getfield 59, 3, 0, 7, 23)), (9, (.iload_n 1, 1, 0, 0, 0)), (10, (.iaload, 1, 0, 0, 0)), (11, (.istore_n 2, 1, 0, 0, 0)), (12, (.aload_n 0, 1, 0, 0, 0)), (13, (.getfield 65, 3, 0, 7, 25)), (16, (.iload_n 1, 1, 0, 0, 0)), (17, (.iaload, 1, 0, 0, 0)), (18, (.istore_n 3, 1, 0, 0, 0)), (19, (.iconst 1, 1, 1, 0, 0)), (20, (.istore 4, 2, 0, 0, 0)), (22, (.iconst 0, 1, 0, 0, 0)), (23, (.istore 5, 2, 0, 0, 0)), (25, (.iload 5, 2, 0, 0, 0)), (27, (.iload_n 3, 1, 0, 0, 0)), (28, (.if_icmp .ge 27, 3, 0, 55, 0)), (31, (.aload_n 0, 1, 0, 0, 0)), (32, (.getfield 122, 3, 0, 7, 46)), (35, (.iload 5, 2, 0, 0, 0)), (37, (.aload_n 0, 1, 0, 0, 0)), (38, (.getfield 62, 3, 0, 7, 24)), (41, (.iconst 3, 1, 3, 0, 0)), (42, (.iload_n 1, 1, 0, 0, 0)), (43, (.imul, 1, 0, 0, 0)), (44, (.iload 5, 2, 0, 0, 0)), (46, (.iadd, 1, 0, 0, 0)), (47, (.iaload, 1, 0, 0, 0)), (48, (.iastore, 1, 0, 0, 0)), (49, (.iinc 5 1, 3, 1, 0, 0)), (52, (.goto (-27), 3, 0, 25, 0)), (55, (.iconst 0, 1, 0, 0, 0)), (56, (.istore 5, 2, 0, 0, 0)), (58, (.iload 5, 2, 0, 0, 0)), (60, (.aload_n 0, 1, 0, 0, 0)), (61, (.getfield 173, 3, 0, 7, 42)), (64, (.if_icmp .ge 182, 3, 0, 246, 0)), (67, (.iload 4, 2, 0, 0, 0)), (69, (.ifCond .eq 177, 3, 0, 246, 0)), (72, (.aload_n 0, 1, 0, 0, 0)), (73, (.getfield 113, 3, 0, 7, 43)), (76, (.iload 5, 2, 0, 0, 0)), (78, (.iaload, 1, 0, 0, 0)), (79, (.iconst 2, 1, 2, 0, 0)), (80, (.idiv, 1, 0, 0, 0)), (81, (.istore 6, 2, 0, 0, 0)), (83, (.aload_n 0, 1, 0, 0, 0)), (84, (.iload 6, 2, 0, 0, 0)), (86, (.invokevirtual 166, 3, 0, 142, 0)), (89, (.iconst 2, 1, 2, 0, 0)), (90, (.if_icmp .ne 7, 3, 0, 97, 0)), (93, (.iconst 1, 1, 1, 0, 0)), (94, (.goto 4, 3, 0, 98, 0)), (97, (.iconst 0, 1, 0, 0, 0)), (98, (.istore 7, 2, 0, 0, 0)), (100, (.aload_n 0, 1, 0, 0, 0)), (101, (.iload 5, 2, 0, 0, 0)), (103, (.invokevirtual 198, 3, 0, 151, 0)), (106, (.ifCond .ne 7, 3, 0, 113, 0)), (109, (.iconst 1, 1, 1, 0, 0)), (110, (.goto 4, 3, 0, 114, 0)), (113, (.iconst 0, 1, 0, 0, 0)), (114, (.istore 4, 2, 0, 0, 0)), (116, (.aload_n 0, 1, 0, 0, 0)), (117, (.getfield 113, 3, 0, 7, 43)), (120, (.iload 5, 2, 0, 0, 0)), (122, (.iaload, 1, 0, 0, 0)), (123, (.iconst 2, 1, 2, 0, 0)), (124, (.irem, 1, 0, 0, 0)), (125, (.ifCond .ne 63, 3, 0, 188, 0)), (128, (.iload_n 2, 1, 0, 0, 0)), (129, (.aload_n 0, 1, 0, 0, 0)), (130, (.iload 6, 2, 0, 0, 0)), (132, (.invokevirtual 201, 3, 0, 155, 0)), (135, (.iadd, 1, 0, 0, 0)), (136, (.istore_n 2, 1, 0, 0, 0)), (137, (.iload 7, 2, 0, 0, 0)), (139, (.ifCond .eq 14, 3, 0, 153, 0)), (142, (.aload_n 0, 1, 0, 0, 0)), (143, (.getfield 122, 3, 0, 7, 46)), (146, (.iload_n 3, 1, 0, 0, 0)), (147, (.iload 6, 2, 0, 0, 0)), (149, (.iastore, 1, 0, 0, 0)), (150, (.iinc 3 1, 3, 1, 0, 0)), (153, (.iload 4, 2, 0, 0, 0)), (155, (.ifCond .eq 27, 3, 0, 182, 0)), (158, (.iload_n 2, 1, 0, 0, 0)), (159, (.aload_n 0, 1, 0, 0, 0)), (160, (.getfield 29, 3, 0, 7, 13)), (163, (.iload_n 1, 1, 0, 0, 0)), (164, (.iaload, 1, 0, 0, 0)), (165, (.if_icmp .gt 17, 3, 0, 182, 0)), (168, (.iload_n 3, 1, 0, 0, 0)), (169, (.aload_n 0, 1, 0, 0, 0)), (170, (.getfield 32, 3, 0, 7, 14)), (173, (.iload_n 1, 1, 0, 0, 0)), (174, (.iaload, 1, 0, 0, 0)), (175, (.if_icmp .gt 7, 3, 0, 182, 0)), (178, (.iconst 1, 1, 1, 0, 0)), (179, (.goto 4, 3, 0, 183, 0)), (182, (.iconst 0, 1, 0, 0, 0)), (183, (.istore 4, 2, 0, 0, 0)), (185, (.goto 55, 3, 0, 240, 0)), (188, (.iload_n 2, 1, 0, 0, 0)), (189, (.aload_n 0, 1, 0, 0, 0)), (190, (.iload 6, 2, 0, 0, 0)), (192, (.invokevirtual 201, 3, 0, 155, 0)), (195, (.isub, 1, 0, 0, 0)), (196, (.istore_n 2, 1, 0, 0, 0)), (197, (.iload 4, 2, 0, 0, 0)), (199, (.ifCond .eq 25, 3, 0, 224, 0)), (202, (.iload 7, 2, 0, 0, 0)), (204, (.ifCond .eq 16, 3, 0, 220, 0)), (207, (.aload_n 0, 1, 0, 0, 0)), (208, (.getfield 122, 3, 0, 7, 46)), (211, (.iload_n 3, 1, 0, 0, 0)), (212, (.iconst 1, 1, 1, 0, 0)), (213, (.isub, 1, 0, 0, 0)), (214, (.iaload, 1, 0, 0, 0)), (215, (.iload 6, 2, 0, 0, 0)), (217, (.if_icmp .ne 7, 3, 0, 224, 0)), (220, (.iconst 1, 1, 1, 0, 0)), (221, (.goto 4, 3, 0, 225, 0)), (224, (.iconst 0, 1, 0, 0, 0)), (225, (.istore 4, 2, 0, 0, 0)), (227, (.iload_n 3, 1, 0, 0, 0)), (228, (.iload 7, 2, 0, 0, 0)), (230, (.ifCond .eq 7, 3, 0, 237, 0)), (233, (.iconst 1, 1, 1, 0, 0)), (234, (.goto 4, 3, 0, 238, 0)), (237, (.iconst 0, 1, 0, 0, 0)), (238, (.isub, 1, 0, 0, 0)), (239, (.istore_n 3, 1, 0, 0, 0)), (240, (.iinc 5 1, 3, 1, 0, 0)), (243, (.goto (-185), 3, 0, 58, 0)), (246, (.iload 4, 2, 0, 0, 0)), (248, (.ifCond .eq 25, 3, 0, 273, 0)), (251, (.aload_n 0, 1, 0, 0, 0)), (252, (.getfield 173, 3, 0, 7, 42)), (255, (.ifCond .eq 14, 3, 0, 269, 0)), (258, (.aload_n 0, 1, 0, 0, 0)), (259, (.iload_n 1, 1, 0, 0, 0)), (260, (.invokevirtual 204, 3, 0, 156, 0)), (263, (.sipush 600, 3, 600, 0, 0)), (266, (.if_icmp .gt 7, 3, 0, 273, 0)), (269, (.iconst 1, 1, 1, 0, 0)), (270, (.goto 4, 3, 0, 274, 0)), (273, (.iconst 0, 1, 0, 0, 0)), (274, (.ireturn, 1, 0, 0, 0))]
/-- 149: DoorstepRidesModel.plan(I)V -/
def zK149 : List (Nat × zRI) := [(0, (.aload_n 0, 1, 0, 0, 0)), (1, (.getfield 44, 3, 0, 7, 18)), (4, (.iload_n 1, 1, 0, 0, 0)), (5, (.iaload, 1, 0, 0, 0)), (6, (.aload_n 0, 1, 0, 0, 0)), (7, (.getfield 176, 3, 0, 7, 2)), (10, (.iconst 1, 1, 1, 0, 0)), (11, (.iadd, 1, 0, 0, 0)), (12, (.if_icmp .le 12, 3, 0, 24, 0)), (15, (.aload_n 0, 1, 0, 0, 0)), (16, (.getfield 44, 3, 0, 7, 18)), (19, (.iload_n 1, 1, 0, 0, 0)), (20, (.iaload, 1, 0, 0, 0)), (21, (.goto 9, 3, 0, 30, 0)), (24, (.aload_n 0, 1, 0, 0, 0)), (25, (.getfield 176, 3, 0, 7, 2)), (28, (.iconst 1, 1, 1, 0, 0)), (29, (.iadd, 1, 0, 0, 0)), (30, (.istore_n 2, 1, 0, 0, 0)), (31, (.aload_n 0, 1, 0, 0, 0)), (32, (.getfield 41, 3, 0, 7, 17)), (35, (.iload_n 1, 1, 0, 0, 0)), (36, (.iaload, 1, 0, 0, 0)), (37, (.istore_n 3, 1, 0, 0, 0)), (38, (.iconst 0, 1, 0, 0, 0)), (39, (.istore 4, 2, 0, 0, 0)), (41, (.iload 4, 2, 0, 0, 0)), (43, (.aload_n 0, 1, 0, 0, 0)), (44, (.getfield 173, 3, 0, 7, 42)), (47, (.if_icmp .ge 170, 3, 0, 217, 0)), (50, (.aload_n 0, 1, 0, 0, 0)), (51, (.getfield 113, 3, 0, 7, 43)), (54, (.iload 4, 2, 0, 0, 0)), (56, (.iaload, 1, 0, 0, 0)), (57, (.iconst 2, 1, 2, 0, 0)), (58, (.idiv, 1, 0, 0, 0)), (59, (.istore 5, 2, 0, 0, 0)), (61, (.aload_n 0, 1, 0, 0, 0)), (62, (.iload_n 3, 1, 0, 0, 0)), (63, (.aload_n 0, 1, 0, 0, 0)), (64, (.aload_n 0, 1, 0, 0, 0)), (65, (.getfield 113, 3, 0, 7, 43)), (68, (.iload 4, 2, 0, 0, 0)), (70, (.iaload, 1, 0, 0, 0)), (71, (.invokevirtual 179, 3, 0, 145, 0)), (74, (.invokevirtual 170, 3, 0, 146, 0)), (77, (.istore 6, 2, 0, 0, 0)), (79, (.iload 4, 2, 0, 0, 0)), (81, (.ifCond .ne 41, 3, 0, 122, 0)), (84, (.aload_n 0, 1, 0, 0, 0)), (85, (.getfield 47, 3, 0, 7, 19)), (88, (.iload_n 1, 1, 0, 0, 0)), (89, (.baload, 1, 0, 0, 0)), (90, (.ifCond .eq 32, 3, 0, 122, 0)), (93, (.aload_n 0, 1, 0, 0, 0)), (94, (.getfield 116, 3, 0, 7, 44)), (97, (.iload 4, 2, 0, 0, 0)), (99, (.aload_n 0, 1, 0, 0, 0)), (100, (.getfield 50, 3, 0, 7, 20)), (103, (.iload_n 1, 1, 0, 0, 0)), (104, (.iaload, 1, 0, 0, 0)), (105, (.iastore, 1, 0, 0, 0)), (106, (.aload_n 0, 1, 0, 0, 0)), (107, (.getfield 119, 3, 0, 7, 45)), (110, (.iload 4, 2, 0, 0, 0)), (112, (.aload_n 0, 1, 0, 0, 0)), (113, (.getfield 53, 3, 0, 7, 21)), (116, (.iload_n 1, 1, 0, 0, 0)), (117, (.iaload, 1, 0, 0, 0)), (118, (.iastore, 1, 0, 0, 0)), (119, (.goto 72, 3, 0, 191, 0)), (122, (.aload_n 0, 1, 0, 0, 0)), (123, (.getfield 89, 3, 0, 7, 34)), (126, (.iload 5, 2, 0, 0, 0)), (128, (.iaload, 1, 0, 0, 0)), (129, (.iload 6, 2, 0, 0, 0)), (131, (.isub, 1, 0, 0, 0)), (132, (.istore 7, 2, 0, 0, 0)), (134, (.aload_n 0, 1, 0, 0, 0)), (135, (.getfield 113, 3, 0, 7, 43)), (138, (.iload 4, 2, 0, 0, 0)), (140, (.iaload, 1, 0, 0, 0)), (141, (.iconst 2, 1, 2, 0, 0)), (142, (.irem, 1, 0, 0, 0)), (143, (.ifCond .ne 14, 3, 0, 157, 0)), (146, (.iload 7, 2, 0, 0, 0)), (148, (.iload_n 2, 1, 0, 0, 0)), (149, (.if_icmp .le 8, 3, 0, 157, 0)), (152, (.iload 7, 2, 0, 0, 0)), (154, (.goto 4, 3, 0, 158, 0)), (157, (.iload_n 2, 1, 0, 0, 0)), (158, (.istore_n 2, 1, 0, 0, 0)), (159, (.aload_n 0, 1, 0, 0, 0)), (160, (.getfield 116, 3, 0, 7, 44)), (163, (.iload 4, 2, 0, 0, 0)), (165, (.iload_n 2, 1, 0, 0, 0)), (166, (.iload 6, 2, 0, 0, 0)), (168, (.iadd, 1, 0, 0, 0)), (169, (.iastore, 1, 0, 0, 0)), (170, (.aload_n 0, 1, 0, 0, 0)), (171, (.getfield 119, 3, 0, 7, 45)), (174, (.iload 4, 2, 0, 0, 0)), (176, (.aload_n 0, 1, 0, 0, 0)), (177, (.getfield 116, 3, 0, 7, 44)), (180, (.iload 4, 2, 0, 0, 0)), (182, (.iaload, 1, 0, 0, 0)), (183, (.aload_n 0, 1, 0, 0, 0)), (184, (.iload 5, 2, 0, 0, 0)), (186, (.invokevirtual 182, 3, 0, 150, 0)), (189, (.iadd, 1, 0, 0, 0)), (190, (.iastore, 1, 0, 0, 0)), (191, (.aload_n 0, 1, 0, 0, 0)), (192, (.getfield 119, 3, 0, 7, 45)), (195, (.iload 4, 2, 0, 0, 0)), (197, (.iaload, 1, 0, 0, 0)), (198, (.istore_n 2, 1, 0, 0, 0)), (199, (.aload_n 0, 1, 0, 0, 0)), (200, (.aload_n 0, 1, 0, 0, 0)), (201, (.getfield 113, 3, 0, 7, 43)), (204, (.iload 4, 2, 0, 0, 0)), (206, (.iaload, 1, 0, 0, 0)), (207, (.invokevirtual 179, 3, 0, 145, 0)), (210, (.istore_n 3, 1, 0, 0, 0)), (211, (.iinc 4 1, 3, 1, 0, 0)), (214, (.goto (-173), 3, 0, 41, 0)), (217, (.return_, 1, 0, 0, 0))]
/-- 150: DoorstepRidesModel.minutesOf(I)I -/
def zK150 : List (Nat × zRI) := [(0, (.iconst 2, 1, 2, 0, 0)), (1, (.iconst 2, 1, 2, 0, 0)), (2, (.aload_n 0, 1, 0, 0, 0)), (3, (.iload_n 1, 1, 0, 0, 0)), (4, (.invokevirtual 166, 3, 0, 142, 0)), (7, (.imul, 1, 0, 0, 0)), (8, (.iadd, 1, 0, 0, 0)), (9, (.ireturn, 1, 0, 0, 0))]
/-- 151: DoorstepRidesModel.isTooLate(I)Z -/
def zK151 : List (Nat × zRI) := [(0, (.aload_n 0, 1, 0, 0, 0)), (1, (.getfield 113, 3, 0, 7, 43)), (4, (.iload_n 1, 1, 0, 0, 0)), (5, (.iaload, 1, 0, 0, 0)), (6, (.iconst 2, 1, 2, 0, 0)), (7, (.idiv, 1, 0, 0, 0)), (8, (.istore_n 2, 1, 0, 0, 0)), (9, (.aload_n 0, 1, 0, 0, 0)), (10, (.getfield 113, 3, 0, 7, 43)), (13, (.iload_n 1, 1, 0, 0, 0)), (14, (.iaload, 1, 0, 0, 0)), (15, (.iconst 2, 1, 2, 0, 0)), (16, (.irem, 1, 0, 0, 0)), (17, (.ifCond .ne 29, 3, 0, 46, 0)), (20, (.aload_n 0, 1, 0, 0, 0)), (21, (.getfield 116, 3, 0, 7, 44)), (24, (.iload_n 1, 1, 0, 0, 0)), (25, (.iaload, 1, 0, 0, 0)), (26, (.aload_n 0, 1, 0, 0, 0)), (27, (.getfield 89, 3, 0, 7, 34)), (30, (.iload_n 2, 1, 0, 0, 0)), (31, (.iaload, 1, 0, 0, 0)), (32, (.bipush 20, 2, 20, 0, 0)), (34, (.iadd, 1, 0, 0, 0)), (35, (.if_icmp .le 7, 3, 0, 42, 0)), (38, (.iconst 1, 1, 1, 0, 0)), (39, (.goto 31, 3, 0, 70, 0)), (42, (.iconst 0, 1, 0, 0, 0)), (43, (.goto 27, 3, 0, 70, 0)), (46, (.aload_n 0, 1, 0, 0, 0)), (47, (.getfield 116, 3, 0, 7, 44)), (50, (.iload_n 1, 1, 0, 0, 0)), (51, (.iaload, 1, 0, 0, 0)), (52, (.aload_n 0, 1, 0, 0, 0)), (53, (.iload_n 2, 1, 0, 0, 0)), (54, (.aload_n 0, 1, 0, 0, 0)), (55, (.iload_n 2, 1, 0, 0, 0)), (56, (.invokevirtual 188, 3, 0, 152, 0)), (59, (.invokevirtual 191, 3, 0, 154, 0)), (62, (.if_icmp .le 7, 3, 0, 69, 0)), (65, (.iconst 1, 1, 1, 0, 0)), (66, (.goto 4, 3, 0, 70, 0)), (69, (.iconst 0, 1, 0, 0, 0)), (70, (.ireturn, 1, 0, 0, 0))]
/-- 152: DoorstepRidesModel.pickEndOf(I)I -/
def zK152 : List (Nat × zRI) := [(0, (.aload_n 0, 1, 0, 0, 0)), (1, (.iconst 2, 1, 2, 0, 0)), (2, (.iload_n 1, 1, 0, 0, 0)), (3, (.imul, 1, 0, 0, 0)), (4, (.invokevirtual 185, 3, 0, 153, 0)), (7, (.istore_n 2, 1, 0, 0, 0)), (8, (.iload_n 2, 1, 0, 0, 0)), (9, (.iconst (-1), 1, (-1), 0, 0)), (10, (.if_icmp .ne 12, 3, 0, 22, 0)), (13, (.aload_n 0, 1, 0, 0, 0)), (14, (.getfield 98, 3, 0, 7, 37)), (17, (.iload_n 1, 1, 0, 0, 0)), (18, (.iaload, 1, 0, 0, 0)), (19, (.goto 9, 3, 0, 28, 0)), (22, (.aload_n 0, 1, 0, 0, 0)), (23, (.getfield 119, 3, 0, 7, 45)), (26, (.iload_n 2, 1, 0, 0, 0)), (27, (.iaload, 1, 0, 0, 0)), (28, (.ireturn, 1, 0, 0, 0))]
/-- 153: DoorstepRidesModel.find(I)I -/
def zK153 : List (Nat × zRI) := [(0, (.iconst (-1), 1, (-1), 0, 0)), (1, (.istore_n 2, 1, 0, 0, 0)), (2, (.iconst 0, 1, 0, 0, 0)), (3, (.istore_n 3, 1, 0, 0, 0)), (4, (.iload_n 3, 1, 0, 0, 0)), (5, (.aload_n 0, 1, 0, 0, 0)), (6, (.getfield 173, 3, 0, 7, 42)), (9, (.if_icmp .ge 25, 3, 0, 34, 0)), (12, (.aload_n 0, 1, 0, 0, 0)), (13, (.getfield 113, 3, 0, 7, 43)), (16, (.iload_n 3, 1, 0, 0, 0)), (17, (.iaload, 1, 0, 0, 0)), (18, (.iload_n 1, 1, 0, 0, 0)), (19, (.if_icmp .ne 7, 3, 0, 26, 0)), (22, (.iload_n 3, 1, 0, 0, 0)), (23, (.goto 4, 3, 0, 27, 0)), (26, (.iload_n 2, 1, 0, 0, 0)), (27, (.istore_n 2, 1, 0, 0, 0)), (28, (.iinc 3 1, 3, 1, 0, 0)), (31, (.goto (-27), 3, 0, 4, 0)), (34, (.iload_n 2, 1, 0, 0, 0)), (35, (.ireturn, 1, 0, 0, 0))]
/-- 154: DoorstepRidesModel.latest(II)I -/
def zK154 : List (Nat × zRI) := [(0, (.iload_n 2, 1, 0, 0, 0)), (1, (.bipush 10, 2, 10, 0, 0)), (3, (.iadd, 1, 0, 0, 0)), (4, (.iconst 2, 1, 2, 0, 0)), (5, (.aload_n 0, 1, 0, 0, 0)), (6, (.aload_n 0, 1, 0, 0, 0)), (7, (.getfield 77, 3, 0, 7, 30)), (10, (.iload_n 1, 1, 0, 0, 0)), (11, (.iaload, 1, 0, 0, 0)), (12, (.aload_n 0, 1, 0, 0, 0)), (13, (.getfield 80, 3, 0, 7, 31)), (16, (.iload_n 1, 1, 0, 0, 0)), (17, (.iaload, 1, 0, 0, 0)), (18, (.invokevirtual 170, 3, 0, 146, 0)), (21, (.imul, 1, 0, 0, 0)), (22, (.iadd, 1, 0, 0, 0)), (23, (.ireturn, 1, 0, 0, 0))]
/-- 155: DoorstepRidesModel.seatsOf(I)I -/
def zK155 : List (Nat × zRI) := [(0, (.aload_n 0, 1, 0, 0, 0)), (1, (.iload_n 1, 1, 0, 0, 0)), (2, (.invokevirtual 166, 3, 0, 142, 0)), (5, (.iconst 2, 1, 2, 0, 0)), (6, (.if_icmp .ne 7, 3, 0, 13, 0)), (9, (.iconst 2, 1, 2, 0, 0)), (10, (.goto 4, 3, 0, 14, 0)), (13, (.iconst 1, 1, 1, 0, 0)), (14, (.aload_n 0, 1, 0, 0, 0)), (15, (.getfield 23, 3, 0, 7, 10)), (18, (.aload_n 0, 1, 0, 0, 0)), (19, (.getfield 74, 3, 0, 7, 29)), (22, (.iload_n 1, 1, 0, 0, 0)), (23, (.iaload, 1, 0, 0, 0)), (24, (.baload, 1, 0, 0, 0)), (25, (.ifCond .eq 7, 3, 0, 32, 0)), (28, (.iconst 1, 1, 1, 0, 0)), (29, (.goto 4, 3, 0, 33, 0)), (32, (.iconst 0, 1, 0, 0, 0)), (33, (.iadd, 1, 0, 0, 0)), (34, (.ireturn, 1, 0, 0, 0))]
/-- 156: DoorstepRidesModel.backAt(I)I -/
def zK156 : List (Nat × zRI) := [(0, (.aload_n 0, 1, 0, 0, 0)), (1, (.getfield 119, 3, 0, 7, 45)), (4, (.aload_n 0, 1, 0, 0, 0)), (5, (.getfield 173, 3, 0, 7, 42)), (8, (.iconst 1, 1, 1, 0, 0)), (9, (.isub, 1, 0, 0, 0)), (10, (.iaload, 1, 0, 0, 0)), (11, (.aload_n 0, 1, 0, 0, 0)), (12, (.aload_n 0, 1, 0, 0, 0)), (13, (.aload_n 0, 1, 0, 0, 0)), (14, (.getfield 113, 3, 0, 7, 43)), (17, (.aload_n 0, 1, 0, 0, 0)), (18, (.getfield 173, 3, 0, 7, 42)), (21, (.iconst 1, 1, 1, 0, 0)), (22, (.isub, 1, 0, 0, 0)), (23, (.iaload, 1, 0, 0, 0)), (24, (.invokevirtual 179, 3, 0, 145, 0)), (27, (.aload_n 0, 1, 0, 0, 0)), (28, (.getfield 26, 3, 0, 7, 12)), (31, (.iload_n 1, 1, 0, 0, 0)), (32, (.iaload, 1, 0, 0, 0)), (33, (.invokevirtual 170, 3, 0, 146, 0)), (36, (.iadd, 1, 0, 0, 0)), (37, (.ireturn, 1, 0, 0, 0))]
/-- 157: DoorstepRidesModel.keepTry(I)V -/
def zK157 : List (Nat × zRI) := [(0, (.aload_n 0, 1, 0, 0, 0)), (1, (.getfield 71, 3, 0, 7, 27)), (4, (.iload_n 1, 1, 0, 0, 0)), (5, (.aload_n 0, 1, 0, 0, 0)), (6, (.getfield 173, 3, 0, 7, 42)), (9, (.iastore, 1, 0, 0, 0)), (10, (.iconst 0, 1, 0, 0, 0)), (11, (.istore_n 2, 1, 0, 0, 0)), (12, (.iload_n 2, 1, 0, 0, 0)), (13, (.aload_n 0, 1, 0, 0, 0)), (14, (.getfield 173, 3, 0, 7, 42)), (17, (.if_icmp .ge 26, 3, 0, 43, 0)), (20, (.aload_n 0, 1, 0, 0, 0)), (21, (.getfield 68, 3, 0, 7, 26)), (24, (.bipush 16, 2, 16, 0, 0)), (26, (.iload_n 1, 1, 0, 0, 0)), (27, (.imul, 1, 0, 0, 0)), (28, (.iload_n 2, 1, 0, 0, 0)), (29, (.iadd, 1, 0, 0, 0)), (30, (.aload_n 0, 1, 0, 0, 0)), (31, (.getfield 113, 3, 0, 7, 43)), (34, (.iload_n 2, 1, 0, 0, 0)), (35, (.iaload, 1, 0, 0, 0)), (36, (.iastore, 1, 0, 0, 0)), (37, (.iinc 2 1, 3, 1, 0, 0)), (40, (.goto (-28), 3, 0, 12, 0)), (43, (.return_, 1, 0, 0, 0))]
/-- 158: DoorstepRidesModel.cancel(I)Z -/
def zK158 : List (Nat × zRI) := [(0, (.aload_n 0, 1, 0, 0, 0)), (1, (.aload_n 0, 1, 0, 0, 0)), (2, (.iload_n 1, 1, 0, 0, 0)), (3, (.invokevirtual 270, 3, 0, 159, 0)), (6, (.ifCond .ne 7, 3, 0, 13, 0)), (9, (.iconst 1, 1, 1, 0, 0)), (10, (.goto 4, 3, 0, 14, 0)), (13, (.iconst 0, 1, 0, 0, 0)), (14, (.putfield 128, 3, 0, 7, 0)), (17, (.aload_n 0, 1, 0, 0, 0)), (18, (.getfield 128, 3, 0, 7, 0)), (21, (.ifCond .ne 29, 3, 0, 50, 0)), (24, (.aload_n 0, 1, 0, 0, 0)), (25, (.aload_n 0, 1, 0, 0, 0)), (26, (.getfield 83, 3, 0, 7, 32)), (29, (.iload_n 1, 1, 0, 0, 0)), (30, (.iaload, 1, 0, 0, 0)), (31, (.ifCond .ne 11, 3, 0, 42, 0)), (34, (.aload_n 0, 1, 0, 0, 0)), (35, (.iload_n 1, 1, 0, 0, 0)), (36, (.invokevirtual 273, 3, 0, 160, 0)), (39, (.ifCond .eq 7, 3, 0, 46, 0)), (42, (.iconst 2, 1, 2, 0, 0)), (43, (.goto 4, 3, 0, 47, 0)), (46, (.iconst 0, 1, 0, 0, 0)), (47, (.putfield 128, 3, 0, 7, 0)), (50, (.aload_n 0, 1, 0, 0, 0)), (51, (.getfield 128, 3, 0, 7, 0)), (54, (.ifCond .le 5, 3, 0, 59, 0)), (57, (.iconst 0, 1, 0, 0, 0)), (58, (.ireturn, 1, 0, 0, 0)), (59, (.aload_n 0, 1, 0, 0, 0)), (60, (.iload_n 1, 1, 0, 0, 0)), (61, (.invokevirtual 276, 3, 0, 161, 0)), (64, (.aload_n 0, 1, 0, 0, 0)), (65, (.getfield 83, 3, 0, 7, 32)), (68, (.iload_n 1, 1, 0, 0, 0)), (69, (.iconst 4, 1, 4, 0, 0)), (70, (.iastore, 1, 0, 0, 0)), (71, (.aload_n 0, 1, 0, 0, 0)), (72, (.getfield 107, 3, 0, 7, 40)), (75, (.iload_n 1, 1, 0, 0, 0)), (76, (.aload_n 0, 1, 0, 0, 0)), (77, (.getfield 89, 3, 0, 7, 34)), (80, (.iload_n 1, 1, 0, 0, 0)), (81, (.iaload, 1, 0, 0, 0)), (82, (.aload_n 0, 1, 0, 0, 0)), (83, (.getfield 176, 3, 0, 7, 2)), (86, (.isub, 1, 0, 0, 0)), (87, (.bipush 60, 2, 60, 0, 0)), (89, (.if_icmp .ge 7, 3, 0, 96, 0)), (92, (.iconst 1, 1, 1, 0, 0)), (93, (.goto 4, 3, 0, 97, 0)), (96, (.iconst 0, 1, 0, 0, 0)), (97, (.bastore, 1, 0, 0, 0)), (98, (.aload_n 0, 1, 0, 0, 0)), (99, (.getfield 107, 3, 0, 7, 40)), (102, (.iload_n 1, 1, 0, 0, 0)), (103, (.baload, 1, 0, 0, 0)), (104, (.ireturn, 1, 0, 0, 0))]
/-- 159: DoorstepRidesModel.isRequest(I)Z -/
def zK159 : List (Nat × zRI) := [(0, (.aload_n 0, 1, 0, 0, 0)), (1, (.iload_n 1, 1, 0, 0, 0)), (2, (.iconst 0, 1, 0, 0, 0)), (3, (.aload_n 0, 1, 0, 0, 0)), (4, (.getfield 142, 3, 0, 7, 28)), (7, (.iconst 1, 1, 1, 0, 0)), (8, (.isub, 1, 0, 0, 0)), (9, (.invokevirtual 132, 3, 0, 123, 0)), (12, (.ireturn, 1, 0, 0, 0))]
/-- 160: DoorstepRidesModel.hasLeftFor(I)Z -/
def zK160 : List (Nat × zRI) := [(0, (.aload_n 0, 1, 0, 0, 0)), (1, (.getfield 92, 3, 0, 7, 35)), (4, (.iload_n 1, 1, 0, 0, 0)), (5, (.iaload, 1, 0, 0, 0)), (6, (.istore_n 2, 1, 0, 0, 0)), (7, (.aload_n 0, 1, 0, 0, 0)), (8, (.getfield 47, 3, 0, 7, 19)), (11, (.iload_n 2, 1, 0, 0, 0)), (12, (.baload, 1, 0, 0, 0)), (13, (.ifCond .eq 22, 3, 0, 35, 0)), (16, (.aload_n 0, 1, 0, 0, 0)), (17, (.getfield 68, 3, 0, 7, 26)), (20, (.bipush 16, 2, 16, 0, 0)), (22, (.iload_n 2, 1, 0, 0, 0)), (23, (.imul, 1, 0, 0, 0)), (24, (.iaload, 1, 0, 0, 0)), (25, (.iconst 2, 1, 2, 0, 0)), (26, (.iload_n 1, 1, 0, 0, 0)), (27, (.imul, 1, 0, 0, 0)), (28, (.if_icmp .ne 7, 3, 0, 35, 0)), (31, (.iconst 1, 1, 1, 0, 0)), (32, (.goto 4, 3, 0, 36, 0)), (35, (.iconst 0, 1, 0, 0, 0)), (36, (.ireturn, 1, 0, 0, 0))]
/-- 161: DoorstepRidesModel.takeOut(I)V -/
def zK161 : List (Nat × zRI) := [(0, (.aload_n 0, 1, 0, 0, 0)), (1, (.getfield 92, 3, 0, 7, 35)), (4, (.iload_n 1, 1, 0, 0, 0)), (5, (.iaload, 1, 0, 0, 0)), (6, (.istore_n 2, 1, 0, 0, 0)), (7, (.aload_n 0, 1, 0, 0, 0)), (8, (.iload_n 2, 1, 0, 0, 0)), (9, (.invokevirtual 207, 3, 0, 143, 0)), (12, (.aload_n 0, 1, 0, 0, 0)), (13, (.iconst 2, 1, 2, 0, 0)), (14, (.iload_n 1, 1, 0, 0, 0)), (15, (.imul, 1, 0, 0, 0)), (16, (.invokevirtual 185, 3, 0, 153, 0)), (19, (.istore_n 3, 1, 0, 0, 0)), (20, (.iload_n 3, 1, 0, 0, 0)), (21, (.iconst (-1), 1, (-1), 0, 0)), (22, (.if_icmp .eq 8, 3, 0, 30, 0)), (25, (.aload_n 0, 1, 0, 0, 0)), (26, (.iload_n 3, 1, 0, 0, 0)), (27, (.invokevirtual 238, 3, 0, 162, 0)), (30, (.aload_n 0, 1, 0, 0, 0)), (31, (.aload_n 0, 1, 0, 0, 0)), (32, (.iconst 2, 1, 2, 0, 0)), (33, (.iload_n 1, 1, 0, 0, 0)), (34, (.imul, 1, 0, 0, 0)), (35, (.iconst 1, 1, 1, 0, 0)), (36, (.iadd, 1, 0, 0, 0)), (37, (.invokevirtual 185, 3, 0, 153, 0)), (40, (.invokevirtual 238, 3, 0, 162, 0)), (43, (.aload_n 0, 1, 0, 0, 0)), (44, (.iload_n 2, 1, 0, 0, 0)), (45, (.invokevirtual 235, 3, 0, 157, 0)), (48, (.return_, 1, 0, 0, 0))]
/-- 162: DoorstepRidesModel.takeStop(I)V -/
def zK162 : List (Nat × zRI) := [(0, (.aload_n 0, 1, 0, 0, 0)), (1, (.dup, 1, 0, 0, 0)), (2, (.getfield 173, 3, 0, 7, 42)), (5, (.iconst 1, 1, 1, 0, 0)), (6, (.isub, 1, 0, 0, 0)), (7, (.putfield 173, 3, 0, 7, 42)), (10, (.iload_n 1, 1, 0, 0, 0)), (11, (.istore_n 2, 1, 0, 0, 0)), (12, (.iload_n 2, 1, 0, 0, 0)), (13, (.aload_n 0, 1, 0, 0, 0)), (14, (.getfield 173, 3, 0, 7, 42)), (17, (.if_icmp .ge 23, 3, 0, 40, 0)), (20, (.aload_n 0, 1, 0, 0, 0)), (21, (.getfield 113, 3, 0, 7, 43)), (24, (.iload_n 2, 1, 0, 0, 0)), (25, (.aload_n 0, 1, 0, 0, 0)), (26, (.getfield 113, 3, 0, 7, 43)), (29, (.iload_n 2, 1, 0, 0, 0)), (30, (.iconst 1, 1, 1, 0, 0)), (31, (.iadd, 1, 0, 0, 0)), (32, (.iaload, 1, 0, 0, 0)), (33, (.iastore, 1, 0, 0, 0)), (34, (.iinc 2 1, 3, 1, 0, 0)), (37, (.goto (-25), 3, 0, 12, 0)), (40, (.return_, 1, 0, 0, 0))]
/-- 163: DoorstepRidesModel.absent(I)V -/
def zK163 : List (Nat × zRI) := [(0, (.aload_n 0, 1, 0, 0, 0)), (1, (.aload_n 0, 1, 0, 0, 0)), (2, (.iload_n 1, 1, 0, 0, 0)), (3, (.invokevirtual 270, 3, 0, 159, 0)), (6, (.ifCond .ne 7, 3, 0, 13, 0)), (9, (.iconst 1, 1, 1, 0, 0)), (10, (.goto 4, 3, 0, 14, 0)), (13, (.iconst 0, 1, 0, 0, 0)), (14, (.putfield 128, 3, 0, 7, 0)), (17, (.aload_n 0, 1, 0, 0, 0)), (18, (.getfield 128, 3, 0, 7, 0)), (21, (.ifCond .ne 21, 3, 0, 42, 0)), (24, (.aload_n 0, 1, 0, 0, 0)), (25, (.aload_n 0, 1, 0, 0, 0)), (26, (.getfield 83, 3, 0, 7, 32)), (29, (.iload_n 1, 1, 0, 0, 0)), (30, (.iaload, 1, 0, 0, 0)), (31, (.ifCond .eq 7, 3, 0, 38, 0)), (34, (.iconst 2, 1, 2, 0, 0)), (35, (.goto 4, 3, 0, 39, 0)), (38, (.iconst 0, 1, 0, 0, 0)), (39, (.putfield 128, 3, 0, 7, 0)), (42, (.aload_n 0, 1, 0, 0, 0)), (43, (.getfield 128, 3, 0, 7, 0)), (46, (.ifCond .ne 10, 3, 0, 56, 0)), (49, (.aload_n 0, 1, 0, 0, 0)), (50, (.getfield 110, 3, 0, 7, 41)), (53, (.iload_n 1, 1, 0, 0, 0)), (54, (.iconst 1, 1, 1, 0, 0)), (55, (.bastore, 1, 0, 0, 0)), (56, (.return_, 1, 0, 0, 0))]
/-- 164: DoorstepRidesModel.pass(I)I -/
def zK164 : List (Nat × zRI) := [(0, (.aload_n 0, 1, 0, 0, 0)), (1, (.aload_n 0, 1, 0, 0, 0)), (2, (.iload_n 1, 1, 0, 0, 0)), (3, (.iconst 1, 1, 1, 0, 0)), (4, (.bipush 120, 2, 120, 0, 0)), (6, (.invokevirtual 132, 3, 0, 123, 0)), (9, (.ifCond .ne 7, 3, 0, 16, 0)), (12, (.iconst 1, 1, 1, 0, 0)), (13, (.goto 20, 3, 0, 33, 0)), (16, (.aload_n 0, 1, 0, 0, 0)), (17, (.getfield 176, 3, 0, 7, 2)), (20, (.iload_n 1, 1, 0, 0, 0)), (21, (.iadd, 1, 0, 0, 0)), (22, (.sipush 600, 3, 600, 0, 0)), (25, (.if_icmp .le 7, 3, 0, 32, 0)), (28, (.iconst 2, 1, 2, 0, 0)), (29, (.goto 4, 3, 0, 33, 0)), (32, (.iconst 0, 1, 0, 0, 0)), (33, (.putfield 128, 3, 0, 7, 0)), (36, (.aload_n 0, 1, 0, 0, 0)), (37, (.getfield 128, 3, 0, 7, 0)), (40, (.ifCond .le 5, 3, 0, 45, 0)), (43, (.iconst 0, 1, 0, 0, 0)), (44, (.ireturn, 1, 0, 0, 0)), (45, (.iconst 0, 1, 0, 0, 0)), (46, (.istore_n 2, 1, 0, 0, 0)), (47, (.iload_n 2, 1, 0, 0, 0)), (48, (.iload_n 1, 1, 0, 0, 0)), (49, (.if_icmp .ge 13, 3, 0, 62, 0)), (52, (.aload_n 0, 1, 0, 0, 0)), (53, (.invokevirtual 291, 3, 0, 165, 0)), (56, (.iinc 2 1, 3, 1, 0, 0)), (59, (.goto (-12), 3, 0, 47, 0)), (62, (.aload_n 0, 1, 0, 0, 0)), (63, (.getfield 176, 3, 0, 7, 2)), (66, (.ireturn, 1, 0, 0, 0))]
/-- 165: DoorstepRidesModel.minute()V -/
def zK165 : List (Nat × zRI) := [(0, (.aload_n 0, 1, 0, 0, 0)), (1, (.dup, 1, 0, 0, 0)), (2, (.getfield 176, 3, 0, 7, 2)), (5, (.iconst 1, 1, 1, 0, 0)), (6, (.iadd, 1, 0, 0, 0)), (7, (.putfield 176, 3, 0, 7, 2)), (10, (.iconst 0, 1, 0, 0, 0)), (11, (.istore_n 1, 1, 0, 0, 0)), (12, (.iload_n 1, 1, 0, 0, 0)), (13, (.aload_n 0, 1, 0, 0, 0)), (14, (.getfield 139, 3, 0, 7, 11)), (17, (.if_icmp .ge 139, 3, 0, 156, 0)), (20, (.aload_n 0, 1, 0, 0, 0)), (21, (.getfield 47, 3, 0, 7, 19)), (24, (.iload_n 1, 1, 0, 0, 0)), (25, (.baload, 1, 0, 0, 0)), (26, (.ifCond .eq 88, 3, 0, 114, 0)), (29, (.aload_n 0, 1, 0, 0, 0)), (30, (.getfield 53, 3, 0, 7, 21)), (33, (.iload_n 1, 1, 0, 0, 0)), (34, (.iaload, 1, 0, 0, 0)), (35, (.aload_n 0, 1, 0, 0, 0)), (36, (.getfield 176, 3, 0, 7, 2)), (39, (.if_icmp .ne 75, 3, 0, 114, 0)), (42, (.aload_n 0, 1, 0, 0, 0)), (43, (.getfield 68, 3, 0, 7, 26)), (46, (.bipush 16, 2, 16, 0, 0)), (48, (.iload_n 1, 1, 0, 0, 0)), (49, (.imul, 1, 0, 0, 0)), (50, (.iaload, 1, 0, 0, 0)), (51, (.istore_n 2, 1, 0, 0, 0)), (52, (.iload_n 2, 1, 0, 0, 0)), (53, (.iconst 2, 1, 2, 0, 0)), (54, (.irem, 1, 0, 0, 0)), (55, (.iconst 1, 1, 1, 0, 0)), (56, (.if_icmp .ne 53, 3, 0, 109, 0)), (59, (.aload_n 0, 1, 0, 0, 0)), (60, (.iload_n 2, 1, 0, 0, 0)), (61, (.iconst 2, 1, 2, 0, 0)), (62, (.idiv, 1, 0, 0, 0)), (63, (.invokevirtual 166, 3, 0, 142, 0)), (66, (.iconst 2, 1, 2, 0, 0)), (67, (.if_icmp .ne 42, 3, 0, 109, 0)), (70, (.aload_n 0, 1, 0, 0, 0)), (71, (.getfield 38, 3, 0, 7, 16)), (74, (.iload_n 1, 1, 0, 0, 0)), (75, (.baload, 1, 0, 0, 0)), (76, (.ifCond .ne 33, 3, 0, 109, 0)), (79, (.aload_n 0, 1, 0, 0, 0)), (80, (.getfield 56, 3, 0, 7, 22)), (83, (.iload_n 1, 1, 0, 0, 0)), (84, (.baload, 1, 0, 0, 0)), (85, (.ifCond .ne 24, 3, 0, 109, 0)), (88, (.aload_n 0, 1, 0, 0, 0)), (89, (.getfield 56, 3, 0, 7, 22)), (92, (.iload_n 1, 1, 0, 0, 0)), (93, (.iconst 1, 1, 1, 0, 0)), (94, (.bastore, 1, 0, 0, 0)), (95, (.aload_n 0, 1, 0, 0, 0)), (96, (.getfield 53, 3, 0, 7, 21)), (99, (.iload_n 1, 1, 0, 0, 0)), (100, (.dup2, 1, 0, 0, 0)), (101, (.iaload, 1, 0, 0, 0)), (102, (.bipush 30, 2, 30, 0, 0)), (104, (.iadd, 1, 0, 0, 0)), (105, (.iastore, 1, 0, 0, 0)), (106, (.goto 8, 3, 0, 114, 0)), (109, (.aload_n 0, 1, 0, 0, 0)), (110, (.iload_n 1, 1, 0, 0, 0)), (111, (.invokevirtual 285, 3, 0, 166, 0)), (114, (.aload_n 0, 1, 0, 0, 0)), (115, (.getfield 47, 3, 0, 7, 19)), (118, (.iload_n 1, 1, 0, 0, 0)), (119, (.baload, 1, 0, 0, 0)), (120, (.ifCond .ne 30, 3, 0, 150, 0)), (123, (.aload_n 0, 1, 0, 0, 0)), (124, (.getfield 44, 3, 0, 7, 18)), (127, (.iload_n 1, 1, 0, 0, 0)), (128, (.iaload, 1, 0, 0, 0)), (129, (.aload_n 0, 1, 0, 0, 0)), (130, (.getfield 176, 3, 0, 7, 2)), (133, (.if_icmp .gt 17, 3, 0, 150, 0)), (136, (.aload_n 0, 1, 0, 0, 0)), (137, (.getfield 71, 3, 0, 7, 27)), (140, (.iload_n 1, 1, 0, 0, 0)), (141, (.iaload, 1, 0, 0, 0)), (142, (.ifCond .le 8, 3, 0, 150, 0)), (145, (.aload_n 0, 1, 0, 0, 0)), (146, (.iload_n 1, 1, 0, 0, 0)), (147, (.invokevirtual 288, 3, 0, 169, 0)), (150, (.iinc 1 1, 3, 1, 0, 0)), (153, (.goto (-141), 3, 0, 12, 0)), (156, (.return_, 1, 0, 0, 0))]
/-- 166: DoorstepRidesModel.done(I)V -/
def zK166 : List (Nat × zRI) := [(0, (.aload_n 0, 1, 0, 0, 0)), (1, (.getfield 68, 3, 0, 7, 26)), (4, (.bipush 16, 2, 16, 0, 0)), (6, (.iload_n 1, 1, 0, 0, 0)), (7, (.imul, 1, 0, 0, 0)), (8, (.iaload, 1, 0, 0, 0)), (9, (.istore_n 2, 1, 0, 0, 0)), (10, (.aload_n 0, 1, 0, 0, 0)), (11, (.getfield 47, 3, 0, 7, 19)), (14, (.iload_n 1, 1, 0, 0, 0)), (15, (.iconst 0, 1, 0, 0, 0)), (16, (.bastore, 1, 0, 0, 0)), (17, (.aload_n 0, 1, 0, 0, 0)), (18, (.getfield 56, 3, 0, 7, 22)), (21, (.iload_n 1, 1, 0, 0, 0)), (22, (.iconst 0, 1, 0, 0, 0)), (23, (.bastore, 1, 0, 0, 0)), (24, (.aload_n 0, 1, 0, 0, 0)), (25, (.getfield 41, 3, 0, 7, 17)), (28, (.iload_n 1, 1, 0, 0, 0)), (29, (.aload_n 0, 1, 0, 0, 0)), (30, (.iload_n 2, 1, 0, 0, 0)), (31, (.invokevirtual 179, 3, 0, 145, 0)), (34, (.iastore, 1, 0, 0, 0)), (35, (.aload_n 0, 1, 0, 0, 0)), (36, (.getfield 44, 3, 0, 7, 18)), (39, (.iload_n 1, 1, 0, 0, 0)), (40, (.aload_n 0, 1, 0, 0, 0)), (41, (.getfield 176, 3, 0, 7, 2)), (44, (.iastore, 1, 0, 0, 0)), (45, (.aload_n 0, 1, 0, 0, 0)), (46, (.iload_n 1, 1, 0, 0, 0)), (47, (.invokevirtual 207, 3, 0, 143, 0)), (50, (.aload_n 0, 1, 0, 0, 0)), (51, (.iconst 0, 1, 0, 0, 0)), (52, (.invokevirtual 238, 3, 0, 162, 0)), (55, (.aload_n 0, 1, 0, 0, 0)), (56, (.iload_n 1, 1, 0, 0, 0)), (57, (.invokevirtual 235, 3, 0, 157, 0)), (60, (.iload_n 2, 1, 0, 0, 0)), (61, (.iconst 2, 1, 2, 0, 0)), (62, (.irem, 1, 0, 0, 0)), (63, (.ifCond .ne 14, 3, 0, 77, 0)), (66, (.aload_n 0, 1, 0, 0, 0)), (67, (.iload_n 1, 1, 0, 0, 0)), (68, (.iload_n 2, 1, 0, 0, 0)), (69, (.iconst 2, 1, 2, 0, 0)), (70, (.idiv, 1, 0, 0, 0)), (71, (.invokevirtual 279, 3, 0, 167, 0)), (74, (.goto 11, 3, 0, 85, 0)), (77, (.aload_n 0, 1, 0, 0, 0)), (78, (.iload_n 1, 1, 0, 0, 0)), (79, (.iload_n 2, 1, 0, 0, 0)), (80, (.iconst 2, 1, 2, 0, 0)), (81, (.idiv, 1, 0, 0, 0)), (82, (.invokevirtual 282, 3, 0, 168, 0)), (85, (.return_, 1, 0, 0, 0))]
/-- 167: DoorstepRidesModel.picked(II)V -/
def zK167 : List (Nat × zRI) := [(0, (.aload_n 0, 1, 0, 0, 0)), (1, (.iload_n 2, 1, 0, 0, 0)), (2, (.invokevirtual 166, 3, 0, 142, 0)), (5, (.iconst 2, 1, 2, 0, 0)), (6, (.if_icmp .ne 7, 3, 0, 13, 0)), (9, (.iconst 1, 1, 1, 0, 0)), (10, (.goto 4, 3, 0, 14, 0)), (13, (.iconst 0, 1, 0, 0, 0)), (14, (.istore_n 3, 1, 0, 0, 0)), (15, (.aload_n 0, 1, 0, 0, 0)), (16, (.getfield 95, 3, 0, 7, 36)), (19, (.iload_n 2, 1, 0, 0, 0)), (20, (.aload_n 0, 1, 0, 0, 0)), (21, (.getfield 50, 3, 0, 7, 20)), (24, (.iload_n 1, 1, 0, 0, 0)), (25, (.iaload, 1, 0, 0, 0)), (26, (.iastore, 1, 0, 0, 0)), (27, (.aload_n 0, 1, 0, 0, 0)), (28, (.getfield 98, 3, 0, 7, 37)), (31, (.iload_n 2, 1, 0, 0, 0)), (32, (.aload_n 0, 1, 0, 0, 0)), (33, (.getfield 53, 3, 0, 7, 21)), (36, (.iload_n 1, 1, 0, 0, 0)), (37, (.iaload, 1, 0, 0, 0)), (38, (.iastore, 1, 0, 0, 0)), (39, (.aload_n 0, 1, 0, 0, 0)), (40, (.getfield 110, 3, 0, 7, 41)), (43, (.iload_n 2, 1, 0, 0, 0)), (44, (.baload, 1, 0, 0, 0)), (45, (.ifCond .ne 16, 3, 0, 61, 0)), (48, (.iload_n 3, 1, 0, 0, 0)), (49, (.ifCond .eq 50, 3, 0, 99, 0)), (52, (.aload_n 0, 1, 0, 0, 0)), (53, (.getfield 38, 3, 0, 7, 16)), (56, (.iload_n 1, 1, 0, 0, 0)), (57, (.baload, 1, 0, 0, 0)), (58, (.ifCond .ne 41, 3, 0, 99, 0)), (61, (.aload_n 0, 1, 0, 0, 0)), (62, (.getfield 83, 3, 0, 7, 32)), (65, (.iload_n 2, 1, 0, 0, 0)), (66, (.aload_n 0, 1, 0, 0, 0)), (67, (.getfield 110, 3, 0, 7, 41)), (70, (.iload_n 2, 1, 0, 0, 0)), (71, (.baload, 1, 0, 0, 0)), (72, (.ifCond .eq 7, 3, 0, 79, 0)), (75, (.iconst 3, 1, 3, 0, 0)), (76, (.goto 4, 3, 0, 80, 0)), (79, (.iconst 5, 1, 5, 0, 0)), (80, (.iastore, 1, 0, 0, 0)), (81, (.aload_n 0, 1, 0, 0, 0)), (82, (.getfield 107, 3, 0, 7, 40)), (85, (.iload_n 2, 1, 0, 0, 0)), (86, (.aload_n 0, 1, 0, 0, 0)), (87, (.getfield 110, 3, 0, 7, 41)), (90, (.iload_n 2, 1, 0, 0, 0)), (91, (.baload, 1, 0, 0, 0)), (92, (.bastore, 1, 0, 0, 0)), (93, (.aload_n 0, 1, 0, 0, 0)), (94, (.iload_n 2, 1, 0, 0, 0)), (95, (.invokevirtual 276, 3, 0, 161, 0)), (98, (.return_, 1, 0, 0, 0)), (99, (.aload_n 0, 1, 0, 0, 0)), (100, (.getfield 83, 3, 0, 7, 32)), (103, (.iload_n 2, 1, 0, 0, 0)), (104, (.iconst 1, 1, 1, 0, 0)), (105, (.iastore, 1, 0, 0, 0)), (106, (.aload_n 0, 1, 0, 0, 0)), (107, (.getfield 59, 3, 0, 7, 23)), (110, (.iload_n 1, 1, 0, 0, 0)), (111, (.dup2, 1, 0, 0, 0)), (112, (.iaload, 1, 0, 0, 0)), (113, (.aload_n 0, 1, 0, 0, 0)), (114, (.iload_n 2, 1, 0, 0, 0)), (115, (.invokevirtual 201, 3, 0, 155, 0)), (118, (.iadd, 1, 0, 0, 0)), (119, (.iastore, 1, 0, 0, 0)), (120, (.iload_n 3, 1, 0, 0, 0)), (121, (.ifCond .eq 29, 3, 0, 150, 0)), (124, (.aload_n 0, 1, 0, 0, 0)), (125, (.getfield 62, 3, 0, 7, 24)), (128, (.iconst 3, 1, 3, 0, 0)), (129, (.iload_n 1, 1, 0, 0, 0)), (130, (.imul, 1, 0, 0, 0)), (131, (.aload_n 0, 1, 0, 0, 0)), (132, (.getfield 65, 3, 0, 7, 25)), (135, (.iload_n 1, 1, 0, 0, 0)), (136, (.iaload, 1, 0, 0, 0)), (137, (.iadd, 1, 0, 0, 0)), (138, (.iload_n 2, 1, 0, 0, 0)), (139, (.iastore, 1, 0, 0, 0)), (140, (.aload_n 0, 1, 0, 0, 0)), (141, (.getfield 65, 3, 0, 7, 25)), (144, (.iload_n 1, 1, 0, 0, 0)), (145, (.dup2, 1, 0, 0, 0)), (146, (.iaload, 1, 0, 0, 0)), (147, (.iconst 1, 1, 1, 0, 0)), (148, (.iadd, 1, 0, 0, 0)), (149, (.iastore, 1, 0, 0, 0)), (150, (.return_, 1, 0, 0, 0))]
/-- 168: DoorstepRidesModel.dropped(II)V -/
def zK168 : List (Nat × zRI) := [(0, (.aload_n 0, 1, 0, 0, 0)), (1, (.getfield 101, 3, 0, 7, 38)), (4, (.iload_n 2, 1, 0, 0, 0)), (5, (.aload_n 0, 1, 0, 0, 0)), (6, (.getfield 50, 3, 0, 7, 20)), (9, (.iload_n 1, 1, 0, 0, 0)), (10, (.iaload, 1, 0, 0, 0)), (11, (.iastore, 1, 0, 0, 0)), (12, (.aload_n 0, 1, 0, 0, 0)), (13, (.getfield 83, 3, 0, 7, 32)), (16, (.iload_n 2, 1, 0, 0, 0)), (17, (.iconst 2, 1, 2, 0, 0)), (18, (.iastore, 1, 0, 0, 0)), (19, (.aload_n 0, 1, 0, 0, 0)), (20, (.getfield 59, 3, 0, 7, 23)), (23, (.iload_n 1, 1, 0, 0, 0)), (24, (.dup2, 1, 0, 0, 0)), (25, (.iaload, 1, 0, 0, 0)), (26, (.aload_n 0, 1, 0, 0, 0)), (27, (.iload_n 2, 1, 0, 0, 0)), (28, (.invokevirtual 201, 3, 0, 155, 0)), (31, (.isub, 1, 0, 0, 0)), (32, (.iastore, 1, 0, 0, 0)), (33, (.aload_n 0, 1, 0, 0, 0)), (34, (.getfield 65, 3, 0, 7, 25)), (37, (.iload_n 1, 1, 0, 0, 0)), (38, (.dup2, 1, 0, 0, 0)), (39, (.iaload, 1, 0, 0, 0)), (40, (.aload_n 0, 1, 0, 0, 0)), (41, (.iload_n 2, 1, 0, 0, 0)), (42, (.invokevirtual 166, 3, 0, 142, 0)), (45, (.iconst 2, 1, 2, 0, 0)), (46, (.if_icmp .ne 7, 3, 0, 53, 0)), (49, (.iconst 1, 1, 1, 0, 0)), (50, (.goto 4, 3, 0, 54, 0)), (53, (.iconst 0, 1, 0, 0, 0)), (54, (.isub, 1, 0, 0, 0)), (55, (.iastore, 1, 0, 0, 0)), (56, (.return_, 1, 0, 0, 0))]
/-- 169: DoorstepRidesModel.leave(I)V -/
def zK169 : List (Nat × zRI) := [(0, (.aload_n 0, 1, 0, 0, 0)), (1, (.getfield 68, 3, 0, 7, 26)), (4, (.bipush 16, 2, 16, 0, 0)), (6, (.iload_n 1, 1, 0, 0, 0)), (7, (.imul, 1, 0, 0, 0)), (8, (.iaload, 1, 0, 0, 0)), (9, (.istore_n 2, 1, 0, 0, 0)), (10, (.aload_n 0, 1, 0, 0, 0)), (11, (.aload_n 0, 1, 0, 0, 0)), (12, (.getfield 41, 3, 0, 7, 17)), (15, (.iload_n 1, 1, 0, 0, 0)), (16, (.iaload, 1, 0, 0, 0)), (17, (.aload_n 0, 1, 0, 0, 0)), (18, (.iload_n 2, 1, 0, 0, 0)), (19, (.invokevirtual 179, 3, 0, 145, 0)), (22, (.invokevirtual 170, 3, 0, 146, 0)), (25, (.istore_n 3, 1, 0, 0, 0)), (26, (.iload_n 2, 1, 0, 0, 0)), (27, (.iconst 2, 1, 2, 0, 0)), (28, (.irem, 1, 0, 0, 0)), (29, (.iconst 1, 1, 1, 0, 0)), (30, (.if_icmp .eq 20, 3, 0, 50, 0)), (33, (.aload_n 0, 1, 0, 0, 0)), (34, (.getfield 89, 3, 0, 7, 34)), (37, (.iload_n 2, 1, 0, 0, 0)), (38, (.iconst 2, 1, 2, 0, 0)), (39, (.idiv, 1, 0, 0, 0)), (40, (.iaload, 1, 0, 0, 0)), (41, (.iload_n 3, 1, 0, 0, 0)), (42, (.isub, 1, 0, 0, 0)), (43, (.aload_n 0, 1, 0, 0, 0)), (44, (.getfield 176, 3, 0, 7, 2)), (47, (.if_icmp .gt 42, 3, 0, 89, 0)), (50, (.aload_n 0, 1, 0, 0, 0)), (51, (.getfield 47, 3, 0, 7, 19)), (54, (.iload_n 1, 1, 0, 0, 0)), (55, (.iconst 1, 1, 1, 0, 0)), (56, (.bastore, 1, 0, 0, 0)), (57, (.aload_n 0, 1, 0, 0, 0)), (58, (.getfield 50, 3, 0, 7, 20)), (61, (.iload_n 1, 1, 0, 0, 0)), (62, (.aload_n 0, 1, 0, 0, 0)), (63, (.getfield 176, 3, 0, 7, 2)), (66, (.iload_n 3, 1, 0, 0, 0)), (67, (.iadd, 1, 0, 0, 0)), (68, (.iastore, 1, 0, 0, 0)), (69, (.aload_n 0, 1, 0, 0, 0)), (70, (.getfield 53, 3, 0, 7, 21)), (73, (.iload_n 1, 1, 0, 0, 0)), (74, (.aload_n 0, 1, 0, 0, 0)), (75, (.getfield 176, 3, 0, 7, 2)), (78, (.iload_n 3, 1, 0, 0, 0)), (79, (.iadd, 1, 0, 0, 0)), (80, (.aload_n 0, 1, 0, 0, 0)), (81, (.iload_n 2, 1, 0, 0, 0)), (82, (.iconst 2, 1, 2, 0, 0)), (83, (.idiv, 1, 0, 0, 0)), (84, (.invokevirtual 182, 3, 0, 150, 0)), (87, (.iadd, 1, 0, 0, 0)), (88, (.iastore, 1, 0, 0, 0)), (89, (.return_, 1, 0, 0, 0))]
/-- 170: DoorstepRidesModel.end()I -/
def zK170 : List (Nat × zRI) := [(0, (.aload_n 0, 1, 0, 0, 0)), (1, (.aload_n 0, 1, 0, 0, 0)), (2, (.getfield 244, 3, 0, 7, 1)), (5, (.sipush 400, 3, 400, 0, 0)), (8, (.if_icmp .ne 7, 3, 0, 15, 0)), (11, (.iconst 1, 1, 1, 0, 0)), (12, (.goto 4, 3, 0, 16, 0)), (15, (.iconst 0, 1, 0, 0, 0)), (16, (.putfield 128, 3, 0, 7, 0)), (19, (.aload_n 0, 1, 0, 0, 0)), (20, (.getfield 128, 3, 0, 7, 0)), (23, (.ifCond .le 5, 3, 0, 28, 0)), (26, (.iconst 0, 1, 0, 0, 0)), (27, (.ireturn, 1, 0, 0, 0)), (28, (.aload_n 0, 1, 0, 0, 0)), (29, (.getfield 176, 3, 0, 7, 2)), (32, (.sipush 600, 3, 600, 0, 0)), (35, (.if_icmp .ge 10, 3, 0, 45, 0)), (38, (.aload_n 0, 1, 0, 0, 0)), (39, (.invokevirtual 291, 3, 0, 165, 0)), (42, (.goto (-14), 3, 0, 28, 0)), (45, (.iconst 0, 1, 0, 0, 0)), (46, (.istore_n 1, 1, 0, 0, 0)), (47, (.iconst 0, 1, 0, 0, 0)), (48, (.istore_n 2, 1, 0, 0, 0)), (49, (.iload_n 2, 1, 0, 0, 0)), (50, (.aload_n 0, 1, 0, 0, 0)), (51, (.getfield 142, 3, 0, 7, 28)), (54, (.if_icmp .ge 38, 3, 0, 92, 0)), (57, (.aload_n 0, 1, 0, 0, 0)), (58, (.getfield 83, 3, 0, 7, 32)), (61, (.iload_n 2, 1, 0, 0, 0)), (62, (.iaload, 1, 0, 0, 0)), (63, (.ifCond .eq 13, 3, 0, 76, 0)), (66, (.aload_n 0, 1, 0, 0, 0)), (67, (.getfield 83, 3, 0, 7, 32)), (70, (.iload_n 2, 1, 0, 0, 0)), (71, (.iaload, 1, 0, 0, 0)), (72, (.iconst 1, 1, 1, 0, 0)), (73, (.if_icmp .ne 13, 3, 0, 86, 0)), (76, (.aload_n 0, 1, 0, 0, 0)), (77, (.getfield 83, 3, 0, 7, 32)), (80, (.iload_n 2, 1, 0, 0, 0)), (81, (.iconst 5, 1, 5, 0, 0)), (82, (.iastore, 1, 0, 0, 0)), (83, (.iinc 1 1, 3, 1, 0, 0)), (86, (.iinc 2 1, 3, 1, 0, 0)), (89, (.goto (-40), 3, 0, 49, 0)), (92, (.iconst 0, 1, 0, 0, 0)), (93, (.istore_n 2, 1, 0, 0, 0)), (94, (.iload_n 2, 1, 0, 0, 0)), (95, (.aload_n 0, 1, 0, 0, 0)), (96, (.getfield 139, 3, 0, 7, 11)), (99, (.if_icmp .ge 63, 3, 0, 162, 0)), (102, (.aload_n 0, 1, 0, 0, 0)), (103, (.getfield 41, 3, 0, 7, 17)), (106, (.iload_n 2, 1, 0, 0, 0)), (107, (.aload_n 0, 1, 0, 0, 0)), (108, (.getfield 26, 3, 0, 7, 12)), (111, (.iload_n 2, 1, 0, 0, 0)), (112, (.iaload, 1, 0, 0, 0)), (113, (.iastore, 1, 0, 0, 0)), (114, (.aload_n 0, 1, 0, 0, 0)), (115, (.getfield 44, 3, 0, 7, 18)), (118, (.iload_n 2, 1, 0, 0, 0)), (119, (.iconst 0, 1, 0, 0, 0)), (120, (.iastore, 1, 0, 0, 0)), (121, (.aload_n 0, 1, 0, 0, 0)), (122, (.getfield 47, 3, 0, 7, 19)), (125, (.iload_n 2, 1, 0, 0, 0)), (126, (.iconst 0, 1, 0, 0, 0)), (127, (.bastore, 1, 0, 0, 0)), (128, (.aload_n 0, 1, 0, 0, 0)), (129, (.getfield 56, 3, 0, 7, 22)), (132, (.iload_n 2, 1, 0, 0, 0)), (133, (.iconst 0, 1, 0, 0, 0)), (134, (.bastore, 1, 0, 0, 0)), (135, (.aload_n 0, 1, 0, 0, 0)), (136, (.getfield 59, 3, 0, 7, 23)), (139, (.iload_n 2, 1, 0, 0, 0)), (140, (.iconst 0, 1, 0, 0, 0)), (141, (.iastore, 1, 0, 0, 0)), (142, (.aload_n 0, 1, 0, 0, 0)), (143, (.getfield 65, 3, 0, 7, 25)), (146, (.iload_n 2, 1, 0, 0, 0)), (147, (.iconst 0, 1, 0, 0, 0)), (148, (.iastore, 1, 0, 0, 0)), (149, (.aload_n 0, 1, 0, 0, 0)), (150, (.getfield 71, 3, 0, 7, 27)), (153, (.iload_n 2, 1, 0, 0, 0)), (154, (.iconst 0, 1, 0, 0, 0)), (155, (.iastore, 1, 0, 0, 0)), (156, (.iinc 2 1, 3, 1, 0, 0)), (159, (.goto (-65), 3, 0, 94, 0)), (162, (.aload_n 0, 1, 0, 0, 0)), (163, (.dup, 1, 0, 0, 0)), (164, (.getfield 244, 3, 0, 7, 1)), (167, (.iconst 1, 1, 1, 0, 0)), (168, (.iadd, 1, 0, 0, 0)), (169, (.putfield 244, 3, 0, 7, 1)), (172, (.aload_n 0, 1, 0, 0, 0)), (173, (.iconst 0, 1, 0, 0, 0)), (174, (.putfield 176, 3, 0, 7, 2)), (177, (.iload_n 1, 1, 0, 0, 0)), (178, (.ireturn, 1, 0, 0, 0))]
/-- 171: DoorstepRidesModel.traffic(II)I -/
def zK171 : List (Nat × zRI) := [(0, (.aload_n 0, 1, 0, 0, 0)), (1, (.aload_n 0, 1, 0, 0, 0)), (2, (.iload_n 1, 1, 0, 0, 0)), (3, (.invokevirtual 163, 3, 0, 129, 0)), (6, (.ifCond .ne 7, 3, 0, 13, 0)), (9, (.iconst 1, 1, 1, 0, 0)), (10, (.goto 19, 3, 0, 29, 0)), (13, (.aload_n 0, 1, 0, 0, 0)), (14, (.iload_n 2, 1, 0, 0, 0)), (15, (.iconst 1, 1, 1, 0, 0)), (16, (.bipush 60, 2, 60, 0, 0)), (18, (.invokevirtual 132, 3, 0, 123, 0)), (21, (.ifCond .ne 7, 3, 0, 28, 0)), (24, (.iconst 2, 1, 2, 0, 0)), (25, (.goto 4, 3, 0, 29, 0)), (28, (.iconst 0, 1, 0, 0, 0)), (29, (.putfield 128, 3, 0, 7, 0)), (32, (.aload_n 0, 1, 0, 0, 0)), (33, (.getfield 128, 3, 0, 7, 0)), (36, (.ifCond .le 5, 3, 0, 41, 0)), (39, (.iconst 0, 1, 0, 0, 0)), (40, (.ireturn, 1, 0, 0, 0)), (41, (.aload_n 0, 1, 0, 0, 0)), (42, (.getfield 47, 3, 0, 7, 19)), (45, (.iload_n 1, 1, 0, 0, 0)), (46, (.baload, 1, 0, 0, 0)), (47, (.ifCond .eq 30, 3, 0, 77, 0)), (50, (.aload_n 0, 1, 0, 0, 0)), (51, (.getfield 50, 3, 0, 7, 20)), (54, (.iload_n 1, 1, 0, 0, 0)), (55, (.dup2, 1, 0, 0, 0)), (56, (.iaload, 1, 0, 0, 0)), (57, (.iload_n 2, 1, 0, 0, 0)), (58, (.iadd, 1, 0, 0, 0)), (59, (.iastore, 1, 0, 0, 0)), (60, (.aload_n 0, 1, 0, 0, 0)), (61, (.getfield 53, 3, 0, 7, 21)), (64, (.iload_n 1, 1, 0, 0, 0)), (65, (.dup2, 1, 0, 0, 0)), (66, (.iaload, 1, 0, 0, 0)), (67, (.iload_n 2, 1, 0, 0, 0)), (68, (.iadd, 1, 0, 0, 0)), (69, (.iastore, 1, 0, 0, 0)), (70, (.aload_n 0, 1, 0, 0, 0)), (71, (.getfield 53, 3, 0, 7, 21)), (74, (.iload_n 1, 1, 0, 0, 0)), (75, (.iaload, 1, 0, 0, 0)), (76, (.ireturn, 1, 0, 0, 0)), (77, (.aload_n 0, 1, 0, 0, 0)), (78, (.getfield 44, 3, 0, 7, 18)), (81, (.iload_n 1, 1, 0, 0, 0)), (82, (.aload_n 0, 1, 0, 0, 0)), (83, (.getfield 44, 3, 0, 7, 18)), (86, (.iload_n 1, 1, 0, 0, 0)), (87, (.iaload, 1, 0, 0, 0)), (88, (.aload_n 0, 1, 0, 0, 0)), (89, (.getfield 176, 3, 0, 7, 2)), (92, (.if_icmp .le 12, 3, 0, 104, 0)), (95, (.aload_n 0, 1, 0, 0, 0)), (96, (.getfield 44, 3, 0, 7, 18)), (99, (.iload_n 1, 1, 0, 0, 0)), (100, (.iaload, 1, 0, 0, 0)), (101, (.goto 7, 3, 0, 108, 0)), (104, (.aload_n 0, 1, 0, 0, 0)), (105, (.getfield 176, 3, 0, 7, 2)), (108, (.iload_n 2, 1, 0, 0, 0)), (109, (.iadd, 1, 0, 0, 0)), (110, (.iastore, 1, 0, 0, 0)), (111, (.aload_n 0, 1, 0, 0, 0)), (112, (.getfield 44, 3, 0, 7, 18)), (115, (.iload_n 1, 1, 0, 0, 0)), (116, (.iaload, 1, 0, 0, 0)), (117, (.ireturn, 1, 0, 0, 0))]
/-- 172: DoorstepRidesModel.mend(I)I -/
def zK172 : List (Nat × zRI) := [(0, (.aload_n 0, 1, 0, 0, 0)), (1, (.aload_n 0, 1, 0, 0, 0)), (2, (.iload_n 1, 1, 0, 0, 0)), (3, (.invokevirtual 163, 3, 0, 129, 0)), (6, (.ifCond .ne 7, 3, 0, 13, 0)), (9, (.iconst 1, 1, 1, 0, 0)), (10, (.goto 4, 3, 0, 14, 0)), (13, (.iconst 0, 1, 0, 0, 0)), (14, (.putfield 128, 3, 0, 7, 0)), (17, (.aload_n 0, 1, 0, 0, 0)), (18, (.getfield 128, 3, 0, 7, 0)), (21, (.ifCond .le 5, 3, 0, 26, 0)), (24, (.iconst 0, 1, 0, 0, 0)), (25, (.ireturn, 1, 0, 0, 0)), (26, (.iconst 0, 1, 0, 0, 0)), (27, (.istore_n 2, 1, 0, 0, 0)), (28, (.aload_n 0, 1, 0, 0, 0)), (29, (.getfield 47, 3, 0, 7, 19)), (32, (.iload_n 1, 1, 0, 0, 0)), (33, (.baload, 1, 0, 0, 0)), (34, (.ifCond .eq 7, 3, 0, 41, 0)), (37, (.iconst 1, 1, 1, 0, 0)), (38, (.goto 4, 3, 0, 42, 0)), (41, (.iconst 0, 1, 0, 0, 0)), (42, (.istore_n 3, 1, 0, 0, 0)), (43, (.iload_n 3, 1, 0, 0, 0)), (44, (.aload_n 0, 1, 0, 0, 0)), (45, (.getfield 71, 3, 0, 7, 27)), (48, (.iload_n 1, 1, 0, 0, 0)), (49, (.iaload, 1, 0, 0, 0)), (50, (.if_icmp .ge 42, 3, 0, 92, 0)), (53, (.aload_n 0, 1, 0, 0, 0)), (54, (.getfield 68, 3, 0, 7, 26)), (57, (.bipush 16, 2, 16, 0, 0)), (59, (.iload_n 1, 1, 0, 0, 0)), (60, (.imul, 1, 0, 0, 0)), (61, (.iload_n 3, 1, 0, 0, 0)), (62, (.iadd, 1, 0, 0, 0)), (63, (.iaload, 1, 0, 0, 0)), (64, (.istore 4, 2, 0, 0, 0)), (66, (.iload 4, 2, 0, 0, 0)), (68, (.iconst 2, 1, 2, 0, 0)), (69, (.irem, 1, 0, 0, 0)), (70, (.ifCond .ne 16, 3, 0, 86, 0)), (73, (.aload_n 0, 1, 0, 0, 0)), (74, (.getfield 125, 3, 0, 7, 51)), (77, (.iload_n 2, 1, 0, 0, 0)), (78, (.iload 4, 2, 0, 0, 0)), (80, (.iconst 2, 1, 2, 0, 0)), (81, (.idiv, 1, 0, 0, 0)), (82, (.iastore, 1, 0, 0, 0)), (83, (.iinc 2 1, 3, 1, 0, 0)), (86, (.iinc 3 1, 3, 1, 0, 0)), (89, (.goto (-46), 3, 0, 43, 0)), (92, (.iconst 0, 1, 0, 0, 0)), (93, (.istore_n 3, 1, 0, 0, 0)), (94, (.iconst 0, 1, 0, 0, 0)), (95, (.istore 4, 2, 0, 0, 0)), (97, (.iload 4, 2, 0, 0, 0)), (99, (.iload_n 2, 1, 0, 0, 0)), (100, (.if_icmp .ge 32, 3, 0, 132, 0)), (103, (.iload_n 3, 1, 0, 0, 0)), (104, (.aload_n 0, 1, 0, 0, 0)), (105, (.iload_n 1, 1, 0, 0, 0)), (106, (.aload_n 0, 1, 0, 0, 0)), (107, (.getfield 125, 3, 0, 7, 51)), (110, (.iload 4, 2, 0, 0, 0)), (112, (.iaload, 1, 0, 0, 0)), (113, (.invokevirtual 294, 3, 0, 173, 0)), (116, (.ifCond .eq 7, 3, 0, 123, 0)), (119, (.iconst 1, 1, 1, 0, 0)), (120, (.goto 4, 3, 0, 124, 0)), (123, (.iconst 0, 1, 0, 0, 0)), (124, (.iadd, 1, 0, 0, 0)), (125, (.istore_n 3, 1, 0, 0, 0)), (126, (.iinc 4 1, 3, 1, 0, 0)), (129, (.goto (-32), 3, 0, 97, 0)), (132, (.iload_n 3, 1, 0, 0, 0)), (133, (.ireturn, 1, 0, 0, 0))]
/-- 173: DoorstepRidesModel.mended(II)Z -/
def zK173 : List (Nat × zRI) := [(0, (.aload_n 0, 1, 0, 0, 0)), (1, (.iload_n 1, 1, 0, 0, 0)), (2, (.invokevirtual 207, 3, 0, 143, 0)), (5, (.aload_n 0, 1, 0, 0, 0)), (6, (.iload_n 1, 1, 0, 0, 0)), (7, (.invokevirtual 194, 3, 0, 149, 0)), (10, (.aload_n 0, 1, 0, 0, 0)), (11, (.iconst 2, 1, 2, 0, 0)), (12, (.iload_n 2, 1, 0, 0, 0)), (13, (.imul, 1, 0, 0, 0)), (14, (.invokevirtual 185, 3, 0, 153, 0)), (17, (.istore_n 3, 1, 0, 0, 0)), (18, (.aload_n 0, 1, 0, 0, 0)), (19, (.iconst 2, 1, 2, 0, 0)), (20, (.iload_n 2, 1, 0, 0, 0)), (21, (.imul, 1, 0, 0, 0)), (22, (.iconst 1, 1, 1, 0, 0)), (23, (.iadd, 1, 0, 0, 0)), (24, (.invokevirtual 185, 3, 0, 153, 0)), (27, (.istore 4, 2, 0, 0, 0)), (29, (.aload_n 0, 1, 0, 0, 0)), (30, (.iload_n 3, 1, 0, 0, 0)), (31, (.invokevirtual 198, 3, 0, 151, 0)), (34, (.ifCond .ne 14, 3, 0, 48, 0)), (37, (.aload_n 0, 1, 0, 0, 0)), (38, (.iload 4, 2, 0, 0, 0)), (40, (.invokevirtual 198, 3, 0, 151, 0)), (43, (.ifCond .ne 5, 3, 0, 48, 0)), (46, (.iconst 0, 1, 0, 0, 0)), (47, (.ireturn, 1, 0, 0, 0)), (48, (.aload_n 0, 1, 0, 0, 0)), (49, (.iload_n 2, 1, 0, 0, 0)), (50, (.invokevirtual 276, 3, 0, 161, 0)), (53, (.aload_n 0, 1, 0, 0, 0)), (54, (.iload_n 2, 1, 0, 0, 0)), (55, (.invokevirtual 251, 3, 0, 140, 0)), (58, (.istore 5, 2, 0, 0, 0)), (60, (.iload 5, 2, 0, 0, 0)), (62, (.ifCond .ne 32, 3, 0, 94, 0)), (65, (.aload_n 0, 1, 0, 0, 0)), (66, (.iload_n 1, 1, 0, 0, 0)), (67, (.invokevirtual 207, 3, 0, 143, 0)), (70, (.aload_n 0, 1, 0, 0, 0)), (71, (.iload_n 3, 1, 0, 0, 0)), (72, (.iconst 2, 1, 2, 0, 0)), (73, (.iload_n 2, 1, 0, 0, 0)), (74, (.imul, 1, 0, 0, 0)), (75, (.invokevirtual 213, 3, 0, 147, 0)), (78, (.aload_n 0, 1, 0, 0, 0)), (79, (.iload 4, 2, 0, 0, 0)), (81, (.iconst 2, 1, 2, 0, 0)), (82, (.iload_n 2, 1, 0, 0, 0)), (83, (.imul, 1, 0, 0, 0)), (84, (.iconst 1, 1, 1, 0, 0)), (85, (.iadd, 1, 0, 0, 0)), (86, (.invokevirtual 213, 3, 0, 147, 0)), (89, (.aload_n 0, 1, 0, 0, 0)), (90, (.iload_n 1, 1, 0, 0, 0)), (91, (.invokevirtual 235, 3, 0, 157, 0)), (94, (.iload 5, 2, 0, 0, 0)), (96, (.ireturn, 1, 0, 0, 0))]
/-- 174: DoorstepRidesModel.day()I -/
def zK174 : List (Nat × zRI) := [(0, (.aload_n 0, 1, 0, 0, 0)), (1, (.iconst 0, 1, 0, 0, 0)), (2, (.putfield 128, 3, 0, 7, 0)), (5, (.aload_n 0, 1, 0, 0, 0)), (6, (.getfield 244, 3, 0, 7, 1)), (9, (.ireturn, 1, 0, 0, 0))]
/-- 175: DoorstepRidesModel.now()I -/
def zK175 : List (Nat × zRI) := [(0, (.aload_n 0, 1, 0, 0, 0)), (1, (.iconst 0, 1, 0, 0, 0)), (2, (.putfield 128, 3, 0, 7, 0)), (5, (.aload_n 0, 1, 0, 0, 0)), (6, (.getfield 176, 3, 0, 7, 2)), (9, (.ireturn, 1, 0, 0, 0))]
/-- 176: DoorstepRidesModel.owes(III)Z -/
def zK176 : List (Nat × zRI) := [(0, (.aload_n 0, 1, 0, 0, 0)), (1, (.aload_n 0, 1, 0, 0, 0)), (2, (.iload_n 1, 1, 0, 0, 0)), (3, (.invokevirtual 258, 3, 0, 131, 0)), (6, (.ifCond .ne 7, 3, 0, 13, 0)), (9, (.iconst 1, 1, 1, 0, 0)), (10, (.goto 24, 3, 0, 34, 0)), (13, (.aload_n 0, 1, 0, 0, 0)), (14, (.iload_n 2, 1, 0, 0, 0)), (15, (.invokevirtual 156, 3, 0, 126, 0)), (18, (.ifCond .eq 11, 3, 0, 29, 0)), (21, (.aload_n 0, 1, 0, 0, 0)), (22, (.iload_n 3, 1, 0, 0, 0)), (23, (.invokevirtual 156, 3, 0, 126, 0)), (26, (.ifCond .ne 7, 3, 0, 33, 0)), (29, (.iconst 2, 1, 2, 0, 0)), (30, (.goto 4, 3, 0, 34, 0)), (33, (.iconst 0, 1, 0, 0, 0)), (34, (.putfield 128, 3, 0, 7, 0)), (37, (.aload_n 0, 1, 0, 0, 0)), (38, (.getfield 128, 3, 0, 7, 0)), (41, (.ifCond .ne 17, 3, 0, 58, 0)), (44, (.aload_n 0, 1, 0, 0, 0)), (45, (.iload_n 1, 1, 0, 0, 0)), (46, (.iload_n 2, 1, 0, 0, 0)), (47, (.iload_n 3, 1, 0, 0, 0)), (48, (.invokevirtual 261, 3, 0, 132, 0)), (51, (.ifCond .eq 7, 3, 0, 58, 0)), (54, (.iconst 1, 1, 1, 0, 0)), (55, (.goto 4, 3, 0, 59, 0)), (58, (.iconst 0, 1, 0, 0, 0)), (59, (.ireturn, 1, 0, 0, 0))]
/-- 177: DoorstepRidesModel.riderOf(II)I -/
def zK177 : List (Nat × zRI) := [(0, (.aload_n 0, 1, 0, 0, 0)), (1, (.aload_n 0, 1, 0, 0, 0)), (2, (.iload_n 1, 1, 0, 0, 0)), (3, (.invokevirtual 258, 3, 0, 131, 0)), (6, (.ifCond .ne 7, 3, 0, 13, 0)), (9, (.iconst 1, 1, 1, 0, 0)), (10, (.goto 18, 3, 0, 28, 0)), (13, (.aload_n 0, 1, 0, 0, 0)), (14, (.iload_n 2, 1, 0, 0, 0)), (15, (.iconst 0, 1, 0, 0, 0)), (16, (.iconst 2, 1, 2, 0, 0)), (17, (.invokevirtual 132, 3, 0, 123, 0)), (20, (.ifCond .ne 7, 3, 0, 27, 0)), (23, (.iconst 2, 1, 2, 0, 0)), (24, (.goto 4, 3, 0, 28, 0)), (27, (.iconst 0, 1, 0, 0, 0)), (28, (.putfield 128, 3, 0, 7, 0)), (31, (.aload_n 0, 1, 0, 0, 0)), (32, (.getfield 128, 3, 0, 7, 0)), (35, (.ifCond .le 5, 3, 0, 40, 0)), (38, (.iconst 0, 1, 0, 0, 0)), (39, (.ireturn, 1, 0, 0, 0)), (40, (.iload_n 2, 1, 0, 0, 0)), (41, (.iconst 2, 1, 2, 0, 0)), (42, (.if_icmp .ge 21, 3, 0, 63, 0)), (45, (.aload_n 0, 1, 0, 0, 0)), (46, (.iload_n 1, 1, 0, 0, 0)), (47, (.iload_n 2, 1, 0, 0, 0)), (48, (.iconst 1, 1, 1, 0, 0)), (49, (.if_icmp .ne 7, 3, 0, 56, 0)), (52, (.iconst 1, 1, 1, 0, 0)), (53, (.goto 4, 3, 0, 57, 0)), (56, (.iconst 0, 1, 0, 0, 0)), (57, (.invokevirtual 247, 3, 0, 137, 0)), (60, (.goto 16, 3, 0, 76, 0)), (63, (.aload_n 0, 1, 0, 0, 0)), (64, (.iload_n 1, 1, 0, 0, 0)), (65, (.invokevirtual 264, 3, 0, 136, 0)), (68, (.ifCond .eq 7, 3, 0, 75, 0)), (71, (.iconst 1, 1, 1, 0, 0)), (72, (.goto 4, 3, 0, 76, 0)), (75, (.iconst 0, 1, 0, 0, 0)), (76, (.ireturn, 1, 0, 0, 0))]
/-- 178: DoorstepRidesModel.requestOf(II)I -/
def zK178 : List (Nat × zRI) := [(0, (.aload_n 0, 1, 0, 0, 0)), (1, (.aload_n 0, 1, 0, 0, 0)), (2, (.iload_n 1, 1, 0, 0, 0)), (3, (.invokevirtual 270, 3, 0, 159, 0)), (6, (.ifCond .ne 7, 3, 0, 13, 0)), (9, (.iconst 1, 1, 1, 0, 0)), (10, (.goto 19, 3, 0, 29, 0)), (13, (.aload_n 0, 1, 0, 0, 0)), (14, (.iload_n 2, 1, 0, 0, 0)), (15, (.iconst 0, 1, 0, 0, 0)), (16, (.bipush 10, 2, 10, 0, 0)), (18, (.invokevirtual 132, 3, 0, 123, 0)), (21, (.ifCond .ne 7, 3, 0, 28, 0)), (24, (.iconst 2, 1, 2, 0, 0)), (25, (.goto 4, 3, 0, 29, 0)), (28, (.iconst 0, 1, 0, 0, 0)), (29, (.putfield 128, 3, 0, 7, 0)), (32, (.aload_n 0, 1, 0, 0, 0)), (33, (.getfield 128, 3, 0, 7, 0)), (36, (.ifCond .le 5, 3, 0, 41, 0)), (39, (.iconst 0, 1, 0, 0, 0)), (40, (.ireturn, 1, 0, 0, 0)), (41, (.iload_n 2, 1, 0, 0, 0)), (42, (.tableswitch 138 0 9 #[54, 61, 68, 75, 82, 89, 96, 103, 117, 131], 54, 0, 0, 0)), (96, (.aload_n 0, 1, 0, 0, 0)), (97, (.getfield 83, 3, 0, 7, 32)), (100, (.iload_n 1, 1, 0, 0, 0)), (101, (.iaload, 1, 0, 0, 0)), (102, (.ireturn, 1, 0, 0, 0)), (103, (.aload_n 0, 1, 0, 0, 0)), (104, (.getfield 86, 3, 0, 7, 33)), (107, (.iload_n 1, 1, 0, 0, 0)), (108, (.iaload, 1, 0, 0, 0)), (109, (.ireturn, 1, 0, 0, 0)), (110, (.aload_n 0, 1, 0, 0, 0)), (111, (.getfield 89, 3, 0, 7, 34)), (114, (.iload_n 1, 1, 0, 0, 0)), (115, (.iaload, 1, 0, 0, 0)), (116, (.ireturn, 1, 0, 0, 0)), (117, (.aload_n 0, 1, 0, 0, 0)), (118, (.getfield 92, 3, 0, 7, 35)), (121, (.iload_n 1, 1, 0, 0, 0)), (122, (.iaload, 1, 0, 0, 0)), (123, (.ireturn, 1, 0, 0, 0)), (124, (.aload_n 0, 1, 0, 0, 0)), (125, (.getfield 95, 3, 0, 7, 36)), (128, (.iload_n 1, 1, 0, 0, 0)), (129, (.iaload, 1, 0, 0, 0)), (130, (.ireturn, 1, 0, 0, 0)), (131, (.aload_n 0, 1, 0, 0, 0)), (132, (.getfield 98, 3, 0, 7, 37)), (135, (.iload_n 1, 1, 0, 0, 0)), (136, (.iaload, 1, 0, 0, 0)), (137, (.ireturn, 1, 0, 0, 0)), (138, (.aload_n 0, 1, 0, 0, 0)), (139, (.getfield 101, 3, 0, 7, 38)), (142, (.iload_n 1, 1, 0, 0, 0)), (143, (.iaload, 1, 0, 0, 0)), (144, (.ireturn, 1, 0, 0, 0)), (145, (.aload_n 0, 1, 0, 0, 0)), (146, (.iload_n 1, 1, 0, 0, 0)), (147, (.invokevirtual 297, 3, 0, 179, 0)), (150, (.ifCond .eq 7, 3, 0, 157, 0)), (153, (.iconst 1, 1, 1, 0, 0)), (154, (.goto 4, 3, 0, 158, 0)), (157, (.iconst 0, 1, 0, 0, 0)), (158, (.ireturn, 1, 0, 0, 0)), (159, (.aload_n 0, 1, 0, 0, 0)), (160, (.iload_n 1, 1, 0, 0, 0)), (161, (.invokevirtual 300, 3, 0, 180, 0)), (164, (.ifCond .eq 7, 3, 0, 171, 0)), (167, (.iconst 1, 1, 1, 0, 0)), (168, (.goto 4, 3, 0, 172, 0)), (171, (.iconst 0, 1, 0, 0, 0)), (172, (.ireturn, 1, 0, 0, 0)), (173, (.aload_n 0, 1, 0, 0, 0)), (174, (.getfield 104, 3, 0, 7, 39)), (177, (.iload_n 1, 1, 0, 0, 0)), (178, (.iaload, 1, 0, 0, 0)), (179, (.ireturn, 1, 0, 0, 0)), (180, (.aload_n 0, 1, 0, 0, 0)), (181, (.getfield 107, 3, 0, 7, 40)), (184, (.iload_n 1, 1, 0, 0, 0)), (185, (.baload, 1, 0, 0, 0)), (186, (.ifCond .eq 7, 3, 0, 193, 0)), (189, (.iconst 1, 1, 1, 0, 0)), (190, (.goto 4, 3, 0, 194, 0)), (193, (.iconst 0, 1, 0, 0, 0)), (194, (.ireturn, 1, 0, 0, 0))]
/-- 179: DoorstepRidesModel.isLate(I)Z -/
def zK179 : List (Nat × zRI) := [(0, (.aload_n 0, 1, 0, 0, 0)), (1, (.getfield 95, 3, 0, 7, 36)), (4, (.iload_n 1, 1, 0, 0, 0)), (5, (.iaload, 1, 0, 0, 0)), (6, (.iconst (-1), 1, (-1), 0, 0)), (7, (.if_icmp .eq 25, 3, 0, 32, 0)), (10, (.aload_n 0, 1, 0, 0, 0)), (11, (.getfield 95, 3, 0, 7, 36)), (14, (.iload_n 1, 1, 0, 0, 0)), (15, (.iaload, 1, 0, 0, 0)), (16, (.aload_n 0, 1, 0, 0, 0)), (17, (.getfield 89, 3, 0, 7, 34)), (20, (.iload_n 1, 1, 0, 0, 0)), (21, (.iaload, 1, 0, 0, 0)), (22, (.bipush 20, 2, 20, 0, 0)), (24, (.iadd, 1, 0, 0, 0)), (25, (.if_icmp .le 7, 3, 0, 32, 0)), (28, (.iconst 1, 1, 1, 0, 0)), (29, (.goto 4, 3, 0, 33, 0)), (32, (.iconst 0, 1, 0, 0, 0)), (33, (.ireturn, 1, 0, 0, 0))]
/-- 180: DoorstepRidesModel.isLong(I)Z -/
def zK180 : List (Nat × zRI) := [(0, (.aload_n 0, 1, 0, 0, 0)), (1, (.getfield 101, 3, 0, 7, 38)), (4, (.iload_n 1, 1, 0, 0, 0)), (5, (.iaload, 1, 0, 0, 0)), (6, (.iconst (-1), 1, (-1), 0, 0)), (7, (.if_icmp .eq 27, 3, 0, 34, 0)), (10, (.aload_n 0, 1, 0, 0, 0)), (11, (.getfield 101, 3, 0, 7, 38)), (14, (.iload_n 1, 1, 0, 0, 0)), (15, (.iaload, 1, 0, 0, 0)), (16, (.aload_n 0, 1, 0, 0, 0)), (17, (.iload_n 1, 1, 0, 0, 0)), (18, (.aload_n 0, 1, 0, 0, 0)), (19, (.getfield 98, 3, 0, 7, 37)), (22, (.iload_n 1, 1, 0, 0, 0)), (23, (.iaload, 1, 0, 0, 0)), (24, (.invokevirtual 191, 3, 0, 154, 0)), (27, (.if_icmp .le 7, 3, 0, 34, 0)), (30, (.iconst 1, 1, 1, 0, 0)), (31, (.goto 4, 3, 0, 35, 0)), (34, (.iconst 0, 1, 0, 0, 0)), (35, (.ireturn, 1, 0, 0, 0))]
/-- 181: DoorstepRidesModel.vehicleOf(II)I -/
def zK181 : List (Nat × zRI) := [(0, (.aload_n 0, 1, 0, 0, 0)), (1, (.aload_n 0, 1, 0, 0, 0)), (2, (.iload_n 1, 1, 0, 0, 0)), (3, (.invokevirtual 163, 3, 0, 129, 0)), (6, (.ifCond .ne 7, 3, 0, 13, 0)), (9, (.iconst 1, 1, 1, 0, 0)), (10, (.goto 19, 3, 0, 29, 0)), (13, (.aload_n 0, 1, 0, 0, 0)), (14, (.iload_n 2, 1, 0, 0, 0)), (15, (.iconst 0, 1, 0, 0, 0)), (16, (.bipush 8, 2, 8, 0, 0)), (18, (.invokevirtual 132, 3, 0, 123, 0)), (21, (.ifCond .ne 7, 3, 0, 28, 0)), (24, (.iconst 2, 1, 2, 0, 0)), (25, (.goto 4, 3, 0, 29, 0)), (28, (.iconst 0, 1, 0, 0, 0)), (29, (.putfield 128, 3, 0, 7, 0)), (32, (.aload_n 0, 1, 0, 0, 0)), (33, (.getfield 128, 3, 0, 7, 0)), (36, (.ifCond .le 5, 3, 0, 41, 0)), (39, (.iconst 0, 1, 0, 0, 0)), (40, (.ireturn, 1, 0, 0, 0)), (41, (.aload_n 0, 1, 0, 0, 0)), (42, (.iload_n 1, 1, 0, 0, 0)), (43, (.invokevirtual 207, 3, 0, 143, 0)), (46, (.iload_n 2, 1, 0, 0, 0)), (47, (.tableswitch 130 0 7 #[45, 52, 59, 64, 71, 78, 93, 108], 45, 0, 0, 0)), (92, (.aload_n 0, 1, 0, 0, 0)), (93, (.getfield 41, 3, 0, 7, 17)), (96, (.iload_n 1, 1, 0, 0, 0)), (97, (.iaload, 1, 0, 0, 0)), (98, (.ireturn, 1, 0, 0, 0)), (99, (.aload_n 0, 1, 0, 0, 0)), (100, (.getfield 44, 3, 0, 7, 18)), (103, (.iload_n 1, 1, 0, 0, 0)), (104, (.iaload, 1, 0, 0, 0)), (105, (.ireturn, 1, 0, 0, 0)), (106, (.aload_n 0, 1, 0, 0, 0)), (107, (.getfield 173, 3, 0, 7, 42)), (110, (.ireturn, 1, 0, 0, 0)), (111, (.aload_n 0, 1, 0, 0, 0)), (112, (.getfield 59, 3, 0, 7, 23)), (115, (.iload_n 1, 1, 0, 0, 0)), (116, (.iaload, 1, 0, 0, 0)), (117, (.ireturn, 1, 0, 0, 0)), (118, (.aload_n 0, 1, 0, 0, 0)), (119, (.getfield 65, 3, 0, 7, 25)), (122, (.iload_n 1, 1, 0, 0, 0)), (123, (.iaload, 1, 0, 0, 0)), (124, (.ireturn, 1, 0, 0, 0)), (125, (.aload_n 0, 1, 0, 0, 0)), (126, (.getfield 47, 3, 0, 7, 19)), (129, (.iload_n 1, 1, 0, 0, 0)), (130, (.baload, 1, 0, 0, 0)), (131, (.ifCond .eq 7, 3, 0, 138, 0)), (134, (.iconst 1, 1, 1, 0, 0)), (135, (.goto 4, 3, 0, 139, 0)), (138, (.iconst 0, 1, 0, 0, 0)), (139, (.ireturn, 1, 0, 0, 0)), (140, (.aload_n 0, 1, 0, 0, 0)), (141, (.getfield 38, 3, 0, 7, 16)), (144, (.iload_n 1, 1, 0, 0, 0)), (145, (.baload, 1, 0, 0, 0)), (146, (.ifCond .eq 7, 3, 0, 153, 0)), (149, (.iconst 1, 1, 1, 0, 0)), (150, (.goto 4, 3, 0, 154, 0)), (153, (.iconst 0, 1, 0, 0, 0)), (154, (.ireturn, 1, 0, 0, 0)), (155, (.aload_n 0, 1, 0, 0, 0)), (156, (.iload_n 1, 1, 0, 0, 0)), (157, (.invokevirtual 194, 3, 0, 149, 0)), (160, (.aload_n 0, 1, 0, 0, 0)), (161, (.getfield 173, 3, 0, 7, 42)), (164, (.ifCond .ne 7, 3, 0, 171, 0)), (167, (.iconst (-1), 1, (-1), 0, 0)), (168, (.goto 8, 3, 0, 176, 0)), (171, (.aload_n 0, 1, 0, 0, 0)), (172, (.iload_n 1, 1, 0, 0, 0)), (173, (.invokevirtual 204, 3, 0, 156, 0)), (176, (.ireturn, 1, 0, 0, 0)), (177, (.aload_n 0, 1, 0, 0, 0)), (178, (.iload_n 1, 1, 0, 0, 0)), (179, (.invokevirtual 223, 3, 0, 148, 0)), (182, (.ifCond .eq 7, 3, 0, 189, 0)), (185, (.iconst 1, 1, 1, 0, 0)), (186, (.goto 4, 3, 0, 190, 0)), (189, (.iconst 0, 1, 0, 0, 0)), (190, (.ireturn, 1, 0, 0, 0))]
/-- 182: DoorstepRidesModel.stopOf(III)I -/
def zK182 : List (Nat × zRI) := [(0, (.aload_n 0, 1, 0, 0, 0)), (1, (.aload_n 0, 1, 0, 0, 0)), (2, (.iload_n 1, 1, 0, 0, 0)), (3, (.invokevirtual 163, 3, 0, 129, 0)), (6, (.ifCond .ne 7, 3, 0, 13, 0)), (9, (.iconst 1, 1, 1, 0, 0)), (10, (.goto 4, 3, 0, 14, 0)), (13, (.iconst 0, 1, 0, 0, 0)), (14, (.putfield 128, 3, 0, 7, 0)), (17, (.aload_n 0, 1, 0, 0, 0)), (18, (.getfield 128, 3, 0, 7, 0)), (21, (.ifCond .ne 43, 3, 0, 64, 0)), (24, (.aload_n 0, 1, 0, 0, 0)), (25, (.aload_n 0, 1, 0, 0, 0)), (26, (.iload_n 2, 1, 0, 0, 0)), (27, (.iconst 0, 1, 0, 0, 0)), (28, (.aload_n 0, 1, 0, 0, 0)), (29, (.getfield 71, 3, 0, 7, 27)), (32, (.iload_n 1, 1, 0, 0, 0)), (33, (.iaload, 1, 0, 0, 0)), (34, (.iconst 1, 1, 1, 0, 0)), (35, (.isub, 1, 0, 0, 0)), (36, (.invokevirtual 132, 3, 0, 123, 0)), (39, (.ifCond .ne 7, 3, 0, 46, 0)), (42, (.iconst 1, 1, 1, 0, 0)), (43, (.goto 18, 3, 0, 61, 0)), (46, (.aload_n 0, 1, 0, 0, 0)), (47, (.iload_n 3, 1, 0, 0, 0)), (48, (.iconst 0, 1, 0, 0, 0)), (49, (.iconst 3, 1, 3, 0, 0)), (50, (.invokevirtual 132, 3, 0, 123, 0)), (53, (.ifCond .ne 7, 3, 0, 60, 0)), (56, (.iconst 2, 1, 2, 0, 0)), (57, (.goto 4, 3, 0, 61, 0)), (60, (.iconst 0, 1, 0, 0, 0)), (61, (.putfield 128, 3, 0, 7, 0)), (64, (.aload_n 0, 1, 0, 0, 0)), (65, (.getfield 128, 3, 0, 7, 0)), (68, (.ifCond .le 5, 3, 0, 73, 0)), (71, (.iconst 0, 1, 0, 0, 0)), (72, (.ireturn, 1, 0, 0, 0)), (73, (.aload_n 0, 1, 0, 0, 0)), (74, (.iload_n 1, 1, 0, 0, 0)), (75, (.invokevirtual 207, 3, 0, 143, 0)), (78, (.aload_n 0, 1, 0, 0, 0)), (79, (.iload_n 1, 1, 0, 0, 0)), (80, (.invokevirtual 194, 3, 0, 149, 0)), (83, (.iload_n 3, 1, 0, 0, 0)), (84, (.ifCond .ne 14, 3, 0, 98, 0)), (87, (.aload_n 0, 1, 0, 0, 0)), (88, (.getfield 113, 3, 0, 7, 43)), (91, (.iload_n 2, 1, 0, 0, 0)), (92, (.iaload, 1, 0, 0, 0)), (93, (.iconst 2, 1, 2, 0, 0)), (94, (.idiv, 1, 0, 0, 0)), (95, (.goto 39, 3, 0, 134, 0)), (98, (.iload_n 3, 1, 0, 0, 0)), (99, (.iconst 1, 1, 1, 0, 0)), (100, (.if_icmp .ne 14, 3, 0, 114, 0)), (103, (.aload_n 0, 1, 0, 0, 0)), (104, (.getfield 113, 3, 0, 7, 43)), (107, (.iload_n 2, 1, 0, 0, 0)), (108, (.iaload, 1, 0, 0, 0)), (109, (.iconst 2, 1, 2, 0, 0)), (110, (.irem, 1, 0, 0, 0)), (111, (.goto 23, 3, 0, 134, 0)), (114, (.iload_n 3, 1, 0, 0, 0)), (115, (.iconst 2, 1, 2, 0, 0)), (116, (.if_icmp .ne 12, 3, 0, 128, 0)), (119, (.aload_n 0, 1, 0, 0, 0)), (120, (.getfield 116, 3, 0, 7, 44)), (123, (.iload_n 2, 1, 0, 0, 0)), (124, (.iaload, 1, 0, 0, 0)), (125, (.goto 9, 3, 0, 134, 0)), (128, (.aload_n 0, 1, 0, 0, 0)), (129, (.getfield 119, 3, 0, 7, 45)), (132, (.iload_n 2, 1, 0, 0, 0)), (133, (.iaload, 1, 0, 0, 0)), (134, (.ireturn, 1, 0, 0, 0))]
/-- 183: DoorstepRidesModel.seatsAnew(I)I -/
def zK183 : List (Nat × zRI) := [(0, (.aload_n 0, 1, 0, 0, 0)), (1, (.aload_n 0, 1, 0, 0, 0)), (2, (.iload_n 1, 1, 0, 0, 0)), (3, (.invokevirtual 163, 3, 0, 129, 0)), (6, (.ifCond .ne 7, 3, 0, 13, 0)), (9, (.iconst 1, 1, 1, 0, 0)), (10, (.goto 4, 3, 0, 14, 0)), (13, (.iconst 0, 1, 0, 0, 0)), (14, (.putfield 128, 3, 0, 7, 0)), (17, (.iconst 0, 1, 0, 0, 0)), (18, (.istore_n 2, 1, 0, 0, 0)), (19, (.iconst 0, 1, 0, 0, 0)), (20, (.istore_n 3, 1, 0, 0, 0)), (21, (.iload_n 3, 1, 0, 0, 0)), (22, (.aload_n 0, 1, 0, 0, 0)), (23, (.getfield 142, 3, 0, 7, 28)), (26, (.if_icmp .ge 48, 3, 0, 74, 0)), (29, (.aload_n 0, 1, 0, 0, 0)), (30, (.getfield 128, 3, 0, 7, 0)), (33, (.ifCond .ne 41, 3, 0, 74, 0)), (36, (.iload_n 2, 1, 0, 0, 0)), (37, (.aload_n 0, 1, 0, 0, 0)), (38, (.getfield 83, 3, 0, 7, 32)), (41, (.iload_n 3, 1, 0, 0, 0)), (42, (.iaload, 1, 0, 0, 0)), (43, (.iconst 1, 1, 1, 0, 0)), (44, (.if_icmp .ne 21, 3, 0, 65, 0)), (47, (.aload_n 0, 1, 0, 0, 0)), (48, (.getfield 92, 3, 0, 7, 35)), (51, (.iload_n 3, 1, 0, 0, 0)), (52, (.iaload, 1, 0, 0, 0)), (53, (.iload_n 1, 1, 0, 0, 0)), (54, (.if_icmp .ne 11, 3, 0, 65, 0)), (57, (.aload_n 0, 1, 0, 0, 0)), (58, (.iload_n 3, 1, 0, 0, 0)), (59, (.invokevirtual 201, 3, 0, 155, 0)), (62, (.goto 4, 3, 0, 66, 0)), (65, (.iconst 0, 1, 0, 0, 0)), (66, (.iadd, 1, 0, 0, 0)), (67, (.istore_n 2, 1, 0, 0, 0)), (68, (.iinc 3 1, 3, 1, 0, 0)), (71, (.goto (-50), 3, 0, 21, 0)), (74, (.iload_n 2, 1, 0, 0, 0)), (75, (.ireturn, 1, 0, 0, 0))]
/-- 184: DoorstepRidesModel.drive(I)I -/
def zK184 : List (Nat × zRI) := [(0, (.aload_n 0, 1, 0, 0, 0)), (1, (.aload_n 0, 1, 0, 0, 0)), (2, (.iload_n 1, 1, 0, 0, 0)), (3, (.invokevirtual 163, 3, 0, 129, 0)), (6, (.ifCond .ne 7, 3, 0, 13, 0)), (9, (.iconst 1, 1, 1, 0, 0)), (10, (.goto 4, 3, 0, 14, 0)), (13, (.iconst 0, 1, 0, 0, 0)), (14, (.putfield 128, 3, 0, 7, 0)), (17, (.aload_n 0, 1, 0, 0, 0)), (18, (.getfield 128, 3, 0, 7, 0)), (21, (.ifCond .le 5, 3, 0, 26, 0)), (24, (.iconst 0, 1, 0, 0, 0)), (25, (.ireturn, 1, 0, 0, 0)), (26, (.aload_n 0, 1, 0, 0, 0)), (27, (.iload_n 1, 1, 0, 0, 0)), (28, (.invokevirtual 207, 3, 0, 143, 0)), (31, (.aload_n 0, 1, 0, 0, 0)), (32, (.iload_n 1, 1, 0, 0, 0)), (33, (.invokevirtual 210, 3, 0, 144, 0)), (36, (.ireturn, 1, 0, 0, 0))]
/-- 185: DoorstepRidesModel.leastDrive(I)I -/
def zK185 : List (Nat × zRI) := [(0, (.aload_n 0, 1, 0, 0, 0)), (1, (.aload_n 0, 1, 0, 0, 0)), (2, (.iload_n 1, 1, 0, 0, 0)), (3, (.invokevirtual 163, 3, 0, 129, 0)), (6, (.ifCond .ne 7, 3, 0, 13, 0)), (9, (.iconst 1, 1, 1, 0, 0)), (10, (.goto 4, 3, 0, 14, 0)), (13, (.iconst 0, 1, 0, 0, 0)), (14, (.putfield 128, 3, 0, 7, 0)), (17, (.aload_n 0, 1, 0, 0, 0)), (18, (.getfield 128, 3, 0, 7, 0)), (21, (.ifCond .gt 14, 3, 0, 35, 0)), (24, (.aload_n 0, 1, 0, 0, 0)), (25, (.getfield 71, 3, 0, 7, 27)), (28, (.iload_n 1, 1, 0, 0, 0)), (29, (.iaload, 1, 0, 0, 0)), (30, (.bipush 6, 2, 6, 0, 0)), (32, (.if_icmp .le 16, 3, 0, 48, 0)), (35, (.aload_n 0, 1, 0, 0, 0)), (36, (.getfield 128, 3, 0, 7, 0)), (39, (.ifCond .le 7, 3, 0, 46, 0)), (42, (.iconst 0, 1, 0, 0, 0)), (43, (.goto 4, 3, 0, 47, 0)), (46, (.iconst (-1), 1, (-1), 0, 0)), (47, (.ireturn, 1, 0, 0, 0)), (48, (.iconst 1, 1, 1, 0, 0)), (49, (.istore_n 2, 1, 0, 0, 0)), (50, (.iconst 2, 1, 2, 0, 0)), (51, (.istore_n 3, 1, 0, 0, 0)), (52, (.iload_n 3, 1, 0, 0, 0)), (53, (.aload_n 0, 1, 0, 0, 0)), (54, (.getfield 71, 3, 0, 7, 27)), (57, (.iload_n 1, 1, 0, 0, 0)), (58, (.iaload, 1, 0, 0, 0)), (59, (.if_icmp .gt 13, 3, 0, 72, 0)), (62, (.iload_n 2, 1, 0, 0, 0)), (63, (.iload_n 3, 1, 0, 0, 0)), (64, (.imul, 1, 0, 0, 0)), (65, (.istore_n 2, 1, 0, 0, 0)), (66, (.iinc 3 1, 3, 1, 0, 0)), (69, (.goto (-17), 3, 0, 52, 0)), (72, (.iconst (-1), 1, (-1), 0, 0)), (73, (.istore_n 3, 1, 0, 0, 0)), (74, (.iconst 0, 1, 0, 0, 0)), (75, (.istore 4, 2, 0, 0, 0)), (77, (.iload 4, 2, 0, 0, 0)), (79, (.iload_n 2, 1, 0, 0, 0)), (80, (.if_icmp .ge 52, 3, 0, 132, 0)), (83, (.aload_n 0, 1, 0, 0, 0)), (84, (.iload_n 1, 1, 0, 0, 0)), (85, (.iload 4, 2, 0, 0, 0)), (87, (.invokevirtual 303, 3, 0, 186, 0)), (90, (.ifCond .eq 36, 3, 0, 126, 0)), (93, (.aload_n 0, 1, 0, 0, 0)), (94, (.iload_n 1, 1, 0, 0, 0)), (95, (.invokevirtual 223, 3, 0, 148, 0)), (98, (.ifCond .eq 28, 3, 0, 126, 0)), (101, (.aload_n 0, 1, 0, 0, 0)), (102, (.iload_n 1, 1, 0, 0, 0)), (103, (.invokevirtual 210, 3, 0, 144, 0)), (106, (.istore 5, 2, 0, 0, 0)), (108, (.iload_n 3, 1, 0, 0, 0)), (109, (.iconst (-1), 1, (-1), 0, 0)), (110, (.if_icmp .eq 9, 3, 0, 119, 0)), (113, (.iload 5, 2, 0, 0, 0)), (115, (.iload_n 3, 1, 0, 0, 0)), (116, (.if_icmp .ge 8, 3, 0, 124, 0)), (119, (.iload 5, 2, 0, 0, 0)), (121, (.goto 4, 3, 0, 125, 0)), (124, (.iload_n 3, 1, 0, 0, 0)), (125, (.istore_n 3, 1, 0, 0, 0)), (126, (.iinc 4 1, 3, 1, 0, 0)), (129, (.goto (-52), 3, 0, 77, 0)), (132, (.iload_n 3, 1, 0, 0, 0)), (133, (.ireturn, 1, 0, 0, 0))]
/-- 186: DoorstepRidesModel.order(II)Z -/
def zK186 : List (Nat × zRI) := [(0, (.aload_n 0, 1, 0, 0, 0)), (1, (.iload_n 1, 1, 0, 0, 0)), (2, (.invokevirtual 207, 3, 0, 143, 0)), (5, (.aload_n 0, 1, 0, 0, 0)), (6, (.getfield 173, 3, 0, 7, 42)), (9, (.istore_n 3, 1, 0, 0, 0)), (10, (.iload_n 2, 1, 0, 0, 0)), (11, (.istore 4, 2, 0, 0, 0)), (13, (.iconst 0, 1, 0, 0, 0)), (14, (.istore 5, 2, 0, 0, 0)), (16, (.iload 5, 2, 0, 0, 0)), (18, (.iload_n 3, 1, 0, 0, 0)), (19, (.if_icmp .ge 23, 3, 0, 42, 0)), (22, (.aload_n 0, 1, 0, 0, 0)), (23, (.getfield 125, 3, 0, 7, 51)), (26, (.iload 5, 2, 0, 0, 0)), (28, (.aload_n 0, 1, 0, 0, 0)), (29, (.getfield 113, 3, 0, 7, 43)), (32, (.iload 5, 2, 0, 0, 0)), (34, (.iaload, 1, 0, 0, 0)), (35, (.iastore, 1, 0, 0, 0)), (36, (.iinc 5 1, 3, 1, 0, 0)), (39, (.goto (-23), 3, 0, 16, 0)), (42, (.aload_n 0, 1, 0, 0, 0)), (43, (.iconst 0, 1, 0, 0, 0)), (44, (.putfield 173, 3, 0, 7, 42)), (47, (.iload_n 3, 1, 0, 0, 0)), (48, (.istore 5, 2, 0, 0, 0)), (50, (.iload 5, 2, 0, 0, 0)), (52, (.ifCond .le 82, 3, 0, 134, 0)), (55, (.iload 4, 2, 0, 0, 0)), (57, (.iload 5, 2, 0, 0, 0)), (59, (.irem, 1, 0, 0, 0)), (60, (.istore 6, 2, 0, 0, 0)), (62, (.iload 4, 2, 0, 0, 0)), (64, (.iload 5, 2, 0, 0, 0)), (66, (.idiv, 1, 0, 0, 0)), (67, (.istore 4, 2, 0, 0, 0)), (69, (.aload_n 0, 1, 0, 0, 0)), (70, (.getfield 113, 3, 0, 7, 43)), (73, (.aload_n 0, 1, 0, 0, 0)), (74, (.getfield 173, 3, 0, 7, 42)), (77, (.aload_n 0, 1, 0, 0, 0)), (78, (.getfield 125, 3, 0, 7, 51)), (81, (.iload 6, 2, 0, 0, 0)), (83, (.iaload, 1, 0, 0, 0)), (84, (.iastore, 1, 0, 0, 0)), (85, (.aload_n 0, 1, 0, 0, 0)), (86, (.dup, 1, 0, 0, 0)), (87, (.getfield 173, 3, 0, 7, 42)), (90, (.iconst 1, 1, 1, 0, 0)), (91, (.iadd, 1, 0, 0, 0)), (92, (.putfield 173, 3, 0, 7, 42)), (95, (.iinc 5 (-1), 3, (-1), 0, 0)), (98, (.iload 6, 2, 0, 0, 0)), (100, (.istore 7, 2, 0, 0, 0)), (102, (.iload 7, 2, 0, 0, 0)), (104, (.iload 5, 2, 0, 0, 0)), (106, (.if_icmp .ge 25, 3, 0, 131, 0)), (109, (.aload_n 0, 1, 0, 0, 0)), (110, (.getfield 125, 3, 0, 7, 51)), (113, (.iload 7, 2, 0, 0, 0)), (115, (.aload_n 0, 1, 0, 0, 0)), (116, (.getfield 125, 3, 0, 7, 51)), (119, (.iload 7, 2, 0, 0, 0)), (121, (.iconst 1, 1, 1, 0, 0)), (122, (.iadd, 1, 0, 0, 0)), (123, (.iaload, 1, 0, 0, 0)), (124, (.iastore, 1, 0, 0, 0)), (125, (.iinc 7 1, 3, 1, 0, 0)), (128, (.goto (-26), 3, 0, 102, 0)), (131, (.goto (-81), 3, 0, 50, 0)), (134, (.aload_n 0, 1, 0, 0, 0)), (135, (.getfield 47, 3, 0, 7, 19)), (138, (.iload_n 1, 1, 0, 0, 0)), (139, (.baload, 1, 0, 0, 0)), (140, (.ifCond .eq 21, 3, 0, 161, 0)), (143, (.aload_n 0, 1, 0, 0, 0)), (144, (.getfield 113, 3, 0, 7, 43)), (147, (.iconst 0, 1, 0, 0, 0)), (148, (.iaload, 1, 0, 0, 0)), (149, (.aload_n 0, 1, 0, 0, 0)), (150, (.getfield 68, 3, 0, 7, 26)), (153, (.bipush 16, 2, 16, 0, 0)), (155, (.iload_n 1, 1, 0, 0, 0)), (156, (.imul, 1, 0, 0, 0)), (157, (.iaload, 1, 0, 0, 0)), (158, (.if_icmp .ne 7, 3, 0, 165, 0)), (161, (.iconst 1, 1, 1, 0, 0)), (162, (.goto 4, 3, 0, 166, 0)), (165, (.iconst 0, 1, 0, 0, 0)), (166, (.istore 6, 2, 0, 0, 0)), (168, (.iconst 0, 1, 0, 0, 0)), (169, (.istore 7, 2, 0, 0, 0)), (171, (.iload 7, 2, 0, 0, 0)), (173, (.iload_n 3, 1, 0, 0, 0)), (174, (.if_icmp .ge 51, 3, 0, 225, 0)), (177, (.iload 6, 2, 0, 0, 0)), (179, (.ifCond .eq 37, 3, 0, 216, 0)), (182, (.aload_n 0, 1, 0, 0, 0)), (183, (.getfield 113, 3, 0, 7, 43)), (186, (.iload 7, 2, 0, 0, 0)), (188, (.iaload, 1, 0, 0, 0)), (189, (.iconst 2, 1, 2, 0, 0)), (190, (.irem, 1, 0, 0, 0)), (191, (.ifCond .eq 21, 3, 0, 212, 0)), (194, (.aload_n 0, 1, 0, 0, 0)), (195, (.aload_n 0, 1, 0, 0, 0)), (196, (.getfield 113, 3, 0, 7, 43)), (199, (.iload 7, 2, 0, 0, 0)), (201, (.iaload, 1, 0, 0, 0)), (202, (.iconst 1, 1, 1, 0, 0)), (203, (.isub, 1, 0, 0, 0)), (204, (.invokevirtual 185, 3, 0, 153, 0)), (207, (.iload 7, 2, 0, 0, 0)), (209, (.if_icmp .gt 7, 3, 0, 216, 0)), (212, (.iconst 1, 1, 1, 0, 0)), (213, (.goto 4, 3, 0, 217, 0)), (216, (.iconst 0, 1, 0, 0, 0)), (217, (.istore 6, 2, 0, 0, 0)), (219, (.iinc 7 1, 3, 1, 0, 0)), (222, (.goto (-51), 3, 0, 171, 0)), (225, (.iload 6, 2, 0, 0, 0)), (227, (.ireturn, 1, 0, 0, 0))]
/-- 187: DoorstepRidesModel.patterns()I -/
def zK187 : List (Nat × zRI) := [(0, (.aload_n 0, 1, 0, 0, 0)), (1, (.iconst 0, 1, 0, 0, 0)), (2, (.putfield 128, 3, 0, 7, 0)), (5, (.iconst 0, 1, 0, 0, 0)), (6, (.istore_n 1, 1, 0, 0, 0)), (7, (.iconst 0, 1, 0, 0, 0)), (8, (.istore_n 2, 1, 0, 0, 0)), (9, (.iconst 0, 1, 0, 0, 0)), (10, (.istore_n 3, 1, 0, 0, 0)), (11, (.iconst 0, 1, 0, 0, 0)), (12, (.istore 4, 2, 0, 0, 0)), (14, (.iconst 0, 1, 0, 0, 0)), (15, (.istore 5, 2, 0, 0, 0)), (17, (.iload 5, 2, 0, 0, 0)), (19, (.aload_n 0, 1, 0, 0, 0)), (20, (.getfield 142, 3, 0, 7, 28)), (23, (.if_icmp .ge 133, 3, 0, 156, 0)), (26, (.aload_n 0, 1, 0, 0, 0)), (27, (.getfield 104, 3, 0, 7, 39)), (30, (.iload 5, 2, 0, 0, 0)), (32, (.iaload, 1, 0, 0, 0)), (33, (.aload_n 0, 1, 0, 0, 0)), (34, (.getfield 244, 3, 0, 7, 1)), (37, (.bipush 20, 2, 20, 0, 0)), (39, (.isub, 1, 0, 0, 0)), (40, (.if_icmp .le 110, 3, 0, 150, 0)), (43, (.iload_n 1, 1, 0, 0, 0)), (44, (.aload_n 0, 1, 0, 0, 0)), (45, (.getfield 86, 3, 0, 7, 33)), (48, (.iload 5, 2, 0, 0, 0)), (50, (.iaload, 1, 0, 0, 0)), (51, (.iconst 1, 1, 1, 0, 0)), (52, (.if_icmp .eq 14, 3, 0, 66, 0)), (55, (.aload_n 0, 1, 0, 0, 0)), (56, (.getfield 86, 3, 0, 7, 33)), (59, (.iload 5, 2, 0, 0, 0)), (61, (.iaload, 1, 0, 0, 0)), (62, (.iconst 2, 1, 2, 0, 0)), (63, (.if_icmp .ne 7, 3, 0, 70, 0)), (66, (.iconst 0, 1, 0, 0, 0)), (67, (.goto 4, 3, 0, 71, 0)), (70, (.iconst 1, 1, 1, 0, 0)), (71, (.iadd, 1, 0, 0, 0)), (72, (.istore_n 1, 1, 0, 0, 0)), (73, (.iload_n 2, 1, 0, 0, 0)), (74, (.aload_n 0, 1, 0, 0, 0)), (75, (.getfield 86, 3, 0, 7, 33)), (78, (.iload 5, 2, 0, 0, 0)), (80, (.iaload, 1, 0, 0, 0)), (81, (.iconst 3, 1, 3, 0, 0)), (82, (.if_icmp .ne 7, 3, 0, 89, 0)), (85, (.iconst 1, 1, 1, 0, 0)), (86, (.goto 4, 3, 0, 90, 0)), (89, (.iconst 0, 1, 0, 0, 0)), (90, (.iadd, 1, 0, 0, 0)), (91, (.istore_n 2, 1, 0, 0, 0)), (92, (.iload_n 3, 1, 0, 0, 0)), (93, (.aload_n 0, 1, 0, 0, 0)), (94, (.getfield 83, 3, 0, 7, 32)), (97, (.iload 5, 2, 0, 0, 0)), (99, (.iaload, 1, 0, 0, 0)), (100, (.iconst 2, 1, 2, 0, 0)), (101, (.if_icmp .ne 7, 3, 0, 108, 0)), (104, (.iconst 1, 1, 1, 0, 0)), (105, (.goto 4, 3, 0, 109, 0)), (108, (.iconst 0, 1, 0, 0, 0)), (109, (.iadd, 1, 0, 0, 0)), (110, (.istore_n 3, 1, 0, 0, 0)), (111, (.iload 4, 2, 0, 0, 0)), (113, (.aload_n 0, 1, 0, 0, 0)), (114, (.getfield 83, 3, 0, 7, 32)), (117, (.iload 5, 2, 0, 0, 0)), (119, (.iaload, 1, 0, 0, 0)), (120, (.iconst 2, 1, 2, 0, 0)), (121, (.if_icmp .ne 25, 3, 0, 146, 0)), (124, (.aload_n 0, 1, 0, 0, 0)), (125, (.iload 5, 2, 0, 0, 0)), (127, (.invokevirtual 297, 3, 0, 179, 0)), (130, (.ifCond .ne 12, 3, 0, 142, 0)), (133, (.aload_n 0, 1, 0, 0, 0)), (134, (.iload 5, 2, 0, 0, 0)), (136, (.invokevirtual 300, 3, 0, 180, 0)), (139, (.ifCond .eq 7, 3, 0, 146, 0)), (142, (.iconst 1, 1, 1, 0, 0)), (143, (.goto 4, 3, 0, 147, 0)), (146, (.iconst 0, 1, 0, 0, 0)), (147, (.iadd, 1, 0, 0, 0)), (148, (.istore 4, 2, 0, 0, 0)), (150, (.iinc 5 1, 3, 1, 0, 0)), (153, (.goto (-136), 3, 0, 17, 0)), (156, (.iload_n 2, 1, 0, 0, 0)), (157, (.iconst 2, 1, 2, 0, 0)), (158, (.if_icmp .lt 15, 3, 0, 173, 0)), (161, (.bipush 20, 2, 20, 0, 0)), (163, (.iload_n 2, 1, 0, 0, 0)), (164, (.imul, 1, 0, 0, 0)), (165, (.iload_n 1, 1, 0, 0, 0)), (166, (.if_icmp .le 7, 3, 0, 173, 0)), (169, (.iconst 1, 1, 1, 0, 0)), (170, (.goto 4, 3, 0, 174, 0)), (173, (.iconst 0, 1, 0, 0, 0)), (174, (.bipush 10, 2, 10, 0, 0)), (176, (.iload 4, 2, 0, 0, 0)), (178, (.imul, 1, 0, 0, 0)), (179, (.iload_n 3, 1, 0, 0, 0)), (180, (.if_icmp .le 7, 3, 0, 187, 0)), (183, (.iconst 2, 1, 2, 0, 0)), (184, (.goto 4, 3, 0, 188, 0)), (187, (.iconst 0, 1, 0, 0, 0)), (188, (.iadd, 1, 0, 0, 0)), (189, (.ireturn, 1, 0, 0, 0))]
/-- 188: DoorstepRidesModel.count(I)I -/
def zK188 : List (Nat × zRI) := [(0, (.aload_n 0, 1, 0, 0, 0)), (1, (.aload_n 0, 1, 0, 0, 0)), (2, (.iload_n 1, 1, 0, 0, 0)), (3, (.iconst 0, 1, 0, 0, 0)), (4, (.bipush 9, 2, 9, 0, 0)), (6, (.invokevirtual 132, 3, 0, 123, 0)), (9, (.ifCond .ne 7, 3, 0, 16, 0)), (12, (.iconst 1, 1, 1, 0, 0)), (13, (.goto 4, 3, 0, 17, 0)), (16, (.iconst 0, 1, 0, 0, 0)), (17, (.putfield 128, 3, 0, 7, 0)), (20, (.iconst 0, 1, 0, 0, 0)), (21, (.istore_n 2, 1, 0, 0, 0)), (22, (.iconst 0, 1, 0, 0, 0)), (23, (.istore_n 3, 1, 0, 0, 0)), (24, (.iload_n 3, 1, 0, 0, 0)), (25, (.aload_n 0, 1, 0, 0, 0)), (26, (.getfield 142, 3, 0, 7, 28)), (29, (.if_icmp .ge 89, 3, 0, 118, 0)), (32, (.aload_n 0, 1, 0, 0, 0)), (33, (.getfield 128, 3, 0, 7, 0)), (36, (.ifCond .ne 82, 3, 0, 118, 0)), (39, (.iload_n 1, 1, 0, 0, 0)), (40, (.bipush 7, 2, 7, 0, 0)), (42, (.if_icmp .ne 11, 3, 0, 53, 0)), (45, (.aload_n 0, 1, 0, 0, 0)), (46, (.iload_n 3, 1, 0, 0, 0)), (47, (.invokevirtual 297, 3, 0, 179, 0)), (50, (.goto 47, 3, 0, 97, 0)), (53, (.iload_n 1, 1, 0, 0, 0)), (54, (.bipush 8, 2, 8, 0, 0)), (56, (.if_icmp .ne 11, 3, 0, 67, 0)), (59, (.aload_n 0, 1, 0, 0, 0)), (60, (.iload_n 3, 1, 0, 0, 0)), (61, (.invokevirtual 300, 3, 0, 180, 0)), (64, (.goto 33, 3, 0, 97, 0)), (67, (.iload_n 1, 1, 0, 0, 0)), (68, (.bipush 9, 2, 9, 0, 0)), (70, (.if_icmp .ne 12, 3, 0, 82, 0)), (73, (.aload_n 0, 1, 0, 0, 0)), (74, (.getfield 107, 3, 0, 7, 40)), (77, (.iload_n 3, 1, 0, 0, 0)), (78, (.baload, 1, 0, 0, 0)), (79, (.goto 18, 3, 0, 97, 0)), (82, (.aload_n 0, 1, 0, 0, 0)), (83, (.getfield 83, 3, 0, 7, 32)), (86, (.iload_n 3, 1, 0, 0, 0)), (87, (.iaload, 1, 0, 0, 0)), (88, (.iload_n 1, 1, 0, 0, 0)), (89, (.if_icmp .ne 7, 3, 0, 96, 0)), (92, (.iconst 1, 1, 1, 0, 0)), (93, (.goto 4, 3, 0, 97, 0)), (96, (.iconst 0, 1, 0, 0, 0)), (97, (.istore 4, 2, 0, 0, 0)), (99, (.iload_n 2, 1, 0, 0, 0)), (100, (.iload 4, 2, 0, 0, 0)), (102, (.ifCond .eq 7, 3, 0, 109, 0)), (105, (.iconst 1, 1, 1, 0, 0)), (106, (.goto 4, 3, 0, 110, 0)), (109, (.iconst 0, 1, 0, 0, 0)), (110, (.iadd, 1, 0, 0, 0)), (111, (.istore_n 2, 1, 0, 0, 0)), (112, (.iinc 3 1, 3, 1, 0, 0)), (115, (.goto (-91), 3, 0, 24, 0)), (118, (.iload_n 2, 1, 0, 0, 0)), (119, (.ireturn, 1, 0, 0, 0))]
/-- 189: DoorstepRidesModel.money()J -/
def zK189 : List (Nat × zRI) := [(0, (.aload_n 0, 1, 0, 0, 0)), (1, (.iconst 0, 1, 0, 0, 0)), (2, (.putfield 128, 3, 0, 7, 0)), (5, (.lconst 0, 1, 0, 0, 0)), (6, (.lstore_n 1, 1, 0, 0, 0)), (7, (.iconst 0, 1, 0, 0, 0)), (8, (.istore_n 3, 1, 0, 0, 0)), (9, (.iload_n 3, 1, 0, 0, 0)), (10, (.aload_n 0, 1, 0, 0, 0)), (11, (.getfield 142, 3, 0, 7, 28)), (14, (.if_icmp .ge 78, 3, 0, 92, 0)), (17, (.aload_n 0, 1, 0, 0, 0)), (18, (.getfield 83, 3, 0, 7, 32)), (21, (.iload_n 3, 1, 0, 0, 0)), (22, (.iaload, 1, 0, 0, 0)), (23, (.iconst 2, 1, 2, 0, 0)), (24, (.if_icmp .ne 23, 3, 0, 47, 0)), (27, (.aload_n 0, 1, 0, 0, 0)), (28, (.iload_n 3, 1, 0, 0, 0)), (29, (.invokevirtual 297, 3, 0, 179, 0)), (32, (.ifCond .ne 15, 3, 0, 47, 0)), (35, (.aload_n 0, 1, 0, 0, 0)), (36, (.iload_n 3, 1, 0, 0, 0)), (37, (.invokevirtual 300, 3, 0, 180, 0)), (40, (.ifCond .ne 7, 3, 0, 47, 0)), (43, (.iconst 1, 1, 1, 0, 0)), (44, (.goto 4, 3, 0, 48, 0)), (47, (.iconst 0, 1, 0, 0, 0)), (48, (.istore 4, 2, 0, 0, 0)), (50, (.lload_n 1, 1, 0, 0, 0)), (51, (.iload 4, 2, 0, 0, 0)), (53, (.ifCond .eq 30, 3, 0, 83, 0)), (56, (.sipush 200, 3, 200, 0, 0)), (59, (.bipush 20, 2, 20, 0, 0)), (61, (.aload_n 0, 1, 0, 0, 0)), (62, (.aload_n 0, 1, 0, 0, 0)), (63, (.getfield 77, 3, 0, 7, 30)), (66, (.iload_n 3, 1, 0, 0, 0)), (67, (.iaload, 1, 0, 0, 0)), (68, (.aload_n 0, 1, 0, 0, 0)), (69, (.getfield 80, 3, 0, 7, 31)), (72, (.iload_n 3, 1, 0, 0, 0)), (73, (.iaload, 1, 0, 0, 0)), (74, (.invokevirtual 149, 3, 0, 134, 0)), (77, (.imul, 1, 0, 0, 0)), (78, (.iadd, 1, 0, 0, 0)), (79, (.i2l, 1, 0, 0, 0)), (80, (.goto 4, 3, 0, 84, 0)), (83, (.lconst 0, 1, 0, 0, 0)), (84, (.ladd, 1, 0, 0, 0)), (85, (.lstore_n 1, 1, 0, 0, 0)), (86, (.iinc 3 1, 3, 1, 0, 0)), (89, (.goto (-80), 3, 0, 9, 0)), (92, (.lload_n 1, 1, 0, 0, 0)), (93, (.lreturn, 1, 0, 0, 0))]
/-- 190: DoorstepRidesLaw.rider(LDoorstepRides;IIIZ[J)I -/
def zK190 : List (Nat × zRI) := [(0, (.aload 5, 2, 0, 0, 0)), (2, (.iconst 0, 1, 0, 0, 0)), (3, (.aload_n 0, 1, 0, 0, 0)), (4, (.iload_n 1, 1, 0, 0, 0)), (5, (.iload_n 2, 1, 0, 0, 0)), (6, (.iload_n 3, 1, 0, 0, 0)), (7, (.iload 4, 2, 0, 0, 0)), (9, (.invokevirtual 7, 3, 0, 32, 0)), (12, (.i2l, 1, 0, 0, 0)), (13, (.lastore, 1, 0, 0, 0)), (14, (.goto 11, 3, 0, 25, 0)), (17, (.astore 6, 2, 0, 0, 0)), (19, (.iconst 1, 1, 1, 0, 0)), (20, (.ireturn, 1, 0, 0, 0)), (21, (.astore 6, 2, 0, 0, 0)), (23, (.iconst 2, 1, 2, 0, 0)), (24, (.ireturn, 1, 0, 0, 0)), (25, (.iconst 0, 1, 0, 0, 0)), (26, (.ireturn, 1, 0, 0, 0))]
/-- 191: DoorstepRidesLaw.busStop(LDoorstepRides;IZ[J)I -/
def zK191 : List (Nat × zRI) := [(0, (.aload_n 3, 1, 0, 0, 0)), (1, (.iconst 0, 1, 0, 0, 0)), (2, (.aload_n 0, 1, 0, 0, 0)), (3, (.iload_n 1, 1, 0, 0, 0)), (4, (.iload_n 2, 1, 0, 0, 0)), (5, (.invokevirtual 17, 3, 0, 36, 0)), (8, (.i2l, 1, 0, 0, 0)), (9, (.lastore, 1, 0, 0, 0)), (10, (.goto 7, 3, 0, 17, 0)), (13, (.astore 4, 2, 0, 0, 0)), (15, (.iconst 1, 1, 1, 0, 0)), (16, (.ireturn, 1, 0, 0, 0)), (17, (.iconst 0, 1, 0, 0, 0)), (18, (.ireturn, 1, 0, 0, 0))]
/-- 192: DoorstepRidesLaw.vehicle(LDoorstepRides;IIII[J)I -/
def zK192 : List (Nat × zRI) := [(0, (.aload 5, 2, 0, 0, 0)), (2, (.iconst 0, 1, 0, 0, 0)), (3, (.aload_n 0, 1, 0, 0, 0)), (4, (.iload_n 1, 1, 0, 0, 0)), (5, (.iload_n 2, 1, 0, 0, 0)), (6, (.iload_n 3, 1, 0, 0, 0)), (7, (.iload 4, 2, 0, 0, 0)), (9, (.invokevirtual 21, 3, 0, 39, 0)), (12, (.i2l, 1, 0, 0, 0)), (13, (.lastore, 1, 0, 0, 0)), (14, (.goto 11, 3, 0, 25, 0)), (17, (.astore 6, 2, 0, 0, 0)), (19, (.iconst 1, 1, 1, 0, 0)), (20, (.ireturn, 1, 0, 0, 0)), (21, (.astore 6, 2, 0, 0, 0)), (23, (.iconst 2, 1, 2, 0, 0)), (24, (.ireturn, 1, 0, 0, 0)), (25, (.iconst 0, 1, 0, 0, 0)), (26, (.ireturn, 1, 0, 0, 0))]
/-- 193: DoorstepRidesLaw.lift(LDoorstepRides;IZ[J)I -/
def zK193 : List (Nat × zRI) := [(0, (.aload_n 3, 1, 0, 0, 0)), (1, (.iconst 0, 1, 0, 0, 0)), (2, (.aload_n 0, 1, 0, 0, 0)), (3, (.iload_n 1, 1, 0, 0, 0)), (4, (.iload_n 2, 1, 0, 0, 0)), (5, (.invokevirtual 25, 3, 0, 40, 0)), (8, (.ifCond .eq 7, 3, 0, 15, 0)), (11, (.lconst 1, 1, 0, 0, 0)), (12, (.goto 4, 3, 0, 16, 0)), (15, (.lconst 0, 1, 0, 0, 0)), (16, (.lastore, 1, 0, 0, 0)), (17, (.goto 7, 3, 0, 24, 0)), (20, (.astore 4, 2, 0, 0, 0)), (22, (.iconst 1, 1, 1, 0, 0)), (23, (.ireturn, 1, 0, 0, 0)), (24, (.iconst 0, 1, 0, 0, 0)), (25, (.ireturn, 1, 0, 0, 0))]
/-- 194: DoorstepRidesLaw.ask(LDoorstepRides;IIII[J)I -/
def zK194 : List (Nat × zRI) := [(0, (.aload 5, 2, 0, 0, 0)), (2, (.iconst 0, 1, 0, 0, 0)), (3, (.aload_n 0, 1, 0, 0, 0)), (4, (.iload_n 1, 1, 0, 0, 0)), (5, (.iload_n 2, 1, 0, 0, 0)), (6, (.iload_n 3, 1, 0, 0, 0)), (7, (.iload 4, 2, 0, 0, 0)), (9, (.invokevirtual 31, 3, 0, 42, 0)), (12, (.i2l, 1, 0, 0, 0)), (13, (.lastore, 1, 0, 0, 0)), (14, (.goto 15, 3, 0, 29, 0)), (17, (.astore 6, 2, 0, 0, 0)), (19, (.iconst 1, 1, 1, 0, 0)), (20, (.ireturn, 1, 0, 0, 0)), (21, (.astore 6, 2, 0, 0, 0)), (23, (.iconst 2, 1, 2, 0, 0)), (24, (.ireturn, 1, 0, 0, 0)), (25, (.astore 6, 2, 0, 0, 0)), (27, (.iconst 3, 1, 3, 0, 0)), (28, (.ireturn, 1, 0, 0, 0)), (29, (.iconst 0, 1, 0, 0, 0)), (30, (.ireturn, 1, 0, 0, 0))]
/-- 195: DoorstepRidesLaw.cancel(LDoorstepRides;I[J)I -/
def zK195 : List (Nat × zRI) := [(0, (.aload_n 2, 1, 0, 0, 0)), (1, (.iconst 0, 1, 0, 0, 0)), (2, (.aload_n 0, 1, 0, 0, 0)), (3, (.iload_n 1, 1, 0, 0, 0)), (4, (.invokevirtual 34, 3, 0, 49, 0)), (7, (.ifCond .eq 7, 3, 0, 14, 0)), (10, (.lconst 1, 1, 0, 0, 0)), (11, (.goto 4, 3, 0, 15, 0)), (14, (.lconst 0, 1, 0, 0, 0)), (15, (.lastore, 1, 0, 0, 0)), (16, (.goto 9, 3, 0, 25, 0)), (19, (.astore_n 3, 1, 0, 0, 0)), (20, (.iconst 1, 1, 1, 0, 0)), (21, (.ireturn, 1, 0, 0, 0)), (22, (.astore_n 3, 1, 0, 0, 0)), (23, (.iconst 2, 1, 2, 0, 0)), (24, (.ireturn, 1, 0, 0, 0)), (25, (.iconst 0, 1, 0, 0, 0)), (26, (.ireturn, 1, 0, 0, 0))]
/-- 196: DoorstepRidesLaw.absent(LDoorstepRides;I)I -/
def zK196 : List (Nat × zRI) := [(0, (.aload_n 0, 1, 0, 0, 0)), (1, (.iload_n 1, 1, 0, 0, 0)), (2, (.invokevirtual 38, 3, 0, 52, 0)), (5, (.goto 9, 3, 0, 14, 0)), (8, (.astore_n 2, 1, 0, 0, 0)), (9, (.iconst 1, 1, 1, 0, 0)), (10, (.ireturn, 1, 0, 0, 0)), (11, (.astore_n 2, 1, 0, 0, 0)), (12, (.iconst 2, 1, 2, 0, 0)), (13, (.ireturn, 1, 0, 0, 0)), (14, (.iconst 0, 1, 0, 0, 0)), (15, (.ireturn, 1, 0, 0, 0))]
/-- 197: DoorstepRidesLaw.pass(LDoorstepRides;I[J)I -/
def zK197 : List (Nat × zRI) := [(0, (.aload_n 2, 1, 0, 0, 0)), (1, (.iconst 0, 1, 0, 0, 0)), (2, (.aload_n 0, 1, 0, 0, 0)), (3, (.iload_n 1, 1, 0, 0, 0)), (4, (.invokevirtual 42, 3, 0, 53, 0)), (7, (.i2l, 1, 0, 0, 0)), (8, (.lastore, 1, 0, 0, 0)), (9, (.goto 9, 3, 0, 18, 0)), (12, (.astore_n 3, 1, 0, 0, 0)), (13, (.iconst 1, 1, 1, 0, 0)), (14, (.ireturn, 1, 0, 0, 0)), (15, (.astore_n 3, 1, 0, 0, 0)), (16, (.iconst 2, 1, 2, 0, 0)), (17, (.ireturn, 1, 0, 0, 0)), (18, (.iconst 0, 1, 0, 0, 0)), (19, (.ireturn, 1, 0, 0, 0))]
/-- 198: DoorstepRidesLaw.end(LDoorstepRides;[J)I -/
def zK198 : List (Nat × zRI) := [(0, (.aload_n 1, 1, 0, 0, 0)), (1, (.iconst 0, 1, 0, 0, 0)), (2, (.aload_n 0, 1, 0, 0, 0)), (3, (.invokevirtual 46, 3, 0, 55, 0)), (6, (.i2l, 1, 0, 0, 0)), (7, (.lastore, 1, 0, 0, 0)), (8, (.goto 6, 3, 0, 14, 0)), (11, (.astore_n 2, 1, 0, 0, 0)), (12, (.iconst 1, 1, 1, 0, 0)), (13, (.ireturn, 1, 0, 0, 0)), (14, (.iconst 0, 1, 0, 0, 0)), (15, (.ireturn, 1, 0, 0, 0))]
/-- 199: DoorstepRidesLaw.traffic(LDoorstepRides;II[J)I -/
def zK199 : List (Nat × zRI) := [(0, (.aload_n 3, 1, 0, 0, 0)), (1, (.iconst 0, 1, 0, 0, 0)), (2, (.aload_n 0, 1, 0, 0, 0)), (3, (.iload_n 1, 1, 0, 0, 0)), (4, (.iload_n 2, 1, 0, 0, 0)), (5, (.invokevirtual 50, 3, 0, 57, 0)), (8, (.i2l, 1, 0, 0, 0)), (9, (.lastore, 1, 0, 0, 0)), (10, (.goto 11, 3, 0, 21, 0)), (13, (.astore 4, 2, 0, 0, 0)), (15, (.iconst 1, 1, 1, 0, 0)), (16, (.ireturn, 1, 0, 0, 0)), (17, (.astore 4, 2, 0, 0, 0)), (19, (.iconst 2, 1, 2, 0, 0)), (20, (.ireturn, 1, 0, 0, 0)), (21, (.iconst 0, 1, 0, 0, 0)), (22, (.ireturn, 1, 0, 0, 0))]
/-- 200: DoorstepRidesLaw.mend(LDoorstepRides;I[J)I -/
def zK200 : List (Nat × zRI) := [(0, (.aload_n 2, 1, 0, 0, 0)), (1, (.iconst 0, 1, 0, 0, 0)), (2, (.aload_n 0, 1, 0, 0, 0)), (3, (.iload_n 1, 1, 0, 0, 0)), (4, (.invokevirtual 54, 3, 0, 58, 0)), (7, (.i2l, 1, 0, 0, 0)), (8, (.lastore, 1, 0, 0, 0)), (9, (.goto 6, 3, 0, 15, 0)), (12, (.astore_n 3, 1, 0, 0, 0)), (13, (.iconst 1, 1, 1, 0, 0)), (14, (.ireturn, 1, 0, 0, 0)), (15, (.iconst 0, 1, 0, 0, 0)), (16, (.ireturn, 1, 0, 0, 0))]
/-- 201: DoorstepRidesLaw.owes(LDoorstepRides;III[J)I -/
def zK201 : List (Nat × zRI) := [(0, (.aload 4, 2, 0, 0, 0)), (2, (.iconst 0, 1, 0, 0, 0)), (3, (.aload_n 0, 1, 0, 0, 0)), (4, (.iload_n 1, 1, 0, 0, 0)), (5, (.iload_n 2, 1, 0, 0, 0)), (6, (.iload_n 3, 1, 0, 0, 0)), (7, (.invokevirtual 57, 3, 0, 60, 0)), (10, (.ifCond .eq 7, 3, 0, 17, 0)), (13, (.lconst 1, 1, 0, 0, 0)), (14, (.goto 4, 3, 0, 18, 0)), (17, (.lconst 0, 1, 0, 0, 0)), (18, (.lastore, 1, 0, 0, 0)), (19, (.goto 11, 3, 0, 30, 0)), (22, (.astore 5, 2, 0, 0, 0)), (24, (.iconst 1, 1, 1, 0, 0)), (25, (.ireturn, 1, 0, 0, 0)), (26, (.astore 5, 2, 0, 0, 0)), (28, (.iconst 2, 1, 2, 0, 0)), (29, (.ireturn, 1, 0, 0, 0)), (30, (.iconst 0, 1, 0, 0, 0)), (31, (.ireturn, 1, 0, 0, 0))]
/-- 202: DoorstepRidesLaw.riderOf(LDoorstepRides;II[J)I -/
def zK202 : List (Nat × zRI) := [(0, (.aload_n 3, 1, 0, 0, 0)), (1, (.iconst 0, 1, 0, 0, 0)), (2, (.aload_n 0, 1, 0, 0, 0)), (3, (.iload_n 1, 1, 0, 0, 0)), (4, (.iload_n 2, 1, 0, 0, 0)), (5, (.invokevirtual 61, 3, 0, 61, 0)), (8, (.i2l, 1, 0, 0, 0)), (9, (.lastore, 1, 0, 0, 0)), (10, (.goto 11, 3, 0, 21, 0)), (13, (.astore 4, 2, 0, 0, 0)), (15, (.iconst 1, 1, 1, 0, 0)), (16, (.ireturn, 1, 0, 0, 0)), (17, (.astore 4, 2, 0, 0, 0)), (19, (.iconst 2, 1, 2, 0, 0)), (20, (.ireturn, 1, 0, 0, 0)), (21, (.iconst 0, 1, 0, 0, 0)), (22, (.ireturn, 1, 0, 0, 0))]
/-- 203: DoorstepRidesLaw.requestOf(LDoorstepRides;II[J)I -/
def zK203 : List (Nat × zRI) := [(0, (.aload_n 3, 1, 0, 0, 0)), (1, (.iconst 0, 1, 0, 0, 0)), (2, (.aload_n 0, 1, 0, 0, 0)), (3, (.iload_n 1, 1, 0, 0, 0)), (4, (.iload_n 2, 1, 0, 0, 0)), (5, (.invokevirtual 64, 3, 0, 62, 0)), (8, (.i2l, 1, 0, 0, 0)), (9, (.lastore, 1, 0, 0, 0)), (10, (.goto 11, 3, 0, 21, 0)), (13, (.astore 4, 2, 0, 0, 0)), (15, (.iconst 1, 1, 1, 0, 0)), (16, (.ireturn, 1, 0, 0, 0)), (17, (.astore 4, 2, 0, 0, 0)), (19, (.iconst 2, 1, 2, 0, 0)), (20, (.ireturn, 1, 0, 0, 0)), (21, (.iconst 0, 1, 0, 0, 0)), (22, (.ireturn, 1, 0, 0, 0))]
/-- 204: DoorstepRidesLaw.vehicleOf(LDoorstepRides;II[J)I -/
def zK204 : List (Nat × zRI) := [(0, (.aload_n 3, 1, 0, 0, 0)), (1, (.iconst 0, 1, 0, 0, 0)), (2, (.aload_n 0, 1, 0, 0, 0)), (3, (.iload_n 1, 1, 0, 0, 0)), (4, (.iload_n 2, 1, 0, 0, 0)), (5, (.invokevirtual 67, 3, 0, 63, 0)), (8, (.i2l, 1, 0, 0, 0)), (9, (.lastore, 1, 0, 0, 0)), (10, (.goto 11, 3, 0, 21, 0)), (13, (.astore 4, 2, 0, 0, 0)), (15, (.iconst 1, 1, 1, 0, 0)), (16, (.ireturn, 1, 0, 0, 0)), (17, (.astore 4, 2, 0, 0, 0)), (19, (.iconst 2, 1, 2, 0, 0)), (20, (.ireturn, 1, 0, 0, 0)), (21, (.iconst 0, 1, 0, 0, 0)), (22, (.ireturn, 1, 0, 0, 0))]
/-- 205: DoorstepRidesLaw.stopOf(LDoorstepRides;III[J)I -/
def zK205 : List (Nat × zRI) := [(0, (.aload 4, 2, 0, 0, 0)), (2, (.iconst 0, 1, 0, 0, 0)), (3, (.aload_n 0, 1, 0, 0, 0)), (4, (.iload_n 1, 1, 0, 0, 0)), (5, (.iload_n 2, 1, 0, 0, 0)), (6, (.iload_n 3, 1, 0, 0, 0)), (7, (.invokevirtual 70, 3, 0, 64, 0)), (10, (.i2l, 1, 0, 0, 0)), (11, (.lastore, 1, 0, 0, 0)), (12, (.goto 11, 3, 0, 23, 0)), (15, (.astore 5, 2, 0, 0, 0)), (17, (.iconst 1, 1, 1, 0, 0)), (18, (.ireturn, 1, 0, 0, 0)), (19, (.astore 5, 2, 0, 0, 0)), (21, (.iconst 2, 1, 2, 0, 0)), (22, (.ireturn, 1, 0, 0, 0)), (23, (.iconst 0, 1, 0, 0, 0)), (24, (.ireturn, 1, 0, 0, 0))]
/-- 206: DoorstepRidesLaw.seatsAnew(LDoorstepRides;I[J)I -/
def zK206 : List (Nat × zRI) := [(0, (.aload_n 2, 1, 0, 0, 0)), (1, (.iconst 0, 1, 0, 0, 0)), (2, (.aload_n 0, 1, 0, 0, 0)), (3, (.iload_n 1, 1, 0, 0, 0)), (4, (.invokevirtual 74, 3, 0, 67, 0)), (7, (.i2l, 1, 0, 0, 0)), (8, (.lastore, 1, 0, 0, 0)), (9, (.goto 6, 3, 0, 15, 0)), (12, (.astore_n 3, 1, 0, 0, 0)), (13, (.iconst 1, 1, 1, 0, 0)), (14, (.ireturn, 1, 0, 0, 0)), (15, (.iconst 0, 1, 0, 0, 0)), (16, (.ireturn, 1, 0, 0, 0))]
/-- 207: DoorstepRidesLaw.drive(LDoorstepRides;I[J)I -/
def zK207 : List (Nat × zRI) := [(0, (.aload_n 2, 1, 0, 0, 0)), (1, (.iconst 0, 1, 0, 0, 0)), (2, (.aload_n 0, 1, 0, 0, 0)), (3, (.iload_n 1, 1, 0, 0, 0)), (4, (.invokevirtual 77, 3, 0, 68, 0)), (7, (.i2l, 1, 0, 0, 0)), (8, (.lastore, 1, 0, 0, 0)), (9, (.goto 6, 3, 0, 15, 0)), (12, (.astore_n 3, 1, 0, 0, 0)), (13, (.iconst 1, 1, 1, 0, 0)), (14, (.ireturn, 1, 0, 0, 0)), (15, (.iconst 0, 1, 0, 0, 0)), (16, (.ireturn, 1, 0, 0, 0))]
/-- 208: DoorstepRidesLaw.leastDrive(LDoorstepRides;I[J)I -/
def zK208 : List (Nat × zRI) := [(0, (.aload_n 2, 1, 0, 0, 0)), (1, (.iconst 0, 1, 0, 0, 0)), (2, (.aload_n 0, 1, 0, 0, 0)), (3, (.iload_n 1, 1, 0, 0, 0)), (4, (.invokevirtual 80, 3, 0, 69, 0)), (7, (.i2l, 1, 0, 0, 0)), (8, (.lastore, 1, 0, 0, 0)), (9, (.goto 6, 3, 0, 15, 0)), (12, (.astore_n 3, 1, 0, 0, 0)), (13, (.iconst 1, 1, 1, 0, 0)), (14, (.ireturn, 1, 0, 0, 0)), (15, (.iconst 0, 1, 0, 0, 0)), (16, (.ireturn, 1, 0, 0, 0))]
/-- 209: DoorstepRidesLaw.count(LDoorstepRides;I[J)I -/
def zK209 : List (Nat × zRI) := [(0, (.aload_n 2, 1, 0, 0, 0)), (1, (.iconst 0, 1, 0, 0, 0)), (2, (.aload_n 0, 1, 0, 0, 0)), (3, (.iload_n 1, 1, 0, 0, 0)), (4, (.invokevirtual 83, 3, 0, 71, 0)), (7, (.i2l, 1, 0, 0, 0)), (8, (.lastore, 1, 0, 0, 0)), (9, (.goto 6, 3, 0, 15, 0)), (12, (.astore_n 3, 1, 0, 0, 0)), (13, (.iconst 1, 1, 1, 0, 0)), (14, (.ireturn, 1, 0, 0, 0)), (15, (.iconst 0, 1, 0, 0, 0)), (16, (.ireturn, 1, 0, 0, 0))]
/-- 210: DoorstepRidesLaw.law([I)Z -/
def zK210 : List (Nat × zRI) := [(0, (.new 8, 3, 0, 6, 0)), (3, (.dup, 1, 0, 0, 0)), (4, (.invokespecial 86, 3, 0, 22, 1)), (7, (.astore_n 1, 1, 0, 0, 0)), (8, (.new 87, 3, 0, 7, 0)), (11, (.dup, 1, 0, 0, 0)), (12, (.invokespecial 89, 3, 0, 120, 1)), (15, (.astore_n 2, 1, 0, 0, 0)), (16, (.iconst 1, 1, 1, 0, 0)), (17, (.newarray .long, 2, 0, 102, 0)), (19, (.astore_n 3, 1, 0, 0, 0)), (20, (.iconst 0, 1, 0, 0, 0)), (21, (.istore 4, 2, 0, 0, 0)), (23, (.iload 4, 2, 0, 0, 0)), (25, (.aload_n 0, 1, 0, 0, 0)), (26, (.arraylength, 1, 0, 0, 0)), (27, (.iconst 5, 1, 5, 0, 0)), (28, (.isub, 1, 0, 0, 0)), (29, (.if_icmp .gt 1608, 3, 0, 1637, 0)), (32, (.aload_n 0, 1, 0, 0, 0)), (33, (.iload 4, 2, 0, 0, 0)), (35, (.iaload, 1, 0, 0, 0)), (36, (.bipush 31, 2, 31, 0, 0)), (38, (.iand, 1, 0, 0, 0)), (39, (.tableswitch 1592 0 24 #[113, 221, 262, 346, 438, 529, 621, 684, 720, 776, 820, 888, 944, 957, 970, 1057, 1125, 1193, 1261, 1341, 1397, 1453, 1509, 1522, 1578], 113, 0, 0, 0)), (152, (.aload_n 1, 1, 0, 0, 0)), (153, (.aload_n 0, 1, 0, 0, 0)), (154, (.iload 4, 2, 0, 0, 0)), (156, (.iconst 1, 1, 1, 0, 0)), (157, (.iadd, 1, 0, 0, 0)), (158, (.iaload, 1, 0, 0, 0)), (159, (.aload_n 0, 1, 0, 0, 0)), (160, (.iload 4, 2, 0, 0, 0)), (162, (.iconst 2, 1, 2, 0, 0)), (163, (.iadd, 1, 0, 0, 0)), (164, (.iaload, 1, 0, 0, 0)), (165, (.aload_n 0, 1, 0, 0, 0)), (166, (.iload 4, 2, 0, 0, 0)), (168, (.iconst 3, 1, 3, 0, 0)), (169, (.iadd, 1, 0, 0, 0)), (170, (.iaload, 1, 0, 0, 0)), (171, (.aload_n 0, 1, 0, 0, 0)), (172, (.iload 4, 2, 0, 0, 0)), (174, (.iconst 4, 1, 4, 0, 0)), (175, (.iadd, 1, 0, 0, 0)), (176, (.iaload, 1, 0, 0, 0)), (177, (.ifCond .eq 7, 3, 0, 184, 0)), (180, (.iconst 1, 1, 1, 0, 0)), (181, (.goto 4, 3, 0, 185, 0)), (184, (.iconst 0, 1, 0, 0, 0)), (185, (.aload_n 3, 1, 0, 0, 0)), (186, (.invokestatic 90, 3, 0, 190, 2)), (189, (.istore 5, 2, 0, 0, 0)), (191, (.aload_n 2, 1, 0, 0, 0)), (192, (.aload_n 0, 1, 0, 0, 0)), (193, (.iload 4, 2, 0, 0, 0)), (195, (.iconst 1, 1, 1, 0, 0)), (196, (.iadd, 1, 0, 0, 0)), (197, (.iaload, 1, 0, 0, 0)), (198, (.aload_n 0, 1, 0, 0, 0)), (199, (.iload 4, 2, 0, 0, 0)), (201, (.iconst 2, 1, 2, 0, 0)), (202, (.iadd, 1, 0, 0, 0)), (203, (.iaload, 1, 0, 0, 0)), (204, (.aload_n 0, 1, 0, 0, 0)), (205, (.iload 4, 2, 0, 0, 0)), (207, (.iconst 3, 1, 3, 0, 0)), (208, (.iadd, 1, 0, 0, 0)), (209, (.iaload, 1, 0, 0, 0)), (210, (.aload_n 0, 1, 0, 0, 0)), (211, (.iload 4, 2, 0, 0, 0)), (213, (.iconst 4, 1, 4, 0, 0)), (214, (.iadd, 1, 0, 0, 0)), (215, (.iaload, 1, 0, 0, 0)), (216, (.ifCond .eq 7, 3, 0, 223, 0)), (219, (.iconst 1, 1, 1, 0, 0)), (220, (.goto 4, 3, 0, 224, 0)), (223, (.iconst 0, 1, 0, 0, 0)), (224, (.invokevirtual 95, 3, 0, 122, 0)), (227, (.istore 6, 2, 0, 0, 0)), (229, (.aload_n 2, 1, 0, 0, 0)), (230, (.invokevirtual 96, 3, 0, 121, 0)), (233, (.iload 5, 2, 0, 0, 0)), (235, (.if_icmp .eq 5, 3, 0, 240, 0)), (238, (.iconst 0, 1, 0, 0, 0)), (239, (.ireturn, 1, 0, 0, 0)), (240, (.iload 5, 2, 0, 0, 0)), (242, (.ifCond .ne 15, 3, 0, 257, 0)), (245, (.aload_n 3, 1, 0, 0, 0)), (246, (.iconst 0, 1, 0, 0, 0)), (247, (.laload, 1, 0, 0, 0)), (248, (.iload 6, 2, 0, 0, 0)), (250, (.i2l, 1, 0, 0, 0)), (251, (.lcmp, 1, 0, 0, 0)), (252, (.ifCond .eq 5, 3, 0, 257, 0)), (255, (.iconst 0, 1, 0, 0, 0)), (256, (.ireturn, 1, 0, 0, 0)), (257, (.goto 1374, 3, 0, 1631, 0)), (260, (.aload_n 1, 1, 0, 0, 0)), (261, (.aload_n 0, 1, 0, 0, 0)), (262, (.iload 4, 2, 0, 0, 0)), (264, (.iconst 1, 1, 1, 0, 0)), (265, (.iadd, 1, 0, 0, 0)), (266, (.iaload, 1, 0, 0, 0)), (267, (.ifCond .eq 7, 3, 0, 274, 0)), (270, (.iconst 1, 1, 1, 0, 0)), (271, (.goto 4, 3, 0, 275, 0)), (274, (.iconst 0, 1, 0, 0, 0)), (275, (.invokevirtual 99, 3, 0, 23, 0)), (278, (.aload_n 2, 1, 0, 0, 0)), (279, (.aload_n 0, 1, 0, 0, 0)), (280, (.iload 4, 2, 0, 0, 0)), (282, (.iconst 1, 1, 1, 0, 0)), (283, (.iadd, 1, 0, 0, 0)), (284, (.iaload, 1, 0, 0, 0)), (285, (.ifCond .eq 7, 3, 0, 292, 0)), (288, (.iconst 1, 1, 1, 0, 0)), (289, (.goto 4, 3, 0, 293, 0)), (292, (.iconst 0, 1, 0, 0, 0)), (293, (.invokevirtual 103, 3, 0, 124, 0)), (296, (.if_icmp .eq 1335, 3, 0, 1631, 0)), (299, (.iconst 0, 1, 0, 0, 0)), (300, (.ireturn, 1, 0, 0, 0)), (301, (.aload_n 1, 1, 0, 0, 0)), (302, (.aload_n 0, 1, 0, 0, 0)), (303, (.iload 4, 2, 0, 0, 0)), (305, (.iconst 1, 1, 1, 0, 0)), (306, (.iadd, 1, 0, 0, 0)), (307, (.iaload, 1, 0, 0, 0)), (308, (.aload_n 0, 1, 0, 0, 0)), (309, (.iload 4, 2, 0, 0, 0)), (311, (.iconst 2, 1, 2, 0, 0)), (312, (.iadd, 1, 0, 0, 0)), (313, (.iaload, 1, 0, 0, 0)), (314, (.ifCond .eq 7, 3, 0, 321, 0)), (317, (.iconst 1, 1, 1, 0, 0)), (318, (.goto 4, 3, 0, 322, 0)), (321, (.iconst 0, 1, 0, 0, 0)), (322, (.aload_n 3, 1, 0, 0, 0)), (323, (.invokestatic 104, 3, 0, 191, 2)), (326, (.istore 5, 2, 0, 0, 0)), (328, (.aload_n 2, 1, 0, 0, 0)), (329, (.aload_n 0, 1, 0, 0, 0)), (330, (.iload 4, 2, 0, 0, 0)), (332, (.iconst 1, 1, 1, 0, 0)), (333, (.iadd, 1, 0, 0, 0)), (334, (.iaload, 1, 0, 0, 0)), (335, (.aload_n 0, 1, 0, 0, 0)), (336, (.iload 4, 2, 0, 0, 0)), (338, (.iconst 2, 1, 2, 0, 0)), (339, (.iadd, 1, 0, 0, 0)), (340, (.iaload, 1, 0, 0, 0)), (341, (.ifCond .eq 7, 3, 0, 348, 0)), (344, (.iconst 1, 1, 1, 0, 0)), (345, (.goto 4, 3, 0, 349, 0)), (348, (.iconst 0, 1, 0, 0, 0)), (349, (.invokevirtual 107, 3, 0, 125, 0)), (352, (.istore 6, 2, 0, 0, 0)), (354, (.aload_n 2, 1, 0, 0, 0)), (355, (.invokevirtual 96, 3, 0, 121, 0)), (358, (.iload 5, 2, 0, 0, 0)), (360, (.if_icmp .eq 5, 3, 0, 365, 0)), (363, (.iconst 0, 1, 0, 0, 0)), (364, (.ireturn, 1, 0, 0, 0)), (365, (.iload 5, 2, 0, 0, 0)), (367, (.ifCond .ne 15, 3, 0, 382, 0)), (370, (.aload_n 3, 1, 0, 0, 0)), (371, (.iconst 0, 1, 0, 0, 0)), (372, (.laload, 1, 0, 0, 0)), (373, (.iload 6, 2, 0, 0, 0)), (375, (.i2l, 1, 0, 0, 0)), (376, (.lcmp, 1, 0, 0, 0)), (377, (.ifCond .eq 5, 3, 0, 382, 0)), (380, (.iconst 0, 1, 0, 0, 0)), (381, (.ireturn, 1, 0, 0, 0)), (382, (.goto 1249, 3, 0, 1631, 0)), (385, (.aload_n 1, 1, 0, 0, 0)), (386, (.aload_n 0, 1, 0, 0, 0)), (387, (.iload 4, 2, 0, 0, 0)), (389, (.iconst 1, 1, 1, 0, 0)), (390, (.iadd, 1, 0, 0, 0)), (391, (.iaload, 1, 0, 0, 0)), (392, (.aload_n 0, 1, 0, 0, 0)), (393, (.iload 4, 2, 0, 0, 0)), (395, (.iconst 2, 1, 2, 0, 0)), (396, (.iadd, 1, 0, 0, 0)), (397, (.iaload, 1, 0, 0, 0)), (398, (.aload_n 0, 1, 0, 0, 0)), (399, (.iload 4, 2, 0, 0, 0)), (401, (.iconst 3, 1, 3, 0, 0)), (402, (.iadd, 1, 0, 0, 0)), (403, (.iaload, 1, 0, 0, 0)), (404, (.aload_n 0, 1, 0, 0, 0)), (405, (.iload 4, 2, 0, 0, 0)), (407, (.iconst 4, 1, 4, 0, 0)), (408, (.iadd, 1, 0, 0, 0)), (409, (.iaload, 1, 0, 0, 0)), (410, (.aload_n 3, 1, 0, 0, 0)), (411, (.invokestatic 108, 3, 0, 192, 2)), (414, (.istore 5, 2, 0, 0, 0)), (416, (.aload_n 2, 1, 0, 0, 0)), (417, (.aload_n 0, 1, 0, 0, 0)), (418, (.iload 4, 2, 0, 0, 0)), (420, (.iconst 1, 1, 1, 0, 0)), (421, (.iadd, 1, 0, 0, 0)), (422, (.iaload, 1, 0, 0, 0)), (423, (.aload_n 0, 1, 0, 0, 0)), (424, (.iload 4, 2, 0, 0, 0)), (426, (.iconst 2, 1, 2, 0, 0)), (427, (.iadd, 1, 0, 0, 0)), (428, (.iaload, 1, 0, 0, 0)), (429, (.aload_n 0, 1, 0, 0, 0)), (430, (.iload 4, 2, 0, 0, 0)), (432, (.iconst 3, 1, 3, 0, 0)), (433, (.iadd, 1, 0, 0, 0)), (434, (.iaload, 1, 0, 0, 0)), (435, (.aload_n 0, 1, 0, 0, 0)), (436, (.iload 4, 2, 0, 0, 0)), (438, (.iconst 4, 1, 4, 0, 0)), (439, (.iadd, 1, 0, 0, 0)), (440, (.iaload, 1, 0, 0, 0)), (441, (.invokevirtual 111, 3, 0, 127, 0)), (444, (.istore 6, 2, 0, 0, 0)), (446, (.aload_n 2, 1, 0, 0, 0)), (447, (.invokevirtual 96, 3, 0, 121, 0)), (450, (.iload 5, 2, 0, 0, 0)), (452, (.if_icmp .eq 5, 3, 0, 457, 0)), (455, (.iconst 0, 1, 0, 0, 0)), (456, (.ireturn, 1, 0, 0, 0)), (457, (.iload 5, 2, 0, 0, 0)), (459, (.ifCond .ne 15, 3, 0, 474, 0)), (462, (.aload_n 3, 1, 0, 0, 0)), (463, (.iconst 0, 1, 0, 0, 0)), (464, (.laload, 1, 0, 0, 0)), (465, (.iload 6, 2, 0, 0, 0)), (467, (.i2l, 1, 0, 0, 0)), (468, (.lcmp, 1, 0, 0, 0)), (469, (.ifCond .eq 5, 3, 0, 474, 0)), (472, (.iconst 0, 1, 0, 0, 0)), (473, (.ireturn, 1, 0, 0, 0)), (474, (.goto 1157, 3, 0, 1631, 0)), (477, (.aload_n 1, 1, 0, 0, 0)), (478, (.aload_n 0, 1, 0, 0, 0)), (479, (.iload 4, 2, 0, 0, 0)), (481, (.iconst 1, 1, 1, 0, 0)), (482, (.iadd, 1, 0, 0, 0)), (483, (.iaload, 1, 0, 0, 0)), (484, (.aload_n 0, 1, 0, 0, 0)), (485, (.iload 4, 2, 0, 0, 0)), (487, (.iconst 2, 1, 2, 0, 0)), (488, (.iadd, 1, 0, 0, 0)), (489, (.iaload, 1, 0, 0, 0)), (490, (.ifCond .eq 7, 3, 0, 497, 0)), (493, (.iconst 1, 1, 1, 0, 0)), (494, (.goto 4, 3, 0, 498, 0)), (497, (.iconst 0, 1, 0, 0, 0)), (498, (.aload_n 3, 1, 0, 0, 0)), (499, (.invokestatic 112, 3, 0, 193, 2)), (502, (.istore 5, 2, 0, 0, 0)), (504, (.aload_n 2, 1, 0, 0, 0)), (505, (.aload_n 0, 1, 0, 0, 0)), (506, (.iload 4, 2, 0, 0, 0)), (508, (.iconst 1, 1, 1, 0, 0)), (509, (.iadd, 1, 0, 0, 0)), (510, (.iaload, 1, 0, 0, 0)), (511, (.aload_n 0, 1, 0, 0, 0)), (512, (.iload 4, 2, 0, 0, 0)), (514, (.iconst 2, 1, 2, 0, 0)), (515, (.iadd, 1, 0, 0, 0)), (516, (.iaload, 1, 0, 0, 0)), (517, (.ifCond .eq 7, 3, 0, 524, 0)), (520, (.iconst 1, 1, 1, 0, 0)), (521, (.goto 4, 3, 0, 525, 0)), (524, (.iconst 0, 1, 0, 0, 0)), (525, (.invokevirtual 114, 3, 0, 128, 0)), (528, (.istore 6, 2, 0, 0, 0)), (530, (.aload_n 2, 1, 0, 0, 0)), (531, (.invokevirtual 96, 3, 0, 121, 0)), (534, (.iload 5, 2, 0, 0, 0)), (536, (.if_icmp .eq 5, 3, 0, 541, 0)), (539, (.iconst 0, 1, 0, 0, 0)), (540, (.ireturn, 1, 0, 0, 0)), (541, (.iload 5, 2, 0, 0, 0)), (543, (.ifCond .ne 22, 3, 0, 565, 0)), (546, (.aload_n 3, 1, 0, 0, 0)), (547, (.iconst 0, 1, 0, 0, 0)), (548, (.laload, 1, 0, 0, 0)), (549, (.iload 6, 2, 0, 0, 0)), (551, (.ifCond .eq 7, 3, 0, 558, 0)), (554, (.lconst 1, 1, 0, 0, 0)), (555, (.goto 4, 3, 0, 559, 0)), (558, (.lconst 0, 1, 0, 0, 0)), (559, (.lcmp, 1, 0, 0, 0)), (560, (.ifCond .eq 5, 3, 0, 565, 0)), (563, (.iconst 0, 1, 0, 0, 0)), (564, (.ireturn, 1, 0, 0, 0)), (565, (.goto 1066, 3, 0, 1631, 0)), (568, (.aload_n 1, 1, 0, 0, 0)), (569, (.aload_n 0, 1, 0, 0, 0)), (570, (.iload 4, 2, 0, 0, 0)), (572, (.iconst 1, 1, 1, 0, 0)), (573, (.iadd, 1, 0, 0, 0)), (574, (.iaload, 1, 0, 0, 0)), (575, (.aload_n 0, 1, 0, 0, 0)), (576, (.iload 4, 2, 0, 0, 0)), (578, (.iconst 2, 1, 2, 0, 0)), (579, (.iadd, 1, 0, 0, 0)), (580, (.iaload, 1, 0, 0, 0)), (581, (.aload_n 0, 1, 0, 0, 0)), (582, (.iload 4, 2, 0, 0, 0)), (584, (.iconst 3, 1, 3, 0, 0)), (585, (.iadd, 1, 0, 0, 0)), (586, (.iaload, 1, 0, 0, 0)), (587, (.aload_n 0, 1, 0, 0, 0)), (588, (.iload 4, 2, 0, 0, 0)), (590, (.iconst 4, 1, 4, 0, 0)), (591, (.iadd, 1, 0, 0, 0)), (592, (.iaload, 1, 0, 0, 0)), (593, (.aload_n 3, 1, 0, 0, 0)), (594, (.invokestatic 115, 3, 0, 194, 2)), (597, (.istore 5, 2, 0, 0, 0)), (599, (.aload_n 2, 1, 0, 0, 0)), (600, (.aload_n 0, 1, 0, 0, 0)), (601, (.iload 4, 2, 0, 0, 0)), (603, (.iconst 1, 1, 1, 0, 0)), (604, (.iadd, 1, 0, 0, 0)), (605, (.iaload, 1, 0, 0, 0)), (606, (.aload_n 0, 1, 0, 0, 0)), (607, (.iload 4, 2, 0, 0, 0)), (609, (.iconst 2, 1, 2, 0, 0)), (610, (.iadd, 1, 0, 0, 0)), (611, (.iaload, 1, 0, 0, 0)), (612, (.aload_n 0, 1, 0, 0, 0)), (613, (.iload 4, 2, 0, 0, 0)), (615, (.iconst 3, 1, 3, 0, 0)), (616, (.iadd, 1, 0, 0, 0)), (617, (.iaload, 1, 0, 0, 0)), (618, (.aload_n 0, 1, 0, 0, 0)), (619, (.iload 4, 2, 0, 0, 0)), (621, (.iconst 4, 1, 4, 0, 0)), (622, (.iadd, 1, 0, 0, 0)), (623, (.iaload, 1, 0, 0, 0)), (624, (.invokevirtual 117, 3, 0, 130, 0)), (627, (.istore 6, 2, 0, 0, 0)), (629, (.aload_n 2, 1, 0, 0, 0)), (630, (.invokevirtual 96, 3, 0, 121, 0)), (633, (.iload 5, 2, 0, 0, 0)), (635, (.if_icmp .eq 5, 3, 0, 640, 0)), (638, (.iconst 0, 1, 0, 0, 0)), (639, (.ireturn, 1, 0, 0, 0)), (640, (.iload 5, 2, 0, 0, 0)), (642, (.ifCond .ne 15, 3, 0, 657, 0)), (645, (.aload_n 3, 1, 0, 0, 0)), (646, (.iconst 0, 1, 0, 0, 0)), (647, (.laload, 1, 0, 0, 0)), (648, (.iload 6, 2, 0, 0, 0)), (650, (.i2l, 1, 0, 0, 0)), (651, (.lcmp, 1, 0, 0, 0)), (652, (.ifCond .eq 5, 3, 0, 657, 0)), (655, (.iconst 0, 1, 0, 0, 0)), (656, (.ireturn, 1, 0, 0, 0)), (657, (.goto 974, 3, 0, 1631, 0)), (660, (.aload_n 1, 1, 0, 0, 0)), (661, (.aload_n 0, 1, 0, 0, 0)), (662, (.iload 4, 2, 0, 0, 0)), (664, (.iconst 1, 1, 1, 0, 0)), (665, (.iadd, 1, 0, 0, 0)), (666, (.iaload, 1, 0, 0, 0)), (667, (.aload_n 3, 1, 0, 0, 0)), (668, (.invokestatic 118, 3, 0, 195, 2)), (671, (.istore 5, 2, 0, 0, 0)), (673, (.aload_n 2, 1, 0, 0, 0)), (674, (.aload_n 0, 1, 0, 0, 0)), (675, (.iload 4, 2, 0, 0, 0)), (677, (.iconst 1, 1, 1, 0, 0)), (678, (.iadd, 1, 0, 0, 0)), (679, (.iaload, 1, 0, 0, 0)), (680, (.invokevirtual 121, 3, 0, 158, 0)), (683, (.istore 6, 2, 0, 0, 0)), (685, (.aload_n 2, 1, 0, 0, 0)), (686, (.invokevirtual 96, 3, 0, 121, 0)), (689, (.iload 5, 2, 0, 0, 0)), (691, (.if_icmp .eq 5, 3, 0, 696, 0)), (694, (.iconst 0, 1, 0, 0, 0)), (695, (.ireturn, 1, 0, 0, 0)), (696, (.iload 5, 2, 0, 0, 0)), (698, (.ifCond .ne 22, 3, 0, 720, 0)), (701, (.aload_n 3, 1, 0, 0, 0)), (702, (.iconst 0, 1, 0, 0, 0)), (703, (.laload, 1, 0, 0, 0)), (704, (.iload 6, 2, 0, 0, 0)), (706, (.ifCond .eq 7, 3, 0, 713, 0)), (709, (.lconst 1, 1, 0, 0, 0)), (710, (.goto 4, 3, 0, 714, 0)), (713, (.lconst 0, 1, 0, 0, 0)), (714, (.lcmp, 1, 0, 0, 0)), (715, (.ifCond .eq 5, 3, 0, 720, 0)), (718, (.iconst 0, 1, 0, 0, 0)), (719, (.ireturn, 1, 0, 0, 0)), (720, (.goto 911, 3, 0, 1631, 0)), (723, (.aload_n 1, 1, 0, 0, 0)), (724, (.aload_n 0, 1, 0, 0, 0)), (725, (.iload 4, 2, 0, 0, 0)), (727, (.iconst 1, 1, 1, 0, 0)), (728, (.iadd, 1, 0, 0, 0)), (729, (.iaload, 1, 0, 0, 0)), (730, (.invokestatic 122, 3, 0, 196, 2)), (733, (.istore 5, 2, 0, 0, 0)), (735, (.aload_n 2, 1, 0, 0, 0)), (736, (.aload_n 0, 1, 0, 0, 0)), (737, (.iload 4, 2, 0, 0, 0)), (739, (.iconst 1, 1, 1, 0, 0)), (740, (.iadd, 1, 0, 0, 0)), (741, (.iaload, 1, 0, 0, 0)), (742, (.invokevirtual 125, 3, 0, 163, 0)), (745, (.aload_n 2, 1, 0, 0, 0)), (746, (.invokevirtual 96, 3, 0, 121, 0)), (749, (.iload 5, 2, 0, 0, 0)), (751, (.if_icmp .eq 5, 3, 0, 756, 0)), (754, (.iconst 0, 1, 0, 0, 0)), (755, (.ireturn, 1, 0, 0, 0)), (756, (.goto 875, 3, 0, 1631, 0)), (759, (.aload_n 1, 1, 0, 0, 0)), (760, (.aload_n 0, 1, 0, 0, 0)), (761, (.iload 4, 2, 0, 0, 0)), (763, (.iconst 1, 1, 1, 0, 0)), (764, (.iadd, 1, 0, 0, 0)), (765, (.iaload, 1, 0, 0, 0)), (766, (.aload_n 3, 1, 0, 0, 0)), (767, (.invokestatic 126, 3, 0, 197, 2)), (770, (.istore 5, 2, 0, 0, 0)), (772, (.aload_n 2, 1, 0, 0, 0)), (773, (.aload_n 0, 1, 0, 0, 0)), (774, (.iload 4, 2, 0, 0, 0)), (776, (.iconst 1, 1, 1, 0, 0)), (777, (.iadd, 1, 0, 0, 0)), (778, (.iaload, 1, 0, 0, 0)), (779, (.invokevirtual 128, 3, 0, 164, 0)), (782, (.istore 6, 2, 0, 0, 0)), (784, (.aload_n 2, 1, 0, 0, 0)), (785, (.invokevirtual 96, 3, 0, 121, 0)), (788, (.iload 5, 2, 0, 0, 0)), (790, (.if_icmp .eq 5, 3, 0, 795, 0)), (793, (.iconst 0, 1, 0, 0, 0)), (794, (.ireturn, 1, 0, 0, 0)), (795, (.iload 5, 2, 0, 0, 0)), (797, (.ifCond .ne 15, 3, 0, 812, 0)), (800, (.aload_n 3, 1, 0, 0, 0)), (801, (.iconst 0, 1, 0, 0, 0)), (802, (.laload, 1, 0, 0, 0)), (803, (.iload 6, 2, 0, 0, 0)), (805, (.i2l, 1, 0, 0, 0)), (806, (.lcmp, 1, 0, 0, 0)), (807, (.ifCond .eq 5, 3, 0, 812, 0)), (810, (.iconst 0, 1, 0, 0, 0)), (811, (.ireturn, 1, 0, 0, 0)), (812, (.goto 819, 3, 0, 1631, 0)), (815, (.aload_n 1, 1, 0, 0, 0)), (816, (.aload_n 3, 1, 0, 0, 0)), (817, (.invokestatic 129, 3, 0, 198, 2)), (820, (.istore 5, 2, 0, 0, 0)), (822, (.aload_n 2, 1, 0, 0, 0)), (823, (.invokevirtual 132, 3, 0, 170, 0)), (826, (.istore 6, 2, 0, 0, 0)), (828, (.aload_n 2, 1, 0, 0, 0)), (829, (.invokevirtual 96, 3, 0, 121, 0)), (832, (.iload 5, 2, 0, 0, 0)), (834, (.if_icmp .eq 5, 3, 0, 839, 0)), (837, (.iconst 0, 1, 0, 0, 0)), (838, (.ireturn, 1, 0, 0, 0)), (839, (.iload 5, 2, 0, 0, 0)), (841, (.ifCond .ne 15, 3, 0, 856, 0)), (844, (.aload_n 3, 1, 0, 0, 0)), (845, (.iconst 0, 1, 0, 0, 0)), (846, (.laload, 1, 0, 0, 0)), (847, (.iload 6, 2, 0, 0, 0)), (849, (.i2l, 1, 0, 0, 0)), (850, (.lcmp, 1, 0, 0, 0)), (851, (.ifCond .eq 5, 3, 0, 856, 0)), (854, (.iconst 0, 1, 0, 0, 0)), (855, (.ireturn, 1, 0, 0, 0)), (856, (.goto 775, 3, 0, 1631, 0)), (859, (.aload_n 1, 1, 0, 0, 0)), (860, (.aload_n 0, 1, 0, 0, 0)), (861, (.iload 4, 2, 0, 0, 0)), (863, (.iconst 1, 1, 1, 0, 0)), (864, (.iadd, 1, 0, 0, 0)), (865, (.iaload, 1, 0, 0, 0)), (866, (.aload_n 0, 1, 0, 0, 0)), (867, (.iload 4, 2, 0, 0, 0)), (869, (.iconst 2, 1, 2, 0, 0)), (870, (.iadd, 1, 0, 0, 0)), (871, (.iaload, 1, 0, 0, 0)), (872, (.aload_n 3, 1, 0, 0, 0)), (873, (.invokestatic 133, 3, 0, 199, 2)), (876, (.istore 5, 2, 0, 0, 0)), (878, (.aload_n 2, 1, 0, 0, 0)), (879, (.aload_n 0, 1, 0, 0, 0)), (880, (.iload 4, 2, 0, 0, 0)), (882, (.iconst 1, 1, 1, 0, 0)), (883, (.iadd, 1, 0, 0, 0)), (884, (.iaload, 1, 0, 0, 0)), (885, (.aload_n 0, 1, 0, 0, 0)), (886, (.iload 4, 2, 0, 0, 0)), (888, (.iconst 2, 1, 2, 0, 0)), (889, (.iadd, 1, 0, 0, 0)), (890, (.iaload, 1, 0, 0, 0)), (891, (.invokevirtual 136, 3, 0, 171, 0)), (894, (.istore 6, 2, 0, 0, 0)), (896, (.aload_n 2, 1, 0, 0, 0)), (897, (.invokevirtual 96, 3, 0, 121, 0)), (900, (.iload 5, 2, 0, 0, 0)), (902, (.if_icmp .eq 5, 3, 0, 907, 0)), (905, (.iconst 0, 1, 0, 0, 0)), (906, (.ireturn, 1, 0, 0, 0)), (907, (.iload 5, 2, 0, 0, 0)), (909, (.ifCond .ne 15, 3, 0, 924, 0)), (912, (.aload_n 3, 1, 0, 0, 0)), (913, (.iconst 0, 1, 0, 0, 0)), (914, (.laload, 1, 0, 0, 0)), (915, (.iload 6, 2, 0, 0, 0)), (917, (.i2l, 1, 0, 0, 0)), (918, (.lcmp, 1, 0, 0, 0)), (919, (.ifCond .eq 5, 3, 0, 924, 0)), (922, (.iconst 0, 1, 0, 0, 0)), (923, (.ireturn, 1, 0, 0, 0)), (924, (.goto 707, 3, 0, 1631, 0)), (927, (.aload_n 1, 1, 0, 0, 0)), (928, (.aload_n 0, 1, 0, 0, 0)), (929, (.iload 4, 2, 0, 0, 0)), (931, (.iconst 1, 1, 1, 0, 0)), (932, (.iadd, 1, 0, 0, 0)), (933, (.iaload, 1, 0, 0, 0)), (934, (.aload_n 3, 1, 0, 0, 0)), (935, (.invokestatic 137, 3, 0, 200, 2)), (938, (.istore 5, 2, 0, 0, 0)), (940, (.aload_n 2, 1, 0, 0, 0)), (941, (.aload_n 0, 1, 0, 0, 0)), (942, (.iload 4, 2, 0, 0, 0)), (944, (.iconst 1, 1, 1, 0, 0)), (945, (.iadd, 1, 0, 0, 0)), (946, (.iaload, 1, 0, 0, 0)), (947, (.invokevirtual 139, 3, 0, 172, 0)), (950, (.istore 6, 2, 0, 0, 0)), (952, (.aload_n 2, 1, 0, 0, 0)), (953, (.invokevirtual 96, 3, 0, 121, 0)), (956, (.iload 5, 2, 0, 0, 0)), (958, (.if_icmp .eq 5, 3, 0, 963, 0)), (961, (.iconst 0, 1, 0, 0, 0)), (962, (.ireturn, 1, 0, 0, 0)), (963, (.iload 5, 2, 0, 0, 0)), (965, (.ifCond .ne 15, 3, 0, 980, 0)), (968, (.aload_n 3, 1, 0, 0, 0)), (969, (.iconst 0, 1, 0, 0, 0)), (970, (.laload, 1, 0, 0, 0)), (971, (.iload 6, 2, 0, 0, 0)), (973, (.i2l, 1, 0, 0, 0)), (974, (.lcmp, 1, 0, 0, 0)), (975, (.ifCond .eq 5, 3, 0, 980, 0)), (978, (.iconst 0, 1, 0, 0, 0)), (979, (.ireturn, 1, 0, 0, 0)), (980, (.goto 651, 3, 0, 1631, 0)), (983, (.aload_n 1, 1, 0, 0, 0)), (984, (.invokevirtual 140, 3, 0, 24, 0)), (987, (.aload_n 2, 1, 0, 0, 0)), (988, (.invokevirtual 143, 3, 0, 174, 0)), (991, (.if_icmp .eq 640, 3, 0, 1631, 0)), (994, (.iconst 0, 1, 0, 0, 0)), (995, (.ireturn, 1, 0, 0, 0)), (996, (.aload_n 1, 1, 0, 0, 0)), (997, (.invokevirtual 144, 3, 0, 25, 0)), (1000, (.aload_n 2, 1, 0, 0, 0)), (1001, (.invokevirtual 147, 3, 0, 175, 0)), (1004, (.if_icmp .eq 627, 3, 0, 1631, 0)), (1007, (.iconst 0, 1, 0, 0, 0)), (1008, (.ireturn, 1, 0, 0, 0)), (1009, (.aload_n 1, 1, 0, 0, 0)), (1010, (.aload_n 0, 1, 0, 0, 0)), (1011, (.iload 4, 2, 0, 0, 0)), (1013, (.iconst 1, 1, 1, 0, 0)), (1014, (.iadd, 1, 0, 0, 0)), (1015, (.iaload, 1, 0, 0, 0)), (1016, (.aload_n 0, 1, 0, 0, 0)), (1017, (.iload 4, 2, 0, 0, 0)), (1019, (.iconst 2, 1, 2, 0, 0)), (1020, (.iadd, 1, 0, 0, 0)), (1021, (.iaload, 1, 0, 0, 0)), (1022, (.aload_n 0, 1, 0, 0, 0)), (1023, (.iload 4, 2, 0, 0, 0)), (1025, (.iconst 3, 1, 3, 0, 0)), (1026, (.iadd, 1, 0, 0, 0)), (1027, (.iaload, 1, 0, 0, 0)), (1028, (.aload_n 3, 1, 0, 0, 0)), (1029, (.invokestatic 148, 3, 0, 201, 2)), (1032, (.istore 5, 2, 0, 0, 0)), (1034, (.aload_n 2, 1, 0, 0, 0)), (1035, (.aload_n 0, 1, 0, 0, 0)), (1036, (.iload 4, 2, 0, 0, 0)), (1038, (.iconst 1, 1, 1, 0, 0)), (1039, (.iadd, 1, 0, 0, 0)), (1040, (.iaload, 1, 0, 0, 0)), (1041, (.aload_n 0, 1, 0, 0, 0)), (1042, (.iload 4, 2, 0, 0, 0)), (1044, (.iconst 2, 1, 2, 0, 0)), (1045, (.iadd, 1, 0, 0, 0)), (1046, (.iaload, 1, 0, 0, 0)), (1047, (.aload_n 0, 1, 0, 0, 0)), (1048, (.iload 4, 2, 0, 0, 0)), (1050, (.iconst 3, 1, 3, 0, 0)), (1051, (.iadd, 1, 0, 0, 0)), (1052, (.iaload, 1, 0, 0, 0)), (1053, (.invokevirtual 151, 3, 0, 176, 0)), (1056, (.istore 6, 2, 0, 0, 0)), (1058, (.aload_n 2, 1, 0, 0, 0)), (1059, (.invokevirtual 96, 3, 0, 121, 0)), (1062, (.iload 5, 2, 0, 0, 0)), (1064, (.if_icmp .eq 5, 3, 0, 1069, 0)), (1067, (.iconst 0, 1, 0, 0, 0)), (1068, (.ireturn, 1, 0, 0, 0)), (1069, (.iload 5, 2, 0, 0, 0)), (1071, (.ifCond .ne 22, 3, 0, 1093, 0)), (1074, (.aload_n 3, 1, 0, 0, 0)), (1075, (.iconst 0, 1, 0, 0, 0)), (1076, (.laload, 1, 0, 0, 0)), (1077, (.iload 6, 2, 0, 0, 0)), (1079, (.ifCond .eq 7, 3, 0, 1086, 0)), (1082, (.lconst 1, 1, 0, 0, 0)), (1083, (.goto 4, 3, 0, 1087, 0)), (1086, (.lconst 0, 1, 0, 0, 0)), (1087, (.lcmp, 1, 0, 0, 0)), (1088, (.ifCond .eq 5, 3, 0, 1093, 0)), (1091, (.iconst 0, 1, 0, 0, 0)), (1092, (.ireturn, 1, 0, 0, 0)), (1093, (.goto 538, 3, 0, 1631, 0)), (1096, (.aload_n 1, 1, 0, 0, 0)), (1097, (.aload_n 0, 1, 0, 0, 0)), (1098, (.iload 4, 2, 0, 0, 0)), (1100, (.iconst 1, 1, 1, 0, 0)), (1101, (.iadd, 1, 0, 0, 0)), (1102, (.iaload, 1, 0, 0, 0)), (1103, (.aload_n 0, 1, 0, 0, 0)), (1104, (.iload 4, 2, 0, 0, 0)), (1106, (.iconst 2, 1, 2, 0, 0)), (1107, (.iadd, 1, 0, 0, 0)), (1108, (.iaload, 1, 0, 0, 0)), (1109, (.aload_n 3, 1, 0, 0, 0)), (1110, (.invokestatic 152, 3, 0, 202, 2)), (1113, (.istore 5, 2, 0, 0, 0)), (1115, (.aload_n 2, 1, 0, 0, 0)), (1116, (.aload_n 0, 1, 0, 0, 0)), (1117, (.iload 4, 2, 0, 0, 0)), (1119, (.iconst 1, 1, 1, 0, 0)), (1120, (.iadd, 1, 0, 0, 0)), (1121, (.iaload, 1, 0, 0, 0)), (1122, (.aload_n 0, 1, 0, 0, 0)), (1123, (.iload 4, 2, 0, 0, 0)), (1125, (.iconst 2, 1, 2, 0, 0)), (1126, (.iadd, 1, 0, 0, 0)), (1127, (.iaload, 1, 0, 0, 0)), (1128, (.invokevirtual 154, 3, 0, 177, 0)), (1131, (.istore 6, 2, 0, 0, 0)), (1133, (.aload_n 2, 1, 0, 0, 0)), (1134, (.invokevirtual 96, 3, 0, 121, 0)), (1137, (.iload 5, 2, 0, 0, 0)), (1139, (.if_icmp .eq 5, 3, 0, 1144, 0)), (1142, (.iconst 0, 1, 0, 0, 0)), (1143, (.ireturn, 1, 0, 0, 0)), (1144, (.iload 5, 2, 0, 0, 0)), (1146, (.ifCond .ne 15, 3, 0, 1161, 0)), (1149, (.aload_n 3, 1, 0, 0, 0)), (1150, (.iconst 0, 1, 0, 0, 0)), (1151, (.laload, 1, 0, 0, 0)), (1152, (.iload 6, 2, 0, 0, 0)), (1154, (.i2l, 1, 0, 0, 0)), (1155, (.lcmp, 1, 0, 0, 0)), (1156, (.ifCond .eq 5, 3, 0, 1161, 0)), (1159, (.iconst 0, 1, 0, 0, 0)), (1160, (.ireturn, 1, 0, 0, 0)), (1161, (.goto 470, 3, 0, 1631, 0)), (1164, (.aload_n 1, 1, 0, 0, 0)), (1165, (.aload_n 0, 1, 0, 0, 0)), (1166, (.iload 4, 2, 0, 0, 0)), (1168, (.iconst 1, 1, 1, 0, 0)), (1169, (.iadd, 1, 0, 0, 0)), (1170, (.iaload, 1, 0, 0, 0)), (1171, (.aload_n 0, 1, 0, 0, 0)), (1172, (.iload 4, 2, 0, 0, 0)), (1174, (.iconst 2, 1, 2, 0, 0)), (1175, (.iadd, 1, 0, 0, 0)), (1176, (.iaload, 1, 0, 0, 0)), (1177, (.aload_n 3, 1, 0, 0, 0)), (1178, (.invokestatic 155, 3, 0, 203, 2)), (1181, (.istore 5, 2, 0, 0, 0)), (1183, (.aload_n 2, 1, 0, 0, 0)), (1184, (.aload_n 0, 1, 0, 0, 0)), (1185, (.iload 4, 2, 0, 0, 0)), (1187, (.iconst 1, 1, 1, 0, 0)), (1188, (.iadd, 1, 0, 0, 0)), (1189, (.iaload, 1, 0, 0, 0)), (1190, (.aload_n 0, 1, 0, 0, 0)), (1191, (.iload 4, 2, 0, 0, 0)), (1193, (.iconst 2, 1, 2, 0, 0)), (1194, (.iadd, 1, 0, 0, 0)), (1195, (.iaload, 1, 0, 0, 0)), (1196, (.invokevirtual 157, 3, 0, 178, 0)), (1199, (.istore 6, 2, 0, 0, 0)), (1201, (.aload_n 2, 1, 0, 0, 0)), (1202, (.invokevirtual 96, 3, 0, 121, 0)), (1205, (.iload 5, 2, 0, 0, 0)), (1207, (.if_icmp .eq 5, 3, 0, 1212, 0)), (1210, (.iconst 0, 1, 0, 0, 0)), (1211, (.ireturn, 1, 0, 0, 0)), (1212, (.iload 5, 2, 0, 0, 0)), (1214, (.ifCond .ne 15, 3, 0, 1229, 0)), (1217, (.aload_n 3, 1, 0, 0, 0)), (1218, (.iconst 0, 1, 0, 0, 0)), (1219, (.laload, 1, 0, 0, 0)), (1220, (.iload 6, 2, 0, 0, 0)), (1222, (.i2l, 1, 0, 0, 0)), (1223, (.lcmp, 1, 0, 0, 0)), (1224, (.ifCond .eq 5, 3, 0, 1229, 0)), (1227, (.iconst 0, 1, 0, 0, 0)), (1228, (.ireturn, 1, 0, 0, 0)), (1229, (.goto 402, 3, 0, 1631, 0)), (1232, (.aload_n 1, 1, 0, 0, 0)), (1233, (.aload_n 0, 1, 0, 0, 0)), (1234, (.iload 4, 2, 0, 0, 0)), (1236, (.iconst 1, 1, 1, 0, 0)), (1237, (.iadd, 1, 0, 0, 0)), (1238, (.iaload, 1, 0, 0, 0)), (1239, (.aload_n 0, 1, 0, 0, 0)), (1240, (.iload 4, 2, 0, 0, 0)), (1242, (.iconst 2, 1, 2, 0, 0)), (1243, (.iadd, 1, 0, 0, 0)), (1244, (.iaload, 1, 0, 0, 0)), (1245, (.aload_n 3, 1, 0, 0, 0)), (1246, (.invokestatic 158, 3, 0, 204, 2)), (1249, (.istore 5, 2, 0, 0, 0)), (1251, (.aload_n 2, 1, 0, 0, 0)), (1252, (.aload_n 0, 1, 0, 0, 0)), (1253, (.iload 4, 2, 0, 0, 0)), (1255, (.iconst 1, 1, 1, 0, 0)), (1256, (.iadd, 1, 0, 0, 0)), (1257, (.iaload, 1, 0, 0, 0)), (1258, (.aload_n 0, 1, 0, 0, 0)), (1259, (.iload 4, 2, 0, 0, 0)), (1261, (.iconst 2, 1, 2, 0, 0)), (1262, (.iadd, 1, 0, 0, 0)), (1263, (.iaload, 1, 0, 0, 0)), (1264, (.invokevirtual 160, 3, 0, 181, 0)), (1267, (.istore 6, 2, 0, 0, 0)), (1269, (.aload_n 2, 1, 0, 0, 0)), (1270, (.invokevirtual 96, 3, 0, 121, 0)), (1273, (.iload 5, 2, 0, 0, 0)), (1275, (.if_icmp .eq 5, 3, 0, 1280, 0)), (1278, (.iconst 0, 1, 0, 0, 0)), (1279, (.ireturn, 1, 0, 0, 0)), (1280, (.iload 5, 2, 0, 0, 0)), (1282, (.ifCond .ne 15, 3, 0, 1297, 0)), (1285, (.aload_n 3, 1, 0, 0, 0)), (1286, (.iconst 0, 1, 0, 0, 0)), (1287, (.laload, 1, 0, 0, 0)), (1288, (.iload 6, 2, 0, 0, 0)), (1290, (.i2l, 1, 0, 0, 0)), (1291, (.lcmp, 1, 0, 0, 0)), (1292, (.ifCond .eq 5, 3, 0, 1297, 0)), (1295, (.iconst 0, 1, 0, 0, 0)), (1296, (.ireturn, 1, 0, 0, 0)), (1297, (.goto 334, 3, 0, 1631, 0)), (1300, (.aload_n 1, 1, 0, 0, 0)), (1301, (.aload_n 0, 1, 0, 0, 0)), (1302, (.iload 4, 2, 0, 0, 0)), (1304, (.iconst 1, 1, 1, 0, 0)), (1305, (.iadd, 1, 0, 0, 0)), (1306, (.iaload, 1, 0, 0, 0)), (1307, (.aload_n 0, 1, 0, 0, 0)), (1308, (.iload 4, 2, 0, 0, 0)), (1310, (.iconst 2, 1, 2, 0, 0)), (1311, (.iadd, 1, 0, 0, 0)), (1312, (.iaload, 1, 0, 0, 0)), (1313, (.aload_n 0, 1, 0, 0, 0)), (1314, (.iload 4, 2, 0, 0, 0)), (1316, (.iconst 3, 1, 3, 0, 0)), (1317, (.iadd, 1, 0, 0, 0)), (1318, (.iaload, 1, 0, 0, 0)), (1319, (.aload_n 3, 1, 0, 0, 0)), (1320, (.invokestatic 161, 3, 0, 205, 2)), (1323, (.istore 5, 2, 0, 0, 0)), (1325, (.aload_n 2, 1, 0, 0, 0)), (1326, (.aload_n 0, 1, 0, 0, 0)), (1327, (.iload 4, 2, 0, 0, 0)), (1329, (.iconst 1, 1, 1, 0, 0)), (1330, (.iadd, 1, 0, 0, 0)), (1331, (.iaload, 1, 0, 0, 0)), (1332, (.aload_n 0, 1, 0, 0, 0)), (1333, (.iload 4, 2, 0, 0, 0)), (1335, (.iconst 2, 1, 2, 0, 0)), (1336, (.iadd, 1, 0, 0, 0)), (1337, (.iaload, 1, 0, 0, 0)), (1338, (.aload_n 0, 1, 0, 0, 0)), (1339, (.iload 4, 2, 0, 0, 0)), (1341, (.iconst 3, 1, 3, 0, 0)), (1342, (.iadd, 1, 0, 0, 0)), (1343, (.iaload, 1, 0, 0, 0)), (1344, (.invokevirtual 163, 3, 0, 182, 0)), (1347, (.istore 6, 2, 0, 0, 0)), (1349, (.aload_n 2, 1, 0, 0, 0)), (1350, (.invokevirtual 96, 3, 0, 121, 0)), (1353, (.iload 5, 2, 0, 0, 0)), (1355, (.if_icmp .eq 5, 3, 0, 1360, 0)), (1358, (.iconst 0, 1, 0, 0, 0)), (1359, (.ireturn, 1, 0, 0, 0)), (1360, (.iload 5, 2, 0, 0, 0)), (1362, (.ifCond .ne 15, 3, 0, 1377, 0)), (1365, (.aload_n 3, 1, 0, 0, 0)), (1366, (.iconst 0, 1, 0, 0, 0)), (1367, (.laload, 1, 0, 0, 0)), (1368, (.iload 6, 2, 0, 0, 0)), (1370, (.i2l, 1, 0, 0, 0)), (1371, (.lcmp, 1, 0, 0, 0)), (1372, (.ifCond .eq 5, 3, 0, 1377, 0)), (1375, (.iconst 0, 1, 0, 0, 0)), (1376, (.ireturn, 1, 0, 0, 0)), (1377, (.goto 254, 3, 0, 1631, 0)), (1380, (.aload_n 1, 1, 0, 0, 0)), (1381, (.aload_n 0, 1, 0, 0, 0)), (1382, (.iload 4, 2, 0, 0, 0)), (1384, (.iconst 1, 1, 1, 0, 0)), (1385, (.iadd, 1, 0, 0, 0)), (1386, (.iaload, 1, 0, 0, 0)), (1387, (.aload_n 3, 1, 0, 0, 0)), (1388, (.invokestatic 164, 3, 0, 206, 2)), (1391, (.istore 5, 2, 0, 0, 0)), (1393, (.aload_n 2, 1, 0, 0, 0)), (1394, (.aload_n 0, 1, 0, 0, 0)), (1395, (.iload 4, 2, 0, 0, 0)), (1397, (.iconst 1, 1, 1, 0, 0)), (1398, (.iadd, 1, 0, 0, 0)), (1399, (.iaload, 1, 0, 0, 0)), (1400, (.invokevirtual 166, 3, 0, 183, 0)), (1403, (.istore 6, 2, 0, 0, 0)), (1405, (.aload_n 2, 1, 0, 0, 0)), (1406, (.invokevirtual 96, 3, 0, 121, 0)), (1409, (.iload 5, 2, 0, 0, 0)), (1411, (.if_icmp .eq 5, 3, 0, 1416, 0)), (1414, (.iconst 0, 1, 0, 0, 0)), (1415, (.ireturn, 1, 0, 0, 0)), (1416, (.iload 5, 2, 0, 0, 0)), (1418, (.ifCond .ne 15, 3, 0, 1433, 0)), (1421, (.aload_n 3, 1, 0, 0, 0)), (1422, (.iconst 0, 1, 0, 0, 0)), (1423, (.laload, 1, 0, 0, 0)), (1424, (.iload 6, 2, 0, 0, 0)), (1426, (.i2l, 1, 0, 0, 0)), (1427, (.lcmp, 1, 0, 0, 0)), (1428, (.ifCond .eq 5, 3, 0, 1433, 0)), (1431, (.iconst 0, 1, 0, 0, 0)), (1432, (.ireturn, 1, 0, 0, 0)), (1433, (.goto 198, 3, 0, 1631, 0)), (1436, (.aload_n 1, 1, 0, 0, 0)), (1437, (.aload_n 0, 1, 0, 0, 0)), (1438, (.iload 4, 2, 0, 0, 0)), (1440, (.iconst 1, 1, 1, 0, 0)), (1441, (.iadd, 1, 0, 0, 0)), (1442, (.iaload, 1, 0, 0, 0)), (1443, (.aload_n 3, 1, 0, 0, 0)), (1444, (.invokestatic 167, 3, 0, 207, 2)), (1447, (.istore 5, 2, 0, 0, 0)), (1449, (.aload_n 2, 1, 0, 0, 0)), (1450, (.aload_n 0, 1, 0, 0, 0)), (1451, (.iload 4, 2, 0, 0, 0)), (1453, (.iconst 1, 1, 1, 0, 0)), (1454, (.iadd, 1, 0, 0, 0)), (1455, (.iaload, 1, 0, 0, 0)), (1456, (.invokevirtual 169, 3, 0, 184, 0)), (1459, (.istore 6, 2, 0, 0, 0)), (1461, (.aload_n 2, 1, 0, 0, 0)), (1462, (.invokevirtual 96, 3, 0, 121, 0)), (1465, (.iload 5, 2, 0, 0, 0)), (1467, (.if_icmp .eq 5, 3, 0, 1472, 0)), (1470, (.iconst 0, 1, 0, 0, 0)), (1471, (.ireturn, 1, 0, 0, 0)), (1472, (.iload 5, 2, 0, 0, 0)), (1474, (.ifCond .ne 15, 3, 0, 1489, 0)), (1477, (.aload_n 3, 1, 0, 0, 0)), (1478, (.iconst 0, 1, 0, 0, 0)), (1479, (.laload, 1, 0, 0, 0)), (1480, (.iload 6, 2, 0, 0, 0)), (1482, (.i2l, 1, 0, 0, 0)), (1483, (.lcmp, 1, 0, 0, 0)), (1484, (.ifCond .eq 5, 3, 0, 1489, 0)), (1487, (.iconst 0, 1, 0, 0, 0)), (1488, (.ireturn, 1, 0, 0, 0)), (1489, (.goto 142, 3, 0, 1631, 0)), (1492, (.aload_n 1, 1, 0, 0, 0)), (1493, (.aload_n 0, 1, 0, 0, 0)), (1494, (.iload 4, 2, 0, 0, 0)), (1496, (.iconst 1, 1, 1, 0, 0)), (1497, (.iadd, 1, 0, 0, 0)), (1498, (.iaload, 1, 0, 0, 0)), (1499, (.aload_n 3, 1, 0, 0, 0)), (1500, (.invokestatic 170, 3, 0, 208, 2)), (1503, (.istore 5, 2, 0, 0, 0)), (1505, (.aload_n 2, 1, 0, 0, 0)), (1506, (.aload_n 0, 1, 0, 0, 0)), (1507, (.iload 4, 2, 0, 0, 0)), (1509, (.iconst 1, 1, 1, 0, 0)), (1510, (.iadd, 1, 0, 0, 0)), (1511, (.iaload, 1, 0, 0, 0)), (1512, (.invokevirtual 172, 3, 0, 185, 0)), (1515, (.istore 6, 2, 0, 0, 0)), (1517, (.aload_n 2, 1, 0, 0, 0)), (1518, (.invokevirtual 96, 3, 0, 121, 0)), (1521, (.iload 5, 2, 0, 0, 0)), (1523, (.if_icmp .eq 5, 3, 0, 1528, 0)), (1526, (.iconst 0, 1, 0, 0, 0)), (1527, (.ireturn, 1, 0, 0, 0)), (1528, (.iload 5, 2, 0, 0, 0)), (1530, (.ifCond .ne 15, 3, 0, 1545, 0)), (1533, (.aload_n 3, 1, 0, 0, 0)), (1534, (.iconst 0, 1, 0, 0, 0)), (1535, (.laload, 1, 0, 0, 0)), (1536, (.iload 6, 2, 0, 0, 0)), (1538, (.i2l, 1, 0, 0, 0)), (1539, (.lcmp, 1, 0, 0, 0)), (1540, (.ifCond .eq 5, 3, 0, 1545, 0)), (1543, (.iconst 0, 1, 0, 0, 0)), (1544, (.ireturn, 1, 0, 0, 0)), (1545, (.goto 86, 3, 0, 1631, 0)), (1548, (.aload_n 1, 1, 0, 0, 0)), (1549, (.invokevirtual 173, 3, 0, 26, 0)), (1552, (.aload_n 2, 1, 0, 0, 0)), (1553, (.invokevirtual 176, 3, 0, 187, 0)), (1556, (.if_icmp .eq 75, 3, 0, 1631, 0)), (1559, (.iconst 0, 1, 0, 0, 0)), (1560, (.ireturn, 1, 0, 0, 0)), (1561, (.aload_n 1, 1, 0, 0, 0)), (1562, (.aload_n 0, 1, 0, 0, 0)), (1563, (.iload 4, 2, 0, 0, 0)), (1565, (.iconst 1, 1, 1, 0, 0)), (1566, (.iadd, 1, 0, 0, 0)), (1567, (.iaload, 1, 0, 0, 0)), (1568, (.aload_n 3, 1, 0, 0, 0)), (1569, (.invokestatic 177, 3, 0, 209, 2)), (1572, (.istore 5, 2, 0, 0, 0)), (1574, (.aload_n 2, 1, 0, 0, 0)), (1575, (.aload_n 0, 1, 0, 0, 0)), (1576, (.iload 4, 2, 0, 0, 0)), (1578, (.iconst 1, 1, 1, 0, 0)), (1579, (.iadd, 1, 0, 0, 0)), (1580, (.iaload, 1, 0, 0, 0)), (1581, (.invokevirtual 179, 3, 0, 188, 0)), (1584, (.istore 6, 2, 0, 0, 0)), (1586, (.aload_n 2, 1, 0, 0, 0)), (1587, (.invokevirtual 96, 3, 0, 121, 0)), (1590, (.iload 5, 2, 0, 0, 0)), (1592, (.if_icmp .eq 5, 3, 0, 1597, 0)), (1595, (.iconst 0, 1, 0, 0, 0)), (1596, (.ireturn, 1, 0, 0, 0)), (1597, (.iload 5, 2, 0, 0, 0)), (1599, (.ifCond .ne 15, 3, 0, 1614, 0)), (1602, (.aload_n 3, 1, 0, 0, 0)), (1603, (.iconst 0, 1, 0, 0, 0)), (1604, (.laload, 1, 0, 0, 0)), (1605, (.iload 6, 2, 0, 0, 0)), (1607, (.i2l, 1, 0, 0, 0)), (1608, (.lcmp, 1, 0, 0, 0)), (1609, (.ifCond .eq 5, 3, 0, 1614, 0)), (1612, (.iconst 0, 1, 0, 0, 0)), (1613, (.ireturn, 1, 0, 0, 0)), (1614, (.goto 17, 3, 0, 1631, 0)), (1617, (.aload_n 1, 1, 0, 0, 0)), (1618, (.invokevirtual 180, 3, 0, 30, 0)), (1621, (.aload_n 2, 1, 0, 0, 0)), (1622, (.invokevirtual 184, 3, 0, 189, 0)), (1625, (.lcmp, 1, 0, 0, 0)), (1626, (.ifCond .eq 5, 3, 0, 1631, 0)), (1629, (.iconst 0, 1, 0, 0, 0)), (1630, (.ireturn, 1, 0, 0, 0)), (1631, (.iinc 4 5, 3, 5, 0, 0)), (1634, (.goto (-1611), 3, 0, 23, 0)), (1637, (.iconst 1, 1, 1, 0, 0)), (1638, (.ireturn, 1, 0, 0, 0))]
def zKs : List (List (Nat × zRI)) := [zK0, zK1, zK2, zK3, zK4, zK5, zK6, zK7, zK8, zK9, zK10, zK11, zK12, zK13, zK14, zK15, zK16, zK17, zK18, zK19, zK20, zK21, zK22, zK23, zK24, zK25, zK26, zK27, zK28, zK29, zK30, zK31, zK32, zK33, zK34, zK35, zK36, zK37, zK38, zK39, zK40, zK41, zK42, zK43, zK44, zK45, zK46, zK47, zK48, zK49, zK50, zK51, zK52, zK53, zK54, zK55, zK56, zK57, zK58, zK59, zK60, zK61, zK62, zK63, zK64, zK65, zK66, zK67, zK68, zK69, zK70, zK71, zK72, zK73, zK74, zK75, zK76, zK77, zK78, zK79, zK80, zK81, zK82, zK83, zK84, zK85, zK86, zK87, zK88, zK89, zK90, zK91, zK92, zK93, zK94, zK95, zK96, zK97, zK98, zK99, zK100, zK101, zK102, zK103, zK104, zK105, zK106, zK107, zK108, zK109, zK110, zK111, zK112, zK113, zK114, zK115, zK116, zK117, zK118, zK119, zK120, zK121, zK122, zK123, zK124, zK125, zK126, zK127, zK128, zK129, zK130, zK131, zK132, zK133, zK134, zK135, zK136, zK137, zK138, zK139, zK140, zK141, zK142, zK143, zK144, zK145, zK146, zK147, zK148, zK149, zK150, zK151, zK152, zK153, zK154, zK155, zK156, zK157, zK158, zK159, zK160, zK161, zK162, zK163, zK164, zK165, zK166, zK167, zK168, zK169, zK170, zK171, zK172, zK173, zK174, zK175, zK176, zK177, zK178, zK179, zK180, zK181, zK182, zK183, zK184, zK185, zK186, zK187, zK188, zK189, zK190, zK191, zK192, zK193, zK194, zK195, zK196, zK197, zK198, zK199, zK200, zK201, zK202, zK203, zK204, zK205, zK206, zK207, zK208, zK209, zK210]
def zcode (m pc : Nat) : Option zRI := ((zKs[m]?).getD []).lookup pc
/-- a method: how many arguments (the receiver with them), locals, kind (0 static, 1 by the receiver, 2 a constructor), class, what it answers (0 int, 1 boolean, 2 reference, 3 long, 4 nothing) -/
def zN : List (Nat × (Nat × (Nat × (Nat × Nat)))) := [(1, 1, 2, 99, 4), (1, 1, 2, 99, 4), (1, 1, 2, 8, 4), (1, 1, 1, 8, 0), (2, 2, 1, 8, 2), (2, 2, 1, 8, 2), (2, 2, 1, 8, 1), (4, 4, 1, 8, 4), (1, 1, 1, 8, 2), (2, 4, 1, 8, 2), (3, 5, 1, 8, 4), (2, 2, 1, 8, 4), (1, 4, 1, 8, 4), (2, 4, 1, 8, 2), (3, 4, 1, 8, 4), (1, 1, 1, 8, 1), (3, 4, 1, 8, 2), (2, 2, 0, 99, 2), (3, 4, 0, 99, 2), (2, 2, 0, 99, 0), (3, 4, 0, 99, 0), (3, 3, 0, 99, 0), (1, 1, 2, 6, 4), (2, 3, 1, 6, 1), (1, 1, 1, 6, 0), (1, 1, 1, 6, 0), (1, 1, 1, 6, 0), (1, 5, 1, 6, 1), (3, 3, 1, 6, 1), (1, 5, 1, 6, 1), (1, 4, 1, 6, 3), (2, 2, 0, 6, 0), (5, 5, 1, 6, 0), (3, 3, 0, 6, 4), (1, 1, 0, 6, 4), (1, 1, 0, 6, 4), (3, 3, 1, 6, 0), (1, 1, 0, 6, 4), (1, 3, 1, 6, 0), (5, 5, 1, 6, 0), (3, 5, 1, 6, 1), (2, 2, 1, 6, 2), (5, 7, 1, 6, 0), (2, 2, 1, 6, 2), (4, 6, 1, 6, 1), (2, 4, 1, 6, 0), (2, 3, 1, 6, 1), (3, 7, 1, 6, 0), (3, 8, 1, 6, 1), (2, 4, 1, 6, 1), (2, 2, 1, 6, 2), (2, 3, 1, 6, 2), (2, 3, 1, 6, 4), (2, 3, 1, 6, 0), (1, 2, 1, 6, 4), (1, 4, 1, 6, 0), (1, 4, 1, 6, 0), (3, 4, 1, 6, 0), (2, 6, 1, 6, 0), (3, 7, 1, 6, 1), (4, 5, 1, 6, 1), (3, 4, 1, 6, 0), (3, 4, 1, 6, 0), (3, 4, 1, 6, 0), (4, 6, 1, 6, 0), (2, 2, 0, 6, 2), (2, 3, 1, 6, 0), (2, 2, 1, 6, 0), (2, 2, 1, 6, 0), (2, 3, 1, 6, 0), (4, 7, 0, 6, 0), (2, 4, 1, 6, 0), (2, 2, 0, 6, 1), (1, 1, 2, 0, 4), (3, 4, 1, 0, 4), (3, 5, 1, 0, 4), (4, 5, 1, 0, 1), (2, 3, 1, 0, 1), (2, 2, 1, 0, 0), (1, 1, 1, 1, 1), (1, 1, 1, 1, 1), (1, 1, 1, 1, 0), (5, 5, 2, 1, 4), (2, 2, 1, 1, 4), (1, 1, 1, 1, 1), (1, 1, 1, 1, 0), (2, 2, 1, 1, 0), (5, 5, 2, 2, 4), (1, 1, 2, 3, 4), (5, 6, 1, 3, 1), (5, 11, 1, 3, 4), (5, 5, 1, 3, 4), (3, 3, 2, 4, 4), (1, 1, 1, 4, 1), (1, 1, 1, 4, 1), (2, 2, 1, 4, 4), (6, 6, 2, 5, 4), (2, 3, 1, 5, 1), (1, 4, 1, 5, 0), (1, 1, 1, 5, 0), (2, 4, 1, 5, 1), (1, 3, 1, 5, 0), (5, 5, 1, 5, 4), (2, 2, 1, 5, 1), (2, 3, 1, 5, 4), (2, 3, 1, 5, 4), (2, 3, 1, 5, 4), (2, 3, 1, 5, 4), (2, 4, 1, 5, 4), (1, 1, 1, 5, 4), (3, 3, 1, 5, 0), (2, 3, 1, 5, 4), (3, 4, 1, 5, 1), (2, 3, 1, 5, 0), (3, 4, 1, 5, 0), (3, 3, 1, 5, 0), (1, 3, 1, 5, 0), (1, 5, 1, 5, 0), (3, 3, 1, 5, 1), (3, 5, 1, 5, 4), (1, 1, 2, 7, 4), (1, 1, 1, 7, 0), (5, 5, 1, 7, 0), (4, 4, 1, 7, 1), (2, 3, 1, 7, 1), (3, 3, 1, 7, 0), (2, 2, 1, 7, 1), (5, 6, 1, 7, 0), (3, 4, 1, 7, 1), (2, 2, 1, 7, 1), (5, 8, 1, 7, 0), (2, 2, 1, 7, 1), (4, 5, 1, 7, 1), (2, 5, 1, 7, 0), (3, 3, 1, 7, 0), (3, 3, 1, 7, 0), (2, 3, 1, 7, 1), (3, 6, 1, 7, 0), (3, 5, 1, 7, 1), (3, 3, 1, 7, 1), (2, 3, 1, 7, 1), (3, 10, 1, 7, 4), (2, 2, 1, 7, 0), (2, 3, 1, 7, 4), (2, 5, 1, 7, 0), (2, 2, 1, 7, 0), (3, 3, 1, 7, 0), (3, 4, 1, 7, 4), (2, 8, 1, 7, 1), (2, 8, 1, 7, 4), (2, 2, 1, 7, 0), (2, 3, 1, 7, 1), (2, 3, 1, 7, 0), (2, 4, 1, 7, 0), (3, 3, 1, 7, 0), (2, 2, 1, 7, 0), (2, 2, 1, 7, 0), (2, 3, 1, 7, 4), (2, 2, 1, 7, 1), (2, 2, 1, 7, 1), (2, 3, 1, 7, 1), (2, 4, 1, 7, 4), (2, 3, 1, 7, 4), (2, 2, 1, 7, 4), (2, 3, 1, 7, 0), (1, 3, 1, 7, 4), (2, 3, 1, 7, 4), (3, 4, 1, 7, 4), (3, 3, 1, 7, 4), (2, 4, 1, 7, 4), (1, 3, 1, 7, 0), (3, 3, 1, 7, 0), (2, 5, 1, 7, 0), (3, 6, 1, 7, 1), (1, 1, 1, 7, 0), (1, 1, 1, 7, 0), (4, 4, 1, 7, 1), (3, 3, 1, 7, 0), (3, 3, 1, 7, 0), (2, 2, 1, 7, 1), (2, 2, 1, 7, 1), (3, 3, 1, 7, 0), (4, 4, 1, 7, 0), (2, 4, 1, 7, 0), (2, 2, 1, 7, 0), (2, 6, 1, 7, 0), (3, 8, 1, 7, 1), (1, 6, 1, 7, 0), (2, 5, 1, 7, 0), (1, 5, 1, 7, 3), (6, 7, 0, 99, 0), (4, 5, 0, 99, 0), (6, 7, 0, 99, 0), (4, 5, 0, 99, 0), (6, 7, 0, 99, 0), (3, 4, 0, 99, 0), (2, 3, 0, 99, 0), (3, 4, 0, 99, 0), (2, 3, 0, 99, 0), (4, 5, 0, 99, 0), (3, 4, 0, 99, 0), (5, 6, 0, 99, 0), (4, 5, 0, 99, 0), (4, 5, 0, 99, 0), (4, 5, 0, 99, 0), (5, 6, 0, 99, 0), (3, 4, 0, 99, 0), (3, 4, 0, 99, 0), (3, 4, 0, 99, 0), (3, 4, 0, 99, 0), (1, 7, 0, 99, 1)]
def zinf (m : Nat) : Nat × (Nat × (Nat × (Nat × Nat))) := (zN[m]?).getD (0, 0, 0, 0, 0)
def zHs : List ((Nat × Nat) × List (Nat × Nat)) := [((190, 9), [(9, 17), (10, 21)]), ((191, 5), [(9, 13)]), ((192, 9), [(9, 17), (10, 21)]), ((193, 5), [(11, 20)]), ((194, 9), [(11, 17), (9, 21), (10, 25)]), ((195, 4), [(11, 19), (10, 22)]), ((196, 2), [(11, 8), (10, 11)]), ((197, 4), [(9, 12), (10, 15)]), ((198, 3), [(10, 11)]), ((199, 5), [(11, 13), (9, 17)]), ((200, 4), [(11, 12)]), ((201, 7), [(11, 22), (9, 26)]), ((202, 5), [(11, 13), (9, 17)]), ((203, 5), [(11, 13), (9, 17)]), ((204, 5), [(11, 13), (9, 17)]), ((205, 7), [(11, 15), (9, 19)]), ((206, 4), [(11, 12)]), ((207, 4), [(11, 12)]), ((208, 4), [(11, 12)]), ((209, 4), [(9, 12)])]
def zhand (m pc E : Nat) : Option Nat := ((zHs.lookup (m, pc)).getD []).lookup E
end
section
/-! THE LOGICAL MACHINE: cells by their number, deterministic; zev runs the tables' code on it -/
abbrev zOb : Type := Nat × List Value
abbrev zHp : Type := List zOb
abbrev zLs : Type := List (Option Value)
abbrev zRes : Type := (Option Value) ⊕ (Nat × Nat)
abbrev zScr : Type := Option (Nat × (Nat → Int32))
/-! three references that aren't cells of the logical heap: retAddr 0 is the law's script, retAddr 1 the empty row of ArrayList, retAddr 2 the class object of Object[] -/
def zldI (ls : zLs) (k : Nat) (st : List Value) : Option (zLs × List Value) := match ls[k]? with
  | some (some (.int x)) => some (ls, .int x :: st)
  | _ => none
def zldL (ls : zLs) (k : Nat) (st : List Value) : Option (zLs × List Value) := match ls[k]? with
  | some (some (.long x)) => some (ls, .long x :: st)
  | _ => none
def zldA (ls : zLs) (k : Nat) (st : List Value) : Option (zLs × List Value) := match ls[k]? with
  | some (some (.ref x)) => some (ls, .ref x :: st)
  | some (some .null) => some (ls, .null :: st)
  | some (some (.retAddr x)) => some (ls, .retAddr x :: st)
  | _ => none
def zcat1 (v : Value) : Bool := match v with
  | .int _ => true
  | .ref _ => true
  | .null => true
  | .retAddr _ => true
  | _ => false
/-- no long stands just below the place k -/
def zclr (ls : zLs) (k : Nat) : Bool := match k with
  | 0 => true
  | j + 1 => match ls[j]? with
    | some (some v) => zcat1 v
    | _ => true
def zput (ls : zLs) (k : Nat) (v : Value) : Option zLs := if k < ls.length then (if zclr ls k = true then some (ls.set k (some v)) else none) else none
def zstI (ls : zLs) (k : Nat) (st : List Value) : Option (zLs × List Value) := match st with
  | .int x :: r => (match zput ls k (.int x) with | some l => some (l, r) | none => none)
  | _ => none
def zstA (ls : zLs) (k : Nat) (st : List Value) : Option (zLs × List Value) := match st with
  | .ref x :: r => (match zput ls k (.ref x) with | some l => some (l, r) | none => none)
  | .null :: r => (match zput ls k .null with | some l => some (l, r) | none => none)
  | .retAddr x :: r => (match zput ls k (.retAddr x) with | some l => some (l, r) | none => none)
  | _ => none
def zstL (ls : zLs) (k : Nat) (st : List Value) : Option (zLs × List Value) := match st with
  | .long x :: r => if k + 1 < ls.length then (match zput ls k (.long x) with | some l => some (l.set (k + 1) none, r) | none => none) else none
  | _ => none
def zinc (ls : zLs) (k : Nat) (v : Int32) (st : List Value) : Option (zLs × List Value) := match ls[k]? with
  | some (some (.int x)) => (match zput ls k (.int (x + v)) with | some l => some (l, st) | none => none)
  | _ => none
def zbin (ls : zLs) (st : List Value) (f : Int32 → Int32 → Int32) : Option (zLs × List Value) := match st with
  | .int y :: .int x :: r => some (ls, .int (f x y) :: r)
  | _ => none
def zbin0 (ls : zLs) (st : List Value) (f : Int32 → Int32 → Int32) : Option (zLs × List Value) := match st with
  | .int y :: .int x :: r => if y = 0 then none else some (ls, .int (f x y) :: r)
  | _ => none
def zdup (ls : zLs) (st : List Value) : Option (zLs × List Value) := match st with
  | v :: r => if zcat1 v = true then some (ls, v :: v :: r) else none
  | _ => none
def zpop (ls : zLs) (st : List Value) : Option (zLs × List Value) := match st with
  | v :: r => if zcat1 v = true then some (ls, r) else none
  | _ => none
def zdup2 (ls : zLs) (st : List Value) : Option (zLs × List Value) := match st with
  | v :: w :: r => if zcat1 v = true then (if zcat1 w = true then some (ls, v :: w :: v :: w :: r) else none) else none
  | _ => none
def zdupx (ls : zLs) (st : List Value) : Option (zLs × List Value) := match st with
  | v :: w :: r => if zcat1 v = true then (if zcat1 w = true then some (ls, v :: w :: v :: r) else none) else none
  | _ => none
def zi2l (ls : zLs) (st : List Value) : Option (zLs × List Value) := match st with
  | .int x :: r => some (ls, .long x.toInt64 :: r)
  | _ => none
def zneg (ls : zLs) (st : List Value) : Option (zLs × List Value) := match st with
  | .int x :: r => some (ls, .int (-x) :: r)
  | _ => none
def zladd (ls : zLs) (st : List Value) : Option (zLs × List Value) := match st with
  | .long y :: .long x :: r => some (ls, .long (x + y) :: r)
  | _ => none
def zlcmp (ls : zLs) (st : List Value) : Option (zLs × List Value) := match st with
  | .long y :: .long x :: r => some (ls, .int (lg_cmp x y) :: r)
  | _ => none
/-- an instruction over locals and stack alone -/
def zpure (i : Instr) (imm : Int32) (ls : zLs) (st : List Value) : Option (zLs × List Value) := match i with
  | .iconst _ => some (ls, .int imm :: st)
  | .bipush _ => some (ls, .int imm :: st)
  | .sipush _ => some (ls, .int imm :: st)
  | .ldc _ => some (ls, .int imm :: st)
  | .lconst v => some (ls, .long (Int64.ofNat (v : Nat)) :: st)
  | .aconst_null => some (ls, .null :: st)
  | .iload_n k => zldI ls (k : Nat) st
  | .iload k => zldI ls k st
  | .aload_n k => zldA ls (k : Nat) st
  | .aload k => zldA ls k st
  | .lload_n k => zldL ls (k : Nat) st
  | .lload k => zldL ls k st
  | .istore_n k => zstI ls (k : Nat) st
  | .istore k => zstI ls k st
  | .astore_n k => zstA ls (k : Nat) st
  | .astore k => zstA ls k st
  | .lstore_n k => zstL ls (k : Nat) st
  | .lstore k => zstL ls k st
  | .iinc k _ => zinc ls k imm st
  | .iadd => zbin ls st (fun x y => x + y)
  | .isub => zbin ls st (fun x y => x - y)
  | .imul => zbin ls st (fun x y => x * y)
  | .iand => zbin ls st (fun x y => x &&& y)
  | .ishr => zbin ls st (fun x y => x >>> (y &&& 31))
  | .idiv => zbin0 ls st (fun x y => x / y)
  | .irem => zbin0 ls st (fun x y => x - x / y * y)
  | .ineg => zneg ls st
  | .dup => zdup ls st
  | .pop => zpop ls st
  | .dup2 => zdup2 ls st
  | .dup_x1 => zdupx ls st
  | .i2l => zi2l ls st
  | .ladd => zladd ls st
  | .lcmp => zlcmp ls st
  | _ => none
def zcnd (c : ClassFile.Cond) (x y : Int32) : Bool := match c with
  | .eq => decide (x = y)
  | .ne => !decide (x = y)
  | .lt => decide (x < y)
  | .ge => decide (y ≤ x)
  | .gt => decide (y < x)
  | .le => decide (x ≤ y)
def zisr (v : Value) : Bool := match v with
  | .ref _ => true
  | .null => true
  | .retAddr k => decide (k = 1)
  | _ => false
/-- which way a branch goes -/
def zbr (i : Instr) (st : List Value) : Option (Bool × List Value) := match i with
  | .ifCond c _ => (match st with | .int x :: r => some (zcnd c x 0, r) | _ => none)
  | .if_icmp c _ => (match st with | .int y :: .int x :: r => some (zcnd c x y, r) | _ => none)
  | .if_acmp c _ => (match st with | y :: x :: r => if x = .retAddr 2 ∧ y = .retAddr 2 then some ((match c with | .eq => true | .ne => false), r) else if zisr x = true then (if zisr y = true then some ((match c with | .eq => decide (x = y) | .ne => !decide (x = y)), r) else none) else none | _ => none)
  | .ifnull _ => (match st with | .ref _ :: r => some (false, r) | .null :: r => some (true, r) | _ => none)
  | .ifnonnull _ => (match st with | .ref _ :: r => some (true, r) | .null :: r => some (false, r) | _ => none)
  | .goto _ => some (true, st)
  | _ => none
def zsw (i : Instr) (pc : Nat) (st : List Value) : Option (Nat × List Value) := match i with
  | .tableswitch d lo hi offs => (match st with
    | .int x :: r => if x.toInt < lo ∨ hi < x.toInt then some (((pc : Int) + d).toNat, r) else (match offs[(x.toInt - lo).toNat]? with | some o => some (((pc : Int) + o).toNat, r) | none => none)
    | _ => none)
  | _ => none
def zfits (t : Nat) (v : Value) : Bool := match t with
  | 0 => (match v with | .int _ => true | _ => false)
  | 1 => (match v with | .int x => decide (x = 0) || decide (x = 1) | _ => false)
  | 2 => zisr v
  | _ => false
def zin (i : Int32) (n : Nat) : Bool := decide (0 ≤ i) && decide (i.toNatClampNeg < n)
def zcpy (s t : List Value) (sp dp n : Nat) : List Value := t.take dp ++ ((s.drop sp).take n ++ t.drop (dp + n))
def zgetf (a b : Nat) (h : zHp) (st : List Value) : Option (zHp × List Value) := match st with
  | .ref q :: r => (match h[q]? with
    | some (c, fs) => if c = a then (match fs[b]? with | some v => some (h, v :: r) | none => none) else none
    | none => none)
  | _ => none
def zputf (a b : Nat) (h : zHp) (st : List Value) : Option (zHp × List Value) := match st with
  | v :: .ref q :: r => (match h[q]? with
    | some (c, fs) => if c = a then (if b < fs.length then (if zfits (((zfty[a]?).getD [])[b]?.getD 9) v = true then some (h.set q (c, fs.set b v), r) else none) else none) else none
    | none => none)
  | _ => none
def zald (k : Nat) (sc : zScr) (h : zHp) (st : List Value) : Option (zHp × List Value) := match st with
  | .int i :: .retAddr 0 :: r => if k = 100 then (match sc with | some (L, xs) => if zin i L = true then some (h, .int (xs i.toNatClampNeg) :: r) else none | none => none) else none
  | .int i :: .ref q :: r =>
    (match h[q]? with
    | some (c, s) => if c = k then (if zin i s.length = true then (match s[i.toNatClampNeg]? with | some v => some (h, v :: r) | none => none) else none) else none
    | none => none)
  | _ => none
/-- what may be stored into an array of kind k -/
def zafit (k : Nat) (h : zHp) (v : Value) : Bool :=
  if k = 100 then zfits 0 v else if k = 101 then zfits 1 v else if k = 102 then (match v with | .long _ => true | _ => false) else
  if k = 103 then (match v with | .null => true | .ref q => (match h[q]? with | some (c, _) => decide (c < 9) | none => false) | _ => false) else false
def zast (k : Nat) (h : zHp) (st : List Value) : Option (zHp × List Value) := match st with
  | v :: .int i :: .ref q :: r => (match h[q]? with
    | some (c, s) => if c = k then (if zin i s.length = true then (if zafit k h v = true then some (h.set q (c, s.set i.toNatClampNeg v), r) else none) else none) else none
    | none => none)
  | _ => none
def zalen (sc : zScr) (h : zHp) (st : List Value) : Option (zHp × List Value) := match st with
  | .retAddr 0 :: r => (match sc with | some (L, _) => some (h, .int (Int32.ofNat L) :: r) | none => none)
  | .retAddr 1 :: r => some (h, .int 0 :: r)
  | .ref q :: r =>
    (match h[q]? with
    | some (c, s) => if 100 ≤ c then some (h, .int (Int32.ofNat s.length) :: r) else none
    | none => none)
  | _ => none
def znew (a : Nat) (h : zHp) (st : List Value) : Option (zHp × List Value) := if a < 9 then (if h.length < 1000000 then some (h ++ [(a, (zdfs[a]?).getD [])], .ref h.length :: st) else none) else none
def znewa (a : Nat) (h : zHp) (st : List Value) : Option (zHp × List Value) := match st with
  | .int n :: r => if h.length < 1000000 then (if zin n 10000 = true then some (h ++ [(a, List.replicate n.toNatClampNeg (if a = 102 then .long 0 else if a = 103 then .null else .int 0))], .ref h.length :: r) else none) else none
  | _ => none
def zcast (a : Nat) (h : zHp) (st : List Value) : Option (zHp × List Value) := match st with
  | .ref q :: r => (match h[q]? with
    | some (c, _) => if c = a then some (h, .ref q :: r) else none
    | none => none)
  | _ => none
/-- the calls that aren't run by their code -/
def zbuilt (a : Nat) (h : zHp) (st : List Value) : Option (zHp × List Value) :=
  if a = 2000 then (match st with | .ref _ :: r => some (h, r) | _ => none) else
  if a = 2001 then (match st with | .int y :: .int x :: r => some (h, .int (if x < y then y else x) :: r) | _ => none) else
  if a = 2002 then (match st with | .int y :: .int x :: r => some (h, .int (if y < x then y else x) :: r) | _ => none) else
  if a = 2003 then (match st with | .int x :: r => some (h, .int (if 0 ≤ x then x else 0 - x) :: r) | _ => none) else
  if a = 2004 then (match st with
    | .int n :: .int dp :: .ref q1 :: .int sp :: .ref q0 :: r => (match h[q0]? with
      | some (c0, s0) => (match h[q1]? with
        | some (c1, s1) => if c0 = 103 then (if c1 = 103 then (if 0 ≤ sp ∧ 0 ≤ dp ∧ 0 ≤ n ∧ sp.toNatClampNeg + n.toNatClampNeg ≤ s0.length ∧ dp.toNatClampNeg + n.toNatClampNeg ≤ s1.length then some (h.set q1 (103, zcpy s0 s1 sp.toNatClampNeg dp.toNatClampNeg n.toNatClampNeg), r) else none) else none) else none
        | none => none)
      | none => none)
    | _ => none) else
  if a = 2005 then (match st with
    | .ref q :: r => (match h[q]? with
      | some (c, _) => if c = 103 then some (h, .retAddr 2 :: r) else none
      | none => none)
    | _ => none) else none
/-- an instruction over the heap -/
def zheap (sc : zScr) (i : Instr) (a b : Nat) (h : zHp) (st : List Value) : Option (zHp × List Value) := match i with
  | .getfield _ => zgetf a b h st
  | .putfield _ => zputf a b h st
  | .getstatic _ => some (h, .retAddr 1 :: st)
  | .ldc _ => some (h, .retAddr 2 :: st)
  | .invokevirtual _ => if st.length ≤ 12 then zbuilt a h st else none
  | .iaload => zald 100 sc h st
  | .baload => zald 101 none h st
  | .laload => zald 102 none h st
  | .aaload => zald 103 none h st
  | .iastore => zast 100 h st
  | .bastore => zast 101 h st
  | .lastore => zast 102 h st
  | .aastore => zast 103 h st
  | .arraylength => zalen sc h st
  | .new _ => znew a h st
  | .newarray _ => znewa a h st
  | .anewarray _ => znewa 103 h st
  | .checkcast _ => zcast a h st
  | .invokespecial _ => if st.length ≤ 12 then zbuilt a h st else none
  | .invokestatic _ => if st.length ≤ 12 then zbuilt a h st else none
  | _ => none
def zret (i : Instr) (rc : Nat) (st : List Value) : Option (Option Value) := match i with
  | .ireturn => (match st with | [.int x] => (if rc = 0 then some (some (.int x)) else if rc = 1 then (if x = 0 ∨ x = 1 then some (some (.int x)) else none) else none) | _ => none)
  | .areturn => (match st with | [.ref q] => (if rc = 2 then some (some (.ref q)) else none) | [.null] => (if rc = 2 then some (some .null) else none) | _ => none)
  | .lreturn => (match st with | [.long x] => (if rc = 3 then some (some (.long x)) else none) | _ => none)
  | .return_ => (match st with | [] => (if rc = 4 then some none else none) | _ => none)
  | _ => none
/-- what kind of instruction: 0 pure, 1 branch, 2 heap, 3 call, 4 return, 5 throw new, 6 switch -/
def zgrp (i : Instr) (a : Nat) : Nat := match i with
  | .ifCond _ _ => 1
  | .if_icmp _ _ => 1
  | .if_acmp _ _ => 1
  | .ifnull _ => 1
  | .ifnonnull _ => 1
  | .goto _ => 1
  | .tableswitch _ _ _ _ => 6
  | .ireturn => 4
  | .areturn => 4
  | .lreturn => 4
  | .return_ => 4
  | .getfield _ => 2
  | .putfield _ => 2
  | .getstatic _ => 2
  | .iaload => 2
  | .baload => 2
  | .laload => 2
  | .aaload => 2
  | .iastore => 2
  | .bastore => 2
  | .lastore => 2
  | .aastore => 2
  | .arraylength => 2
  | .newarray _ => 2
  | .anewarray _ => 2
  | .checkcast _ => 2
  | .new _ => if 9 ≤ a then 5 else 2
  | .invokevirtual _ => if 2000 ≤ a then 2 else 3
  | .ldc _ => if a = 1 then 2 else 0
  | .invokespecial _ => if 2000 ≤ a then 2 else 3
  | .invokestatic _ => if 2000 ≤ a then 2 else 3
  | _ => 0
def zrecv (h : zHp) (kd cl : Nat) (as : List Value) : Bool := match kd with
  | 0 => true
  | 1 => (match as with | .ref q :: _ => (match h[q]? with | some (c, _) => decide (c = cl) | none => false) | _ => false)
  | _ => (match as with | .ref q :: _ => decide (q < h.length) | _ => false)
def zent (as : List Value) (ml : Nat) : zLs := as.map some ++ List.replicate (ml - as.length) none
/-- zev n sc d m pc ls st h: with n steps, and d calls deep, from the place pc of the method m to its end -/
def zev : Nat → zScr → Nat → Nat → Nat → zLs → List Value → zHp → Option (zRes × zHp)
  | 0, _, _, _, _, _, _, _ => none
  | n + 1, sc, d, m, pc, ls, st, h => match zcode m pc with
    | none => none
    | some (i, len, imm, a, b) =>
      if zgrp i a = 0 then (match zpure i imm ls st with | some (ls', st') => zev n sc d m (pc + len) ls' st' h | none => none)
      else if zgrp i a = 1 then (match zbr i st with | some (t, st') => zev n sc d m (if t = true then a else pc + len) ls st' h | none => none)
      else if zgrp i a = 2 then (match zheap sc i a b h st with | some (h', st') => zev n sc d m (pc + len) ls st' h' | none => none)
      else if zgrp i a = 3 then (match d with
        | 0 => none
        | d' + 1 =>
          if (zinf a).1 ≤ st.length ∧ (st.drop (zinf a).1).length ≤ 4 ∧ ((st.take (zinf a).1).reverse.all zcat1) = true ∧ (zinf a).1 ≤ (zinf a).2.1 ∧ zrecv h (zinf a).2.2.1 (zinf a).2.2.2.1 (st.take (zinf a).1).reverse = true then
            (match zev n none d' a 0 (zent (st.take (zinf a).1).reverse (zinf a).2.1) [] h with
            | none => none
            | some (.inl v, h1) => zev n sc (d' + 1) m (pc + len) ls (v.toList ++ st.drop (zinf a).1) h1
            | some (.inr (E, q), h1) => (match zhand m pc E with
              | some t => zev n sc (d' + 1) m t ls [.ref q] h1
              | none => some (.inr (E, q), h1)))
          else none)
      else if zgrp i a = 4 then (match zret i (zinf m).2.2.2.2 st with | some v => some (.inl v, h) | none => none)
      else if zgrp i a = 5 then (if h.length < 1000000 ∧ st.length = 0 then some (.inr (a, h.length), h ++ [(a, [])]) else none)
      else (match zsw i pc st with | some (t, st') => zev n sc d m t ls st' h | none => none)
end
section
/-! HOW THE LOGICAL MACHINE STANDS TO THE REAL ONE -/
def zV (em : Nat → Nat) (scb : Nat) (ws : va_W) (v v' : Value) : Prop := match v with
  | .ref k => ∃ (a : Nat) (e : va_E), ws[k]? = some (a, e) ∧ v' = .ref a
  | .retAddr k => v' = .ref (if k = 0 then scb else em k)
  | x => v' = x
def zSt (em : Nat → Nat) (scb : Nat) (ws : va_W) : List Value → List Value → Prop
  | [], [] => True
  | v :: r, v' :: r' => zV em scb ws v v' ∧ zSt em scb ws r r'
  | _, _ => False
def zL (em : Nat → Nat) (scb : Nat) (ws : va_W) (ls : zLs) (arr : Array Slot) : Prop := arr.size = ls.length ∧ lv_wf arr ∧ ∀ (i : Nat) (v : Value), ls[i]? = some (some v) → ∃ v', zV em scb ws v v' ∧ arr[i]? = some (.val v')
def zX (em : Nat → Nat) (scb : Nat) (ws : va_W) (tys : List (ClassId × FieldType)) (ob : zOb) (e : va_E) : Prop :=
  (ob.1 < 12 ∧ ∃ fs : List Value, e = .inr (ob.1, fs) ∧ fs.length = ob.2.length ∧ ∀ (j : Nat) (v : Value), ob.2[j]? = some v → ∃ v', fs[j]? = some v' ∧ zV em scb ws v v') ∨
  (ob.1 = 100 ∧ ∃ (cA : ClassId) (t : Nat) (f : Nat → Int32), e = .inl (cA, ob.2.length, .inl f) ∧ tys[t]? = some (cA, .int) ∧ ∀ j, j < ob.2.length → ob.2[j]? = some (.int (f j))) ∨
  (ob.1 = 101 ∧ ∃ (cA : ClassId) (t : Nat) (f : Nat → Int32), e = .inl (cA, ob.2.length, .inl f) ∧ tys[t]? = some (cA, .boolean) ∧ ∀ j, j < ob.2.length → ob.2[j]? = some (.int (f j))) ∨
  (ob.1 = 102 ∧ ∃ (cA : ClassId) (t : Nat) (f : Nat → Int64), e = .inl (cA, ob.2.length, .inr (.inl f)) ∧ tys[t]? = some (cA, .long) ∧ ∀ j, j < ob.2.length → ob.2[j]? = some (.long (f j))) ∨
  (ob.1 = 103 ∧ ∃ (cA : ClassId) (t : Nat) (f : Nat → Option Nat), e = .inl (cA, ob.2.length, .inr (.inr (.inr (.inr f)))) ∧ tys[t]? = some (cA, .object "java/lang/Object") ∧ ∀ j, j < ob.2.length → ∃ v, ob.2[j]? = some v ∧ (v = .null ∨ ∃ q c s e0, v = .ref q ∧ ws[q]? = some (e0, .inr (c, s)) ∧ c < 9) ∧ zV em scb ws v (va_rf (f j)))
def zR (em : Nat → Nat) (scb : Nat) (ws : va_W) (tys : List (ClassId × FieldType)) (h : zHp) : Prop := ws.length = h.length ∧ ∀ (k : Nat) (ob : zOb), h[k]? = some ob → ∃ (a : Nat) (e : va_E), ws[k]? = some (a, e) ∧ zX em scb ws tys ob e
/-- every cell stays at its address, an object stays an object of its class; new ones come behind -/
def zLe (ws ws' : va_W) : Prop := ∀ (k a : Nat) (e : va_E), ws[k]? = some (a, e) → ∃ e', ws'[k]? = some (a, e') ∧ ∀ c s, e = .inr (c, s) → ∃ s', e' = .inr (c, s')
theorem zLe.rf {ws : va_W} : zLe ws ws := fun _ _ e h => ⟨e, h, fun c s q => ⟨s, q⟩⟩
theorem zLe.tr {w1 w2 w3 : va_W} (h : zLe w1 w2) (g : zLe w2 w3) : zLe w1 w3 := fun k a e hk => by
  obtain ⟨e', h1, h2⟩ := h k a e hk
  obtain ⟨e2, g1, g2⟩ := g k a e' h1
  refine ⟨e2, g1, fun c s q => ?_⟩
  obtain ⟨s', q'⟩ := h2 c s q
  exact g2 c s' q'
theorem zV.le {em : Nat → Nat} {scb : Nat} {ws ws' : va_W} (hl : zLe ws ws') {v v' : Value} (h : zV em scb ws v v') : zV em scb ws' v v' := by
  cases v with
  | ref k =>
    obtain ⟨a, e, h1, h2⟩ := h
    obtain ⟨e', h3, -⟩ := hl k a e h1
    exact ⟨a, e', h3, h2⟩
  | _ => exact h
theorem zSt.le {em : Nat → Nat} {scb : Nat} {ws ws' : va_W} (hl : zLe ws ws') : ∀ {st st' : List Value}, zSt em scb ws st st' → zSt em scb ws' st st'
  | [], [], _ => trivial
  | v :: r, v' :: r', h => ⟨h.1.le hl, zSt.le hl h.2⟩
  | [], _ :: _, h => h.elim
  | _ :: _, [], h => h.elim
theorem zL.le {em : Nat → Nat} {scb : Nat} {ws ws' : va_W} (hl : zLe ws ws') {ls : zLs} {arr : Array Slot} (h : zL em scb ws ls arr) : zL em scb ws' ls arr := ⟨h.1, h.2.1, fun i v q => by
  obtain ⟨v', h1, h2⟩ := h.2.2 i v q
  exact ⟨v', h1.le hl, h2⟩⟩
theorem zSt.len {em : Nat → Nat} {scb : Nat} {ws : va_W} : ∀ {st st' : List Value}, zSt em scb ws st st' → st'.length = st.length
  | [], [], _ => rfl
  | v :: r, v' :: r', h => by
    have := zSt.len h.2
    simp only [List.length_cons, this]
  | [], _ :: _, h => h.elim
  | _ :: _, [], h => h.elim
theorem zSt.take {em : Nat → Nat} {scb : Nat} {ws : va_W} : ∀ (n : Nat) {st st' : List Value}, zSt em scb ws st st' → zSt em scb ws (st.take n) (st'.take n)
  | 0, _, _, _ => by simp [zSt]
  | n + 1, [], [], _ => by simp [zSt]
  | n + 1, v :: r, v' :: r', h => ⟨h.1, zSt.take n h.2⟩
  | n + 1, [], _ :: _, h => h.elim
  | n + 1, _ :: _, [], h => h.elim
theorem zSt.drop {em : Nat → Nat} {scb : Nat} {ws : va_W} : ∀ (n : Nat) {st st' : List Value}, zSt em scb ws st st' → zSt em scb ws (st.drop n) (st'.drop n)
  | 0, _, _, h => h
  | n + 1, [], [], _ => by simp [zSt]
  | n + 1, v :: r, v' :: r', h => zSt.drop n h.2
  | n + 1, [], _ :: _, h => h.elim
  | n + 1, _ :: _, [], h => h.elim
theorem zSt.app {em : Nat → Nat} {scb : Nat} {ws : va_W} : ∀ {a a' b b' : List Value}, zSt em scb ws a a' → zSt em scb ws b b' → zSt em scb ws (a ++ b) (a' ++ b')
  | [], [], _, _, _, h => h
  | v :: r, v' :: r', _, _, h, g => ⟨h.1, zSt.app h.2 g⟩
  | [], _ :: _, _, _, h, _ => h.elim
  | _ :: _, [], _, _, h, _ => h.elim
theorem zSt.rev {em : Nat → Nat} {scb : Nat} {ws : va_W} : ∀ {a a' : List Value}, zSt em scb ws a a' → zSt em scb ws a.reverse a'.reverse
  | [], [], _ => by simp [zSt]
  | v :: r, v' :: r', h => by
    rw [List.reverse_cons, List.reverse_cons]
    exact zSt.app (zSt.rev h.2) ⟨h.1, trivial⟩
  | [], _ :: _, h => h.elim
  | _ :: _, [], h => h.elim
theorem zSt.get {em : Nat → Nat} {scb : Nat} {ws : va_W} : ∀ {a a' : List Value}, zSt em scb ws a a' → ∀ (i : Nat) (v : Value), a[i]? = some v → ∃ v', a'[i]? = some v' ∧ zV em scb ws v v'
  | [], [], _, i, v, h => by simp at h
  | w :: r, w' :: r', h, i, v, hi => by
    cases i with
    | zero => simp at hi; subst hi; exact ⟨w', by simp, h.1⟩
    | succ i => simpa using zSt.get h.2 i v (by simpa using hi)
  | [], _ :: _, h, _, _, _ => h.elim
  | _ :: _, [], h, _, _, _ => h.elim
theorem zV.cat {em : Nat → Nat} {scb : Nat} {ws : va_W} {v v' : Value} (h : zV em scb ws v v') (hc : zcat1 v = true) : v'.category = 1 := by
  cases v with
  | int x => have h : v' = .int x := h; subst h; rfl
  | ref k => obtain ⟨a, e, -, rfl⟩ := h; rfl
  | null => have h : v' = .null := h; subst h; rfl
  | retAddr k => have h : v' = _ := h; subst h; rfl
  | long x => simp [zcat1] at hc
  | float x => simp [zcat1] at hc
  | double x => simp [zcat1] at hc
/-- all that an array of locals holds -/
def zall (arr : Array Slot) : List (Nat × Value) := (List.range arr.size).filterMap (fun j => match (arr[j]? : Option Slot) with | some (Slot.val v) => some (j, v) | _ => none)
theorem zall_mem {arr : Array Slot} {j : Nat} {v : Value} : (j, v) ∈ zall arr ↔ arr[j]? = some (.val v) := by
  unfold zall
  rw [List.mem_filterMap]
  constructor
  · rintro ⟨k, -, hk⟩
    cases ha : arr[k]? with
    | none => rw [ha] at hk; simp at hk
    | some x =>
      rw [ha] at hk
      cases x with
      | val w => simp at hk; obtain ⟨rfl, rfl⟩ := hk; exact ha
      | unset => simp at hk
      | second => simp at hk
  · intro ha
    exact ⟨j, List.mem_range.mpr (Array.getElem?_eq_some_iff.mp ha).1, by rw [ha]⟩
theorem zall_has {arr : Array Slot} (hw : lv_wf arr) : lv_has arr arr.size (zall arr) := ⟨rfl, hw, fun q hq => zall_mem.mp hq⟩
theorem zput_spec {ls l : zLs} {k : Nat} {v : Value} (h : zput ls k v = some l) : k < ls.length ∧ zclr ls k = true ∧ l = ls.set k (some v) := by
  unfold zput at h
  split at h
  · split at h
    · cases h; exact ⟨by assumption, by assumption, rfl⟩
    · cases h
  · cases h
/-- a value of one place is stored -/
theorem zL.put {em : Nat → Nat} {scb : Nat} {ws : va_W} {ls l : zLs} {arr arr' : Array Slot} {k : Nat} {v v' : Value} (hL : zL em scb ws ls arr) (hp : zput ls k v = some l) (hv : zV em scb ws v v')
    (ha : lv_has arr' arr.size ((k, v') :: (zall arr).filter (fun q => !(q.1 == k) && !(q.1 + 1 == k && q.2.category == 2)))) : zL em scb ws l arr' := by
  obtain ⟨h1, h2, rfl⟩ := zput_spec hp
  refine ⟨by rw [ha.1, hL.1]; simp, ha.2.1, fun i w hi => ?_⟩
  by_cases hik : i = k
  · subst hik
    rw [List.getElem?_set_self h1] at hi
    cases hi
    exact ⟨v', hv, ha.2.2 (i, v') List.mem_cons_self⟩
  · rw [List.getElem?_set_ne (Ne.symm hik)] at hi
    obtain ⟨w', hw, hai⟩ := hL.2.2 i w hi
    refine ⟨w', hw, ha.2.2 (i, w') (List.mem_cons_of_mem _ (List.mem_filter.mpr ⟨zall_mem.mpr hai, ?_⟩))⟩
    by_cases h3 : i + 1 = k
    · subst h3
      have h2' : zcat1 w = true := by
        unfold zclr at h2
        simpa only [hi] using h2
      have hc : w'.category = 1 := hw.cat h2'
      simp [hc]
    · simp [hik, h3]
/-- a long is stored -/
theorem zL.putL {em : Nat → Nat} {scb : Nat} {ws : va_W} {ls l : zLs} {arr arr' : Array Slot} {k : Nat} {x : Int64} (hL : zL em scb ws ls arr) (hp : zput ls k (.long x) = some l) (hk1 : k + 1 < ls.length)
    (ha : lv_has arr' arr.size ((k, .long x) :: (zall arr).filter (fun q => !(q.1 == k) && (!(q.1 == k + 1) && !(q.1 + 1 == k && q.2.category == 2))))) : zL em scb ws (l.set (k + 1) none) arr' := by
  obtain ⟨h1, h2, rfl⟩ := zput_spec hp
  refine ⟨by rw [ha.1, hL.1]; simp, ha.2.1, fun i w hi => ?_⟩
  by_cases hi1 : i = k + 1
  · subst hi1
    rw [List.getElem?_set_self (by simpa using hk1)] at hi
    cases hi
  · rw [List.getElem?_set_ne (Ne.symm hi1)] at hi
    by_cases hik : i = k
    · subst hik
      rw [List.getElem?_set_self h1] at hi
      cases hi
      exact ⟨.long x, rfl, ha.2.2 (i, .long x) List.mem_cons_self⟩
    · rw [List.getElem?_set_ne (Ne.symm hik)] at hi
      obtain ⟨w', hw, hai⟩ := hL.2.2 i w hi
      refine ⟨w', hw, ha.2.2 (i, w') (List.mem_cons_of_mem _ (List.mem_filter.mpr ⟨zall_mem.mpr hai, ?_⟩))⟩
      by_cases h3 : i + 1 = k
      · subst h3
        have h2' : zcat1 w = true := by
          unfold zclr at h2
          simpa only [hi] using h2
        have hc : w'.category = 1 := hw.cat h2'
        simp [hc, hi1]
      · simp [hik, h3, hi1]
end
section
/-! ONE STEP OVER LOCALS AND STACK -/
def zlen (i : Instr) : Nat := match i with
  | .bipush _ => 2
  | .sipush _ => 3
  | .ldc _ => 2
  | .iload _ => 2
  | .aload _ => 2
  | .lload _ => 2
  | .istore _ => 2
  | .astore _ => 2
  | .lstore _ => 2
  | .iinc _ _ => 3
  | .ifCond _ _ => 3
  | .if_icmp _ _ => 3
  | .if_acmp _ _ => 3
  | .ifnull _ => 3
  | .ifnonnull _ => 3
  | .goto _ => 3
  | .getfield _ => 3
  | .putfield _ => 3
  | .getstatic _ => 3
  | .new _ => 3
  | .newarray _ => 2
  | .anewarray _ => 3
  | .checkcast _ => 3
  | .invokevirtual _ => 3
  | .invokespecial _ => 3
  | .invokestatic _ => 3
  | _ => 1
def zimm (i : Instr) (imm : Int32) : Bool := match i with
  | .iconst n => decide (Int32.ofInt n = imm)
  | .bipush n => decide ((Int8.ofInt n).toInt32 = imm)
  | .sipush n => decide ((Int16.ofInt n).toInt32 = imm)
  | .iinc _ n => decide (Int32.ofInt n = imm)
  | _ => true
theorem zldI_spec {ls l : zLs} {k : Nat} {st st2 : List Value} (h : zldI ls k st = some (l, st2)) : ∃ x, ls[k]? = some (some (.int x)) ∧ l = ls ∧ st2 = .int x :: st := by
  unfold zldI at h; split at h
  · rename_i x hx; cases h; exact ⟨x, hx, rfl, rfl⟩
  · cases h
theorem zldL_spec {ls l : zLs} {k : Nat} {st st2 : List Value} (h : zldL ls k st = some (l, st2)) : ∃ x, ls[k]? = some (some (.long x)) ∧ l = ls ∧ st2 = .long x :: st := by
  unfold zldL at h; split at h
  · rename_i x hx; cases h; exact ⟨x, hx, rfl, rfl⟩
  · cases h
theorem zldA_spec {ls l : zLs} {k : Nat} {st st2 : List Value} (h : zldA ls k st = some (l, st2)) : ∃ v, ls[k]? = some (some v) ∧ l = ls ∧ st2 = v :: st ∧ ((∃ x, v = .ref x) ∨ v = .null ∨ ∃ x, v = .retAddr x) := by
  unfold zldA at h; split at h
  · rename_i x hx; cases h; exact ⟨_, hx, rfl, rfl, Or.inl ⟨x, rfl⟩⟩
  · rename_i hx; cases h; exact ⟨_, hx, rfl, rfl, Or.inr (Or.inl rfl)⟩
  · rename_i x hx; cases h; exact ⟨_, hx, rfl, rfl, Or.inr (Or.inr ⟨x, rfl⟩)⟩
  · cases h
theorem zstI_spec {ls l : zLs} {k : Nat} {st st2 : List Value} (h : zstI ls k st = some (l, st2)) : ∃ x, st = .int x :: st2 ∧ zput ls k (.int x) = some l := by
  unfold zstI at h; split at h
  · split at h
    · cases h; exact ⟨_, rfl, by assumption⟩
    · cases h
  · cases h
theorem zstA_spec {ls l : zLs} {k : Nat} {st st2 : List Value} (h : zstA ls k st = some (l, st2)) : ∃ v, st = v :: st2 ∧ zput ls k v = some l ∧ ((∃ x, v = .ref x) ∨ v = .null ∨ ∃ x, v = .retAddr x) := by
  unfold zstA at h; split at h
  · split at h
    · cases h; exact ⟨_, rfl, by assumption, Or.inl ⟨_, rfl⟩⟩
    · cases h
  · split at h
    · cases h; exact ⟨_, rfl, by assumption, Or.inr (Or.inl rfl)⟩
    · cases h
  · split at h
    · cases h; exact ⟨_, rfl, by assumption, Or.inr (Or.inr ⟨_, rfl⟩)⟩
    · cases h
  · cases h
theorem zstL_spec {ls l : zLs} {k : Nat} {st st2 : List Value} (h : zstL ls k st = some (l, st2)) : ∃ x l0, st = .long x :: st2 ∧ k + 1 < ls.length ∧ zput ls k (.long x) = some l0 ∧ l = l0.set (k + 1) none := by
  unfold zstL at h; split at h
  · split at h
    · split at h
      · cases h; exact ⟨_, _, rfl, by assumption, by assumption, rfl⟩
      · cases h
    · cases h
  · cases h
theorem zinc_spec {ls l : zLs} {k : Nat} {v : Int32} {st st2 : List Value} (h : zinc ls k v st = some (l, st2)) : ∃ x, ls[k]? = some (some (.int x)) ∧ zput ls k (.int (x + v)) = some l ∧ st2 = st := by
  unfold zinc at h; split at h
  · split at h
    · cases h; exact ⟨_, by assumption, by assumption, rfl⟩
    · cases h
  · cases h
theorem zbin_spec {ls l : zLs} {st st2 : List Value} {f : Int32 → Int32 → Int32} (h : zbin ls st f = some (l, st2)) : ∃ x y r, st = .int y :: .int x :: r ∧ l = ls ∧ st2 = .int (f x y) :: r := by
  unfold zbin at h; split at h
  · cases h; exact ⟨_, _, _, rfl, rfl, rfl⟩
  · cases h
theorem zbin0_spec {ls l : zLs} {st st2 : List Value} {f : Int32 → Int32 → Int32} (h : zbin0 ls st f = some (l, st2)) : ∃ x y r, st = .int y :: .int x :: r ∧ ¬ y = 0 ∧ l = ls ∧ st2 = .int (f x y) :: r := by
  unfold zbin0 at h; split at h
  · split at h
    · cases h
    · rename_i hy; cases h; exact ⟨_, _, _, rfl, hy, rfl, rfl⟩
  · cases h
theorem zdup_spec {ls l : zLs} {st st2 : List Value} (h : zdup ls st = some (l, st2)) : ∃ v r, st = v :: r ∧ zcat1 v = true ∧ l = ls ∧ st2 = v :: v :: r := by
  unfold zdup at h; split at h
  · split at h
    · rename_i hc; cases h; exact ⟨_, _, rfl, hc, rfl, rfl⟩
    · cases h
  · cases h
theorem zpop_spec {ls l : zLs} {st st2 : List Value} (h : zpop ls st = some (l, st2)) : ∃ v, st = v :: st2 ∧ zcat1 v = true ∧ l = ls := by
  unfold zpop at h; split at h
  · split at h
    · rename_i hc; cases h; exact ⟨_, rfl, hc, rfl⟩
    · cases h
  · cases h
theorem zdup2_spec {ls l : zLs} {st st2 : List Value} (h : zdup2 ls st = some (l, st2)) : ∃ v w r, st = v :: w :: r ∧ zcat1 v = true ∧ zcat1 w = true ∧ l = ls ∧ st2 = v :: w :: v :: w :: r := by
  unfold zdup2 at h; split at h
  · split at h
    · split at h
      · rename_i h1 h2; cases h; exact ⟨_, _, _, rfl, h1, h2, rfl, rfl⟩
      · cases h
    · cases h
  · cases h
theorem zdupx_spec {ls l : zLs} {st st2 : List Value} (h : zdupx ls st = some (l, st2)) : ∃ v w r, st = v :: w :: r ∧ zcat1 v = true ∧ zcat1 w = true ∧ l = ls ∧ st2 = v :: w :: v :: r := by
  unfold zdupx at h; split at h
  · split at h
    · split at h
      · rename_i h1 h2; cases h; exact ⟨_, _, _, rfl, h1, h2, rfl, rfl⟩
      · cases h
    · cases h
  · cases h
theorem zSt.int {em : Nat → Nat} {scb : Nat} {ws : va_W} {x : Int32} {r st' : List Value} (h : zSt em scb ws (.int x :: r) st') : ∃ r', st' = .int x :: r' ∧ zSt em scb ws r r' := by
  cases st' with
  | nil => exact h.elim
  | cons v' r' => obtain ⟨h1, h2⟩ := h; have h1 : v' = .int x := h1; subst h1; exact ⟨r', rfl, h2⟩
theorem zSt.long {em : Nat → Nat} {scb : Nat} {ws : va_W} {x : Int64} {r st' : List Value} (h : zSt em scb ws (.long x :: r) st') : ∃ r', st' = .long x :: r' ∧ zSt em scb ws r r' := by
  cases st' with
  | nil => exact h.elim
  | cons v' r' => obtain ⟨h1, h2⟩ := h; have h1 : v' = .long x := h1; subst h1; exact ⟨r', rfl, h2⟩
theorem zSt.any {em : Nat → Nat} {scb : Nat} {ws : va_W} {v : Value} {r st' : List Value} (h : zSt em scb ws (v :: r) st') : ∃ v' r', st' = v' :: r' ∧ zV em scb ws v v' ∧ zSt em scb ws r r' := by
  cases st' with
  | nil => exact h.elim
  | cons v' r' => exact ⟨v', r', rfl, h.1, h.2⟩
theorem zV.rn {em : Nat → Nat} {scb : Nat} {ws : va_W} {v v' : Value} (h : zV em scb ws v v') (hc : (∃ x, v = .ref x) ∨ v = .null ∨ ∃ x, v = .retAddr x) : (∃ a, v' = .ref a) ∨ v' = .null := by
  rcases hc with ⟨x, rfl⟩ | rfl | ⟨x, rfl⟩
  · obtain ⟨a, e, -, h2⟩ := h; exact Or.inl ⟨a, h2⟩
  · exact Or.inr h
  · exact Or.inl ⟨_, h⟩
section
variable {p : Program} {l : Launch} {e : Env} {R : Room} {s : State} {m : MethodId} {args : Array Value} {below : List Frame} {meth : Method} {c : Code} {H : Heap} {locs : List Loc} {cells slots : Nat} {Q : State → Prop}
variable {cc : ByteArray} {pc : Nat}
set_option maxHeartbeats 4000000 in
theorem z_pure {em : Nat → Nat} {scb : Nat} {ws : va_W} {own : String} {i : Instr} {imm : Int32} {ls ls' : zLs} {st st2 : List Value} {arr : Array Slot} {st' : List Value} (hx : p.tables.exec = Jvm.exec) (hb : c.code = cc) (hown : s.vm.findClass own = some m.cls)
    (hp : zpure i imm ls st = some (ls', st2)) (hd : decode cc pc = .ok (i, zlen i)) (hi : zimm i imm = true) (hldc : ∀ k, i = .ldc k → (Jvm.Cond.constant own k imm).before args s = true)
    (hL : zL em scb ws ls arr) (hS : zSt em scb ws st st')
    (kk : ∀ (arr' : Array Slot) (st2' : List Value), zL em scb ws ls' arr' → zSt em scb ws st2 st2' → W p l e R s m args below meth c H locs cells slots Q (F0 m (pc + zlen i) arr' st2')) :
    W p l e R s m args below meth c H locs cells slots Q (F0 m pc arr st') := by
  have hasz : arr.size = arr.size := rfl
  have hwf := hL.2.1
  have hall := zall_has hwf
  have stI : ∀ {k : Nat} {x : Int32} {l0 : zLs}, zput ls k (.int x) = some l0 → k < arr.size := fun h => by rw [hL.1]; exact (zput_spec h).1
  unfold zpure at hp
  split at hp
  · cases hp
    exact lv_iconst hx hb hd (of_decide_eq_true hi) (kk _ _ hL ⟨rfl, hS⟩)
  · cases hp
    exact lv_bipush hx hb hd (of_decide_eq_true hi) (kk _ _ hL ⟨rfl, hS⟩)
  · cases hp
    exact lv_sipush hx hb hd (of_decide_eq_true hi) (kk _ _ hL ⟨rfl, hS⟩)
  · rename_i k
    cases hp
    exact lv_ldc hx hb hown (hldc k rfl) hd (kk _ _ hL ⟨rfl, hS⟩)
  · cases hp
    exact lv_lconst hx hb hd rfl (kk _ _ hL ⟨rfl, hS⟩)
  · cases hp
    exact lv_null hx hb hd (kk _ _ hL ⟨rfl, hS⟩)
  · obtain ⟨x, h1, rfl, rfl⟩ := zldI_spec hp
    obtain ⟨v', h2, h3⟩ := hL.2.2 _ _ h1
    have h2 : v' = .int x := h2
    subst h2
    exact lv_iload_n hx hb hd rfl h3 (kk _ _ hL ⟨rfl, hS⟩)
  · obtain ⟨x, h1, rfl, rfl⟩ := zldI_spec hp
    obtain ⟨v', h2, h3⟩ := hL.2.2 _ _ h1
    have h2 : v' = .int x := h2
    subst h2
    exact lv_iload hx hb hd h3 (kk _ _ hL ⟨rfl, hS⟩)
  · obtain ⟨v, h1, rfl, rfl, hc⟩ := zldA_spec hp
    obtain ⟨v', h2, h3⟩ := hL.2.2 _ _ h1
    rcases h2.rn hc with ⟨a, rfl⟩ | rfl
    · exact lv_aload_n hx hb hd rfl h3 (kk _ _ hL ⟨h2, hS⟩)
    · exact lv_aload_nN hx hb hd rfl h3 (kk _ _ hL ⟨h2, hS⟩)
  · obtain ⟨v, h1, rfl, rfl, hc⟩ := zldA_spec hp
    obtain ⟨v', h2, h3⟩ := hL.2.2 _ _ h1
    rcases h2.rn hc with ⟨a, rfl⟩ | rfl
    · exact lv_aload hx hb hd h3 (kk _ _ hL ⟨h2, hS⟩)
    · exact lv_aloadN hx hb hd h3 (kk _ _ hL ⟨h2, hS⟩)
  · obtain ⟨x, h1, rfl, rfl⟩ := zldL_spec hp
    obtain ⟨v', h2, h3⟩ := hL.2.2 _ _ h1
    have h2 : v' = .long x := h2
    subst h2
    exact lv_lload_n hx hb hd rfl h3 (kk _ _ hL ⟨rfl, hS⟩)
  · obtain ⟨x, h1, rfl, rfl⟩ := zldL_spec hp
    obtain ⟨v', h2, h3⟩ := hL.2.2 _ _ h1
    have h2 : v' = .long x := h2
    subst h2
    exact lv_lload hx hb hd h3 (kk _ _ hL ⟨rfl, hS⟩)
  · obtain ⟨x, rfl, h1⟩ := zstI_spec hp
    obtain ⟨r', rfl, hr⟩ := hS.int
    exact lv_istore_n hx hb hd rfl hall (stI h1) rfl (fun a' ha => kk _ _ (hL.put h1 rfl ha) hr)
  · obtain ⟨x, rfl, h1⟩ := zstI_spec hp
    obtain ⟨r', rfl, hr⟩ := hS.int
    exact lv_istore hx hb hd hall (stI h1) rfl (fun a' ha => kk _ _ (hL.put h1 rfl ha) hr)
  · obtain ⟨v, rfl, h1, hc⟩ := zstA_spec hp
    obtain ⟨v', r', rfl, hv, hr⟩ := hS.any
    have hk := (zput_spec h1).1
    rw [← hL.1] at hk
    rcases hv.rn hc with ⟨a, rfl⟩ | rfl
    · exact lv_astore_n hx hb hd rfl hall hk rfl (fun a' ha => kk _ _ (hL.put h1 hv ha) hr)
    · exact lv_astore_nN hx hb hd rfl hall hk rfl (fun a' ha => kk _ _ (hL.put h1 hv ha) hr)
  · obtain ⟨v, rfl, h1, hc⟩ := zstA_spec hp
    obtain ⟨v', r', rfl, hv, hr⟩ := hS.any
    have hk := (zput_spec h1).1
    rw [← hL.1] at hk
    rcases hv.rn hc with ⟨a, rfl⟩ | rfl
    · exact lv_astore hx hb hd hall hk rfl (fun a' ha => kk _ _ (hL.put h1 hv ha) hr)
    · exact lv_astoreN hx hb hd hall hk rfl (fun a' ha => kk _ _ (hL.put h1 hv ha) hr)
  · obtain ⟨x, l0, rfl, h0, h1, rfl⟩ := zstL_spec hp
    obtain ⟨r', rfl, hr⟩ := hS.long
    exact lv_lstore_n hx hb hd rfl hall (by rw [hL.1]; exact h0) rfl (fun a' ha => kk _ _ (hL.putL h1 h0 ha) hr)
  · obtain ⟨x, l0, rfl, h0, h1, rfl⟩ := zstL_spec hp
    obtain ⟨r', rfl, hr⟩ := hS.long
    exact lv_lstore hx hb hd hall (by rw [hL.1]; exact h0) rfl (fun a' ha => kk _ _ (hL.putL h1 h0 ha) hr)
  · obtain ⟨x, h1, h2, rfl⟩ := zinc_spec hp
    obtain ⟨v', h3, h4⟩ := hL.2.2 _ _ h1
    have h3 : v' = .int x := h3
    subst h3
    obtain ⟨k, hk⟩ := List.getElem?_of_mem (zall_mem.mpr h4)
    exact lv_iinc hx hb hd hall hk (by rw [of_decide_eq_true hi]) (stI h2) rfl (fun a' ha => kk _ _ (hL.put h2 rfl ha) hS)
  · obtain ⟨x, y, r, rfl, rfl, rfl⟩ := zbin_spec hp
    obtain ⟨r1, rfl, hr1⟩ := hS.int
    obtain ⟨r', rfl, hr⟩ := hr1.int
    exact lv_iadd hx hb hd (kk _ _ hL ⟨rfl, hr⟩)
  · obtain ⟨x, y, r, rfl, rfl, rfl⟩ := zbin_spec hp
    obtain ⟨r1, rfl, hr1⟩ := hS.int
    obtain ⟨r', rfl, hr⟩ := hr1.int
    exact lv_isub hx hb hd (kk _ _ hL ⟨rfl, hr⟩)
  · obtain ⟨x, y, r, rfl, rfl, rfl⟩ := zbin_spec hp
    obtain ⟨r1, rfl, hr1⟩ := hS.int
    obtain ⟨r', rfl, hr⟩ := hr1.int
    exact lv_imul hx hb hd (kk _ _ hL ⟨rfl, hr⟩)
  · obtain ⟨x, y, r, rfl, rfl, rfl⟩ := zbin_spec hp
    obtain ⟨r1, rfl, hr1⟩ := hS.int
    obtain ⟨r', rfl, hr⟩ := hr1.int
    exact lv_iand hx hb hd (kk _ _ hL ⟨rfl, hr⟩)
  · obtain ⟨x, y, r, rfl, rfl, rfl⟩ := zbin_spec hp
    obtain ⟨r1, rfl, hr1⟩ := hS.int
    obtain ⟨r', rfl, hr⟩ := hr1.int
    exact lv_ishr hx hb hd (kk _ _ hL ⟨rfl, hr⟩)
  · obtain ⟨x, y, r, rfl, hy, rfl, rfl⟩ := zbin0_spec hp
    obtain ⟨r1, rfl, hr1⟩ := hS.int
    obtain ⟨r', rfl, hr⟩ := hr1.int
    exact lv_idiv hx hb hd hy (kk _ _ hL ⟨rfl, hr⟩)
  · obtain ⟨x, y, r, rfl, hy, rfl, rfl⟩ := zbin0_spec hp
    obtain ⟨r1, rfl, hr1⟩ := hS.int
    obtain ⟨r', rfl, hr⟩ := hr1.int
    exact lv_irem hx hb hd hy (kk _ _ hL ⟨rfl, hr⟩)
  · unfold zneg at hp
    split at hp
    · cases hp
      obtain ⟨r', rfl, hr⟩ := hS.int
      exact lv_ineg hx hb hd (kk _ _ hL ⟨rfl, hr⟩)
    · cases hp
  · obtain ⟨v, r, rfl, hc, rfl, rfl⟩ := zdup_spec hp
    obtain ⟨v', r', rfl, hv, hr⟩ := hS.any
    exact lv_dup hx hb hd (hv.cat hc) (kk _ _ hL ⟨hv, hv, hr⟩)
  · obtain ⟨v, rfl, hc, rfl⟩ := zpop_spec hp
    obtain ⟨v', r', rfl, hv, hr⟩ := hS.any
    exact lv_pop hx hb hd (hv.cat hc) (kk _ _ hL hr)
  · obtain ⟨v, w, r, rfl, hc, hc2, rfl, rfl⟩ := zdup2_spec hp
    obtain ⟨v', r1, rfl, hv, hr1⟩ := hS.any
    obtain ⟨w', r', rfl, hw, hr⟩ := hr1.any
    exact lv_dup2_11 hx hb hd (hv.cat hc) (hw.cat hc2) (kk _ _ hL ⟨hv, hw, hv, hw, hr⟩)
  · obtain ⟨v, w, r, rfl, hc, hc2, rfl, rfl⟩ := zdupx_spec hp
    obtain ⟨v', r1, rfl, hv, hr1⟩ := hS.any
    obtain ⟨w', r', rfl, hw, hr⟩ := hr1.any
    exact lv_dup_x1 hx hb hd (hv.cat hc) (hw.cat hc2) (kk _ _ hL ⟨hv, hw, hv, hr⟩)
  · unfold zi2l at hp
    split at hp
    · cases hp
      obtain ⟨r', rfl, hr⟩ := hS.int
      exact lv_i2l hx hb hd rfl (kk _ _ hL ⟨rfl, hr⟩)
    · cases hp
  · unfold zladd at hp
    split at hp
    · cases hp
      obtain ⟨r1, rfl, hr1⟩ := hS.long
      obtain ⟨r', rfl, hr⟩ := hr1.long
      exact lv_ladd hx hb hd (kk _ _ hL ⟨rfl, hr⟩)
    · cases hp
  · unfold zlcmp at hp
    split at hp
    · cases hp
      obtain ⟨r1, rfl, hr1⟩ := hS.long
      obtain ⟨r', rfl, hr⟩ := hr1.long
      exact W.lcmp hx hb hd (kk _ _ hL ⟨rfl, hr⟩)
    · cases hp
  · cases hp
end
end
section
/-! BRANCHES, SWITCHES, RETURNS -/
def ztgt (i : Instr) (pc a : Nat) : Bool := match i with
  | .ifCond _ o => decide ((pc : Int) + o = (a : Int))
  | .if_icmp _ o => decide ((pc : Int) + o = (a : Int))
  | .if_acmp _ o => decide ((pc : Int) + o = (a : Int))
  | .ifnull o => decide ((pc : Int) + o = (a : Int))
  | .ifnonnull o => decide ((pc : Int) + o = (a : Int))
  | .goto o => decide ((pc : Int) + o = (a : Int))
  | .tableswitch d _ _ offs => decide (0 ≤ (pc : Int) + d) && offs.all (fun o => decide (0 ≤ (pc : Int) + o))
  | _ => true
theorem zV.inj {em : Nat → Nat} {scb : Nat} {A : Nat → Prop} {ws : va_W} {x y x' y' : Value} (hD : va_D A ws) (hem : ¬ A (em 1)) (hx : zisr x = true) (hy : zisr y = true) (h1 : zV em scb ws x x') (h2 : zV em scb ws y y') : (x = y ↔ x' = y') := by
  constructor
  · rintro rfl
    cases x with
    | ref k =>
      obtain ⟨a, e, g1, rfl⟩ := h1
      obtain ⟨b, e2, g2, rfl⟩ := h2
      rw [g1] at g2; cases g2; rfl
    | null => have h1 : x' = .null := h1; have h2 : y' = .null := h2; rw [h1, h2]
    | retAddr k => have h1 : x' = _ := h1; have h2 : y' = _ := h2; rw [h1, h2]
    | int _ => simp [zisr] at hx
    | long _ => simp [zisr] at hx
    | float _ => simp [zisr] at hx
    | double _ => simp [zisr] at hx
  · intro he
    cases x with
    | ref k =>
      obtain ⟨a, e, g1, rfl⟩ := h1
      cases y with
      | ref j =>
        obtain ⟨b, e2, g2, rfl⟩ := h2
        cases he
        rw [hD.1 k j _ _ g1 g2 rfl]
      | null => have h2 : y' = .null := h2; rw [h2] at he; cases he
      | retAddr j =>
        have hj : j = 1 := by simpa [zisr] using hy
        subst hj
        have h2 : y' = .ref (em 1) := h2
        rw [h2] at he; cases he
        exact absurd (hD.2 k _ g1) hem
      | int _ => simp [zisr] at hy
      | long _ => simp [zisr] at hy
      | float _ => simp [zisr] at hy
      | double _ => simp [zisr] at hy
    | null =>
      have h1 : x' = .null := h1
      subst h1
      cases y with
      | ref j => obtain ⟨b, e2, g2, rfl⟩ := h2; cases he
      | null => rfl
      | retAddr j => have h2 : y' = .ref _ := h2; rw [h2] at he; cases he
      | int _ => simp [zisr] at hy
      | long _ => simp [zisr] at hy
      | float _ => simp [zisr] at hy
      | double _ => simp [zisr] at hy
    | retAddr k =>
      have hk : k = 1 := by simpa [zisr] using hx
      subst hk
      have h1 : x' = .ref (em 1) := h1
      subst h1
      cases y with
      | ref j =>
        obtain ⟨b, e2, g2, rfl⟩ := h2
        cases he
        exact absurd (hD.2 j _ g2) hem
      | null => have h2 : y' = .null := h2; rw [h2] at he; cases he
      | retAddr j =>
        have hj : j = 1 := by simpa [zisr] using hy
        subst hj; rfl
      | int _ => simp [zisr] at hy
      | long _ => simp [zisr] at hy
      | float _ => simp [zisr] at hy
      | double _ => simp [zisr] at hy
    | int _ => simp [zisr] at hx
    | long _ => simp [zisr] at hx
    | float _ => simp [zisr] at hx
    | double _ => simp [zisr] at hx
theorem zV.rf {em : Nat → Nat} {scb : Nat} {ws : va_W} {x x' : Value} (hx : zisr x = true) (h1 : zV em scb ws x x') : ∃ r : Option Nat, x' = va_rf r := by
  cases x with
  | ref k => obtain ⟨a, e, g1, rfl⟩ := h1; exact ⟨some a, rfl⟩
  | null => exact ⟨none, h1⟩
  | retAddr k => exact ⟨some _, h1⟩
  | int _ => simp [zisr] at hx
  | long _ => simp [zisr] at hx
  | float _ => simp [zisr] at hx
  | double _ => simp [zisr] at hx
theorem va_rf_inj {r q : Option Nat} (h : va_rf r = va_rf q) : r = q := by
  cases r <;> cases q <;> simp [va_rf] at h <;> simp [h]
section
variable {p : Program} {l : Launch} {e : Env} {R : Room} {s : State} {m : MethodId} {args : Array Value} {below : List Frame} {meth : Method} {c : Code} {H : Heap} {locs : List Loc} {cells slots : Nat} {Q : State → Prop}
variable {cc : ByteArray} {pc : Nat}
set_option maxHeartbeats 4000000 in
theorem z_br {em : Nat → Nat} {scb a : Nat} {A : Nat → Prop} {ws : va_W} {i : Instr} {t : Bool} {st st2 : List Value} {arr : Array Slot} {st' : List Value} (hx : p.tables.exec = Jvm.exec) (hb : c.code = cc)
    (hD : va_D A ws) (hem : ¬ A (em 1)) (hp : zbr i st = some (t, st2)) (hd : decode cc pc = .ok (i, zlen i)) (ht : ztgt i pc a = true) (hS : zSt em scb ws st st')
    (kk : ∀ (st2' : List Value), zSt em scb ws st2 st2' → W p l e R s m args below meth c H locs cells slots Q (F0 m (if t = true then a else pc + zlen i) arr st2')) :
    W p l e R s m args below meth c H locs cells slots Q (F0 m pc arr st') := by
  have kt : t = true → ∀ (st2' : List Value), zSt em scb ws st2 st2' → W p l e R s m args below meth c H locs cells slots Q (F0 m a arr st2') := fun h q hq => by
    have := kk q hq; rwa [if_pos h] at this
  have kf : t = false → ∀ (st2' : List Value), zSt em scb ws st2 st2' → W p l e R s m args below meth c H locs cells slots Q (F0 m (pc + zlen i) arr st2') := fun h q hq => by
    have := kk q hq; rwa [if_neg (by rw [h]; decide)] at this
  unfold zbr at hp
  split at hp
  · rename_i cnd o
    have ho : (pc : Int) + o = (a : Int) := of_decide_eq_true ht
    split at hp
    · cases hp
      obtain ⟨r', rfl, hr⟩ := hS.int
      cases cnd
      · exact lv_if_eq hx hb hd ho (fun q => kt (by simp [zcnd, q]) _ hr) (fun q => kf (by simp [zcnd, q]) _ hr)
      · exact lv_if_ne hx hb hd ho (fun q => kt (by simp [zcnd, q]) _ hr) (fun q => kf (by simpa [zcnd] using q) _ hr)
      · exact lv_if_lt hx hb hd ho (fun q => kt (by simpa [zcnd] using q) _ hr) (fun q => kf (by simpa [zcnd] using q) _ hr)
      · exact lv_if_ge hx hb hd ho (fun q => kt (by simpa [zcnd] using q) _ hr) (fun q => kf (by simpa [zcnd] using q) _ hr)
      · exact lv_if_gt hx hb hd ho (fun q => kt (by simpa [zcnd] using q) _ hr) (fun q => kf (by simpa [zcnd] using q) _ hr)
      · exact lv_if_le hx hb hd ho (fun q => kt (by simpa [zcnd] using q) _ hr) (fun q => kf (by simpa [zcnd] using q) _ hr)
    · cases hp
  · rename_i cnd o
    have ho : (pc : Int) + o = (a : Int) := of_decide_eq_true ht
    split at hp
    · cases hp
      obtain ⟨r1, rfl, hr1⟩ := hS.int
      obtain ⟨r', rfl, hr⟩ := hr1.int
      cases cnd
      · exact lv_icmp_eq hx hb hd ho (fun q => kt (by simp [zcnd, q]) _ hr) (fun q => kf (by simp [zcnd, q]) _ hr)
      · exact lv_icmp_ne hx hb hd ho (fun q => kt (by simp [zcnd, q]) _ hr) (fun q => kf (by simpa [zcnd] using q) _ hr)
      · exact lv_icmp_lt hx hb hd ho (fun q => kt (by simpa [zcnd] using q) _ hr) (fun q => kf (by simpa [zcnd] using q) _ hr)
      · exact lv_icmp_ge hx hb hd ho (fun q => kt (by simpa [zcnd] using q) _ hr) (fun q => kf (by simpa [zcnd] using q) _ hr)
      · exact lv_icmp_gt hx hb hd ho (fun q => kt (by simpa [zcnd] using q) _ hr) (fun q => kf (by simpa [zcnd] using q) _ hr)
      · exact lv_icmp_le hx hb hd ho (fun q => kt (by simpa [zcnd] using q) _ hr) (fun q => kf (by simpa [zcnd] using q) _ hr)
    · cases hp
  · rename_i cnd o
    have ho : (pc : Int) + o = (a : Int) := of_decide_eq_true ht
    split at hp
    · rename_i y x r
      split at hp
      · rename_i hxy
        obtain ⟨rfl, rfl⟩ := hxy
        cases hp
        obtain ⟨y', r1, rfl, hy, hr1⟩ := hS.any
        obtain ⟨x', r', rfl, hxx, hr⟩ := hr1.any
        have hy : y' = va_rf (some (em 2)) := hy
        have hxx : x' = va_rf (some (em 2)) := hxx
        subst hy hxx
        cases cnd
        · exact lv_acmp_eq hx hb hd ho (fun q => kt rfl _ hr) (fun q => absurd rfl q)
        · exact lv_acmp_ne hx hb hd ho (fun q => absurd rfl q) (fun q => kf rfl _ hr)
      split at hp
      · split at hp
        · rename_i hx1 hy1
          cases hp
          obtain ⟨y', r1, rfl, hy, hr1⟩ := hS.any
          obtain ⟨x', r', rfl, hxx, hr⟩ := hr1.any
          have hij := zV.inj hD hem hx1 hy1 hxx hy
          obtain ⟨rx, rfl⟩ := hxx.rf hx1
          obtain ⟨ry, rfl⟩ := hy.rf hy1
          have hio : x = y ↔ rx = ry := hij.trans ⟨va_rf_inj, fun h => by rw [h]⟩
          cases cnd
          · exact lv_acmp_eq hx hb hd ho (fun q => kt (by simpa using hio.mpr q) _ hr) (fun q => kf (by simpa using fun z => q (hio.mp z)) _ hr)
          · exact lv_acmp_ne hx hb hd ho (fun q => kt (by simpa using fun z => q (hio.mp z)) _ hr) (fun q => kf (by simpa using hio.mpr q) _ hr)
        · cases hp
      · cases hp
    · cases hp
  · rename_i o
    have ho : (pc : Int) + o = (a : Int) := of_decide_eq_true ht
    split at hp
    · cases hp
      obtain ⟨y', r1, rfl, ⟨b, e2, -, rfl⟩, hr1⟩ := hS.any
      exact lv_ifnull hx hb hd (kf rfl _ hr1)
    · cases hp
      obtain ⟨y', r1, rfl, hy, hr1⟩ := hS.any
      have hy : y' = .null := hy
      subst hy
      exact lv_ifnullN hx hb hd ho (kt rfl _ hr1)
    · cases hp
  · rename_i o
    have ho : (pc : Int) + o = (a : Int) := of_decide_eq_true ht
    split at hp
    · cases hp
      obtain ⟨y', r1, rfl, ⟨b, e2, -, rfl⟩, hr1⟩ := hS.any
      exact lv_ifnonnull hx hb hd ho (kt rfl _ hr1)
    · cases hp
      obtain ⟨y', r1, rfl, hy, hr1⟩ := hS.any
      have hy : y' = .null := hy
      subst hy
      exact lv_ifnonnullN hx hb hd (kf rfl _ hr1)
    · cases hp
  · rename_i o
    have ho : (pc : Int) + o = (a : Int) := of_decide_eq_true ht
    cases hp
    exact lv_goto hx hb hd ho (kt rfl _ hS)
  · cases hp
theorem z_sw {em : Nat → Nat} {scb t : Nat} {ws : va_W} {i : Instr} {len : Nat} {st st2 : List Value} {arr : Array Slot} {st' : List Value} (hx : p.tables.exec = Jvm.exec) (hb : c.code = cc)
    (hp : zsw i pc st = some (t, st2)) (hd : decode cc pc = .ok (i, len)) (ht : ztgt i pc 0 = true) (hS : zSt em scb ws st st')
    (kk : ∀ (st2' : List Value), zSt em scb ws st2 st2' → W p l e R s m args below meth c H locs cells slots Q (F0 m t arr st2')) :
    W p l e R s m args below meth c H locs cells slots Q (F0 m pc arr st') := by
  unfold zsw at hp
  split at hp
  · rename_i d lo hi offs
    split at hp
    · rename_i x r
      obtain ⟨r', rfl, hr⟩ := hS.int
      simp only [ztgt, Bool.and_eq_true, decide_eq_true_eq, Array.all_eq_true] at ht
      split at hp
      · rename_i hx1
        cases hp
        exact lv_tableOut hx hb hd hx1 (by omega) (kk _ hr)
      · rename_i hx1
        split at hp
        · rename_i o ho
          cases hp
          obtain ⟨hlt, hoe⟩ := Array.getElem?_eq_some_iff.mp ho
          have h0 := ht.2 _ hlt
          rw [hoe] at h0
          exact lv_tableIn hx hb hd (fun z => hx1 (Or.inl z)) (fun z => hx1 (Or.inr z)) ho (by omega) (kk _ hr)
        · cases hp
    · cases hp
  · cases hp
end
end
section
/-! ONE STEP OVER THE HEAP -/
/-- the words that every method's contract stands on -/
def zT : List Cond := lw_tbl.filter goodWord
theorem zR.get {em : Nat → Nat} {scb : Nat} {ws : va_W} {tys : List (ClassId × FieldType)} {h : zHp} (hR : zR em scb ws tys h) {k : Nat} {ob : zOb} (hk : h[k]? = some ob) : ∃ (a : Nat) (e : va_E), ws[k]? = some (a, e) ∧ zX em scb ws tys ob e := hR.2 k ob hk
theorem zX.le {em : Nat → Nat} {scb : Nat} {ws ws' : va_W} {tys tys' : List (ClassId × FieldType)} (hl : zLe ws ws') (ht : ∀ (k : Nat) q, tys[k]? = some q → tys'[k]? = some q) {ob : zOb} {e : va_E} (h : zX em scb ws tys ob e) : zX em scb ws' tys' ob e := by
  rcases h with ⟨h1, fs, h2, h3, h4⟩ | ⟨h1, cA, t, f, h2, h3, h4⟩ | ⟨h1, cA, t, f, h2, h3, h4⟩ | ⟨h1, cA, t, f, h2, h3, h4⟩ | ⟨h1, cA, t, f, h2, h3, h4⟩
  · exact Or.inl ⟨h1, fs, h2, h3, fun j v hj => by obtain ⟨v', g1, g2⟩ := h4 j v hj; exact ⟨v', g1, g2.le hl⟩⟩
  · exact Or.inr (Or.inl ⟨h1, cA, t, f, h2, ht _ _ h3, h4⟩)
  · exact Or.inr (Or.inr (Or.inl ⟨h1, cA, t, f, h2, ht _ _ h3, h4⟩))
  · exact Or.inr (Or.inr (Or.inr (Or.inl ⟨h1, cA, t, f, h2, ht _ _ h3, h4⟩)))
  · refine Or.inr (Or.inr (Or.inr (Or.inr ⟨h1, cA, t, f, h2, ht _ _ h3, fun j hj => ?_⟩)))
    obtain ⟨v, g1, g2, g3⟩ := h4 j hj
    refine ⟨v, g1, ?_, g3.le hl⟩
    rcases g2 with g2 | ⟨q, c, s, e0, g4, g5, g6⟩
    · exact Or.inl g2
    · obtain ⟨e', g7, g8⟩ := hl q e0 _ g5
      obtain ⟨s', rfl⟩ := g8 c s rfl
      exact Or.inr ⟨q, c, s', e0, g4, g7, g6⟩
theorem zLe.set {ws : va_W} {q a : Nat} {e0 e : va_E} (hq : ws[q]? = some (a, e0)) (hc : ∀ c s, e0 = .inr (c, s) → ∃ s', e = .inr (c, s')) : zLe ws (ws.set q (a, e)) := by
  have hlt := (List.getElem?_eq_some_iff.mp hq).1
  intro k b e1 hk
  by_cases h : k = q
  · subst h
    rw [hq] at hk
    cases hk
    exact ⟨e, by rw [List.getElem?_set_self hlt], hc⟩
  · exact ⟨e1, by rw [List.getElem?_set_ne (Ne.symm h)]; exact hk, fun c s h => ⟨s, h⟩⟩
theorem zLe.push {ws : va_W} {x : Nat × va_E} : zLe ws (ws ++ [x]) := fun k a e hk => ⟨e, by rw [List.getElem?_append_left (List.getElem?_eq_some_iff.mp hk).1]; exact hk, fun c s h => ⟨s, h⟩⟩
theorem zR.set {em : Nat → Nat} {scb : Nat} {ws : va_W} {tys : List (ClassId × FieldType)} {h : zHp} (hR : zR em scb ws tys h) {q a : Nat} {ob0 ob : zOb} {e0 e : va_E} (hh : h[q]? = some ob0) (hq : ws[q]? = some (a, e0)) (hc : ∀ c s, e0 = .inr (c, s) → ∃ s', e = .inr (c, s')) (hX : zX em scb (ws.set q (a, e)) tys ob e) : zR em scb (ws.set q (a, e)) tys (h.set q ob) := by
  have hlt := (List.getElem?_eq_some_iff.mp hq).1
  have hlt2 := (List.getElem?_eq_some_iff.mp hh).1
  refine ⟨by simp [hR.1], fun k ob1 hk => ?_⟩
  by_cases hkq : k = q
  · subst hkq
    rw [List.getElem?_set_self hlt2] at hk
    cases hk
    exact ⟨a, e, by rw [List.getElem?_set_self hlt], hX⟩
  · rw [List.getElem?_set_ne (Ne.symm hkq)] at hk
    obtain ⟨b, e1, h1, h2⟩ := hR.get hk
    exact ⟨b, e1, by rw [List.getElem?_set_ne (Ne.symm hkq)]; exact h1, h2.le (zLe.set hq hc) (fun _ _ z => z)⟩
theorem zR.push {em : Nat → Nat} {scb : Nat} {ws : va_W} {tys tys' : List (ClassId × FieldType)} {h : zHp} (hR : zR em scb ws tys h) {a : Nat} {ob : zOb} {e : va_E} (ht : ∀ (k : Nat) q, tys[k]? = some q → tys'[k]? = some q) (hX : zX em scb (ws ++ [(a, e)]) tys' ob e) : zR em scb (ws ++ [(a, e)]) tys' (h ++ [ob]) := by
  refine ⟨by simp [hR.1], fun k ob1 hk => ?_⟩
  by_cases hkl : k < h.length
  · rw [List.getElem?_append_left hkl] at hk
    obtain ⟨b, e1, h1, h2⟩ := hR.get hk
    exact ⟨b, e1, by rw [List.getElem?_append_left (by rw [hR.1]; exact hkl)]; exact h1, h2.le zLe.push ht⟩
  · rw [List.getElem?_append_right (by omega)] at hk
    have hz : k - h.length < 1 := (List.getElem?_eq_some_iff.mp hk).1
    have hk0 : k = h.length := by omega
    subst hk0
    rw [Nat.sub_self] at hk
    cases hk
    exact ⟨a, e, by rw [List.getElem?_append_right (by rw [hR.1]; exact Nat.le_refl _), hR.1, Nat.sub_self]; rfl, hX⟩
def zftOk (t : Nat) (ty : FieldType) : Prop := (t = 0 ∧ ty = .int) ∨ (t = 1 ∧ ty = .boolean) ∨ (t = 2 ∧ ((∃ n, ty = .object n) ∨ ∃ u, ty = .array u)) ∨ t = 3
theorem zfits_ok {em : Nat → Nat} {scb t : Nat} {ws : va_W} {ty : FieldType} {v v' : Value} (h : zfits t v = true) (hv : zV em scb ws v v') (ho : zftOk t ty) : narrow ty v' = v' ∧ fits ty v' = true := by
  rcases ho with ⟨rfl, rfl⟩ | ⟨rfl, rfl⟩ | ⟨rfl, ho⟩ | rfl
  · unfold zfits at h
    cases v with
    | int x => have hv : v' = .int x := hv; subst hv; exact ⟨rfl, rfl⟩
    | _ => simp at h
  · unfold zfits at h
    cases v with
    | int x =>
      have hv : v' = .int x := hv
      subst hv
      simp only [Bool.or_eq_true, decide_eq_true_eq] at h
      rcases h with rfl | rfl <;> exact ⟨by decide +kernel, by decide +kernel⟩
    | _ => simp at h
  · have h : zisr v = true := h
    obtain ⟨r, rfl⟩ := hv.rf h
    rcases ho with ⟨n, rfl⟩ | ⟨u, rfl⟩ <;> cases r <;> exact ⟨rfl, rfl⟩
  · simp [zfits] at h
/-- a field's link, and what the tables say of the class's fields -/
def zflk (own : String) (idx a b : Nat) : Prop := ∃ (C : String) (T : u_T) (N : Nat) (ty : Nat → FieldType) (ref : String), a < 12 ∧ classes[a]? = some (C, T, N) ∧ b < N ∧ (∀ w ∈ u_ws C T N, w ∈ zT) ∧ (∀ k, k < N → parseFieldDescriptor (T k).2.2.1 = some (ty k)) ∧ (∀ x, x < N → ∀ y, y < N → x ≠ y → (T x).2.1 ≠ (T y).2.1) ∧ Cond.fieldLink own idx ref (T b).2.1 (T b).2.2.1 ∈ zT ∧ (ref = (T b).1 ∨ Cond.sameField ref (T b).1 (T b).2.1 (T b).2.2.1 ∈ zT) ∧ zftOk (((zfty[a]?).getD [])[b]?.getD 9) (ty b) ∧ (T b).2.2.2 = (((zfin[a]?).getD [])[b]?.getD false)
section
variable {p : Program} {l : Launch} {e : Env} {R : Room} {s : State} {m : MethodId} {args : Array Value} {below : List Frame} {meth : Method} {c : Code} {H : Heap} {locs : List Loc} {cells slots : Nat} {Q : State → Prop}
variable {cc : ByteArray} {pc : Nat} {em : Nat → Nat} {scb : Nat} {A : Nat → Prop} {D : va_G} {ws : va_W} {tys : List (ClassId × FieldType)} {own : String} {arr : Array Slot} {st st2 st' : List Value} {h h2 : zHp}
theorem zsame {idx a b : Nat} {ref : String} {T : u_T} (hts : ∀ w ∈ zT, w.before args s = true) (h : ref = (T b).1 ∨ Cond.sameField ref (T b).1 (T b).2.1 (T b).2.2.1 ∈ zT) : ∀ x, s.fieldFound? (T b).1 (T b).2.1 (T b).2.2.1 = some x → s.fieldFound? ref (T b).2.1 (T b).2.2.1 = some x := by
  intro x hx
  rcases h with rfl | h
  · exact hx
  · exact u_same (hts _ h) x hx
theorem z_getf {idx a b : Nat} (hx : p.tables.exec = Jvm.exec) (hb : c.code = cc) (hts : ∀ w ∈ zT, w.before args s = true) (hown : s.vm.findClass own = some m.cls) (hK : va_K D classes tys s) (hP : va_P D classes ws H)
    (hR : zR em scb ws tys h) (hS : zSt em scb ws st st') (hp : zgetf a b h st = some (h2, st2)) (hk : zflk own idx a b) (hd : decode cc pc = .ok (.getfield idx, 3))
    (kk : ∀ (st2' : List Value), h2 = h → zSt em scb ws st2 st2' → W p l e R s m args below meth c H locs cells slots Q (F0 m (pc + 3) arr st2')) : W p l e R s m args below meth c H locs cells slots Q (F0 m pc arr st') := by
  obtain ⟨C, T, N, ty, ref, h0, h1, h2', h3, h4, h5, h6, h7, -⟩ := hk
  unfold zgetf at hp
  split at hp
  · rename_i q r
    split at hp
    · rename_i c0 fs hq
      split at hp
      · rename_i hca
        subst hca
        split at hp
        · rename_i v hv
          cases hp
          obtain ⟨x', r', rfl, ⟨ad, e0, g1, rfl⟩, hr⟩ := hS.any
          obtain ⟨ad2, e1, g2, g3⟩ := hR.get hq
          rw [g1] at g2
          cases g2
          rcases g3 with ⟨-, fs', rfl, -, g5⟩ | ⟨k1, -⟩ | ⟨k1, -⟩ | ⟨k1, -⟩ | ⟨k1, -⟩
          · obtain ⟨v', g6, g7⟩ := g5 b v hv
            exact va_get hx hb hts h3 hown hK hP q g1 h1 b h2' (hts _ h6) (zsame (idx := idx) (a := c0) hts h7) g6 hd (kk _ rfl ⟨g7, hr⟩)
          all_goals (have k1 : c0 = _ := k1; omega)
        · cases hp
      · cases hp
    · cases hp
  · cases hp
theorem z_putf {idx a b : Nat} (hx : p.tables.exec = Jvm.exec) (hb : c.code = cc) (hts : ∀ w ∈ zT, w.before args s = true) (hown : s.vm.findClass own = some m.cls) (hK : va_K D classes tys s) (hP : va_P D classes ws H) (hD : va_D A ws) (hV : va_S A s.heap H locs)
    (hR : zR em scb ws tys h) (hS : zSt em scb ws st st') (hp : zputf a b h st = some (h2, st2)) (hk : zflk own idx a b)
    (hfin : ((zfin[a]?).getD [])[b]?.getD false = true → meth.name = "<init>" ∧ ∀ C T N, classes[a]? = some (C, T, N) → (T b).1 = own) (hd : decode cc pc = .ok (.putfield idx, 3))
    (kk : ∀ (st2' : List Value) (ws' : va_W) (H1 : Heap) (locs1 : List Loc), zLe ws ws' → va_P D classes ws' H1 → va_D A ws' → va_S A s.heap H1 locs1 → zR em scb ws' tys h2 → zSt em scb ws' st2 st2' → W p l e R s m args below meth c H1 locs1 cells slots Q (F0 m (pc + 3) arr st2')) : W p l e R s m args below meth c H locs cells slots Q (F0 m pc arr st') := by
  obtain ⟨C, T, N, ty, ref, h0, h1, h2', h3, h4, h5, h6, h7, h8, h9⟩ := hk
  unfold zputf at hp
  split at hp
  · rename_i v q r
    split at hp
    · rename_i c0 fs hq
      split at hp
      · rename_i hca
        subst hca
        split at hp
        · rename_i hbl
          split at hp
          · rename_i hft
            cases hp
            obtain ⟨v', r1, rfl, hv, hr1⟩ := hS.any
            obtain ⟨x', r', rfl, ⟨ad, e0, g1, rfl⟩, hr⟩ := hr1.any
            obtain ⟨ad2, e1, g2, g3⟩ := hR.get hq
            rw [g1] at g2
            cases g2
            rcases g3 with ⟨gc, fs', rfl, g4, g5⟩ | ⟨k1, -⟩ | ⟨k1, -⟩ | ⟨k1, -⟩ | ⟨k1, -⟩
            · obtain ⟨f1, f2⟩ := zfits_ok hft hv h8
              have hcc : ∀ (c1 : Nat) (s1 : List Value), (Sum.inr (c0, fs') : va_E) = .inr (c1, s1) → ∃ s', (Sum.inr (c0, fs'.set b v') : va_E) = .inr (c1, s') := fun c1 s1 hh => by cases hh; exact ⟨_, rfl⟩
              have hle : zLe ws (ws.set q (ad, .inr (c0, fs'.set b v'))) := zLe.set g1 hcc
              have hX : zX em scb (ws.set q (ad, .inr (c0, fs'.set b v'))) tys (c0, fs.set b v) (.inr (c0, fs'.set b v')) := by
                refine Or.inl ⟨gc, _, rfl, by simp [g4], fun j w hj => ?_⟩
                have g4 : fs'.length = fs.length := g4
                by_cases hjb : j = b
                · subst hjb
                  rw [List.getElem?_set_self hbl] at hj
                  cases hj
                  exact ⟨v', by rw [List.getElem?_set_self (by omega)], hv.le hle⟩
                · rw [List.getElem?_set_ne (Ne.symm hjb)] at hj
                  obtain ⟨w', g6, g7⟩ := g5 j w hj
                  exact ⟨w', by rw [List.getElem?_set_ne (Ne.symm hjb)]; exact g6, g7.le hle⟩
              have hRn := hR.set (ob := (c0, fs.set b v)) hq g1 hcc hX
              have hkb : b < fs'.length := by have g4 : fs'.length = fs.length := g4; omega
              by_cases hfn : (T b).2.2.2 = true
              · obtain ⟨m1, m2⟩ := hfin (by rw [← h9]; exact hfn)
                exact va_putF hx hb hts h3 ty h4 h5 hown hK hP hD hV q g1 h1 b h2' (hts _ h6) (zsame (idx := idx) (a := c0) hts h7) hfn m1 (m2 C T N h1) (h4 b h2') f1 f2 hkb hd (fun H1 locs1 k1 k2 k3 => kk _ _ H1 locs1 hle k1 k2 k3 hRn (hr.le hle))
              · exact va_put hx hb hts h3 ty h4 h5 hown hK hP hD hV q g1 h1 b h2' (hts _ h6) (zsame (idx := idx) (a := c0) hts h7) (by simpa using hfn) (h4 b h2') f1 f2 hkb hd (fun H1 locs1 k1 k2 k3 => kk _ _ H1 locs1 hle k1 k2 k3 hRn (hr.le hle))
            all_goals (have k1 : c0 = _ := k1; omega)
          · cases hp
        · cases hp
      · cases hp
    · cases hp
  · cases hp
end
end
section
/-! ARRAYS, NEW OBJECTS, CASTS -/
theorem zin_vp {i : Int32} {n : Nat} (h : zin i n = true) : vp_in i n := by
  simp only [zin, Bool.and_eq_true, decide_eq_true_eq] at h
  rintro (h1 | h1)
  · exact absurd h.1 (by rw [Int32.not_le]; exact h1)
  · omega
/-- a new object's link -/
def znlk (own : String) (idx a : Nat) : Prop := ∃ (C : String) (T : u_T) (N : Nat) (ty : Nat → FieldType), a < 9 ∧ classes[a]? = some (C, T, N) ∧ (∀ w ∈ u_ws C T N, w ∈ zT) ∧ (∀ k, k < N → parseFieldDescriptor (T k).2.2.1 = some (ty k)) ∧ Cond.classLink own idx C ∈ zT ∧ Cond.instantiable C N ∈ zT ∧ Cond.initialized C ∈ zT ∧ (∀ j, j < N → defaultValue (ty j) = vp_V ((zdfs[a]?).getD []) j) ∧ ((zdfs[a]?).getD []).length = N ∧ ((zdfs[a]?).getD []).all (fun v => match v with | .ref _ => false | .retAddr _ => false | _ => true) = true
section
variable {p : Program} {l : Launch} {e : Env} {R : Room} {s : State} {m : MethodId} {args : Array Value} {below : List Frame} {meth : Method} {c : Code} {H : Heap} {locs : List Loc} {cells slots : Nat} {Q : State → Prop}
variable {cc : ByteArray} {pc : Nat} {em : Nat → Nat} {scb : Nat} {A : Nat → Prop} {D : va_G} {ws : va_W} {tys : List (ClassId × FieldType)} {own : String} {arr : Array Slot} {st st2 st' : List Value} {h h2 : zHp}
theorem z_ald100 {sc : zScr} (hx : p.tables.exec = Jvm.exec) (hb : c.code = cc) (hK : va_K D classes tys s) (hP : va_P D classes ws H) (hV : va_S A s.heap H locs)
    (hsc : ∀ L xs, sc = some (L, xs) → va_X scb L xs s s.heap ∧ scb < s.heap.size ∧ ¬ A scb)
    (hR : zR em scb ws tys h) (hS : zSt em scb ws st st') (hp : zald 100 sc h st = some (h2, st2)) (hd : decode cc pc = .ok (.iaload, 1))
    (kk : ∀ (st2' : List Value), h2 = h → zSt em scb ws st2 st2' → W p l e R s m args below meth c H locs cells slots Q (F0 m (pc + 1) arr st2')) : W p l e R s m args below meth c H locs cells slots Q (F0 m pc arr st') := by
  unfold zald at hp
  split at hp
  · rename_i i r
    rw [if_pos rfl] at hp
    split at hp
    · rename_i L xs
      split at hp
      · rename_i hi
        cases hp
        obtain ⟨r1, rfl, hr1⟩ := hS.int
        obtain ⟨x', r', rfl, hv, hr⟩ := hr1.any
        have hv : x' = .ref scb := hv
        subst hv
        obtain ⟨k1, k2, k3⟩ := hsc L xs rfl
        exact va_sld hx hb k1 k2 k3 hV (zin_vp hi) hd (kk _ rfl ⟨rfl, hr⟩)
      · cases hp
    · cases hp
  · rename_i i q r
    split at hp
    · rename_i c0 s0 hq
      split at hp
      · rename_i hc
        subst hc
        split at hp
        · rename_i hi
          split at hp
          · rename_i v hv
            cases hp
            obtain ⟨r1, rfl, hr1⟩ := hS.int
            obtain ⟨x', r', rfl, ⟨ad, e0, g1, rfl⟩, hr⟩ := hr1.any
            obtain ⟨ad2, e1, g2, g3⟩ := hR.get hq
            rw [g1] at g2
            cases g2
            rcases g3 with ⟨k1, -⟩ | ⟨-, cA, t, f, rfl, k2, k3⟩ | ⟨k1, -⟩ | ⟨k1, -⟩ | ⟨k1, -⟩
            · simp at k1
            · have hlt : i.toNatClampNeg < s0.length := (List.getElem?_eq_some_iff.mp hv).1
              have := k3 _ hlt
              rw [show (100, s0).2 = s0 from rfl, hv] at this
              cases this
              exact va_iald hx hb hK hP q t g1 k2 (zin_vp hi) hd (kk _ rfl ⟨rfl, hr⟩)
            all_goals (simp at k1)
          · cases hp
        · cases hp
      · cases hp
    · cases hp
  · cases hp
theorem z_ald101 (hx : p.tables.exec = Jvm.exec) (hb : c.code = cc) (hK : va_K D classes tys s) (hP : va_P D classes ws H)
    (hR : zR em scb ws tys h) (hS : zSt em scb ws st st') (hp : zald 101 none h st = some (h2, st2)) (hd : decode cc pc = .ok (.baload, 1))
    (kk : ∀ (st2' : List Value), h2 = h → zSt em scb ws st2 st2' → W p l e R s m args below meth c H locs cells slots Q (F0 m (pc + 1) arr st2')) : W p l e R s m args below meth c H locs cells slots Q (F0 m pc arr st') := by
  unfold zald at hp
  split at hp
  · simp at hp
  · rename_i i q r
    split at hp
    · rename_i c0 s0 hq
      split at hp
      · rename_i hc
        subst hc
        split at hp
        · rename_i hi
          split at hp
          · rename_i v hv
            cases hp
            obtain ⟨r1, rfl, hr1⟩ := hS.int
            obtain ⟨x', r', rfl, ⟨ad, e0, g1, rfl⟩, hr⟩ := hr1.any
            obtain ⟨ad2, e1, g2, g3⟩ := hR.get hq
            rw [g1] at g2
            cases g2
            rcases g3 with ⟨k1, -⟩ | ⟨k1, -⟩ | ⟨-, cA, t, f, rfl, k2, k3⟩ | ⟨k1, -⟩ | ⟨k1, -⟩
            · simp at k1
            · simp at k1
            · have hlt : i.toNatClampNeg < s0.length := (List.getElem?_eq_some_iff.mp hv).1
              have := k3 _ hlt
              rw [show (101, s0).2 = s0 from rfl, hv] at this
              cases this
              exact va_zald hx hb hK hP q t g1 k2 (zin_vp hi) hd (kk _ rfl ⟨rfl, hr⟩)
            all_goals (simp at k1)
          · cases hp
        · cases hp
      · cases hp
    · cases hp
  · cases hp
theorem z_ald102 (hx : p.tables.exec = Jvm.exec) (hb : c.code = cc) (hK : va_K D classes tys s) (hP : va_P D classes ws H)
    (hR : zR em scb ws tys h) (hS : zSt em scb ws st st') (hp : zald 102 none h st = some (h2, st2)) (hd : decode cc pc = .ok (.laload, 1))
    (kk : ∀ (st2' : List Value), h2 = h → zSt em scb ws st2 st2' → W p l e R s m args below meth c H locs cells slots Q (F0 m (pc + 1) arr st2')) : W p l e R s m args below meth c H locs cells slots Q (F0 m pc arr st') := by
  unfold zald at hp
  split at hp
  · simp at hp
  · rename_i i q r
    split at hp
    · rename_i c0 s0 hq
      split at hp
      · rename_i hc
        subst hc
        split at hp
        · rename_i hi
          split at hp
          · rename_i v hv
            cases hp
            obtain ⟨r1, rfl, hr1⟩ := hS.int
            obtain ⟨x', r', rfl, ⟨ad, e0, g1, rfl⟩, hr⟩ := hr1.any
            obtain ⟨ad2, e1, g2, g3⟩ := hR.get hq
            rw [g1] at g2
            cases g2
            rcases g3 with ⟨k1, -⟩ | ⟨k1, -⟩ | ⟨k1, -⟩ | ⟨-, cA, t, f, rfl, k2, k3⟩ | ⟨k1, -⟩
            · simp at k1
            · simp at k1
            · simp at k1
            · have hlt : i.toNatClampNeg < s0.length := (List.getElem?_eq_some_iff.mp hv).1
              have := k3 _ hlt
              rw [show (102, s0).2 = s0 from rfl, hv] at this
              cases this
              exact va_lald hx hb hK hP q t g1 k2 (zin_vp hi) hd (kk _ rfl ⟨rfl, hr⟩)
            all_goals (simp at k1)
          · cases hp
        · cases hp
      · cases hp
    · cases hp
  · cases hp
theorem z_ald103 (hx : p.tables.exec = Jvm.exec) (hb : c.code = cc) (hK : va_K D classes tys s) (hP : va_P D classes ws H)
    (hR : zR em scb ws tys h) (hS : zSt em scb ws st st') (hp : zald 103 none h st = some (h2, st2)) (hd : decode cc pc = .ok (.aaload, 1))
    (kk : ∀ (st2' : List Value), h2 = h → zSt em scb ws st2 st2' → W p l e R s m args below meth c H locs cells slots Q (F0 m (pc + 1) arr st2')) : W p l e R s m args below meth c H locs cells slots Q (F0 m pc arr st') := by
  unfold zald at hp
  split at hp
  · simp at hp
  · rename_i i q r
    split at hp
    · rename_i c0 s0 hq
      split at hp
      · rename_i hc
        subst hc
        split at hp
        · rename_i hi
          split at hp
          · rename_i v hv
            cases hp
            obtain ⟨r1, rfl, hr1⟩ := hS.int
            obtain ⟨x', r', rfl, ⟨ad, e0, g1, rfl⟩, hr⟩ := hr1.any
            obtain ⟨ad2, e1, g2, g3⟩ := hR.get hq
            rw [g1] at g2
            cases g2
            rcases g3 with ⟨k1, -⟩ | ⟨k1, -⟩ | ⟨k1, -⟩ | ⟨k1, -⟩ | ⟨-, cA, t, f, rfl, k2, k3⟩
            · simp at k1
            · simp at k1
            · simp at k1
            · simp at k1
            · have hlt : i.toNatClampNeg < s0.length := (List.getElem?_eq_some_iff.mp hv).1
              obtain ⟨v2, g4, -, g5⟩ := k3 _ hlt
              rw [show (103, s0).2 = s0 from rfl, hv] at g4
              cases g4
              exact va_aldq hx hb hK hP q t g1 k2 (zin_vp hi) hd (kk _ rfl ⟨g5, hr⟩)
          · cases hp
        · cases hp
      · cases hp
    · cases hp
  · cases hp
theorem z_alen {sc : zScr} {e0 : Nat → Value} (hx : p.tables.exec = Jvm.exec) (hb : c.code = cc) (hK : va_K D classes tys s) (hP : va_P D classes ws H) (hV : va_S A s.heap H locs)
    (hsc : ∀ L xs, sc = some (L, xs) → va_X scb L xs s s.heap ∧ scb < s.heap.size ∧ ¬ A scb) (hT : va_T (.object "java/lang/Object") (em 1) 0 e0 A s s.heap)
    (hR : zR em scb ws tys h) (hS : zSt em scb ws st st') (hp : zalen sc h st = some (h2, st2)) (hd : decode cc pc = .ok (.arraylength, 1))
    (kk : ∀ (st2' : List Value), h2 = h → zSt em scb ws st2 st2' → W p l e R s m args below meth c H locs cells slots Q (F0 m (pc + 1) arr st2')) : W p l e R s m args below meth c H locs cells slots Q (F0 m pc arr st') := by
  unfold zalen at hp
  split at hp
  · rename_i r
    split at hp
    · rename_i L xs
      cases hp
      obtain ⟨x', r', rfl, hv, hr⟩ := hS.any
      have hv : x' = .ref scb := hv
      subst hv
      obtain ⟨k1, k2, k3⟩ := hsc L _ rfl
      exact va_slen hx hb k1 k2 k3 hV hd (kk _ rfl ⟨rfl, hr⟩)
    · cases hp
  · cases hp
    obtain ⟨x', r', rfl, hv, hr⟩ := hS.any
    have hv : x' = .ref (em 1) := hv
    subst hv
    exact va_tlen hx hb hT hV (v := 0) (by decide) hd (kk _ rfl ⟨rfl, hr⟩)
  · rename_i q r
    split at hp
    · rename_i c0 s0 hq
      split at hp
      · rename_i hc
        cases hp
        obtain ⟨x', r', rfl, ⟨ad, e0, g1, rfl⟩, hr⟩ := hS.any
        obtain ⟨ad2, e1, g2, g3⟩ := hR.get hq
        rw [g1] at g2
        cases g2
        rcases g3 with ⟨k1, -⟩ | ⟨-, cA, t, f, rfl, k2, k3⟩ | ⟨-, cA, t, f, rfl, k2, k3⟩ | ⟨-, cA, t, f, rfl, k2, k3⟩ | ⟨-, cA, t, f, rfl, k2, k3⟩
        · have k1 : c0 < 12 := k1
          omega
        all_goals exact va_alen hx hb hK hP q t g1 k2 rfl hd (kk _ rfl ⟨rfl, hr⟩)
      · cases hp
    · cases hp
  · cases hp
theorem z_cast {idx a : Nat} {C : String} {T : u_T} {N : Nat} (hx : p.tables.exec = Jvm.exec) (hb : c.code = cc) (hown : s.vm.findClass own = some m.cls) (hK : va_K D classes tys s) (hP : va_P D classes ws H)
    (hR : zR em scb ws tys h) (hS : zSt em scb ws st st') (hp : zcast a h st = some (h2, st2)) (ha : a < 12) (hc : classes[a]? = some (C, T, N)) (hl : (Cond.classLink own idx C).before args s = true) (hd : decode cc pc = .ok (.checkcast idx, 3))
    (kk : ∀ (st2' : List Value), h2 = h → zSt em scb ws st2 st2' → W p l e R s m args below meth c H locs cells slots Q (F0 m (pc + 3) arr st2')) : W p l e R s m args below meth c H locs cells slots Q (F0 m pc arr st') := by
  unfold zcast at hp
  split at hp
  · rename_i q r
    split at hp
    · rename_i c0 s0 hq
      split at hp
      · rename_i hca
        subst hca
        cases hp
        obtain ⟨x', r', rfl, ⟨ad, e0, g1, rfl⟩, hr⟩ := hS.any
        obtain ⟨ad2, e1, g2, g3⟩ := hR.get hq
        rw [g1] at g2
        cases g2
        rcases g3 with ⟨k1, fs, rfl, -⟩ | ⟨k1, -⟩ | ⟨k1, -⟩ | ⟨k1, -⟩ | ⟨k1, -⟩
        · exact va_castS hx hb hown hl (hK.1 _ _ hc).2 (va_recv hK hP hc g1) hd (kk _ rfl ⟨⟨ad, _, g1, rfl⟩, hr⟩)
        all_goals (have k1 : c0 = _ := k1; omega)
      · cases hp
    · cases hp
  · cases hp
end
end
section
/-! STORES INTO ARRAYS, NEW ONES, MATH, ARRAYCOPY -/
section
variable {p : Program} {l : Launch} {e : Env} {R : Room} {s : State} {m : MethodId} {args : Array Value} {below : List Frame} {meth : Method} {c : Code} {H : Heap} {locs : List Loc} {cells slots : Nat} {Q : State → Prop}
variable {cc : ByteArray} {pc : Nat} {em : Nat → Nat} {scb : Nat} {A : Nat → Prop} {D : va_G} {ws : va_W} {tys : List (ClassId × FieldType)} {own : String} {arr : Array Slot} {st st2 st' : List Value} {h h2 : zHp}
theorem zast_spec {k : Nat} (hp : zast k h st = some (h2, st2)) : ∃ v i q s0, st = v :: .int i :: .ref q :: st2 ∧ h[q]? = some (k, s0) ∧ zin i s0.length = true ∧ zafit k h v = true ∧ h2 = h.set q (k, s0.set i.toNatClampNeg v) := by
  unfold zast at hp
  split at hp
  · rename_i v i q r
    split at hp
    · rename_i c0 s0 hq
      split at hp
      · rename_i hc
        subst hc
        split at hp
        · rename_i hi
          split at hp
          · rename_i hf
            cases hp
            exact ⟨v, i, q, s0, rfl, hq, hi, hf, rfl⟩
          · cases hp
        · cases hp
      · cases hp
    · cases hp
  · cases hp
theorem zafit_ref {q : Nat} (hf : zafit 103 h (.ref q) = true) : ∃ c0 s0, h[q]? = some (c0, s0) ∧ c0 < 9 := by
  simp [zafit] at hf
  split at hf
  · rename_i c0 s0 hq
    exact ⟨c0, s0, hq, by simpa using hf⟩
  · cases hf

set_option maxHeartbeats 2000000 in
theorem z_ast100 (hx : p.tables.exec = Jvm.exec) (hb : c.code = cc) (hK : va_K D classes tys s) (hP : va_P D classes ws H) (hD : va_D A ws) (hV : va_S A s.heap H locs)
    (hR : zR em scb ws tys h) (hS : zSt em scb ws st st') (hp : zast 100 h st = some (h2, st2)) (hd : decode cc pc = .ok (.iastore, 1))
    (kk : ∀ (st2' : List Value) (ws' : va_W) (H1 : Heap) (locs1 : List Loc), zLe ws ws' → va_P D classes ws' H1 → va_D A ws' → va_S A s.heap H1 locs1 → zR em scb ws' tys h2 → zSt em scb ws' st2 st2' → W p l e R s m args below meth c H1 locs1 cells slots Q (F0 m (pc + 1) arr st2')) : W p l e R s m args below meth c H locs cells slots Q (F0 m pc arr st') := by
  obtain ⟨v, i, q, s0, rfl, hq, hi, hf, rfl⟩ := zast_spec hp
  have hx1 : ∃ x : Int32, v = .int x := by
    cases v with
    | int x => exact ⟨x, rfl⟩
    | _ => simp [zafit, zfits] at hf
  obtain ⟨x, rfl⟩ := hx1
  obtain ⟨r1, rfl, hr1⟩ := hS.int
  obtain ⟨r2, rfl, hr2⟩ := hr1.int
  obtain ⟨x', r', rfl, ⟨ad, e0, g1, rfl⟩, hr⟩ := hr2.any
  obtain ⟨ad2, e1, g2, g3⟩ := hR.get hq
  rw [g1] at g2
  cases g2
  have hil : i.toNatClampNeg < s0.length := by simp only [zin, Bool.and_eq_true, decide_eq_true_eq] at hi; exact hi.2
  rcases g3 with ⟨k1, -⟩ | ⟨-, cA, t, f, rfl, k2, k3⟩ | ⟨k1, -⟩ | ⟨k1, -⟩ | ⟨k1, -⟩
  · simp at k1
  · have hle : zLe ws (ws.set q (ad, .inl (cA, s0.length, .inl (upd f i.toNatClampNeg x)))) := zLe.set g1 (fun _ _ z => by cases z)
    have hX : zX em scb (ws.set q (ad, .inl (cA, s0.length, .inl (upd f i.toNatClampNeg x)))) tys (100, s0.set i.toNatClampNeg (.int x)) (.inl (cA, s0.length, .inl (upd f i.toNatClampNeg x))) := by
      refine Or.inr (Or.inl ⟨rfl, cA, t, upd f i.toNatClampNeg x, by simp, k2, fun j hj => ?_⟩)
      by_cases hji : j = i.toNatClampNeg
      · subst hji
        simp [upd, hil]
      · have hj' : j < s0.length := by simpa using hj
        have := k3 j hj'
        simp only [upd, if_neg hji]
        rw [List.getElem?_set_ne (Ne.symm hji)]
        exact this
    have hRn := hR.set (ob := (100, s0.set i.toNatClampNeg (.int x))) hq g1 (fun _ _ z => by cases z) hX
    exact va_iast hx hb hK hP hD hV q t g1 k2 (zin_vp hi) hd (fun H1 locs1 j1 j2 j3 => kk _ _ H1 locs1 hle j1 j2 j3 hRn (hr.le hle))
  all_goals simp at k1
set_option maxHeartbeats 2000000 in
theorem z_ast101 (hx : p.tables.exec = Jvm.exec) (hb : c.code = cc) (hK : va_K D classes tys s) (hP : va_P D classes ws H) (hD : va_D A ws) (hV : va_S A s.heap H locs)
    (hR : zR em scb ws tys h) (hS : zSt em scb ws st st') (hp : zast 101 h st = some (h2, st2)) (hd : decode cc pc = .ok (.bastore, 1))
    (kk : ∀ (st2' : List Value) (ws' : va_W) (H1 : Heap) (locs1 : List Loc), zLe ws ws' → va_P D classes ws' H1 → va_D A ws' → va_S A s.heap H1 locs1 → zR em scb ws' tys h2 → zSt em scb ws' st2 st2' → W p l e R s m args below meth c H1 locs1 cells slots Q (F0 m (pc + 1) arr st2')) : W p l e R s m args below meth c H locs cells slots Q (F0 m pc arr st') := by
  obtain ⟨v, i, q, s0, rfl, hq, hi, hf, rfl⟩ := zast_spec hp
  have hx1 : ∃ x : Int32, v = .int x ∧ (x = 0 ∨ x = 1) := by
    cases v with
    | int x => exact ⟨x, rfl, by simpa [zafit, zfits] using hf⟩
    | _ => simp [zafit, zfits] at hf
  obtain ⟨x, rfl, h01⟩ := hx1
  obtain ⟨r1, rfl, hr1⟩ := hS.int
  obtain ⟨r2, rfl, hr2⟩ := hr1.int
  obtain ⟨x', r', rfl, ⟨ad, e0, g1, rfl⟩, hr⟩ := hr2.any
  obtain ⟨ad2, e1, g2, g3⟩ := hR.get hq
  rw [g1] at g2
  cases g2
  have hil : i.toNatClampNeg < s0.length := by simp only [zin, Bool.and_eq_true, decide_eq_true_eq] at hi; exact hi.2
  rcases g3 with ⟨k1, -⟩ | ⟨k1, -⟩ | ⟨-, cA, t, f, rfl, k2, k3⟩ | ⟨k1, -⟩ | ⟨k1, -⟩
  · simp at k1
  · simp at k1
  · have hle : zLe ws (ws.set q (ad, .inl (cA, s0.length, .inl (upd f i.toNatClampNeg x)))) := zLe.set g1 (fun _ _ z => by cases z)
    have hX : zX em scb (ws.set q (ad, .inl (cA, s0.length, .inl (upd f i.toNatClampNeg x)))) tys (101, s0.set i.toNatClampNeg (.int x)) (.inl (cA, s0.length, .inl (upd f i.toNatClampNeg x))) := by
      refine Or.inr (Or.inr (Or.inl ⟨rfl, cA, t, upd f i.toNatClampNeg x, by simp, k2, fun j hj => ?_⟩))
      by_cases hji : j = i.toNatClampNeg
      · subst hji
        simp [upd, hil]
      · have hj' : j < s0.length := by simpa using hj
        have := k3 j hj'
        simp only [upd, if_neg hji]
        rw [List.getElem?_set_ne (Ne.symm hji)]
        exact this
    have hRn := hR.set (ob := (101, s0.set i.toNatClampNeg (.int x))) hq g1 (fun _ _ z => by cases z) hX
    refine va_zast hx hb hK hP hD hV q t g1 k2 (zin_vp hi) hd (fun H1 locs1 j1 j2 j3 => ?_)
    have hxx : vp_nar .boolean x = x := by rcases h01 with rfl | rfl <;> decide +kernel
    rw [hxx] at j1 j2
    exact kk _ _ H1 locs1 hle j1 j2 j3 hRn (hr.le hle)
  all_goals simp at k1
set_option maxHeartbeats 2000000 in
theorem z_ast102 (hx : p.tables.exec = Jvm.exec) (hb : c.code = cc) (hK : va_K D classes tys s) (hP : va_P D classes ws H) (hD : va_D A ws) (hV : va_S A s.heap H locs)
    (hR : zR em scb ws tys h) (hS : zSt em scb ws st st') (hp : zast 102 h st = some (h2, st2)) (hd : decode cc pc = .ok (.lastore, 1))
    (kk : ∀ (st2' : List Value) (ws' : va_W) (H1 : Heap) (locs1 : List Loc), zLe ws ws' → va_P D classes ws' H1 → va_D A ws' → va_S A s.heap H1 locs1 → zR em scb ws' tys h2 → zSt em scb ws' st2 st2' → W p l e R s m args below meth c H1 locs1 cells slots Q (F0 m (pc + 1) arr st2')) : W p l e R s m args below meth c H locs cells slots Q (F0 m pc arr st') := by
  obtain ⟨v, i, q, s0, rfl, hq, hi, hf, rfl⟩ := zast_spec hp
  have hx1 : ∃ x : Int64, v = .long x := by
    cases v with
    | long x => exact ⟨x, rfl⟩
    | _ => simp [zafit, zfits] at hf
  obtain ⟨x, rfl⟩ := hx1
  obtain ⟨r1, rfl, hr1⟩ := hS.long
  obtain ⟨r2, rfl, hr2⟩ := hr1.int
  obtain ⟨x', r', rfl, ⟨ad, e0, g1, rfl⟩, hr⟩ := hr2.any
  obtain ⟨ad2, e1, g2, g3⟩ := hR.get hq
  rw [g1] at g2
  cases g2
  have hil : i.toNatClampNeg < s0.length := by simp only [zin, Bool.and_eq_true, decide_eq_true_eq] at hi; exact hi.2
  rcases g3 with ⟨k1, -⟩ | ⟨k1, -⟩ | ⟨k1, -⟩ | ⟨-, cA, t, f, rfl, k2, k3⟩ | ⟨k1, -⟩
  · simp at k1
  · simp at k1
  · simp at k1
  · have hle : zLe ws (ws.set q (ad, .inl (cA, s0.length, .inr (.inl (vp_updL f i.toNatClampNeg x))))) := zLe.set g1 (fun _ _ z => by cases z)
    have hX : zX em scb (ws.set q (ad, .inl (cA, s0.length, .inr (.inl (vp_updL f i.toNatClampNeg x))))) tys (102, s0.set i.toNatClampNeg (.long x)) (.inl (cA, s0.length, .inr (.inl (vp_updL f i.toNatClampNeg x)))) := by
      refine Or.inr (Or.inr (Or.inr (Or.inl ⟨rfl, cA, t, vp_updL f i.toNatClampNeg x, by simp, k2, fun j hj => ?_⟩)))
      by_cases hji : j = i.toNatClampNeg
      · subst hji
        simp [vp_updL, hil]
      · have hj' : j < s0.length := by simpa using hj
        have := k3 j hj'
        simp only [vp_updL, if_neg hji]
        rw [List.getElem?_set_ne (Ne.symm hji)]
        exact this
    have hRn := hR.set (ob := (102, s0.set i.toNatClampNeg (.long x))) hq g1 (fun _ _ z => by cases z) hX
    exact va_last hx hb hK hP hD hV q t g1 k2 (zin_vp hi) hd (fun H1 locs1 j1 j2 j3 => kk _ _ H1 locs1 hle j1 j2 j3 hRn (hr.le hle))
  all_goals simp at k1
set_option maxHeartbeats 2000000 in
theorem z_ast103 (hx : p.tables.exec = Jvm.exec) (hb : c.code = cc) (hK : va_K D classes tys s) (hP : va_P D classes ws H) (hD : va_D A ws) (hV : va_S A s.heap H locs)
    (hcs : ∀ (ci : Nat) (r : vw_C), ci < 9 → classes[ci]? = some r → va_Nw (.castable r.1 "java/lang/Object") s)
    (hR : zR em scb ws tys h) (hS : zSt em scb ws st st') (hp : zast 103 h st = some (h2, st2)) (hd : decode cc pc = .ok (.aastore, 1))
    (kk : ∀ (st2' : List Value) (ws' : va_W) (H1 : Heap) (locs1 : List Loc), zLe ws ws' → va_P D classes ws' H1 → va_D A ws' → va_S A s.heap H1 locs1 → zR em scb ws' tys h2 → zSt em scb ws' st2 st2' → W p l e R s m args below meth c H1 locs1 cells slots Q (F0 m (pc + 1) arr st2')) : W p l e R s m args below meth c H locs cells slots Q (F0 m pc arr st') := by
  obtain ⟨v, i, q, s0, rfl, hq, hi, hf, rfl⟩ := zast_spec hp
  obtain ⟨v', r1, rfl, hv, hr1⟩ := hS.any
  obtain ⟨r2, rfl, hr2⟩ := hr1.int
  obtain ⟨x', r', rfl, ⟨ad, e0, g1, rfl⟩, hr⟩ := hr2.any
  obtain ⟨ad2, e1, g2, g3⟩ := hR.get hq
  rw [g1] at g2
  cases g2
  have hil : i.toNatClampNeg < s0.length := by simp only [zin, Bool.and_eq_true, decide_eq_true_eq] at hi; exact hi.2
  rcases g3 with ⟨k1, -⟩ | ⟨k1, -⟩ | ⟨k1, -⟩ | ⟨k1, -⟩ | ⟨-, cA, t, f, rfl, k2, k3⟩
  · simp at k1
  · simp at k1
  · simp at k1
  · simp at k1
  · have key : ∀ (o : Option Nat), v' = va_rf o → (v = .null ∨ ∃ q9 c9 s9 e9, v = .ref q9 ∧ ws[q9]? = some (e9, .inr (c9, s9)) ∧ c9 < 9) →
        zLe ws (ws.set q (ad, .inl (cA, s0.length, .inr (.inr (.inr (.inr (va_up f i.toNatClampNeg o))))))) ∧ zR em scb (ws.set q (ad, .inl (cA, s0.length, .inr (.inr (.inr (.inr (va_up f i.toNatClampNeg o))))))) tys (h.set q (103, s0.set i.toNatClampNeg v)) := by
      intro o ho hvv
      subst ho
      have hle : zLe ws (ws.set q (ad, .inl (cA, s0.length, .inr (.inr (.inr (.inr (va_up f i.toNatClampNeg o))))))) := zLe.set g1 (fun _ _ z => by cases z)
      refine ⟨hle, hR.set (ob := (103, s0.set i.toNatClampNeg v)) hq g1 (fun _ _ z => by cases z) ?_⟩
      refine Or.inr (Or.inr (Or.inr (Or.inr ⟨rfl, cA, t, va_up f i.toNatClampNeg o, by simp, k2, fun j hj => ?_⟩)))
      have up : ∀ w : Value, (w = .null ∨ ∃ q9 c9 s9 e9, w = .ref q9 ∧ ws[q9]? = some (e9, .inr (c9, s9)) ∧ c9 < 9) → (w = .null ∨ ∃ q9 c9 s9 e9, w = .ref q9 ∧ (ws.set q (ad, .inl (cA, s0.length, .inr (.inr (.inr (.inr (va_up f i.toNatClampNeg o)))))))[q9]? = some (e9, .inr (c9, s9)) ∧ c9 < 9) := by
        rintro w (hw | ⟨q9, c9, s9, e9, h1, h2, h3⟩)
        · exact Or.inl hw
        · obtain ⟨e', h4, h5⟩ := hle q9 e9 _ h2
          obtain ⟨s', rfl⟩ := h5 c9 s9 rfl
          exact Or.inr ⟨q9, c9, s', e9, h1, h4, h3⟩
      by_cases hji : j = i.toNatClampNeg
      · subst hji
        exact ⟨v, by simp [hil], up v hvv, by simpa [va_up] using hv.le hle⟩
      · have hj' : j < s0.length := by simpa using hj
        obtain ⟨w, h1, h2, h3⟩ := k3 j hj'
        refine ⟨w, by rw [List.getElem?_set_ne (Ne.symm hji)]; exact h1, up w h2, ?_⟩
        simp only [va_up, if_neg hji]
        exact h3.le hle
    cases v with
    | null =>
      have hv2 : v' = .null := hv
      subst hv2
      obtain ⟨hle, hRn⟩ := key none rfl (Or.inl rfl)
      exact va_astqN hx hb hK hP hD hV q t g1 k2 (zin_vp hi) hd (fun H1 locs1 j1 j2 j3 => kk _ _ H1 locs1 hle j1 j2 j3 hRn (hr.le hle))
    | ref q2 =>
      obtain ⟨c0, s2, hq2, hc0⟩ := zafit_ref hf
      obtain ⟨av, ev, g4, g5⟩ := hR.get hq2
      obtain ⟨av2, ev2, g6, rfl⟩ := hv
      rw [g4] at g6
      cases g6
      rcases g5 with ⟨k4, fs, rfl, -⟩ | ⟨k4, -⟩ | ⟨k4, -⟩ | ⟨k4, -⟩ | ⟨k4, -⟩
      · have hr9 : ∃ r : vw_C, classes[c0]? = some r := ⟨_, List.getElem?_eq_getElem (show c0 < classes.length from Nat.lt_trans hc0 (by decide))⟩
        obtain ⟨r9, hr9⟩ := hr9
        obtain ⟨hle, hRn⟩ := key (some av) rfl (Or.inr ⟨q2, c0, fs, av, rfl, g4, hc0⟩)
        exact va_astqO hx hb hK hP hD hV q t q2 c0 g1 k2 (hcs c0 r9 hc0 hr9) g4 hr9 (zin_vp hi) hd (fun H1 locs1 j1 j2 j3 => kk _ _ H1 locs1 hle j1 j2 j3 hRn (hr.le hle))
      all_goals (have k4 : c0 = _ := k4; omega)
    | _ => simp [zafit] at hf
end
end
section
/-! NEW OBJECTS AND ROWS; MATH; ARRAYCOPY -/
theorem zV.triv {em : Nat → Nat} {scb : Nat} {ws : va_W} {v : Value} (h : (match v with | .ref _ => false | .retAddr _ => false | _ => true) = true) : zV em scb ws v v := by
  cases v <;> first | rfl | (simp at h)
section
variable {p : Program} {l : Launch} {e : Env} {R : Room} {s : State} {m : MethodId} {args : Array Value} {below : List Frame} {meth : Method} {c : Code} {H : Heap} {locs : List Loc} {cells slots : Nat} {Q : State → Prop}
variable {cc : ByteArray} {pc : Nat} {em : Nat → Nat} {scb : Nat} {A : Nat → Prop} {D : va_G} {ws : va_W} {tys : List (ClassId × FieldType)} {own : String} {arr : Array Slot} {st st2 st' : List Value} {h h2 : zHp}
theorem z_new {idx a : Nat} (hx : p.tables.exec = Jvm.exec) (hb : c.code = cc) (hts : ∀ w ∈ zT, w.before args s = true) (hown : s.vm.findClass own = some m.cls) (hK : va_K D classes tys s) (hP : va_P D classes ws H) (hD : va_D A ws) (hV : va_S A s.heap H locs) (hA : ∀ q, s.heap.size ≤ q → A q)
    (hR : zR em scb ws tys h) (hS : zSt em scb ws st st') (hp : znew a h st = some (h2, st2)) (hk : znlk own idx a) (hcells : cells + 1 ≤ R.cells) (hslots : slots + ((zdfs[a]?).getD []).length ≤ R.slots) (hd : decode cc pc = .ok (.new idx, 3))
    (kk : ∀ (st2' : List Value) (ws' : va_W) (H1 : Heap), zLe ws ws' → va_P D classes ws' H1 → va_D A ws' → va_S A s.heap H1 locs → zR em scb ws' tys h2 → zSt em scb ws' st2 st2' → W p l e R s m args below meth c H1 locs (cells + 1) (slots + ((zdfs[a]?).getD []).length) Q (F0 m (pc + 3) arr st2')) : W p l e R s m args below meth c H locs cells slots Q (F0 m pc arr st') := by
  obtain ⟨C, T, N, ty, h0, h1, h3, h4, h5, h6, h7, h8, h9, h10⟩ := hk
  unfold znew at hp
  by_cases hl : h.length < 1000000
  · rw [if_pos h0, if_pos hl] at hp
    cases hp
    have hN := h9
    rw [hN] at hslots kk
    refine va_new (ci := a) (fs := (zdfs[a]?).getD []) hx hb hts h3 ty h4 hown (hts _ h5) (hts _ h6) (hts _ h7) hK hP hD hV hA h1 h8 hcells hslots hd (fun q H1 j1 j2 j3 => ?_)
    have hX : zX em scb (ws ++ [(q, .inr (a, (zdfs[a]?).getD []))]) tys (a, (zdfs[a]?).getD []) (.inr (a, (zdfs[a]?).getD [])) := by
      refine Or.inl ⟨by show a < 12; omega, _, rfl, rfl, fun j v hj => ⟨v, hj, zV.triv ?_⟩⟩
      exact List.all_eq_true.mp h10 v (List.mem_of_getElem? hj)
    have hRn := hR.push (tys' := tys) (fun _ _ z => z) hX
    exact kk _ _ H1 zLe.push j1 j2 j3 hRn ⟨⟨q, _, by rw [← hR.1, List.getElem?_append_right (Nat.le_refl _), Nat.sub_self]; rfl, rfl⟩, hS.le zLe.push⟩
  · rw [if_pos h0, if_neg hl] at hp
    cases hp
theorem znewa_spec {a : Nat} (hp : znewa a h st = some (h2, st2)) : ∃ n r, st = .int n :: r ∧ zin n 10000 = true ∧ st2 = .ref h.length :: r ∧ h2 = h ++ [(a, List.replicate n.toNatClampNeg (if a = 102 then .long 0 else if a = 103 then .null else .int 0))] := by
  unfold znewa at hp
  split at hp
  · split at hp
    · split at hp
      · rename_i hz
        cases hp
        exact ⟨_, _, rfl, hz, rfl, rfl⟩
      · cases hp
    · cases hp
  · cases hp
theorem zin_nn {n : Int32} {N : Nat} (h : zin n N = true) : ¬ n < 0 ∧ n.toNatClampNeg < N := by
  simp only [zin, Bool.and_eq_true, decide_eq_true_eq] at h
  exact ⟨by rw [Int32.not_lt]; exact h.1, h.2⟩
theorem z_newi (hx : p.tables.exec = Jvm.exec) (hb : c.code = cc) (harr : (Cond.arrayClass .int).before args s = true) (hK : va_K D classes tys s) (hP : va_P D classes ws H) (hD : va_D A ws) (hV : va_S A s.heap H locs) (hA : ∀ q, s.heap.size ≤ q → A q)
    (hR : zR em scb ws tys h) (hS : zSt em scb ws st st') (hp : znewa 100 h st = some (h2, st2)) (hd : decode cc pc = .ok (.newarray .int, 2)) (hcells : cells + 1 ≤ R.cells) (hslots : ∀ ob, h2 = h ++ [ob] → slots + ob.2.length ≤ R.slots)
    (kk : ∀ (st2' : List Value) (ws' : va_W) (tys' : List (ClassId × FieldType)) (H1 : Heap) (n : Nat), (∀ ob, h2 = h ++ [ob] → ob.2.length = n) → va_K D classes tys' s → zLe ws ws' → va_P D classes ws' H1 → va_D A ws' → va_S A s.heap H1 locs → zR em scb ws' tys' h2 → zSt em scb ws' st2 st2' → W p l e R s m args below meth c H1 locs (cells + 1) (slots + n) Q (F0 m (pc + 2) arr st2')) : W p l e R s m args below meth c H locs cells slots Q (F0 m pc arr st') := by
  obtain ⟨n, r, rfl, hz, rfl, rfl⟩ := znewa_spec hp
  obtain ⟨r', rfl, hr⟩ := hS.int
  obtain ⟨hn, hlt⟩ := zin_nn hz
  have hs := hslots _ rfl
  simp only [List.length_replicate] at hs
  refine va_newa (atype := .int) (ty := .int) (a0 := (n.toNatClampNeg, .inl fun _ => 0)) hx hb harr rfl hK hP hD hV hA (fun _ => rfl) hn rfl (by show n.toNatClampNeg * 4 ≤ _; omega) hcells hs hd (fun q cA H1 jK j1 j2 j3 => ?_)
  have hX : zX em scb (ws ++ [(q, .inl (cA, n.toNatClampNeg, .inl fun _ => 0))]) (tys ++ [(cA, .int)]) (100, List.replicate n.toNatClampNeg (if 100 = 102 then .long 0 else if 100 = 103 then .null else .int 0)) (.inl (cA, n.toNatClampNeg, .inl fun _ => 0)) := by
    refine Or.inr (Or.inl ⟨rfl, cA, tys.length, fun _ => 0, by simp, by simp, fun j hj => ?_⟩)
    simp at hj
    simp [hj]
  have hRn := hR.push (tys' := tys ++ [(cA, .int)]) (fun k q' z => by rw [List.getElem?_append_left (List.getElem?_eq_some_iff.mp z).1]; exact z) hX
  exact kk _ _ _ H1 _ (fun ob z => by have := List.append_cancel_left z; cases this; simp) jK zLe.push j1 j2 j3 hRn ⟨⟨q, _, by rw [← hR.1, List.getElem?_append_right (Nat.le_refl _), Nat.sub_self]; rfl, rfl⟩, hr.le zLe.push⟩
theorem z_newz (hx : p.tables.exec = Jvm.exec) (hb : c.code = cc) (harr : (Cond.arrayClass .boolean).before args s = true) (hK : va_K D classes tys s) (hP : va_P D classes ws H) (hD : va_D A ws) (hV : va_S A s.heap H locs) (hA : ∀ q, s.heap.size ≤ q → A q)
    (hR : zR em scb ws tys h) (hS : zSt em scb ws st st') (hp : znewa 101 h st = some (h2, st2)) (hd : decode cc pc = .ok (.newarray .boolean, 2)) (hcells : cells + 1 ≤ R.cells) (hslots : ∀ ob, h2 = h ++ [ob] → slots + ob.2.length ≤ R.slots)
    (kk : ∀ (st2' : List Value) (ws' : va_W) (tys' : List (ClassId × FieldType)) (H1 : Heap) (n : Nat), (∀ ob, h2 = h ++ [ob] → ob.2.length = n) → va_K D classes tys' s → zLe ws ws' → va_P D classes ws' H1 → va_D A ws' → va_S A s.heap H1 locs → zR em scb ws' tys' h2 → zSt em scb ws' st2 st2' → W p l e R s m args below meth c H1 locs (cells + 1) (slots + n) Q (F0 m (pc + 2) arr st2')) : W p l e R s m args below meth c H locs cells slots Q (F0 m pc arr st') := by
  obtain ⟨n, r, rfl, hz, rfl, rfl⟩ := znewa_spec hp
  obtain ⟨r', rfl, hr⟩ := hS.int
  obtain ⟨hn, hlt⟩ := zin_nn hz
  have hs := hslots _ rfl
  simp only [List.length_replicate] at hs
  refine va_newa (atype := .boolean) (ty := .boolean) (a0 := (n.toNatClampNeg, .inl fun _ => 0)) hx hb harr rfl hK hP hD hV hA (fun _ => rfl) hn rfl (by show n.toNatClampNeg * 1 ≤ _; omega) hcells hs hd (fun q cA H1 jK j1 j2 j3 => ?_)
  have hX : zX em scb (ws ++ [(q, .inl (cA, n.toNatClampNeg, .inl fun _ => 0))]) (tys ++ [(cA, .boolean)]) (101, List.replicate n.toNatClampNeg (if 101 = 102 then .long 0 else if 101 = 103 then .null else .int 0)) (.inl (cA, n.toNatClampNeg, .inl fun _ => 0)) := by
    refine Or.inr (Or.inr (Or.inl ⟨rfl, cA, tys.length, fun _ => 0, by simp, by simp, fun j hj => ?_⟩))
    simp at hj
    simp [hj]
  have hRn := hR.push (tys' := tys ++ [(cA, .boolean)]) (fun k q' z => by rw [List.getElem?_append_left (List.getElem?_eq_some_iff.mp z).1]; exact z) hX
  exact kk _ _ _ H1 _ (fun ob z => by have := List.append_cancel_left z; cases this; simp) jK zLe.push j1 j2 j3 hRn ⟨⟨q, _, by rw [← hR.1, List.getElem?_append_right (Nat.le_refl _), Nat.sub_self]; rfl, rfl⟩, hr.le zLe.push⟩
theorem z_newl (hx : p.tables.exec = Jvm.exec) (hb : c.code = cc) (harr : (Cond.arrayClass .long).before args s = true) (hK : va_K D classes tys s) (hP : va_P D classes ws H) (hD : va_D A ws) (hV : va_S A s.heap H locs) (hA : ∀ q, s.heap.size ≤ q → A q)
    (hR : zR em scb ws tys h) (hS : zSt em scb ws st st') (hp : znewa 102 h st = some (h2, st2)) (hd : decode cc pc = .ok (.newarray .long, 2)) (hcells : cells + 1 ≤ R.cells) (hslots : ∀ ob, h2 = h ++ [ob] → slots + ob.2.length ≤ R.slots)
    (kk : ∀ (st2' : List Value) (ws' : va_W) (tys' : List (ClassId × FieldType)) (H1 : Heap) (n : Nat), (∀ ob, h2 = h ++ [ob] → ob.2.length = n) → va_K D classes tys' s → zLe ws ws' → va_P D classes ws' H1 → va_D A ws' → va_S A s.heap H1 locs → zR em scb ws' tys' h2 → zSt em scb ws' st2 st2' → W p l e R s m args below meth c H1 locs (cells + 1) (slots + n) Q (F0 m (pc + 2) arr st2')) : W p l e R s m args below meth c H locs cells slots Q (F0 m pc arr st') := by
  obtain ⟨n, r, rfl, hz, rfl, rfl⟩ := znewa_spec hp
  obtain ⟨r', rfl, hr⟩ := hS.int
  obtain ⟨hn, hlt⟩ := zin_nn hz
  have hs := hslots _ rfl
  simp only [List.length_replicate] at hs
  refine va_newa (atype := .long) (ty := .long) (a0 := (n.toNatClampNeg, .inr (.inl fun _ => 0))) hx hb harr rfl hK hP hD hV hA (fun _ => rfl) hn rfl (by show n.toNatClampNeg * 8 ≤ _; omega) hcells hs hd (fun q cA H1 jK j1 j2 j3 => ?_)
  have hX : zX em scb (ws ++ [(q, .inl (cA, n.toNatClampNeg, .inr (.inl fun _ => 0)))]) (tys ++ [(cA, .long)]) (102, List.replicate n.toNatClampNeg (if 102 = 102 then .long 0 else if 102 = 103 then .null else .int 0)) (.inl (cA, n.toNatClampNeg, .inr (.inl fun _ => 0))) := by
    refine Or.inr (Or.inr (Or.inr (Or.inl ⟨rfl, cA, tys.length, fun _ => 0, by simp, by simp, fun j hj => ?_⟩)))
    simp at hj
    simp [hj]
  have hRn := hR.push (tys' := tys ++ [(cA, .long)]) (fun k q' z => by rw [List.getElem?_append_left (List.getElem?_eq_some_iff.mp z).1]; exact z) hX
  exact kk _ _ _ H1 _ (fun ob z => by have := List.append_cancel_left z; cases this; simp) jK zLe.push j1 j2 j3 hRn ⟨⟨q, _, by rw [← hR.1, List.getElem?_append_right (Nat.le_refl _), Nat.sub_self]; rfl, rfl⟩, hr.le zLe.push⟩
theorem z_newq {idx : Nat} (hx : p.tables.exec = Jvm.exec) (hb : c.code = cc) (hown : s.vm.findClass own = some m.cls) (hcl : (Cond.classLink own idx "java/lang/Object").before args s = true) (hao : va_AO "java/lang/Object" s) (hK : va_K D classes tys s) (hP : va_P D classes ws H) (hD : va_D A ws) (hV : va_S A s.heap H locs) (hA : ∀ q, s.heap.size ≤ q → A q)
    (hR : zR em scb ws tys h) (hS : zSt em scb ws st st') (hp : znewa 103 h st = some (h2, st2)) (hd : decode cc pc = .ok (.anewarray idx, 3)) (hcells : cells + 1 ≤ R.cells) (hslots : ∀ ob, h2 = h ++ [ob] → slots + ob.2.length ≤ R.slots)
    (kk : ∀ (st2' : List Value) (ws' : va_W) (tys' : List (ClassId × FieldType)) (H1 : Heap) (n : Nat), (∀ ob, h2 = h ++ [ob] → ob.2.length = n) → va_K D classes tys' s → zLe ws ws' → va_P D classes ws' H1 → va_D A ws' → va_S A s.heap H1 locs → zR em scb ws' tys' h2 → zSt em scb ws' st2 st2' → W p l e R s m args below meth c H1 locs (cells + 1) (slots + n) Q (F0 m (pc + 3) arr st2')) : W p l e R s m args below meth c H locs cells slots Q (F0 m pc arr st') := by
  obtain ⟨n, r, rfl, hz, rfl, rfl⟩ := znewa_spec hp
  obtain ⟨r', rfl, hr⟩ := hS.int
  obtain ⟨hn, hlt⟩ := zin_nn hz
  have hs := hslots _ rfl
  simp only [List.length_replicate] at hs
  refine va_newq hx hb hown hcl hao hK hP hD hV hA hn rfl (by omega) hcells hs hd (fun q cA H1 jK j1 j2 j3 => ?_)
  have hX : zX em scb (ws ++ [(q, .inl (cA, n.toNatClampNeg, .inr (.inr (.inr (.inr fun _ => none)))))]) (tys ++ [(cA, .object "java/lang/Object")]) (103, List.replicate n.toNatClampNeg (if 103 = 102 then .long 0 else if 103 = 103 then .null else .int 0)) (.inl (cA, n.toNatClampNeg, .inr (.inr (.inr (.inr fun _ => none))))) := by
    refine Or.inr (Or.inr (Or.inr (Or.inr ⟨rfl, cA, tys.length, fun _ => none, by simp, by simp, fun j hj => ⟨.null, ?_, Or.inl rfl, rfl⟩⟩)))
    simp at hj
    simp [hj]
  have hRn := hR.push (tys' := tys ++ [(cA, .object "java/lang/Object")]) (fun k q' z => by rw [List.getElem?_append_left (List.getElem?_eq_some_iff.mp z).1]; exact z) hX
  exact kk _ _ _ H1 _ (fun ob z => by have := List.append_cancel_left z; cases this; simp) jK zLe.push j1 j2 j3 hRn ⟨⟨q, _, by rw [← hR.1, List.getElem?_append_right (Nat.le_refl _), Nat.sub_self]; rfl, rfl⟩, hr.le zLe.push⟩
theorem zcpy_get {s t : List Value} {sp dp n j : Nat} (h1 : sp + n ≤ s.length) (h2 : dp + n ≤ t.length) : (zcpy s t sp dp n)[j]? = if dp ≤ j ∧ j < dp + n then s[sp + (j - dp)]? else t[j]? := by
  unfold zcpy
  by_cases ha : j < dp
  · rw [List.getElem?_append_left (by simp; omega), if_neg (by omega), List.getElem?_take_of_lt ha]
  · rw [List.getElem?_append_right (by simp; omega)]
    have e1 : (t.take dp).length = dp := by simp; omega
    rw [e1]
    by_cases hb : j < dp + n
    · rw [if_pos ⟨by omega, hb⟩, List.getElem?_append_left (by simp; omega), List.getElem?_take_of_lt (by omega), List.getElem?_drop]
    · rw [if_neg (by omega), List.getElem?_append_right (by simp; omega)]
      have e2 : ((s.drop sp).take n).length = n := by simp; omega
      rw [e2, List.getElem?_drop]
      congr 1
      omega
theorem zcpy_len {s t : List Value} {sp dp n : Nat} (h1 : sp + n ≤ s.length) (h2 : dp + n ≤ t.length) : (zcpy s t sp dp n).length = t.length := by
  unfold zcpy
  simp
  omega
end
end
section
/-! WHAT HOLDS OF THE WORLD OUTSIDE, ALL ALONG; THROWS; CALLS THAT AREN'T RUN BY THEIR CODE -/
section
variable {p : Program} {l : Launch} {e : Env} {R : Room} {s : State} {m : MethodId} {args : Array Value} {below : List Frame} {meth : Method} {c : Code} {H : Heap} {locs : List Loc} {cells slots : Nat} {Q : State → Prop}
variable {ls : Array Slot} {rest : List Value} {D : va_G} {cl : List vw_C} {tys : List (ClassId × FieldType)} {ws : va_W}
/-- vx_makeS of the kit, with the text by a wide index -/
theorem z_makeSW {cc : ByteArray} {pc : Nat} (hexec : p.tables.exec = Jvm.exec) (hb : c.code = cc) (hl : l.stackTraces = false) {own cls text : String} {names : List String} {ik is ic sa ci : Nat} {A : Nat → Prop} {T0 : u_T}
    (hown : s.vm.findClass own = some m.cls) (hcls : Bundle.fit cls = true) (hnames : ∀ n ∈ names, Bundle.fit n = true)
    (hk : (Cond.classLink own ik cls).before args s = true) (hini : (Cond.initialized cls).before args s = true) (hstr : vk_R own is text sa s) (hat : ∀ w ∈ vx_atS own ic cls names, w.before args s = true)
    (hgood : ∀ w ∈ Cond.classLink own ik cls :: Cond.initialized cls :: vx_atS own ic cls names, vx_ot w = true)
    (hU : vx_Zq Bundle.tN "UNASSIGNED_STACK" Bundle.steD A s s.heap) (hN : vx_Zq Bundle.tN "SUPPRESSED_SENTINEL" Bundle.listD A s s.heap) (hS : va_S A s.heap H locs) (hsize : ls.size = c.maxLocals)
    (d0 : decode cc pc = .ok (.new ik, 3)) (d3 : decode cc (pc + 3) = .ok (.dup, 1)) (d4 : decode cc (pc + 4) = .ok (.ldc_w is, 3)) (d6 : decode cc (pc + 7) = .ok (.invokespecial ic, 3))
    (hK : va_K D cl tys s) (hP : va_P D cl ws H) (hD : va_D A ws) (hA : ∀ q, s.heap.size ≤ q → A q) (hc : cl[ci]? = some (cls, T0, 0))
    (hRframes : names.length + 3 < R.frames) (hRlocals : (rest.map fun v => v.category).sum + (13 * (names.length + 1) + 43) ≤ R.locals) (hRcells : cells + 1 ≤ R.cells) (hRslots : slots + 6 ≤ R.slots)
    (kk : ∀ (q : Nat) (H1 : Heap), va_P D cl (ws ++ [(q, .inr (ci, []))]) H1 → va_D A (ws ++ [(q, .inr (ci, []))]) → va_S A s.heap H1 locs → W p l e R s m args below meth c H1 locs (cells + 1) (slots + 6) Q (F0 m (pc + 10) ls (.ref q :: rest))) :
    W p l e R s m args below meth c H locs cells slots Q (F0 m pc ls rest) := by
  intro T hT X
  subst hT
  have htr : e.platform.stackTraces = false := (show e.platform.stackTraces = l.stackTraces by rw [X.admits.platform]).trans hl
  have Y := vx_rebase X (R' := { frames := R.frames, locals := R.locals, cells := 1, slots := 6 }) (Nat.le_refl _) (Nat.le_refl _) hRcells hRslots
  obtain ⟨s', hA'⟩ : ∃ z, z = (T.setVm s.vm).setFrames (.invoking m args :: below) := ⟨_, rfl⟩
  rw [← hA'] at Y
  have hvm : s'.vm = s.vm := by rw [hA']; rfl
  have hhp : s'.heap = T.heap := by rw [hA']; rfl
  have hW0 : s.WarmedH s'.vm := by rw [hvm]; exact State.WarmedH.refl s
  have hat' : ∀ w ∈ vx_atS own ic cls names, w.before args s' = true := fun w hw => vx_ot_at hW0 hvm.symm (hgood w (List.mem_cons_of_mem _ (List.mem_cons_of_mem _ hw))) (hat w hw)
  have hk' : (Cond.classLink own ik cls).before args s' = true := vx_ot_at hW0 hvm.symm (hgood _ List.mem_cons_self) hk
  have hini' : (Cond.initialized cls).before args s' = true := vx_ot_at hW0 hvm.symm (hgood _ (List.mem_cons_of_mem _ List.mem_cons_self)) hini
  have hU' : vx_Zq Bundle.tN "UNASSIGNED_STACK" Bundle.steD A s' s'.heap := by rw [hhp]; exact vx_Zq.moved hW0.alike (hU.kept hS.2.1)
  have hN' : vx_Zq Bundle.tN "SUPPRESSED_SENTINEL" Bundle.listD A s' s'.heap := by rw [hhp]; exact vx_Zq.moved hW0.alike (hN.kept hS.2.1)
  have h : ∀ w ∈ Bundle.ownAtoms own ic cls names, w.before args s' = true := vx_own hat' (vx_isRefq hU'.1) (vx_isRefq hN'.1) hU'.2.word hN'.2.word
  have hown' : s'.vm.findClass own = some m.cls := by rw [hvm]; exact hown
  have hins : (Cond.instantiable cls 6).before args s' = true := h _ (by simp [Bundle.ownAtoms])
  obtain ⟨vm₁, cX, kX, hfX, hkX, -, -, X₁, st1⟩ := Y.newCold hexec (own := own) (C := cls) (index := ik) (n := 6) hown' hk' hins hini'
    (g := F0 m pc ls rest) rfl (by rw [hb]; exact d0) (Nat.le_refl _) (Nat.le_refl _)
  generalize hT1 : (T.setVm vm₁).pushCell { cls := cX, slots := kX.instanceTypes.map defaultValue, vm := .none } = T1 at X₁ st1
  have hcat : (Value.ref T.heap.size).category = 1 := rfl
  have hcellA : T1.heap[T.heap.size]? = some (freshCell cX kX) := by rw [← hT1]; exact State.heap_pushCell_size _ _
  have d3' : decode c.code (pc + 3) = .ok (.dup, 1) := by rw [hb]; exact d3
  have d4' : decode c.code (pc + 4) = .ok (.ldc_w is, 3) := by rw [hb]; exact d4
  have hstr' : vk_R own is text sa s' := vk_R.warm hW0 hstr
  obtain ⟨V, ce, L, Z, hL, hlt, hcl9, hvm9, st⟩ := vx_ctorMadeS X₁ hexec htr (own := own) (cls := cls) (names := names) (ic := ic) hown' hcls hnames h (fun x hx => nomatch hx) hfX hkX hcellA (by rw [hhp]; exact Nat.le_refl _) (msg := .ref sa) rfl
    (g := { method := m, pc := pc + 7, locals := ls, stack := .ref sa :: .ref T.heap.size :: .ref T.heap.size :: rest, locked := none }) rfl hsize (rest := rest) rfl
    (by rw [hb]; exact d6) hRframes (by simp only [List.map_cons, List.sum_cons, hcat]; omega)
  have Z0 := Stand.forget (locs := []) Z (fun y hy => by rw [hL y hy, hhp]; exact Nat.le_refl _)
  obtain ⟨f1, f2⟩ := vx_frame Z0.same
  rw [hhp] at f1 f2
  have hcid : ce.cls = D.1 ci := by
    rw [hcl9]
    have h1 := (hK.1 ci _ hc).2.1
    rw [hvm] at hfX
    exact Option.some.inj (hfX.symm.trans h1)
  have hh : (V.setCell T.heap.size ce).heap[T.heap.size]? = some ce := heapAt_setCell_self (s := V) ce hlt
  subst hA'
  have X5 := vx_back9 X Y Z0
  have X6 : Stand p l e R s m args below meth c (V.setCell T.heap.size ce) locs (cells + 1) (slots + 6) := { X5 with same := X5.same.mono (by omega) (by omega) }
  have hk9 : ∀ (k : Nat) (x : Nat × va_E), ws[k]? = some x → (V.setCell T.heap.size ce).heap[x.1]? = T.heap[x.1]? := fun k x hx => f2 x.1 ((hP k x hx).lt) (fun z hz => nomatch hz)
  obtain ⟨t, a1, b1⟩ := kk T.heap.size (V.setCell T.heap.size ce).heap ((hP.kept hk9).app (fun k x hx => by
      have hz : k < 1 := (List.getElem?_eq_some_iff.mp hx).1
      rw [show k = 0 by omega] at hx
      cases hx
      exact ⟨_, hc, ce, hh, hcid, hvm9, fun k hk => absurd hk (Nat.not_lt_zero k)⟩)) (hD.push hP rfl (hA _ hS.1)) ⟨Nat.le_trans hS.1 f1, fun q h1 h2 => (f2 q (Nat.lt_of_lt_of_le h1 hS.1) (fun z hz => nomatch hz)).trans (hS.2.1 q h1 h2), hS.2.2⟩ _ rfl X6
  refine ⟨t, st1 _ ?_, b1⟩
  show Steps p.tables e below (T1.setTop { method := m, pc := pc + 3, locals := ls, stack := .ref T.heap.size :: rest, locked := none }) _
  jvm_step X₁.here [X₁.here.top, hexec, d3', Value.category]
  exact X₁.ldcStringW hexec (own := own) (text := text) (index := is) (a := sa) hown' hstr'.1 hstr'.2
    (g := { method := m, pc := pc + 4, locals := ls, stack := .ref T.heap.size :: .ref T.heap.size :: rest, locked := none }) rfl d4' _ (st _ a1)
end
def zisB (w : Cond) : Bool := match w with
  | .castable _ _ => true
  | .declares _ => true
  | .methodLinkNest _ _ _ _ => true
  | _ => false
/-- words that the tables hold, but that aren't kept by the rows' own means -/
def zB : List Cond := lw_tbl.filter zisB
theorem zisB_warm {w : Cond} (h : zisB w = true) {s U : State} (hW : s.WarmedH U.vm) (hZ : va_Nw w s) : va_Nw w U := by
  unfold zisB at h
  split at h
  · exact va_Nw.warmC hW hZ
  · exact va_Nw.warmD hW hZ
  · exact va_Nw.warmM hW hZ
  · cases h
theorem zisB_on {w : Cond} (h : zisB w = true) : w.onTables = true := by
  unfold zisB at h
  split at h
  · rfl
  · rfl
  · rfl
  · cases h
def zStrs : List (Nat × String) := [(240, "out of its range"), (247, "not as things are"), (255, "no such vehicle"), (252, "no such rider"), (257, "no such request"), (259, "no such stop")]
/-- the world outside: ArrayList's empty row, what a throw reads, the words of zB, the texts, the class object of Object[] -/
def zG (em : Nat → Nat) (A : Nat → Prop) (U : State) (H : Heap) : Prop :=
  ¬ A (em 1) ∧ va_Z "java/util/ArrayList" "DEFAULTCAPACITY_EMPTY_ELEMENTDATA" "[Ljava/lang/Object;" (.ref (em 1)) A U H ∧ va_T (.object "java/lang/Object") (em 1) 0 (fun _ => .null) A U H ∧
  vx_Zq Bundle.tN "UNASSIGNED_STACK" Bundle.steD A U H ∧ vx_Zq Bundle.tN "SUPPRESSED_SENTINEL" Bundle.listD A U H ∧ (∀ w ∈ zB, va_Nw w U) ∧ (∀ x ∈ zStrs, ∃ sa, vk_R "DoorstepRides" x.1 x.2 sa U) ∧
  va_AO "java/lang/Object" U ∧ va_Dc U ∧ va_Mi "[Ljava/lang/Object;" (em 2) U
theorem zG.to {em : Nat → Nat} {A : Nat → Prop} {s U : State} {H1 : Heap} (h : zG em A s s.heap) (hW : s.WarmedH U.vm) (hk : ∀ a : Nat, a < s.heap.size → ¬ A a → H1[a]? = s.heap[a]?) : zG em A U H1 := by
  obtain ⟨h0, h1, h2, h3, h4, h5, h6, h7, h8, h9⟩ := h
  refine ⟨h0, va_Z.moved hW.alike (h1.kept hk), va_T.moved hW.alike (h2.kept hk), vx_Zq.moved hW.alike (h3.kept hk), vx_Zq.moved hW.alike (h4.kept hk), fun w hw => zisB_warm (List.mem_filter.mp hw).2 hW (h5 w hw), fun x hx => ?_, va_AO.moved hW.alike h7, va_Dc.moved hW.alike h8, va_Mi.moved hW.alike h9⟩
  obtain ⟨sa, hs⟩ := h6 x hx
  exact ⟨sa, vk_R.warm hW hs⟩
theorem zcats : ∀ (l : List Value), (l.map fun v => v.category).sum ≤ 2 * l.length
  | [] => by simp
  | v :: r => by
    have := zcats r
    have h2 : v.category ≤ 2 := by cases v <;> simp [Value.category]
    simp only [List.map_cons, List.sum_cons, List.length_cons]
    omega
end
section
/-! CALLS THAT AREN'T RUN BY THEIR CODE -/
def zblk (own : String) (idx a : Nat) : Prop :=
  (a = 2000 ∧ Cond.methodLink own idx Lib.objectInit ∈ zT ∧ Cond.instanceMethod Lib.objectInit ∈ zT ∧ Cond.code Lib.objectInit ⟨#[0xb1]⟩ 1 none ∈ zT) ∨
  (a = 2001 ∧ Cond.methodLink own idx Lib.Math.max.name ∈ zT ∧ Cond.static Lib.Math.max.name ∈ zT ∧ Cond.initialized "java/lang/Math" ∈ zT ∧ Cond.code Lib.Math.max.name Lib.Math.max.code 2 (some .int) ∈ zT) ∨
  (a = 2002 ∧ Cond.methodLink own idx Lib.Math.min.name ∈ zT ∧ Cond.static Lib.Math.min.name ∈ zT ∧ Cond.initialized "java/lang/Math" ∈ zT ∧ Cond.code Lib.Math.min.name Lib.Math.min.code 2 (some .int) ∈ zT) ∨
  (a = 2003 ∧ Cond.methodLink own idx Lib.Math.abs.name ∈ zT ∧ Cond.static Lib.Math.abs.name ∈ zT ∧ Cond.initialized "java/lang/Math" ∈ zT ∧ Cond.code Lib.Math.abs.name Lib.Math.abs.code 1 (some .int) ∈ zT) ∨
  (a = 2004 ∧ Cond.methodLink own idx arraycopyName ∈ zT ∧ Cond.native arraycopyName ∈ zT ∧ Cond.static arraycopyName ∈ zT ∧ Cond.initialized "java/lang/System" ∈ zT)
section
variable {p : Program} {l : Launch} {e : Env} {R : Room} {s : State} {m : MethodId} {args : Array Value} {below : List Frame} {meth : Method} {c : Code} {H : Heap} {locs : List Loc} {cells slots : Nat} {Q : State → Prop}
variable {cc : ByteArray} {pc : Nat} {em : Nat → Nat} {scb : Nat} {A : Nat → Prop} {D : va_G} {ws : va_W} {tys : List (ClassId × FieldType)} {own : String} {arr : Array Slot} {st st2 st' : List Value} {h h2 : zHp}
/-- an element of a row of objects may lie in a row of Object -/
theorem z_any {s0 : List Value} {f : Nat → Option Nat} (hK : va_K D classes tys s) (hP : va_P D classes ws H)
    (hcs : ∀ (ci : Nat) (r : vw_C), ci < 9 → classes[ci]? = some r → va_Nw (.castable r.1 "java/lang/Object") s)
    (k3 : ∀ j, j < s0.length → ∃ v, s0[j]? = some v ∧ (v = .null ∨ ∃ q c s e0, v = .ref q ∧ ws[q]? = some (e0, .inr (c, s)) ∧ c < 9) ∧ zV em scb ws v (va_rf (f j))) {j y : Nat} (hj : j < s0.length) (hy : f j = some y) : va_Any "java/lang/Object" s H y := by
  obtain ⟨v, h1, h2, h3⟩ := k3 j hj
  rw [hy] at h3
  rcases h2 with rfl | ⟨q, c, sl, e0, rfl, g1, g2⟩
  · have h3 : va_rf (some y) = .null := h3
    cases h3
  · obtain ⟨a, e1, g3, g4⟩ := h3
    rw [g1] at g3
    cases g3
    have g4 : Value.ref y = .ref e0 := g4
    cases g4
    have hr9 : ∃ r : vw_C, classes[c]? = some r := ⟨_, List.getElem?_eq_getElem (show c < classes.length from Nat.lt_trans g2 (by decide))⟩
    obtain ⟨r9, hr9⟩ := hr9
    refine va_rAny hK hP g1 hr9 (fun comp c0 hc1 hc2 => ?_)
    obtain ⟨c3, t1, f1, f2, f3⟩ := Cond.castable_spec (va_Nw.use (A := #[]) rfl (hcs c r9 g2 hr9))
    cases hc2.symm.trans f1
    cases hc1.symm.trans f2
    exact f3
set_option maxHeartbeats 2000000 in
theorem z_built {i : Instr} {idx a : Nat} (hx : p.tables.exec = Jvm.exec) (hb : c.code = cc) (hts : ∀ w ∈ zT, w.before args s = true) (hown : s.vm.findClass own = some m.cls) (hml : c.maxLocals = arr.size) (hK : va_K D classes tys s) (hP : va_P D classes ws H) (hD : va_D A ws) (hV : va_S A s.heap H locs)
    (hcs : ∀ (ci : Nat) (r : vw_C), ci < 9 → classes[ci]? = some r → va_Nw (.castable r.1 "java/lang/Object") s)
    (hfr : 1 ≤ R.frames) (hlo : 100 ≤ R.locals) (hc1 : cells ≤ R.cells) (hc2 : slots ≤ R.slots) (hlen : st.length ≤ 12)
    (hR : zR em scb ws tys h) (hS : zSt em scb ws st st') (hp : zbuilt a h st = some (h2, st2)) (hk : zblk own idx a)
    (hd : (a = 2000 → decode cc pc = .ok (.invokespecial idx, 3)) ∧ (2000 < a → decode cc pc = .ok (.invokestatic idx, 3)))
    (kk : ∀ (st2' : List Value) (ws' : va_W) (H1 : Heap) (locs1 : List Loc), zLe ws ws' → va_P D classes ws' H1 → va_D A ws' → va_S A s.heap H1 locs1 → zR em scb ws' tys h2 → zSt em scb ws' st2 st2' → W p l e R s m args below meth c H1 locs1 cells slots Q (F0 m (pc + 3) arr st2')) : W p l e R s m args below meth c H locs cells slots Q (F0 m pc arr st') := by
  have hl2 := hS.len
  have hcat : ∀ (r' : List Value), r'.length ≤ 12 → (r'.map fun v => v.category).sum ≤ 24 := fun r' hr => by have := zcats r'; omega
  rcases hk with ⟨rfl, k1, k2, k3⟩ | ⟨rfl, k1, k2, k3, k4⟩ | ⟨rfl, k1, k2, k3, k4⟩ | ⟨rfl, k1, k2, k3, k4⟩ | ⟨rfl, k1, k2, k3, k4⟩
  · simp only [zbuilt, if_pos] at hp
    split at hp
    · cases hp
      obtain ⟨x', r', rfl, ⟨ad, e0, g1, rfl⟩, hr⟩ := hS.any
      have hc := hcat r' (by simp only [List.length_cons] at hl2 hlen; omega)
      refine W.objInit hx hb hown (hts _ k1) (hts _ k2) (hts _ k3) rfl hml.symm rfl (hd.1 rfl) hfr ?_ ?_
      · show 2 * 0 + _ + 12 ≤ _
        omega
      · exact W.eq (g2 := F0 m (pc + 3) arr r') rfl (kk _ _ H locs zLe.rf hP hD hV hR hr)
    · cases hp
  · simp only [zbuilt, show ¬ (2001 = 2000) by decide, if_false, if_pos] at hp
    split at hp
    · cases hp
      obtain ⟨r1, rfl, hr1⟩ := hS.int
      obtain ⟨r', rfl, hr⟩ := hr1.int
      have hc := hcat r' (by simp only [List.length_cons] at hl2 hlen; omega)
      exact va_mmax hx hb hml hown (hts _ k1) (hts _ k2) (hts _ k3) (hts _ k4) hfr (by omega) hc1 hc2 (hd.2 (by decide)) (kk _ _ H locs zLe.rf hP hD hV hR ⟨rfl, hr⟩)
    · cases hp
  · simp only [zbuilt, show ¬ (2002 = 2000) by decide, show ¬ (2002 = 2001) by decide, if_false, if_pos] at hp
    split at hp
    · cases hp
      obtain ⟨r1, rfl, hr1⟩ := hS.int
      obtain ⟨r', rfl, hr⟩ := hr1.int
      have hc := hcat r' (by simp only [List.length_cons] at hl2 hlen; omega)
      exact va_mmin hx hb hml hown (hts _ k1) (hts _ k2) (hts _ k3) (hts _ k4) hfr (by omega) hc1 hc2 (hd.2 (by decide)) (kk _ _ H locs zLe.rf hP hD hV hR ⟨rfl, hr⟩)
    · cases hp
  · simp only [zbuilt, show ¬ (2003 = 2000) by decide, show ¬ (2003 = 2001) by decide, show ¬ (2003 = 2002) by decide, if_false, if_pos] at hp
    split at hp
    · cases hp
      obtain ⟨r', rfl, hr⟩ := hS.int
      have hc := hcat r' (by simp only [List.length_cons] at hl2 hlen; omega)
      exact va_mabs hx hb hml hown (hts _ k1) (hts _ k2) (hts _ k3) (hts _ k4) hfr (by omega) hc1 hc2 (hd.2 (by decide)) (kk _ _ H locs zLe.rf hP hD hV hR ⟨rfl, hr⟩)
    · cases hp
  · simp only [zbuilt, show ¬ (2004 = 2000) by decide, show ¬ (2004 = 2001) by decide, show ¬ (2004 = 2002) by decide, show ¬ (2004 = 2003) by decide, if_false, if_pos] at hp
    split at hp
    · rename_i n dp q1 sp q0 r
      split at hp
      · rename_i c0 s0 hq0
        split at hp
        · rename_i c1 s1 hq1
          split at hp
          · rename_i e0
            subst e0
            split at hp
            · rename_i e1
              subst e1
              split at hp
              · rename_i hcond
                obtain ⟨b1, b2, b3, b4, b5⟩ := hcond
                cases hp
                obtain ⟨r1, rfl, hr1⟩ := hS.int
                obtain ⟨r2, rfl, hr2⟩ := hr1.int
                obtain ⟨x1, r3, rfl, ⟨ad1, ea1, g1, rfl⟩, hr3⟩ := hr2.any
                obtain ⟨r4, rfl, hr4⟩ := hr3.int
                obtain ⟨x0, r', rfl, ⟨ad0, ea0, g0, rfl⟩, hr⟩ := hr4.any
                obtain ⟨ad2, e2, g2, g3⟩ := hR.get hq0
                rw [g0] at g2
                cases g2
                obtain ⟨ad3, e3, g4, g5⟩ := hR.get hq1
                rw [g1] at g4
                cases g4
                rcases g3 with ⟨y1, -⟩ | ⟨y1, -⟩ | ⟨y1, -⟩ | ⟨y1, -⟩ | ⟨-, cA, t, f, rfl, j2, j3⟩
                · simp at y1
                · simp at y1
                · simp at y1
                · simp at y1
                · rcases g5 with ⟨y1, -⟩ | ⟨y1, -⟩ | ⟨y1, -⟩ | ⟨y1, -⟩ | ⟨-, cB, t', g, rfl, j4, j5⟩
                  · simp at y1
                  · simp at y1
                  · simp at y1
                  · simp at y1
                  · have hc := hcat r' (by simp only [List.length_cons] at hl2 hlen; omega)
                    have hnf : nativeFrameWords "java/lang/System" "arraycopy" 5 = 7 := by decide +kernel
                    have hle : zLe ws (ws.set q1 (ad1, .inl (cB, s1.length, .inr (.inr (.inr (.inr (va_cpy f g sp.toNatClampNeg dp.toNatClampNeg n.toNatClampNeg))))))) := zLe.set g1 (fun _ _ z => by cases z)
                    have hX : zX em scb (ws.set q1 (ad1, .inl (cB, s1.length, .inr (.inr (.inr (.inr (va_cpy f g sp.toNatClampNeg dp.toNatClampNeg n.toNatClampNeg))))))) tys (103, zcpy s0 s1 sp.toNatClampNeg dp.toNatClampNeg n.toNatClampNeg) (.inl (cB, s1.length, .inr (.inr (.inr (.inr (va_cpy f g sp.toNatClampNeg dp.toNatClampNeg n.toNatClampNeg)))))) := by
                      refine Or.inr (Or.inr (Or.inr (Or.inr ⟨rfl, cB, t', va_cpy f g sp.toNatClampNeg dp.toNatClampNeg n.toNatClampNeg, by simp only [zcpy_len b4 b5], j4, fun j hj => ?_⟩)))
                      have hj : j < s1.length := by simpa only [zcpy_len b4 b5] using hj
                      have up : ∀ w : Value, (w = .null ∨ ∃ q9 c9 s9 e9, w = .ref q9 ∧ ws[q9]? = some (e9, .inr (c9, s9)) ∧ c9 < 9) → (w = .null ∨ ∃ q9 c9 s9 e9, w = .ref q9 ∧ (ws.set q1 (ad1, .inl (cB, s1.length, .inr (.inr (.inr (.inr (va_cpy f g sp.toNatClampNeg dp.toNatClampNeg n.toNatClampNeg)))))))[q9]? = some (e9, .inr (c9, s9)) ∧ c9 < 9) := by
                        rintro w (hw | ⟨q9, c9, s9, e9, h1, h2, h3⟩)
                        · exact Or.inl hw
                        · obtain ⟨e', h4, h5⟩ := hle q9 e9 _ h2
                          obtain ⟨s', rfl⟩ := h5 c9 s9 rfl
                          exact Or.inr ⟨q9, c9, s', e9, h1, h4, h3⟩
                      simp only [zcpy_get b4 b5, va_cpy]
                      by_cases hin : dp.toNatClampNeg ≤ j ∧ j < dp.toNatClampNeg + n.toNatClampNeg
                      · rw [if_pos hin, if_pos hin]
                        obtain ⟨w, w1, w2, w3⟩ := j3 (sp.toNatClampNeg + (j - dp.toNatClampNeg)) (by show _ < s0.length; omega)
                        exact ⟨w, w1, up w w2, w3.le hle⟩
                      · rw [if_neg hin, if_neg hin]
                        obtain ⟨w, w1, w2, w3⟩ := j5 j hj
                        exact ⟨w, w1, up w w2, w3.le hle⟩
                    have hRn := hR.set (ob := (103, zcpy s0 s1 sp.toNatClampNeg dp.toNatClampNeg n.toNatClampNeg)) hq1 g1 (fun _ _ z => by cases z) hX
                    refine va_copyM hx hb hml hown (hts _ k1) (hts _ k2) (hts _ k3) (hts _ k4) hK hP hD hV q0 q1 t t' g0 g1 j2 j4 (by rw [Int32.not_lt]; exact b1) (by rw [Int32.not_lt]; exact b2) (by rw [Int32.not_lt]; exact b3) b4 b5 (fun i hi y hy => z_any hK hP hcs j3 (by show _ < s0.length; omega) hy) hfr (by rw [hnf]; omega) (hd.2 (by decide)) (fun H1 locs1 q1' q2' q3' => kk _ _ H1 locs1 hle q1' q2' q3' hRn (hr.le hle))
              · cases hp
            · cases hp
          · cases hp
        · cases hp
      · cases hp
    · cases hp
end
end
