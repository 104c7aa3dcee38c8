section
-- ===== PART A: goes FIRST, ahead of the names: the tables' words, and 'selects' of the private methods out of them =====
/-- a private method of a class that the tables say can be made, by its rows of tables_1 -/
def lw_okq (q : MethodName × Nat) : Prop := (q.1.cls ≠ "java/lang/invoke/MethodHandle" ∧ q.1.cls ≠ "java/lang/invoke/VarHandle") ∧ Cond.instantiable q.1.cls q.2 ∈ tables_1 ∧ Cond.privateMethod q.1 ∈ tables_1 ∧ Cond.instanceMethod q.1 ∈ tables_1
theorem lw_p0 : lw_okq (⟨"OfDifferentMinds$Land", "addPlace", "()V"⟩, 6) := ⟨⟨by decide +kernel, by decide +kernel⟩, List.mem_of_getElem? (i := 49) (by decide +kernel), List.mem_of_getElem? (i := 347) (by decide +kernel), List.mem_of_getElem? (i := 348) (by decide +kernel)⟩
theorem lw_p1 : lw_okq (⟨"OfDifferentMinds$Land", "addWay", "(I)V"⟩, 6) := ⟨⟨by decide +kernel, by decide +kernel⟩, List.mem_of_getElem? (i := 49) (by decide +kernel), List.mem_of_getElem? (i := 353) (by decide +kernel), List.mem_of_getElem? (i := 354) (by decide +kernel)⟩
theorem lw_p2 : lw_okq (⟨"OfDifferentMinds", "admitAll", "()I"⟩, 14) := ⟨⟨by decide +kernel, by decide +kernel⟩, List.mem_of_getElem? (i := 21) (by decide +kernel), List.mem_of_getElem? (i := 396) (by decide +kernel), List.mem_of_getElem? (i := 397) (by decide +kernel)⟩
theorem lw_p3 : lw_okq (⟨"OfDifferentMinds$Standing", "set", "(III)V"⟩, 1) := ⟨⟨by decide +kernel, by decide +kernel⟩, List.mem_of_getElem? (i := 99) (by decide +kernel), List.mem_of_getElem? (i := 411) (by decide +kernel), List.mem_of_getElem? (i := 412) (by decide +kernel)⟩
theorem lw_p4 : lw_okq (⟨"OfDifferentMinds$Rule", "takeJoined", "(LOfDifferentMinds$Text;II)Z"⟩, 6) := ⟨⟨by decide +kernel, by decide +kernel⟩, List.mem_of_getElem? (i := 74) (by decide +kernel), List.mem_of_getElem? (i := 429) (by decide +kernel), List.mem_of_getElem? (i := 430) (by decide +kernel)⟩
theorem lw_p5 : lw_okq (⟨"OfDifferentMinds$Rule", "takeSigned", "(LOfDifferentMinds$Text;I)Z"⟩, 6) := ⟨⟨by decide +kernel, by decide +kernel⟩, List.mem_of_getElem? (i := 74) (by decide +kernel), List.mem_of_getElem? (i := 433) (by decide +kernel), List.mem_of_getElem? (i := 434) (by decide +kernel)⟩
theorem lw_p6 : lw_okq (⟨"OfDifferentMinds$Rule", "takeInner", "(LOfDifferentMinds$Text;I)Z"⟩, 6) := ⟨⟨by decide +kernel, by decide +kernel⟩, List.mem_of_getElem? (i := 74) (by decide +kernel), List.mem_of_getElem? (i := 439) (by decide +kernel), List.mem_of_getElem? (i := 440) (by decide +kernel)⟩
theorem lw_p7 : lw_okq (⟨"OfDifferentMinds$Rule", "takeThing", "(LOfDifferentMinds$Text;)Z"⟩, 6) := ⟨⟨by decide +kernel, by decide +kernel⟩, List.mem_of_getElem? (i := 74) (by decide +kernel), List.mem_of_getElem? (i := 447) (by decide +kernel), List.mem_of_getElem? (i := 448) (by decide +kernel)⟩
theorem lw_p8 : lw_okq (⟨"OfDifferentMinds$Rule", "write", "(I)V"⟩, 6) := ⟨⟨by decide +kernel, by decide +kernel⟩, List.mem_of_getElem? (i := 74) (by decide +kernel), List.mem_of_getElem? (i := 452) (by decide +kernel), List.mem_of_getElem? (i := 453) (by decide +kernel)⟩
theorem lw_p9 : lw_okq (⟨"OfDifferentMinds", "viewAt", "(II)I"⟩, 14) := ⟨⟨by decide +kernel, by decide +kernel⟩, List.mem_of_getElem? (i := 21) (by decide +kernel), List.mem_of_getElem? (i := 484) (by decide +kernel), List.mem_of_getElem? (i := 485) (by decide +kernel)⟩
theorem lw_p10 : lw_okq (⟨"OfDifferentMinds$Standing", "get", "(II)I"⟩, 1) := ⟨⟨by decide +kernel, by decide +kernel⟩, List.mem_of_getElem? (i := 99) (by decide +kernel), List.mem_of_getElem? (i := 496) (by decide +kernel), List.mem_of_getElem? (i := 497) (by decide +kernel)⟩
theorem lw_p11 : lw_okq (⟨"OfDifferentMinds", "limitSpent", "()V"⟩, 14) := ⟨⟨by decide +kernel, by decide +kernel⟩, List.mem_of_getElem? (i := 21) (by decide +kernel), List.mem_of_getElem? (i := 523) (by decide +kernel), List.mem_of_getElem? (i := 524) (by decide +kernel)⟩
theorem lw_p12 : lw_okq (⟨"OfDifferentMinds", "getOn", "(II)I"⟩, 14) := ⟨⟨by decide +kernel, by decide +kernel⟩, List.mem_of_getElem? (i := 21) (by decide +kernel), List.mem_of_getElem? (i := 552) (by decide +kernel), List.mem_of_getElem? (i := 553) (by decide +kernel)⟩
theorem lw_p13 : lw_okq (⟨"OfDifferentMinds", "areTwo", "(II)Z"⟩, 14) := ⟨⟨by decide +kernel, by decide +kernel⟩, List.mem_of_getElem? (i := 21) (by decide +kernel), List.mem_of_getElem? (i := 556) (by decide +kernel), List.mem_of_getElem? (i := 557) (by decide +kernel)⟩
theorem lw_p14 : lw_okq (⟨"OfDifferentMinds", "noted", "(I)I"⟩, 14) := ⟨⟨by decide +kernel, by decide +kernel⟩, List.mem_of_getElem? (i := 21) (by decide +kernel), List.mem_of_getElem? (i := 573) (by decide +kernel), List.mem_of_getElem? (i := 574) (by decide +kernel)⟩
theorem lw_p15 : lw_okq (⟨"OfDifferentMinds", "getOff", "()I"⟩, 14) := ⟨⟨by decide +kernel, by decide +kernel⟩, List.mem_of_getElem? (i := 21) (by decide +kernel), List.mem_of_getElem? (i := 586) (by decide +kernel), List.mem_of_getElem? (i := 587) (by decide +kernel)⟩
def lw_privs_1 : List (MethodName × Nat) := [(⟨"OfDifferentMinds$Land", "addPlace", "()V"⟩, 6), (⟨"OfDifferentMinds$Land", "addWay", "(I)V"⟩, 6), (⟨"OfDifferentMinds", "admitAll", "()I"⟩, 14), (⟨"OfDifferentMinds$Standing", "set", "(III)V"⟩, 1), (⟨"OfDifferentMinds$Rule", "takeJoined", "(LOfDifferentMinds$Text;II)Z"⟩, 6), (⟨"OfDifferentMinds$Rule", "takeSigned", "(LOfDifferentMinds$Text;I)Z"⟩, 6), (⟨"OfDifferentMinds$Rule", "takeInner", "(LOfDifferentMinds$Text;I)Z"⟩, 6), (⟨"OfDifferentMinds$Rule", "takeThing", "(LOfDifferentMinds$Text;)Z"⟩, 6), (⟨"OfDifferentMinds$Rule", "write", "(I)V"⟩, 6), (⟨"OfDifferentMinds", "viewAt", "(II)I"⟩, 14), (⟨"OfDifferentMinds$Standing", "get", "(II)I"⟩, 1), (⟨"OfDifferentMinds", "limitSpent", "()V"⟩, 14), (⟨"OfDifferentMinds", "getOn", "(II)I"⟩, 14), (⟨"OfDifferentMinds", "areTwo", "(II)Z"⟩, 14), (⟨"OfDifferentMinds", "noted", "(I)I"⟩, 14), (⟨"OfDifferentMinds", "getOff", "()I"⟩, 14)]
theorem lw_r1 : ∀ q ∈ lw_privs_1, lw_okq q := List.forall_mem_cons.mpr ⟨lw_p0, List.forall_mem_cons.mpr ⟨lw_p1, List.forall_mem_cons.mpr ⟨lw_p2, List.forall_mem_cons.mpr ⟨lw_p3, List.forall_mem_cons.mpr ⟨lw_p4, List.forall_mem_cons.mpr ⟨lw_p5, List.forall_mem_cons.mpr ⟨lw_p6, List.forall_mem_cons.mpr ⟨lw_p7, List.forall_mem_cons.mpr ⟨lw_p8, List.forall_mem_cons.mpr ⟨lw_p9, List.forall_mem_cons.mpr ⟨lw_p10, List.forall_mem_cons.mpr ⟨lw_p11, List.forall_mem_cons.mpr ⟨lw_p12, List.forall_mem_cons.mpr ⟨lw_p13, List.forall_mem_cons.mpr ⟨lw_p14, List.forall_mem_cons.mpr ⟨lw_p15, fun _ h => absurd h List.not_mem_nil⟩⟩⟩⟩⟩⟩⟩⟩⟩⟩⟩⟩⟩⟩⟩⟩
theorem lw_p16 : lw_okq (⟨"OfDifferentMinds", "goOn", "(I)I"⟩, 14) := ⟨⟨by decide +kernel, by decide +kernel⟩, List.mem_of_getElem? (i := 21) (by decide +kernel), List.mem_of_getElem? (i := 594) (by decide +kernel), List.mem_of_getElem? (i := 595) (by decide +kernel)⟩
theorem lw_p17 : lw_okq (⟨"OfDifferentMinds$Ride", "wayBy", "(II)I"⟩, 13) := ⟨⟨by decide +kernel, by decide +kernel⟩, List.mem_of_getElem? (i := 147) (by decide +kernel), List.mem_of_getElem? (i := 637) (by decide +kernel), List.mem_of_getElem? (i := 638) (by decide +kernel)⟩
theorem lw_p18 : lw_okq (⟨"OfDifferentMinds$Ride", "goBy", "(I)Z"⟩, 13) := ⟨⟨by decide +kernel, by decide +kernel⟩, List.mem_of_getElem? (i := 147) (by decide +kernel), List.mem_of_getElem? (i := 653) (by decide +kernel), List.mem_of_getElem? (i := 654) (by decide +kernel)⟩
theorem lw_p19 : lw_okq (⟨"OfDifferentMinds$Ride", "wear", "()V"⟩, 13) := ⟨⟨by decide +kernel, by decide +kernel⟩, List.mem_of_getElem? (i := 147) (by decide +kernel), List.mem_of_getElem? (i := 661) (by decide +kernel), List.mem_of_getElem? (i := 662) (by decide +kernel)⟩
theorem lw_p20 : lw_okq (⟨"OfDifferentMinds", "goAfoot", "(II)I"⟩, 14) := ⟨⟨by decide +kernel, by decide +kernel⟩, List.mem_of_getElem? (i := 21) (by decide +kernel), List.mem_of_getElem? (i := 719) (by decide +kernel), List.mem_of_getElem? (i := 720) (by decide +kernel)⟩
theorem lw_p21 : lw_okq (⟨"OfDifferentMinds", "goLeading", "(II)I"⟩, 14) := ⟨⟨by decide +kernel, by decide +kernel⟩, List.mem_of_getElem? (i := 21) (by decide +kernel), List.mem_of_getElem? (i := 733) (by decide +kernel), List.mem_of_getElem? (i := 734) (by decide +kernel)⟩
theorem lw_p22 : lw_okq (⟨"OfDifferentMinds", "sleep", "(I)I"⟩, 14) := ⟨⟨by decide +kernel, by decide +kernel⟩, List.mem_of_getElem? (i := 21) (by decide +kernel), List.mem_of_getElem? (i := 742) (by decide +kernel), List.mem_of_getElem? (i := 743) (by decide +kernel)⟩
theorem lw_p23 : lw_okq (⟨"OfDifferentMinds", "changeMaps", "(II)I"⟩, 14) := ⟨⟨by decide +kernel, by decide +kernel⟩, List.mem_of_getElem? (i := 21) (by decide +kernel), List.mem_of_getElem? (i := 755) (by decide +kernel), List.mem_of_getElem? (i := 756) (by decide +kernel)⟩
theorem lw_p24 : lw_okq (⟨"OfDifferentMinds", "act", "(III)I"⟩, 14) := ⟨⟨by decide +kernel, by decide +kernel⟩, List.mem_of_getElem? (i := 21) (by decide +kernel), List.mem_of_getElem? (i := 780) (by decide +kernel), List.mem_of_getElem? (i := 781) (by decide +kernel)⟩
theorem lw_p25 : lw_okq (⟨"OfDifferentMinds", "canRide", "(III)Z"⟩, 14) := ⟨⟨by decide +kernel, by decide +kernel⟩, List.mem_of_getElem? (i := 21) (by decide +kernel), List.mem_of_getElem? (i := 808) (by decide +kernel), List.mem_of_getElem? (i := 809) (by decide +kernel)⟩
theorem lw_p26 : lw_okq (⟨"OfDifferentMinds", "tellVisits", "()I"⟩, 14) := ⟨⟨by decide +kernel, by decide +kernel⟩, List.mem_of_getElem? (i := 21) (by decide +kernel), List.mem_of_getElem? (i := 826) (by decide +kernel), List.mem_of_getElem? (i := 827) (by decide +kernel)⟩
theorem lw_p27 : lw_okq (⟨"OfDifferentMinds", "stopsAt", "(IIII)Z"⟩, 14) := ⟨⟨by decide +kernel, by decide +kernel⟩, List.mem_of_getElem? (i := 21) (by decide +kernel), List.mem_of_getElem? (i := 843) (by decide +kernel), List.mem_of_getElem? (i := 844) (by decide +kernel)⟩
theorem lw_p28 : lw_okq (⟨"OfDifferentMinds$Atlas", "surveyFrom", "(I)I"⟩, 4) := ⟨⟨by decide +kernel, by decide +kernel⟩, List.mem_of_getElem? (i := 193) (by decide +kernel), List.mem_of_getElem? (i := 860) (by decide +kernel), List.mem_of_getElem? (i := 861) (by decide +kernel)⟩
theorem lw_p29 : lw_okq (⟨"OfDifferentMinds$Atlas", "beginAt", "(I)V"⟩, 4) := ⟨⟨by decide +kernel, by decide +kernel⟩, List.mem_of_getElem? (i := 193) (by decide +kernel), List.mem_of_getElem? (i := 873) (by decide +kernel), List.mem_of_getElem? (i := 874) (by decide +kernel)⟩
theorem lw_p30 : lw_okq (⟨"OfDifferentMinds$Atlas", "wayTo", "(II)I"⟩, 4) := ⟨⟨by decide +kernel, by decide +kernel⟩, List.mem_of_getElem? (i := 193) (by decide +kernel), List.mem_of_getElem? (i := 877) (by decide +kernel), List.mem_of_getElem? (i := 878) (by decide +kernel)⟩
theorem lw_p31 : lw_okq (⟨"OfDifferentMinds$Atlas", "farOf", "(I)I"⟩, 4) := ⟨⟨by decide +kernel, by decide +kernel⟩, List.mem_of_getElem? (i := 193) (by decide +kernel), List.mem_of_getElem? (i := 883) (by decide +kernel), List.mem_of_getElem? (i := 884) (by decide +kernel)⟩
def lw_privs_2 : List (MethodName × Nat) := [(⟨"OfDifferentMinds", "goOn", "(I)I"⟩, 14), (⟨"OfDifferentMinds$Ride", "wayBy", "(II)I"⟩, 13), (⟨"OfDifferentMinds$Ride", "goBy", "(I)Z"⟩, 13), (⟨"OfDifferentMinds$Ride", "wear", "()V"⟩, 13), (⟨"OfDifferentMinds", "goAfoot", "(II)I"⟩, 14), (⟨"OfDifferentMinds", "goLeading", "(II)I"⟩, 14), (⟨"OfDifferentMinds", "sleep", "(I)I"⟩, 14), (⟨"OfDifferentMinds", "changeMaps", "(II)I"⟩, 14), (⟨"OfDifferentMinds", "act", "(III)I"⟩, 14), (⟨"OfDifferentMinds", "canRide", "(III)Z"⟩, 14), (⟨"OfDifferentMinds", "tellVisits", "()I"⟩, 14), (⟨"OfDifferentMinds", "stopsAt", "(IIII)Z"⟩, 14), (⟨"OfDifferentMinds$Atlas", "surveyFrom", "(I)I"⟩, 4), (⟨"OfDifferentMinds$Atlas", "beginAt", "(I)V"⟩, 4), (⟨"OfDifferentMinds$Atlas", "wayTo", "(II)I"⟩, 4), (⟨"OfDifferentMinds$Atlas", "farOf", "(I)I"⟩, 4)]
theorem lw_r2 : ∀ q ∈ lw_privs_2, lw_okq q := List.forall_mem_cons.mpr ⟨lw_p16, List.forall_mem_cons.mpr ⟨lw_p17, List.forall_mem_cons.mpr ⟨lw_p18, List.forall_mem_cons.mpr ⟨lw_p19, List.forall_mem_cons.mpr ⟨lw_p20, List.forall_mem_cons.mpr ⟨lw_p21, List.forall_mem_cons.mpr ⟨lw_p22, List.forall_mem_cons.mpr ⟨lw_p23, List.forall_mem_cons.mpr ⟨lw_p24, List.forall_mem_cons.mpr ⟨lw_p25, List.forall_mem_cons.mpr ⟨lw_p26, List.forall_mem_cons.mpr ⟨lw_p27, List.forall_mem_cons.mpr ⟨lw_p28, List.forall_mem_cons.mpr ⟨lw_p29, List.forall_mem_cons.mpr ⟨lw_p30, List.forall_mem_cons.mpr ⟨lw_p31, fun _ h => absurd h List.not_mem_nil⟩⟩⟩⟩⟩⟩⟩⟩⟩⟩⟩⟩⟩⟩⟩⟩
theorem lw_p32 : lw_okq (⟨"OfDifferentMinds$Atlas", "pairTo", "(II)I"⟩, 4) := ⟨⟨by decide +kernel, by decide +kernel⟩, List.mem_of_getElem? (i := 193) (by decide +kernel), List.mem_of_getElem? (i := 888) (by decide +kernel), List.mem_of_getElem? (i := 889) (by decide +kernel)⟩
theorem lw_p33 : lw_okq (⟨"OfDifferentMinds", "stepsOf", "(III)I"⟩, 14) := ⟨⟨by decide +kernel, by decide +kernel⟩, List.mem_of_getElem? (i := 21) (by decide +kernel), List.mem_of_getElem? (i := 916) (by decide +kernel), List.mem_of_getElem? (i := 917) (by decide +kernel)⟩
theorem lw_p34 : lw_okq (⟨"OfDifferentMinds$Matching", "part", "(IIIZ)V"⟩, 4) := ⟨⟨by decide +kernel, by decide +kernel⟩, List.mem_of_getElem? (i := 212) (by decide +kernel), List.mem_of_getElem? (i := 942) (by decide +kernel), List.mem_of_getElem? (i := 943) (by decide +kernel)⟩
theorem lw_p35 : lw_okq (⟨"OfDifferentMinds", "leavesPrints", "(II)Z"⟩, 14) := ⟨⟨by decide +kernel, by decide +kernel⟩, List.mem_of_getElem? (i := 21) (by decide +kernel), List.mem_of_getElem? (i := 999) (by decide +kernel), List.mem_of_getElem? (i := 1000) (by decide +kernel)⟩
theorem lw_p36 : lw_okq (⟨"OfDifferentMinds", "viewsBetween", "(III)I"⟩, 14) := ⟨⟨by decide +kernel, by decide +kernel⟩, List.mem_of_getElem? (i := 21) (by decide +kernel), List.mem_of_getElem? (i := 1007) (by decide +kernel), List.mem_of_getElem? (i := 1008) (by decide +kernel)⟩
theorem lw_p37 : lw_okq (⟨"OfDifferentMinds", "editionSeen", "(II)I"⟩, 14) := ⟨⟨by decide +kernel, by decide +kernel⟩, List.mem_of_getElem? (i := 21) (by decide +kernel), List.mem_of_getElem? (i := 1018) (by decide +kernel), List.mem_of_getElem? (i := 1019) (by decide +kernel)⟩
theorem lw_p38 : lw_okq (⟨"OfDifferentMinds", "holdersOf", "(III)I"⟩, 14) := ⟨⟨by decide +kernel, by decide +kernel⟩, List.mem_of_getElem? (i := 21) (by decide +kernel), List.mem_of_getElem? (i := 1031) (by decide +kernel), List.mem_of_getElem? (i := 1032) (by decide +kernel)⟩
theorem lw_p39 : lw_okq (⟨"OfDifferentMinds", "rideInCounty", "(I)I"⟩, 14) := ⟨⟨by decide +kernel, by decide +kernel⟩, List.mem_of_getElem? (i := 21) (by decide +kernel), List.mem_of_getElem? (i := 1039) (by decide +kernel), List.mem_of_getElem? (i := 1040) (by decide +kernel)⟩
theorem lw_p40 : lw_okq (⟨"OfDifferentMinds", "draw", "(I)I"⟩, 14) := ⟨⟨by decide +kernel, by decide +kernel⟩, List.mem_of_getElem? (i := 21) (by decide +kernel), List.mem_of_getElem? (i := 1043) (by decide +kernel), List.mem_of_getElem? (i := 1044) (by decide +kernel)⟩
theorem lw_p41 : lw_okq (⟨"OfDifferentMinds", "farthestRidden", "()I"⟩, 14) := ⟨⟨by decide +kernel, by decide +kernel⟩, List.mem_of_getElem? (i := 21) (by decide +kernel), List.mem_of_getElem? (i := 1049) (by decide +kernel), List.mem_of_getElem? (i := 1050) (by decide +kernel)⟩
theorem lw_p42 : lw_okq (⟨"OfDifferentMinds", "convincedOnes", "()I"⟩, 14) := ⟨⟨by decide +kernel, by decide +kernel⟩, List.mem_of_getElem? (i := 21) (by decide +kernel), List.mem_of_getElem? (i := 1076) (by decide +kernel), List.mem_of_getElem? (i := 1077) (by decide +kernel)⟩
theorem lw_p43 : lw_okq (⟨"java/lang/Throwable", "fillInStackTrace", "(I)Ljava/lang/Throwable;"⟩, 6) := ⟨⟨by decide +kernel, by decide +kernel⟩, List.mem_of_getElem? (i := 1129) (by decide +kernel), List.mem_of_getElem? (i := 1127) (by decide +kernel), List.mem_of_getElem? (i := 1128) (by decide +kernel)⟩
theorem lw_p44 : lw_okq (⟨"OfDifferentMinds", "ridersAt", "(I)I"⟩, 14) := ⟨⟨by decide +kernel, by decide +kernel⟩, List.mem_of_getElem? (i := 21) (by decide +kernel), List.mem_of_getElem? (i := 1159) (by decide +kernel), List.mem_of_getElem? (i := 1160) (by decide +kernel)⟩
theorem lw_p45 : lw_okq (⟨"OfDifferentMindsModel", "empty", "()V"⟩, 52) := ⟨⟨by decide +kernel, by decide +kernel⟩, List.mem_of_getElem? (i := 1179) (by decide +kernel), List.mem_of_getElem? (i := 1185) (by decide +kernel), List.mem_of_getElem? (i := 1186) (by decide +kernel)⟩
theorem lw_p46 : lw_okq (⟨"OfDifferentMindsModel", "begin", "([BII)V"⟩, 52) := ⟨⟨by decide +kernel, by decide +kernel⟩, List.mem_of_getElem? (i := 1179) (by decide +kernel), List.mem_of_getElem? (i := 1366) (by decide +kernel), List.mem_of_getElem? (i := 1367) (by decide +kernel)⟩
theorem lw_p47 : lw_okq (⟨"OfDifferentMindsModel", "fine", "()Z"⟩, 52) := ⟨⟨by decide +kernel, by decide +kernel⟩, List.mem_of_getElem? (i := 1179) (by decide +kernel), List.mem_of_getElem? (i := 1370) (by decide +kernel), List.mem_of_getElem? (i := 1371) (by decide +kernel)⟩
def lw_privs_3 : List (MethodName × Nat) := [(⟨"OfDifferentMinds$Atlas", "pairTo", "(II)I"⟩, 4), (⟨"OfDifferentMinds", "stepsOf", "(III)I"⟩, 14), (⟨"OfDifferentMinds$Matching", "part", "(IIIZ)V"⟩, 4), (⟨"OfDifferentMinds", "leavesPrints", "(II)Z"⟩, 14), (⟨"OfDifferentMinds", "viewsBetween", "(III)I"⟩, 14), (⟨"OfDifferentMinds", "editionSeen", "(II)I"⟩, 14), (⟨"OfDifferentMinds", "holdersOf", "(III)I"⟩, 14), (⟨"OfDifferentMinds", "rideInCounty", "(I)I"⟩, 14), (⟨"OfDifferentMinds", "draw", "(I)I"⟩, 14), (⟨"OfDifferentMinds", "farthestRidden", "()I"⟩, 14), (⟨"OfDifferentMinds", "convincedOnes", "()I"⟩, 14), (⟨"java/lang/Throwable", "fillInStackTrace", "(I)Ljava/lang/Throwable;"⟩, 6), (⟨"OfDifferentMinds", "ridersAt", "(I)I"⟩, 14), (⟨"OfDifferentMindsModel", "empty", "()V"⟩, 52), (⟨"OfDifferentMindsModel", "begin", "([BII)V"⟩, 52), (⟨"OfDifferentMindsModel", "fine", "()Z"⟩, 52)]
theorem lw_r3 : ∀ q ∈ lw_privs_3, lw_okq q := List.forall_mem_cons.mpr ⟨lw_p32, List.forall_mem_cons.mpr ⟨lw_p33, List.forall_mem_cons.mpr ⟨lw_p34, List.forall_mem_cons.mpr ⟨lw_p35, List.forall_mem_cons.mpr ⟨lw_p36, List.forall_mem_cons.mpr ⟨lw_p37, List.forall_mem_cons.mpr ⟨lw_p38, List.forall_mem_cons.mpr ⟨lw_p39, List.forall_mem_cons.mpr ⟨lw_p40, List.forall_mem_cons.mpr ⟨lw_p41, List.forall_mem_cons.mpr ⟨lw_p42, List.forall_mem_cons.mpr ⟨lw_p43, List.forall_mem_cons.mpr ⟨lw_p44, List.forall_mem_cons.mpr ⟨lw_p45, List.forall_mem_cons.mpr ⟨lw_p46, List.forall_mem_cons.mpr ⟨lw_p47, fun _ h => absurd h List.not_mem_nil⟩⟩⟩⟩⟩⟩⟩⟩⟩⟩⟩⟩⟩⟩⟩⟩
theorem lw_p48 : lw_okq (⟨"OfDifferentMindsModel", "fault", "(I)V"⟩, 52) := ⟨⟨by decide +kernel, by decide +kernel⟩, List.mem_of_getElem? (i := 1179) (by decide +kernel), List.mem_of_getElem? (i := 1374) (by decide +kernel), List.mem_of_getElem? (i := 1375) (by decide +kernel)⟩
theorem lw_p49 : lw_okq (⟨"OfDifferentMindsModel", "readPlace", "(I)V"⟩, 52) := ⟨⟨by decide +kernel, by decide +kernel⟩, List.mem_of_getElem? (i := 1179) (by decide +kernel), List.mem_of_getElem? (i := 1378) (by decide +kernel), List.mem_of_getElem? (i := 1379) (by decide +kernel)⟩
theorem lw_p50 : lw_okq (⟨"OfDifferentMindsModel", "passes", "(C)Z"⟩, 52) := ⟨⟨by decide +kernel, by decide +kernel⟩, List.mem_of_getElem? (i := 1179) (by decide +kernel), List.mem_of_getElem? (i := 1382) (by decide +kernel), List.mem_of_getElem? (i := 1383) (by decide +kernel)⟩
theorem lw_p51 : lw_okq (⟨"OfDifferentMindsModel", "here", "()I"⟩, 52) := ⟨⟨by decide +kernel, by decide +kernel⟩, List.mem_of_getElem? (i := 1179) (by decide +kernel), List.mem_of_getElem? (i := 1386) (by decide +kernel), List.mem_of_getElem? (i := 1387) (by decide +kernel)⟩
theorem lw_p52 : lw_okq (⟨"OfDifferentMindsModel", "readRider", "(I)V"⟩, 52) := ⟨⟨by decide +kernel, by decide +kernel⟩, List.mem_of_getElem? (i := 1179) (by decide +kernel), List.mem_of_getElem? (i := 1394) (by decide +kernel), List.mem_of_getElem? (i := 1395) (by decide +kernel)⟩
theorem lw_p53 : lw_okq (⟨"OfDifferentMindsModel", "number", "(I)I"⟩, 52) := ⟨⟨by decide +kernel, by decide +kernel⟩, List.mem_of_getElem? (i := 1179) (by decide +kernel), List.mem_of_getElem? (i := 1398) (by decide +kernel), List.mem_of_getElem? (i := 1399) (by decide +kernel)⟩
theorem lw_p54 : lw_okq (⟨"OfDifferentMindsModel", "digit", "(II)I"⟩, 52) := ⟨⟨by decide +kernel, by decide +kernel⟩, List.mem_of_getElem? (i := 1179) (by decide +kernel), List.mem_of_getElem? (i := 1402) (by decide +kernel), List.mem_of_getElem? (i := 1403) (by decide +kernel)⟩
theorem lw_p55 : lw_okq (⟨"OfDifferentMindsModel", "need", "(C)V"⟩, 52) := ⟨⟨by decide +kernel, by decide +kernel⟩, List.mem_of_getElem? (i := 1179) (by decide +kernel), List.mem_of_getElem? (i := 1406) (by decide +kernel), List.mem_of_getElem? (i := 1407) (by decide +kernel)⟩
theorem lw_p56 : lw_okq (⟨"OfDifferentMindsModel", "held", "(I)I"⟩, 52) := ⟨⟨by decide +kernel, by decide +kernel⟩, List.mem_of_getElem? (i := 1179) (by decide +kernel), List.mem_of_getElem? (i := 1414) (by decide +kernel), List.mem_of_getElem? (i := 1415) (by decide +kernel)⟩
theorem lw_p57 : lw_okq (⟨"OfDifferentMindsModel", "sum", "(I)I"⟩, 52) := ⟨⟨by decide +kernel, by decide +kernel⟩, List.mem_of_getElem? (i := 1179) (by decide +kernel), List.mem_of_getElem? (i := 1418) (by decide +kernel), List.mem_of_getElem? (i := 1419) (by decide +kernel)⟩
theorem lw_p58 : lw_okq (⟨"OfDifferentMindsModel", "product", "(I)I"⟩, 52) := ⟨⟨by decide +kernel, by decide +kernel⟩, List.mem_of_getElem? (i := 1179) (by decide +kernel), List.mem_of_getElem? (i := 1422) (by decide +kernel), List.mem_of_getElem? (i := 1423) (by decide +kernel)⟩
theorem lw_p59 : lw_okq (⟨"OfDifferentMindsModel", "thing", "(I)I"⟩, 52) := ⟨⟨by decide +kernel, by decide +kernel⟩, List.mem_of_getElem? (i := 1179) (by decide +kernel), List.mem_of_getElem? (i := 1426) (by decide +kernel), List.mem_of_getElem? (i := 1427) (by decide +kernel)⟩
theorem lw_p60 : lw_okq (⟨"OfDifferentMindsModel", "isPlace", "(I)Z"⟩, 52) := ⟨⟨by decide +kernel, by decide +kernel⟩, List.mem_of_getElem? (i := 1179) (by decide +kernel), List.mem_of_getElem? (i := 1437) (by decide +kernel), List.mem_of_getElem? (i := 1438) (by decide +kernel)⟩
theorem lw_p61 : lw_okq (⟨"OfDifferentMindsModel", "lost", "()I"⟩, 52) := ⟨⟨by decide +kernel, by decide +kernel⟩, List.mem_of_getElem? (i := 1179) (by decide +kernel), List.mem_of_getElem? (i := 1441) (by decide +kernel), List.mem_of_getElem? (i := 1442) (by decide +kernel)⟩
theorem lw_p62 : lw_okq (⟨"OfDifferentMindsModel", "isRider", "(I)Z"⟩, 52) := ⟨⟨by decide +kernel, by decide +kernel⟩, List.mem_of_getElem? (i := 1179) (by decide +kernel), List.mem_of_getElem? (i := 1449) (by decide +kernel), List.mem_of_getElem? (i := 1450) (by decide +kernel)⟩
theorem lw_p63 : lw_okq (⟨"OfDifferentMindsModel", "viewOf", "([III)I"⟩, 52) := ⟨⟨by decide +kernel, by decide +kernel⟩, List.mem_of_getElem? (i := 1179) (by decide +kernel), List.mem_of_getElem? (i := 1453) (by decide +kernel), List.mem_of_getElem? (i := 1454) (by decide +kernel)⟩
def lw_privs_4 : List (MethodName × Nat) := [(⟨"OfDifferentMindsModel", "fault", "(I)V"⟩, 52), (⟨"OfDifferentMindsModel", "readPlace", "(I)V"⟩, 52), (⟨"OfDifferentMindsModel", "passes", "(C)Z"⟩, 52), (⟨"OfDifferentMindsModel", "here", "()I"⟩, 52), (⟨"OfDifferentMindsModel", "readRider", "(I)V"⟩, 52), (⟨"OfDifferentMindsModel", "number", "(I)I"⟩, 52), (⟨"OfDifferentMindsModel", "digit", "(II)I"⟩, 52), (⟨"OfDifferentMindsModel", "need", "(C)V"⟩, 52), (⟨"OfDifferentMindsModel", "held", "(I)I"⟩, 52), (⟨"OfDifferentMindsModel", "sum", "(I)I"⟩, 52), (⟨"OfDifferentMindsModel", "product", "(I)I"⟩, 52), (⟨"OfDifferentMindsModel", "thing", "(I)I"⟩, 52), (⟨"OfDifferentMindsModel", "isPlace", "(I)Z"⟩, 52), (⟨"OfDifferentMindsModel", "lost", "()I"⟩, 52), (⟨"OfDifferentMindsModel", "isRider", "(I)Z"⟩, 52), (⟨"OfDifferentMindsModel", "viewOf", "([III)I"⟩, 52)]
theorem lw_r4 : ∀ q ∈ lw_privs_4, lw_okq q := List.forall_mem_cons.mpr ⟨lw_p48, List.forall_mem_cons.mpr ⟨lw_p49, List.forall_mem_cons.mpr ⟨lw_p50, List.forall_mem_cons.mpr ⟨lw_p51, List.forall_mem_cons.mpr ⟨lw_p52, List.forall_mem_cons.mpr ⟨lw_p53, List.forall_mem_cons.mpr ⟨lw_p54, List.forall_mem_cons.mpr ⟨lw_p55, List.forall_mem_cons.mpr ⟨lw_p56, List.forall_mem_cons.mpr ⟨lw_p57, List.forall_mem_cons.mpr ⟨lw_p58, List.forall_mem_cons.mpr ⟨lw_p59, List.forall_mem_cons.mpr ⟨lw_p60, List.forall_mem_cons.mpr ⟨lw_p61, List.forall_mem_cons.mpr ⟨lw_p62, List.forall_mem_cons.mpr ⟨lw_p63, fun _ h => absurd h List.not_mem_nil⟩⟩⟩⟩⟩⟩⟩⟩⟩⟩⟩⟩⟩⟩⟩⟩
theorem lw_p64 : lw_okq (⟨"OfDifferentMindsModel", "refusesMount", "(II)I"⟩, 52) := ⟨⟨by decide +kernel, by decide +kernel⟩, List.mem_of_getElem? (i := 1179) (by decide +kernel), List.mem_of_getElem? (i := 1474) (by decide +kernel), List.mem_of_getElem? (i := 1475) (by decide +kernel)⟩
theorem lw_p65 : lw_okq (⟨"OfDifferentMindsModel", "areTwo", "(II)Z"⟩, 52) := ⟨⟨by decide +kernel, by decide +kernel⟩, List.mem_of_getElem? (i := 1179) (by decide +kernel), List.mem_of_getElem? (i := 1478) (by decide +kernel), List.mem_of_getElem? (i := 1479) (by decide +kernel)⟩
theorem lw_p66 : lw_okq (⟨"OfDifferentMindsModel", "isRidden", "()Z"⟩, 52) := ⟨⟨by decide +kernel, by decide +kernel⟩, List.mem_of_getElem? (i := 1179) (by decide +kernel), List.mem_of_getElem? (i := 1482) (by decide +kernel), List.mem_of_getElem? (i := 1483) (by decide +kernel)⟩
theorem lw_p67 : lw_okq (⟨"OfDifferentMindsModel", "remember", "([I)V"⟩, 52) := ⟨⟨by decide +kernel, by decide +kernel⟩, List.mem_of_getElem? (i := 1179) (by decide +kernel), List.mem_of_getElem? (i := 1486) (by decide +kernel), List.mem_of_getElem? (i := 1487) (by decide +kernel)⟩
theorem lw_p68 : lw_okq (⟨"OfDifferentMindsModel", "goMount", "(II)V"⟩, 52) := ⟨⟨by decide +kernel, by decide +kernel⟩, List.mem_of_getElem? (i := 1179) (by decide +kernel), List.mem_of_getElem? (i := 1493) (by decide +kernel), List.mem_of_getElem? (i := 1494) (by decide +kernel)⟩
theorem lw_p69 : lw_okq (⟨"OfDifferentMindsModel", "goDown", "()V"⟩, 52) := ⟨⟨by decide +kernel, by decide +kernel⟩, List.mem_of_getElem? (i := 1179) (by decide +kernel), List.mem_of_getElem? (i := 1501) (by decide +kernel), List.mem_of_getElem? (i := 1502) (by decide +kernel)⟩
theorem lw_p70 : lw_okq (⟨"OfDifferentMindsModel", "goRide", "([II)I"⟩, 52) := ⟨⟨by decide +kernel, by decide +kernel⟩, List.mem_of_getElem? (i := 1179) (by decide +kernel), List.mem_of_getElem? (i := 1509) (by decide +kernel), List.mem_of_getElem? (i := 1510) (by decide +kernel)⟩
theorem lw_p71 : lw_okq (⟨"OfDifferentMindsModel", "step", "([I)Z"⟩, 52) := ⟨⟨by decide +kernel, by decide +kernel⟩, List.mem_of_getElem? (i := 1179) (by decide +kernel), List.mem_of_getElem? (i := 1513) (by decide +kernel), List.mem_of_getElem? (i := 1514) (by decide +kernel)⟩
theorem lw_p72 : lw_okq (⟨"OfDifferentMindsModel", "goesOn", "([I)Z"⟩, 52) := ⟨⟨by decide +kernel, by decide +kernel⟩, List.mem_of_getElem? (i := 1179) (by decide +kernel), List.mem_of_getElem? (i := 1517) (by decide +kernel), List.mem_of_getElem? (i := 1518) (by decide +kernel)⟩
theorem lw_p73 : lw_okq (⟨"OfDifferentMindsModel", "goStep", "([III)V"⟩, 52) := ⟨⟨by decide +kernel, by decide +kernel⟩, List.mem_of_getElem? (i := 1179) (by decide +kernel), List.mem_of_getElem? (i := 1521) (by decide +kernel), List.mem_of_getElem? (i := 1522) (by decide +kernel)⟩
theorem lw_p74 : lw_okq (⟨"OfDifferentMindsModel", "leftOf", "([II)I"⟩, 52) := ⟨⟨by decide +kernel, by decide +kernel⟩, List.mem_of_getElem? (i := 1179) (by decide +kernel), List.mem_of_getElem? (i := 1525) (by decide +kernel), List.mem_of_getElem? (i := 1526) (by decide +kernel)⟩
theorem lw_p75 : lw_okq (⟨"OfDifferentMindsModel", "wayBy", "(IIIIII)I"⟩, 52) := ⟨⟨by decide +kernel, by decide +kernel⟩, List.mem_of_getElem? (i := 1179) (by decide +kernel), List.mem_of_getElem? (i := 1529) (by decide +kernel), List.mem_of_getElem? (i := 1530) (by decide +kernel)⟩
theorem lw_p76 : lw_okq (⟨"OfDifferentMindsModel", "tell", "(I)V"⟩, 52) := ⟨⟨by decide +kernel, by decide +kernel⟩, List.mem_of_getElem? (i := 1179) (by decide +kernel), List.mem_of_getElem? (i := 1533) (by decide +kernel), List.mem_of_getElem? (i := 1534) (by decide +kernel)⟩
theorem lw_p77 : lw_okq (⟨"OfDifferentMindsModel", "refusesWalk", "(II)I"⟩, 52) := ⟨⟨by decide +kernel, by decide +kernel⟩, List.mem_of_getElem? (i := 1179) (by decide +kernel), List.mem_of_getElem? (i := 1541) (by decide +kernel), List.mem_of_getElem? (i := 1542) (by decide +kernel)⟩
theorem lw_p78 : lw_okq (⟨"OfDifferentMindsModel", "isWay", "(II)Z"⟩, 52) := ⟨⟨by decide +kernel, by decide +kernel⟩, List.mem_of_getElem? (i := 1179) (by decide +kernel), List.mem_of_getElem? (i := 1545) (by decide +kernel), List.mem_of_getElem? (i := 1546) (by decide +kernel)⟩
theorem lw_p79 : lw_okq (⟨"OfDifferentMindsModel", "goWalk", "(II)I"⟩, 52) := ⟨⟨by decide +kernel, by decide +kernel⟩, List.mem_of_getElem? (i := 1179) (by decide +kernel), List.mem_of_getElem? (i := 1549) (by decide +kernel), List.mem_of_getElem? (i := 1550) (by decide +kernel)⟩
def lw_privs_5 : List (MethodName × Nat) := [(⟨"OfDifferentMindsModel", "refusesMount", "(II)I"⟩, 52), (⟨"OfDifferentMindsModel", "areTwo", "(II)Z"⟩, 52), (⟨"OfDifferentMindsModel", "isRidden", "()Z"⟩, 52), (⟨"OfDifferentMindsModel", "remember", "([I)V"⟩, 52), (⟨"OfDifferentMindsModel", "goMount", "(II)V"⟩, 52), (⟨"OfDifferentMindsModel", "goDown", "()V"⟩, 52), (⟨"OfDifferentMindsModel", "goRide", "([II)I"⟩, 52), (⟨"OfDifferentMindsModel", "step", "([I)Z"⟩, 52), (⟨"OfDifferentMindsModel", "goesOn", "([I)Z"⟩, 52), (⟨"OfDifferentMindsModel", "goStep", "([III)V"⟩, 52), (⟨"OfDifferentMindsModel", "leftOf", "([II)I"⟩, 52), (⟨"OfDifferentMindsModel", "wayBy", "(IIIIII)I"⟩, 52), (⟨"OfDifferentMindsModel", "tell", "(I)V"⟩, 52), (⟨"OfDifferentMindsModel", "refusesWalk", "(II)I"⟩, 52), (⟨"OfDifferentMindsModel", "isWay", "(II)Z"⟩, 52), (⟨"OfDifferentMindsModel", "goWalk", "(II)I"⟩, 52)]
theorem lw_r5 : ∀ q ∈ lw_privs_5, lw_okq q := List.forall_mem_cons.mpr ⟨lw_p64, List.forall_mem_cons.mpr ⟨lw_p65, List.forall_mem_cons.mpr ⟨lw_p66, List.forall_mem_cons.mpr ⟨lw_p67, List.forall_mem_cons.mpr ⟨lw_p68, List.forall_mem_cons.mpr ⟨lw_p69, List.forall_mem_cons.mpr ⟨lw_p70, List.forall_mem_cons.mpr ⟨lw_p71, List.forall_mem_cons.mpr ⟨lw_p72, List.forall_mem_cons.mpr ⟨lw_p73, List.forall_mem_cons.mpr ⟨lw_p74, List.forall_mem_cons.mpr ⟨lw_p75, List.forall_mem_cons.mpr ⟨lw_p76, List.forall_mem_cons.mpr ⟨lw_p77, List.forall_mem_cons.mpr ⟨lw_p78, List.forall_mem_cons.mpr ⟨lw_p79, fun _ h => absurd h List.not_mem_nil⟩⟩⟩⟩⟩⟩⟩⟩⟩⟩⟩⟩⟩⟩⟩⟩
theorem lw_p80 : lw_okq (⟨"OfDifferentMindsModel", "refusesLead", "(II)I"⟩, 52) := ⟨⟨by decide +kernel, by decide +kernel⟩, List.mem_of_getElem? (i := 1179) (by decide +kernel), List.mem_of_getElem? (i := 1557) (by decide +kernel), List.mem_of_getElem? (i := 1558) (by decide +kernel)⟩
theorem lw_p81 : lw_okq (⟨"OfDifferentMindsModel", "goLead", "(II)I"⟩, 52) := ⟨⟨by decide +kernel, by decide +kernel⟩, List.mem_of_getElem? (i := 1179) (by decide +kernel), List.mem_of_getElem? (i := 1561) (by decide +kernel), List.mem_of_getElem? (i := 1562) (by decide +kernel)⟩
theorem lw_p82 : lw_okq (⟨"OfDifferentMindsModel", "refusesRest", "(I)I"⟩, 52) := ⟨⟨by decide +kernel, by decide +kernel⟩, List.mem_of_getElem? (i := 1179) (by decide +kernel), List.mem_of_getElem? (i := 1569) (by decide +kernel), List.mem_of_getElem? (i := 1570) (by decide +kernel)⟩
theorem lw_p83 : lw_okq (⟨"OfDifferentMindsModel", "isAtInn", "(I)Z"⟩, 52) := ⟨⟨by decide +kernel, by decide +kernel⟩, List.mem_of_getElem? (i := 1179) (by decide +kernel), List.mem_of_getElem? (i := 1573) (by decide +kernel), List.mem_of_getElem? (i := 1574) (by decide +kernel)⟩
theorem lw_p84 : lw_okq (⟨"OfDifferentMindsModel", "goRest", "(I)I"⟩, 52) := ⟨⟨by decide +kernel, by decide +kernel⟩, List.mem_of_getElem? (i := 1179) (by decide +kernel), List.mem_of_getElem? (i := 1580) (by decide +kernel), List.mem_of_getElem? (i := 1581) (by decide +kernel)⟩
theorem lw_p85 : lw_okq (⟨"OfDifferentMindsModel", "refusesDeal", "(II)I"⟩, 52) := ⟨⟨by decide +kernel, by decide +kernel⟩, List.mem_of_getElem? (i := 1179) (by decide +kernel), List.mem_of_getElem? (i := 1588) (by decide +kernel), List.mem_of_getElem? (i := 1589) (by decide +kernel)⟩
theorem lw_p86 : lw_okq (⟨"OfDifferentMindsModel", "goDeal", "(II)I"⟩, 52) := ⟨⟨by decide +kernel, by decide +kernel⟩, List.mem_of_getElem? (i := 1179) (by decide +kernel), List.mem_of_getElem? (i := 1592) (by decide +kernel), List.mem_of_getElem? (i := 1593) (by decide +kernel)⟩
theorem lw_p87 : lw_okq (⟨"OfDifferentMindsModel", "readAct", "(I)V"⟩, 52) := ⟨⟨by decide +kernel, by decide +kernel⟩, List.mem_of_getElem? (i := 1179) (by decide +kernel), List.mem_of_getElem? (i := 1600) (by decide +kernel), List.mem_of_getElem? (i := 1601) (by decide +kernel)⟩
theorem lw_p88 : lw_okq (⟨"OfDifferentMindsModel", "act", "(III)Z"⟩, 52) := ⟨⟨by decide +kernel, by decide +kernel⟩, List.mem_of_getElem? (i := 1179) (by decide +kernel), List.mem_of_getElem? (i := 1604) (by decide +kernel), List.mem_of_getElem? (i := 1605) (by decide +kernel)⟩
theorem lw_p89 : lw_okq (⟨"OfDifferentMindsModel", "capSpent", "()V"⟩, 52) := ⟨⟨by decide +kernel, by decide +kernel⟩, List.mem_of_getElem? (i := 1179) (by decide +kernel), List.mem_of_getElem? (i := 1612) (by decide +kernel), List.mem_of_getElem? (i := 1613) (by decide +kernel)⟩
theorem lw_p90 : lw_okq (⟨"OfDifferentMindsModel", "canRide", "(III)Z"⟩, 52) := ⟨⟨by decide +kernel, by decide +kernel⟩, List.mem_of_getElem? (i := 1179) (by decide +kernel), List.mem_of_getElem? (i := 1624) (by decide +kernel), List.mem_of_getElem? (i := 1625) (by decide +kernel)⟩
theorem lw_p91 : lw_okq (⟨"OfDifferentMindsModel", "mountThen", "(IIIZ)V"⟩, 52) := ⟨⟨by decide +kernel, by decide +kernel⟩, List.mem_of_getElem? (i := 1179) (by decide +kernel), List.mem_of_getElem? (i := 1628) (by decide +kernel), List.mem_of_getElem? (i := 1629) (by decide +kernel)⟩
theorem lw_p92 : lw_okq (⟨"OfDifferentMindsModel", "freshen", "()V"⟩, 52) := ⟨⟨by decide +kernel, by decide +kernel⟩, List.mem_of_getElem? (i := 1179) (by decide +kernel), List.mem_of_getElem? (i := 1632) (by decide +kernel), List.mem_of_getElem? (i := 1633) (by decide +kernel)⟩
theorem lw_p93 : lw_okq (⟨"OfDifferentMindsModel", "stopOf", "(IIIZ)I"⟩, 52) := ⟨⟨by decide +kernel, by decide +kernel⟩, List.mem_of_getElem? (i := 1179) (by decide +kernel), List.mem_of_getElem? (i := 1649) (by decide +kernel), List.mem_of_getElem? (i := 1650) (by decide +kernel)⟩
theorem lw_p94 : lw_okq (⟨"OfDifferentMindsModel", "layStops", "()V"⟩, 52) := ⟨⟨by decide +kernel, by decide +kernel⟩, List.mem_of_getElem? (i := 1179) (by decide +kernel), List.mem_of_getElem? (i := 1657) (by decide +kernel), List.mem_of_getElem? (i := 1658) (by decide +kernel)⟩
theorem lw_p95 : lw_okq (⟨"OfDifferentMindsModel", "ridesBy", "(IIIII)I"⟩, 52) := ⟨⟨by decide +kernel, by decide +kernel⟩, List.mem_of_getElem? (i := 1179) (by decide +kernel), List.mem_of_getElem? (i := 1661) (by decide +kernel), List.mem_of_getElem? (i := 1662) (by decide +kernel)⟩
def lw_privs_6 : List (MethodName × Nat) := [(⟨"OfDifferentMindsModel", "refusesLead", "(II)I"⟩, 52), (⟨"OfDifferentMindsModel", "goLead", "(II)I"⟩, 52), (⟨"OfDifferentMindsModel", "refusesRest", "(I)I"⟩, 52), (⟨"OfDifferentMindsModel", "isAtInn", "(I)Z"⟩, 52), (⟨"OfDifferentMindsModel", "goRest", "(I)I"⟩, 52), (⟨"OfDifferentMindsModel", "refusesDeal", "(II)I"⟩, 52), (⟨"OfDifferentMindsModel", "goDeal", "(II)I"⟩, 52), (⟨"OfDifferentMindsModel", "readAct", "(I)V"⟩, 52), (⟨"OfDifferentMindsModel", "act", "(III)Z"⟩, 52), (⟨"OfDifferentMindsModel", "capSpent", "()V"⟩, 52), (⟨"OfDifferentMindsModel", "canRide", "(III)Z"⟩, 52), (⟨"OfDifferentMindsModel", "mountThen", "(IIIZ)V"⟩, 52), (⟨"OfDifferentMindsModel", "freshen", "()V"⟩, 52), (⟨"OfDifferentMindsModel", "stopOf", "(IIIZ)I"⟩, 52), (⟨"OfDifferentMindsModel", "layStops", "()V"⟩, 52), (⟨"OfDifferentMindsModel", "ridesBy", "(IIIII)I"⟩, 52)]
theorem lw_r6 : ∀ q ∈ lw_privs_6, lw_okq q := List.forall_mem_cons.mpr ⟨lw_p80, List.forall_mem_cons.mpr ⟨lw_p81, List.forall_mem_cons.mpr ⟨lw_p82, List.forall_mem_cons.mpr ⟨lw_p83, List.forall_mem_cons.mpr ⟨lw_p84, List.forall_mem_cons.mpr ⟨lw_p85, List.forall_mem_cons.mpr ⟨lw_p86, List.forall_mem_cons.mpr ⟨lw_p87, List.forall_mem_cons.mpr ⟨lw_p88, List.forall_mem_cons.mpr ⟨lw_p89, List.forall_mem_cons.mpr ⟨lw_p90, List.forall_mem_cons.mpr ⟨lw_p91, List.forall_mem_cons.mpr ⟨lw_p92, List.forall_mem_cons.mpr ⟨lw_p93, List.forall_mem_cons.mpr ⟨lw_p94, List.forall_mem_cons.mpr ⟨lw_p95, fun _ h => absurd h List.not_mem_nil⟩⟩⟩⟩⟩⟩⟩⟩⟩⟩⟩⟩⟩⟩⟩⟩
theorem lw_p96 : lw_okq (⟨"OfDifferentMindsModel", "stopAt", "(III)I"⟩, 52) := ⟨⟨by decide +kernel, by decide +kernel⟩, List.mem_of_getElem? (i := 1179) (by decide +kernel), List.mem_of_getElem? (i := 1665) (by decide +kernel), List.mem_of_getElem? (i := 1666) (by decide +kernel)⟩
theorem lw_p97 : lw_okq (⟨"OfDifferentMindsModel", "stepsOf", "(III)I"⟩, 52) := ⟨⟨by decide +kernel, by decide +kernel⟩, List.mem_of_getElem? (i := 1179) (by decide +kernel), List.mem_of_getElem? (i := 1681) (by decide +kernel), List.mem_of_getElem? (i := 1682) (by decide +kernel)⟩
theorem lw_p98 : lw_okq (⟨"OfDifferentMindsModel", "areThose", "(I)Z"⟩, 52) := ⟨⟨by decide +kernel, by decide +kernel⟩, List.mem_of_getElem? (i := 1179) (by decide +kernel), List.mem_of_getElem? (i := 1689) (by decide +kernel), List.mem_of_getElem? (i := 1690) (by decide +kernel)⟩
theorem lw_p99 : lw_okq (⟨"OfDifferentMindsModel", "goMatches", "(IIIII)V"⟩, 52) := ⟨⟨by decide +kernel, by decide +kernel⟩, List.mem_of_getElem? (i := 1179) (by decide +kernel), List.mem_of_getElem? (i := 1694) (by decide +kernel), List.mem_of_getElem? (i := 1695) (by decide +kernel)⟩
theorem lw_p100 : lw_okq (⟨"OfDifferentMindsModel", "wayOfClaim", "(II)I"⟩, 52) := ⟨⟨by decide +kernel, by decide +kernel⟩, List.mem_of_getElem? (i := 1179) (by decide +kernel), List.mem_of_getElem? (i := 1714) (by decide +kernel), List.mem_of_getElem? (i := 1715) (by decide +kernel)⟩
theorem lw_p101 : lw_okq (⟨"OfDifferentMindsModel", "claims", "(II)Z"⟩, 52) := ⟨⟨by decide +kernel, by decide +kernel⟩, List.mem_of_getElem? (i := 1179) (by decide +kernel), List.mem_of_getElem? (i := 1722) (by decide +kernel), List.mem_of_getElem? (i := 1723) (by decide +kernel)⟩
theorem lw_p102 : lw_okq (⟨"OfDifferentMindsModel", "isPrinted", "(II)Z"⟩, 52) := ⟨⟨by decide +kernel, by decide +kernel⟩, List.mem_of_getElem? (i := 1179) (by decide +kernel), List.mem_of_getElem? (i := 1734) (by decide +kernel), List.mem_of_getElem? (i := 1735) (by decide +kernel)⟩
theorem lw_p103 : lw_okq (⟨"OfDifferentMindsModel", "areLike", "(II)Z"⟩, 52) := ⟨⟨by decide +kernel, by decide +kernel⟩, List.mem_of_getElem? (i := 1179) (by decide +kernel), List.mem_of_getElem? (i := 1746) (by decide +kernel), List.mem_of_getElem? (i := 1747) (by decide +kernel)⟩
theorem lw_p104 : lw_okq (⟨"OfDifferentMindsModel", "draw", "(I)I"⟩, 52) := ⟨⟨by decide +kernel, by decide +kernel⟩, List.mem_of_getElem? (i := 1179) (by decide +kernel), List.mem_of_getElem? (i := 1758) (by decide +kernel), List.mem_of_getElem? (i := 1759) (by decide +kernel)⟩
def lw_privs_7 : List (MethodName × Nat) := [(⟨"OfDifferentMindsModel", "stopAt", "(III)I"⟩, 52), (⟨"OfDifferentMindsModel", "stepsOf", "(III)I"⟩, 52), (⟨"OfDifferentMindsModel", "areThose", "(I)Z"⟩, 52), (⟨"OfDifferentMindsModel", "goMatches", "(IIIII)V"⟩, 52), (⟨"OfDifferentMindsModel", "wayOfClaim", "(II)I"⟩, 52), (⟨"OfDifferentMindsModel", "claims", "(II)Z"⟩, 52), (⟨"OfDifferentMindsModel", "isPrinted", "(II)Z"⟩, 52), (⟨"OfDifferentMindsModel", "areLike", "(II)Z"⟩, 52), (⟨"OfDifferentMindsModel", "draw", "(I)I"⟩, 52)]
theorem lw_r7 : ∀ q ∈ lw_privs_7, lw_okq q := List.forall_mem_cons.mpr ⟨lw_p96, List.forall_mem_cons.mpr ⟨lw_p97, List.forall_mem_cons.mpr ⟨lw_p98, List.forall_mem_cons.mpr ⟨lw_p99, List.forall_mem_cons.mpr ⟨lw_p100, List.forall_mem_cons.mpr ⟨lw_p101, List.forall_mem_cons.mpr ⟨lw_p102, List.forall_mem_cons.mpr ⟨lw_p103, List.forall_mem_cons.mpr ⟨lw_p104, fun _ h => absurd h List.not_mem_nil⟩⟩⟩⟩⟩⟩⟩⟩⟩
def lw_privs : List (MethodName × Nat) := lw_privs_1 ++ (lw_privs_2 ++ (lw_privs_3 ++ (lw_privs_4 ++ (lw_privs_5 ++ (lw_privs_6 ++ (lw_privs_7))))))
def lw_tbl : List Cond := k2_sels lw_privs ++ tables_1
theorem lw_privs_ok : ∀ q ∈ lw_privs, lw_okq q := by
  show ∀ q ∈ lw_privs_1 ++ (lw_privs_2 ++ (lw_privs_3 ++ (lw_privs_4 ++ (lw_privs_5 ++ (lw_privs_6 ++ (lw_privs_7)))))), lw_okq q
  exact List.forall_mem_append.mpr ⟨lw_r1, List.forall_mem_append.mpr ⟨lw_r2, List.forall_mem_append.mpr ⟨lw_r3, List.forall_mem_append.mpr ⟨lw_r4, List.forall_mem_append.mpr ⟨lw_r5, List.forall_mem_append.mpr ⟨lw_r6, lw_r7⟩⟩⟩⟩⟩⟩
-- ===== end of PART A; then your names; then what follows =====
end
section
/-! ===== the classes, their fields, the names of the methods; links as numbers ===== -/
def lw_g : List Cond := lw_tbl.filter goodWord
def jx_T0 : u_T := fun k => match k with
  | 0 => ("OfDifferentMinds$Atlas", "land", "LOfDifferentMinds$Land;", true)
  | 1 => ("OfDifferentMinds$Atlas", "ride", "LOfDifferentMinds$Ride;", true)
  | 2 => ("OfDifferentMinds$Atlas", "ends", "[I", true)
  | _ => ("OfDifferentMinds$Atlas", "far", "[I", true)
def jx_T1 : u_T := fun k => match k with
  | _ => ("OfDifferentMinds$Grammar", "", "I", false)
def jx_T2 : u_T := fun k => match k with
  | 0 => ("OfDifferentMinds$History", "past", "[LOfDifferentMinds$Standing;", true)
  | 1 => ("OfDifferentMinds$History", "kept", "[LOfDifferentMinds$Standing;", true)
  | 2 => ("OfDifferentMinds$History", "next", "I", false)
  | 3 => ("OfDifferentMinds$History", "size", "I", false)
  | _ => ("OfDifferentMinds$History", "keptOnes", "I", false)
def jx_T3 : u_T := fun k => match k with
  | 0 => ("OfDifferentMinds$Land", "ways", "[I", true)
  | 1 => ("OfDifferentMinds$Land", "leads", "[I", true)
  | 2 => ("OfDifferentMinds$Land", "minds", "[I", true)
  | 3 => ("OfDifferentMinds$Land", "places", "I", false)
  | 4 => ("OfDifferentMinds$Land", "inns", "I", false)
  | _ => ("OfDifferentMinds$Land", "riders", "I", false)
def jx_T4 : u_T := fun k => match k with
  | 0 => ("OfDifferentMinds$Matching", "steps", "[I", true)
  | 1 => ("OfDifferentMinds$Matching", "with", "[I", true)
  | 2 => ("OfDifferentMinds$Matching", "bestWith", "[I", true)
  | _ => ("OfDifferentMinds$Matching", "most", "I", false)
def jx_T5 : u_T := fun k => match k with
  | 0 => ("OfDifferentMinds$Ride", "land", "LOfDifferentMinds$Land;", true)
  | 1 => ("OfDifferentMinds$Ride", "rule", "LOfDifferentMinds$Rule;", true)
  | 2 => ("OfDifferentMinds$Ride", "now", "LOfDifferentMinds$Standing;", true)
  | 3 => ("OfDifferentMinds$Ride", "who", "[I", true)
  | 4 => ("OfDifferentMinds$Ride", "left", "[I", true)
  | 5 => ("OfDifferentMinds$Ride", "by", "[I", true)
  | 6 => ("OfDifferentMinds$Ride", "own", "[I", true)
  | 7 => ("OfDifferentMinds$Ride", "map", "[I", true)
  | 8 => ("OfDifferentMinds$Ride", "place", "I", false)
  | 9 => ("OfDifferentMinds$Ride", "begun", "I", false)
  | 10 => ("OfDifferentMinds$Ride", "taken", "I", false)
  | 11 => ("OfDifferentMinds$Ride", "latest", "I", false)
  | _ => ("OfDifferentMinds$Ride", "stopped", "Z", false)
def jx_T6 : u_T := fun k => match k with
  | 0 => ("OfDifferentMinds$Row", "numbers", "[I", true)
  | _ => ("OfDifferentMinds$Row", "size", "I", false)
def jx_T7 : u_T := fun k => match k with
  | 0 => ("OfDifferentMinds$Rule", "code", "[I", true)
  | 1 => ("OfDifferentMinds$Rule", "draft", "[I", true)
  | 2 => ("OfDifferentMinds$Rule", "stack", "[I", true)
  | 3 => ("OfDifferentMinds$Rule", "things", "[I", true)
  | 4 => ("OfDifferentMinds$Rule", "length", "I", false)
  | _ => ("OfDifferentMinds$Rule", "drafted", "I", false)
def jx_T8 : u_T := fun k => match k with
  | _ => ("OfDifferentMinds$Standing", "numbers", "[I", true)
def jx_T9 : u_T := fun k => match k with
  | 0 => ("OfDifferentMinds$Text", "signs", "[I", true)
  | 1 => ("OfDifferentMinds$Text", "length", "I", false)
  | 2 => ("OfDifferentMinds$Text", "most", "I", false)
  | _ => ("OfDifferentMinds$Text", "next", "I", false)
def jx_T10 : u_T := fun k => match k with
  | 0 => ("OfDifferentMinds", "text", "LOfDifferentMinds$Text;", true)
  | 1 => ("OfDifferentMinds", "land", "LOfDifferentMinds$Land;", true)
  | 2 => ("OfDifferentMinds", "rule", "LOfDifferentMinds$Rule;", true)
  | 3 => ("OfDifferentMinds", "now", "LOfDifferentMinds$Standing;", true)
  | 4 => ("OfDifferentMinds", "history", "LOfDifferentMinds$History;", true)
  | 5 => ("OfDifferentMinds", "told", "LOfDifferentMinds$Row;", true)
  | 6 => ("OfDifferentMinds", "trial", "LOfDifferentMinds$Ride;", true)
  | 7 => ("OfDifferentMinds", "atlas", "LOfDifferentMinds$Atlas;", true)
  | 8 => ("OfDifferentMinds", "matching", "LOfDifferentMinds$Matching;", true)
  | 9 => ("OfDifferentMinds", "print", "[I", true)
  | 10 => ("OfDifferentMinds", "ridden", "[I", true)
  | 11 => ("OfDifferentMinds", "visits", "[I", true)
  | 12 => ("OfDifferentMinds", "printed", "I", false)
  | _ => ("OfDifferentMinds", "drawn", "I", false)
def jx_T11 : u_T := fun k => match k with
  | 0 => ("OfDifferentMindsModel", "now", "[I", true)
  | 1 => ("OfDifferentMindsModel", "places", "I", false)
  | 2 => ("OfDifferentMindsModel", "ways", "[I", true)
  | 3 => ("OfDifferentMindsModel", "leads", "[I", true)
  | 4 => ("OfDifferentMindsModel", "inns", "I", false)
  | 5 => ("OfDifferentMindsModel", "riders", "I", false)
  | 6 => ("OfDifferentMindsModel", "minds", "[I", true)
  | 7 => ("OfDifferentMindsModel", "digits", "[I", true)
  | 8 => ("OfDifferentMindsModel", "text", "[B", true)
  | 9 => ("OfDifferentMindsModel", "typed", "I", false)
  | 10 => ("OfDifferentMindsModel", "row", "[I", true)
  | 11 => ("OfDifferentMindsModel", "rowMany", "I", false)
  | 12 => ("OfDifferentMindsModel", "thrown", "I", false)
  | 13 => ("OfDifferentMindsModel", "read", "[B", false)
  | 14 => ("OfDifferentMindsModel", "length", "I", false)
  | 15 => ("OfDifferentMindsModel", "top", "I", false)
  | 16 => ("OfDifferentMindsModel", "at", "I", false)
  | 17 => ("OfDifferentMindsModel", "wrong", "I", false)
  | 18 => ("OfDifferentMindsModel", "newWays", "[I", true)
  | 19 => ("OfDifferentMindsModel", "newLeads", "[I", true)
  | 20 => ("OfDifferentMindsModel", "letterAt", "[I", true)
  | 21 => ("OfDifferentMindsModel", "newInns", "I", false)
  | 22 => ("OfDifferentMindsModel", "fresh", "[I", true)
  | 23 => ("OfDifferentMindsModel", "rule", "[B", true)
  | 24 => ("OfDifferentMindsModel", "ruleSize", "I", false)
  | 25 => ("OfDifferentMindsModel", "isAsked", "Z", false)
  | 26 => ("OfDifferentMindsModel", "asked", "[I", true)
  | 27 => ("OfDifferentMindsModel", "convinced", "I", false)
  | 28 => ("OfDifferentMindsModel", "undos", "[I", true)
  | 29 => ("OfDifferentMindsModel", "undoMany", "I", false)
  | 30 => ("OfDifferentMindsModel", "aside", "[I", true)
  | 31 => ("OfDifferentMindsModel", "lastConvinced", "I", false)
  | 32 => ("OfDifferentMindsModel", "acts", "[I", true)
  | 33 => ("OfDifferentMindsModel", "allSteps", "I", false)
  | 34 => ("OfDifferentMindsModel", "then", "[I", true)
  | 35 => ("OfDifferentMindsModel", "visits", "[I", true)
  | 36 => ("OfDifferentMindsModel", "stopSteps", "I", false)
  | 37 => ("OfDifferentMindsModel", "freshStop", "[I", true)
  | 38 => ("OfDifferentMindsModel", "rides", "[I", true)
  | 39 => ("OfDifferentMindsModel", "with", "[I", true)
  | 40 => ("OfDifferentMindsModel", "bestWith", "[I", true)
  | 41 => ("OfDifferentMindsModel", "mostSteps", "I", false)
  | 42 => ("OfDifferentMindsModel", "prints", "[I", true)
  | 43 => ("OfDifferentMindsModel", "printMany", "I", false)
  | 44 => ("OfDifferentMindsModel", "edition", "[I", true)
  | 45 => ("OfDifferentMindsModel", "many", "[I", true)
  | 46 => ("OfDifferentMindsModel", "drawn", "I", false)
  | 47 => ("OfDifferentMindsModel", "rode", "[I", true)
  | 48 => ("OfDifferentMindsModel", "came", "I", false)
  | 49 => ("OfDifferentMindsModel", "kept", "[I", true)
  | 50 => ("OfDifferentMindsModel", "isKept", "[Z", true)
  | _ => ("OfDifferentMindsModel", "keptCame", "[I", true)
def jx_cl : List vw_C := [("OfDifferentMinds$Atlas", jx_T0, 4), ("OfDifferentMinds$Grammar", jx_T1, 0), ("OfDifferentMinds$History", jx_T2, 5), ("OfDifferentMinds$Land", jx_T3, 6), ("OfDifferentMinds$Matching", jx_T4, 4), ("OfDifferentMinds$Ride", jx_T5, 13), ("OfDifferentMinds$Row", jx_T6, 2), ("OfDifferentMinds$Rule", jx_T7, 6), ("OfDifferentMinds$Standing", jx_T8, 1), ("OfDifferentMinds$Text", jx_T9, 4), ("OfDifferentMinds", jx_T10, 14), ("OfDifferentMindsModel", jx_T11, 52)]
def jx_tl : List (List FieldType) := [[.object "OfDifferentMinds$Land", .object "OfDifferentMinds$Ride", .array .int, .array .int],
  [],
  [.array (.object "OfDifferentMinds$Standing"), .array (.object "OfDifferentMinds$Standing"), .int, .int, .int],
  [.array .int, .array .int, .array .int, .int, .int, .int],
  [.array .int, .array .int, .array .int, .int],
  [.object "OfDifferentMinds$Land", .object "OfDifferentMinds$Rule", .object "OfDifferentMinds$Standing", .array .int, .array .int, .array .int, .array .int, .array .int, .int, .int, .int, .int, .boolean],
  [.array .int, .int],
  [.array .int, .array .int, .array .int, .array .int, .int, .int],
  [.array .int],
  [.array .int, .int, .int, .int],
  [.object "OfDifferentMinds$Text", .object "OfDifferentMinds$Land", .object "OfDifferentMinds$Rule", .object "OfDifferentMinds$Standing", .object "OfDifferentMinds$History", .object "OfDifferentMinds$Row", .object "OfDifferentMinds$Ride", .object "OfDifferentMinds$Atlas", .object "OfDifferentMinds$Matching", .array .int, .array .int, .array .int, .int, .int],
  [.array .int, .int, .array .int, .array .int, .int, .int, .array .int, .array .int, .array .byte, .int, .array .int, .int, .int, .array .byte, .int, .int, .int, .int, .array .int, .array .int, .array .int, .int, .array .int, .array .byte, .int, .boolean, .array .int, .int, .array .int, .int, .array .int, .int, .array .int, .int, .array .int, .array .int, .int, .array .int, .array .int, .array .int, .array .int, .int, .array .int, .int, .array .int, .array .int, .int, .array .int, .int, .array .int, .array .boolean, .array .int]]
def jx_ty (c k : Nat) : FieldType := (jx_tl.getD c []).getD k .int
def jx_nm (c : Nat) : String := match c with
  | 0 => "OfDifferentMinds$Atlas"
  | 1 => "OfDifferentMinds$Grammar"
  | 2 => "OfDifferentMinds$History"
  | 3 => "OfDifferentMinds$Land"
  | 4 => "OfDifferentMinds$Matching"
  | 5 => "OfDifferentMinds$Ride"
  | 6 => "OfDifferentMinds$Row"
  | 7 => "OfDifferentMinds$Rule"
  | 8 => "OfDifferentMinds$Standing"
  | 9 => "OfDifferentMinds$Text"
  | 10 => "OfDifferentMinds"
  | 11 => "OfDifferentMindsModel"
  | 12 => "java/lang/Integer"
  | _ => "java/lang/Math"
def jx_ys : List MethodName := [
  ⟨"OfDifferentMinds$Atlas", "<init>", "(LOfDifferentMinds$Land;LOfDifferentMinds$Ride;)V"⟩,
  ⟨"OfDifferentMinds$Atlas", "survey", "(I)I"⟩,
  ⟨"OfDifferentMinds$Atlas", "surveyFrom", "(I)I"⟩,
  ⟨"OfDifferentMinds$Atlas", "beginAt", "(I)V"⟩,
  ⟨"OfDifferentMinds$Atlas", "farOf", "(I)I"⟩,
  ⟨"OfDifferentMinds$Atlas", "fewest", "(IIZ)I"⟩,
  ⟨"OfDifferentMinds$Atlas", "pairTo", "(II)I"⟩,
  ⟨"OfDifferentMinds$Atlas", "tellRides", "(ILOfDifferentMinds$Row;)V"⟩,
  ⟨"OfDifferentMinds$Atlas", "wayTo", "(II)I"⟩,
  ⟨"OfDifferentMinds$Atlas", "tellWays", "(ILOfDifferentMinds$Row;)V"⟩,
  ⟨"OfDifferentMinds$Grammar", "inRoads", "(LOfDifferentMinds$Text;)I"⟩,
  ⟨"OfDifferentMinds$Grammar", "inRoadLines", "(LOfDifferentMinds$Text;)I"⟩,
  ⟨"OfDifferentMinds$Grammar", "takeRoadLine", "(LOfDifferentMinds$Text;)Z"⟩,
  ⟨"OfDifferentMinds$Grammar", "inRiders", "(LOfDifferentMinds$Text;II)I"⟩,
  ⟨"OfDifferentMinds$Grammar", "inRiderLine", "(LOfDifferentMinds$Text;I)I"⟩,
  ⟨"OfDifferentMinds$Grammar", "inJourney", "(LOfDifferentMinds$Text;)I"⟩,
  ⟨"OfDifferentMinds$Grammar", "takeAct", "(LOfDifferentMinds$Text;)Z"⟩,
  ⟨"OfDifferentMinds$Grammar", "inPrints", "(LOfDifferentMinds$Text;I)I"⟩,
  ⟨"OfDifferentMinds$History", "<init>", "()V"⟩,
  ⟨"OfDifferentMinds$History", "size", "()I"⟩,
  ⟨"OfDifferentMinds$History", "forgetAll", "()V"⟩,
  ⟨"OfDifferentMinds$History", "note", "(LOfDifferentMinds$Standing;)V"⟩,
  ⟨"OfDifferentMinds$History", "push", "()V"⟩,
  ⟨"OfDifferentMinds$History", "back", "(LOfDifferentMinds$Standing;)Z"⟩,
  ⟨"OfDifferentMinds$History", "keepUnder", "(ILOfDifferentMinds$Standing;)Z"⟩,
  ⟨"OfDifferentMinds$History", "bringBack", "(ILOfDifferentMinds$Standing;)Z"⟩,
  ⟨"OfDifferentMinds$Land", "<init>", "()V"⟩,
  ⟨"OfDifferentMinds$Land", "places", "()I"⟩,
  ⟨"OfDifferentMinds$Land", "riderCount", "()I"⟩,
  ⟨"OfDifferentMinds$Land", "inns", "()I"⟩,
  ⟨"OfDifferentMinds$Land", "hasPlace", "(I)Z"⟩,
  ⟨"OfDifferentMinds$Land", "hasRider", "(I)Z"⟩,
  ⟨"OfDifferentMinds$Land", "hasRiders", "(I)Z"⟩,
  ⟨"OfDifferentMinds$Land", "waysAt", "(I)I"⟩,
  ⟨"OfDifferentMinds$Land", "isInn", "(I)Z"⟩,
  ⟨"OfDifferentMinds$Land", "leadsTo", "(II)I"⟩,
  ⟨"OfDifferentMinds$Land", "viewOf", "(II)I"⟩,
  ⟨"OfDifferentMinds$Land", "mindOf", "(I)I"⟩,
  ⟨"OfDifferentMinds$Land", "setMind", "(II)V"⟩,
  ⟨"OfDifferentMinds$Land", "admit", "(I)V"⟩,
  ⟨"OfDifferentMinds$Land", "lay", "(LOfDifferentMinds$Text;)V"⟩,
  ⟨"OfDifferentMinds$Land", "addPlace", "()V"⟩,
  ⟨"OfDifferentMinds$Land", "addWay", "(I)V"⟩,
  ⟨"OfDifferentMinds$Matching", "<init>", "()V"⟩,
  ⟨"OfDifferentMinds$Matching", "setSteps", "(III)V"⟩,
  ⟨"OfDifferentMinds$Matching", "best", "(I)I"⟩,
  ⟨"OfDifferentMinds$Matching", "part", "(IIIZ)V"⟩,
  ⟨"OfDifferentMinds$Matching", "tell", "(ILOfDifferentMinds$Row;)V"⟩,
  ⟨"OfDifferentMinds$Ride", "<init>", "(LOfDifferentMinds$Land;LOfDifferentMinds$Rule;LOfDifferentMinds$Standing;)V"⟩,
  ⟨"OfDifferentMinds$Ride", "beginFresh", "(III)V"⟩,
  ⟨"OfDifferentMinds$Ride", "begin", "(III)V"⟩,
  ⟨"OfDifferentMinds$Ride", "resume", "()V"⟩,
  ⟨"OfDifferentMinds$Ride", "settle", "()V"⟩,
  ⟨"OfDifferentMinds$Ride", "spot", "()I"⟩,
  ⟨"OfDifferentMinds$Ride", "taken", "()I"⟩,
  ⟨"OfDifferentMinds$Ride", "latest", "()I"⟩,
  ⟨"OfDifferentMinds$Ride", "hasStopped", "()Z"⟩,
  ⟨"OfDifferentMinds$Ride", "leftBeside", "(I)I"⟩,
  ⟨"OfDifferentMinds$Ride", "wayBy", "(II)I"⟩,
  ⟨"OfDifferentMinds$Ride", "wayClaiming", "(II)I"⟩,
  ⟨"OfDifferentMinds$Ride", "stepClaiming", "(II)Z"⟩,
  ⟨"OfDifferentMinds$Ride", "step", "()Z"⟩,
  ⟨"OfDifferentMinds$Ride", "goBy", "(I)Z"⟩,
  ⟨"OfDifferentMinds$Ride", "wear", "()V"⟩,
  ⟨"OfDifferentMinds$Ride", "go", "(I)V"⟩,
  ⟨"OfDifferentMinds$Ride", "goOut", "()V"⟩,
  ⟨"OfDifferentMinds$Ride", "comesTo", "(I)Z"⟩,
  ⟨"OfDifferentMinds$Row", "<init>", "()V"⟩,
  ⟨"OfDifferentMinds$Row", "clear", "()V"⟩,
  ⟨"OfDifferentMinds$Row", "put", "(I)V"⟩,
  ⟨"OfDifferentMinds$Row", "tell", "(I)V"⟩,
  ⟨"OfDifferentMinds$Row", "tell", "(II)V"⟩,
  ⟨"OfDifferentMinds$Row", "tell", "(III)V"⟩,
  ⟨"OfDifferentMinds$Row", "size", "()I"⟩,
  ⟨"OfDifferentMinds$Row", "at", "(I)I"⟩,
  ⟨"OfDifferentMinds$Rule", "<init>", "()V"⟩,
  ⟨"OfDifferentMinds$Rule", "setFacts", "(IIIII)V"⟩,
  ⟨"OfDifferentMinds$Rule", "tells", "(II)I"⟩,
  ⟨"OfDifferentMinds$Rule", "joined", "(III)I"⟩,
  ⟨"OfDifferentMinds$Rule", "read", "(LOfDifferentMinds$Text;)I"⟩,
  ⟨"OfDifferentMinds$Rule", "write", "(I)V"⟩,
  ⟨"OfDifferentMinds$Rule", "takeJoined", "(LOfDifferentMinds$Text;II)Z"⟩,
  ⟨"OfDifferentMinds$Rule", "rankOf", "(I)I"⟩,
  ⟨"OfDifferentMinds$Rule", "takeSigned", "(LOfDifferentMinds$Text;I)Z"⟩,
  ⟨"OfDifferentMinds$Rule", "takeInner", "(LOfDifferentMinds$Text;I)Z"⟩,
  ⟨"OfDifferentMinds$Rule", "takeThing", "(LOfDifferentMinds$Text;)Z"⟩,
  ⟨"OfDifferentMinds$Rule", "thingOf", "(I)I"⟩,
  ⟨"OfDifferentMinds$Standing", "<init>", "()V"⟩,
  ⟨"OfDifferentMinds$Standing", "clear", "()V"⟩,
  ⟨"OfDifferentMinds$Standing", "copy", "(LOfDifferentMinds$Standing;)V"⟩,
  ⟨"OfDifferentMinds$Standing", "get", "(II)I"⟩,
  ⟨"OfDifferentMinds$Standing", "set", "(III)V"⟩,
  ⟨"OfDifferentMinds$Standing", "admit", "(II)V"⟩,
  ⟨"OfDifferentMinds$Standing", "spentOf", "(I)I"⟩,
  ⟨"OfDifferentMinds$Standing", "setSpent", "(II)V"⟩,
  ⟨"OfDifferentMinds$Standing", "placeOf", "(I)I"⟩,
  ⟨"OfDifferentMinds$Standing", "setPlace", "(II)V"⟩,
  ⟨"OfDifferentMinds$Standing", "convincerOf", "(I)I"⟩,
  ⟨"OfDifferentMinds$Standing", "setConvincer", "(II)V"⟩,
  ⟨"OfDifferentMinds$Standing", "mapOf", "(I)I"⟩,
  ⟨"OfDifferentMinds$Standing", "guidingMap", "(I)I"⟩,
  ⟨"OfDifferentMinds$Standing", "digit", "(II)I"⟩,
  ⟨"OfDifferentMinds$Standing", "changeMaps", "(II)V"⟩,
  ⟨"OfDifferentMinds$Standing", "horse", "()I"⟩,
  ⟨"OfDifferentMinds$Standing", "setHorse", "(I)V"⟩,
  ⟨"OfDifferentMinds$Standing", "first", "()I"⟩,
  ⟨"OfDifferentMinds$Standing", "second", "()I"⟩,
  ⟨"OfDifferentMinds$Standing", "steps", "()I"⟩,
  ⟨"OfDifferentMinds$Standing", "setSteps", "(I)V"⟩,
  ⟨"OfDifferentMinds$Standing", "isMounted", "()Z"⟩,
  ⟨"OfDifferentMinds$Standing", "isUp", "(I)Z"⟩,
  ⟨"OfDifferentMinds$Standing", "seat", "(II)V"⟩,
  ⟨"OfDifferentMinds$Text", "<init>", "()V"⟩,
  ⟨"OfDifferentMinds$Text", "length", "()I"⟩,
  ⟨"OfDifferentMinds$Text", "at", "(I)I"⟩,
  ⟨"OfDifferentMinds$Text", "add", "(I)I"⟩,
  ⟨"OfDifferentMinds$Text", "cut", "(I)Z"⟩,
  ⟨"OfDifferentMinds$Text", "clear", "()V"⟩,
  ⟨"OfDifferentMinds$Text", "open", "(I)V"⟩,
  ⟨"OfDifferentMinds$Text", "position", "()I"⟩,
  ⟨"OfDifferentMinds$Text", "peek", "()I"⟩,
  ⟨"OfDifferentMinds$Text", "isOver", "()Z"⟩,
  ⟨"OfDifferentMinds$Text", "isCutShort", "()Z"⟩,
  ⟨"OfDifferentMinds$Text", "next", "()I"⟩,
  ⟨"OfDifferentMinds$Text", "take", "(I)Z"⟩,
  ⟨"OfDifferentMinds$Text", "takeOf", "(II)Z"⟩,
  ⟨"OfDifferentMinds$Text", "number", "(I)I"⟩,
  ⟨"OfDifferentMinds$Text", "rest", "()I"⟩,
  ⟨"OfDifferentMinds", "<init>", "()V"⟩,
  ⟨"OfDifferentMinds", "sign", "(I)I"⟩,
  ⟨"OfDifferentMinds", "end", "(I)Z"⟩,
  ⟨"OfDifferentMinds", "roads", "()I"⟩,
  ⟨"OfDifferentMinds", "riders", "()I"⟩,
  ⟨"OfDifferentMinds", "admitAll", "()I"⟩,
  ⟨"OfDifferentMinds", "rule", "()I"⟩,
  ⟨"OfDifferentMinds", "place", "(II)I"⟩,
  ⟨"OfDifferentMinds", "ridersAt", "(I)I"⟩,
  ⟨"OfDifferentMinds", "rider", "(II)I"⟩,
  ⟨"OfDifferentMinds", "viewAt", "(II)I"⟩,
  ⟨"OfDifferentMinds", "view", "(II)I"⟩,
  ⟨"OfDifferentMinds", "sheet", "(IIII)I"⟩,
  ⟨"OfDifferentMinds", "entryMind", "(II)I"⟩,
  ⟨"OfDifferentMinds", "limitSpent", "()V"⟩,
  ⟨"OfDifferentMinds", "mount", "(II)I"⟩,
  ⟨"OfDifferentMinds", "dismount", "()I"⟩,
  ⟨"OfDifferentMinds", "ride", "(I)I"⟩,
  ⟨"OfDifferentMinds", "walk", "(II)I"⟩,
  ⟨"OfDifferentMinds", "lead", "(II)I"⟩,
  ⟨"OfDifferentMinds", "rest", "(I)I"⟩,
  ⟨"OfDifferentMinds", "deal", "(II)I"⟩,
  ⟨"OfDifferentMinds", "noted", "(I)I"⟩,
  ⟨"OfDifferentMinds", "areTwo", "(II)Z"⟩,
  ⟨"OfDifferentMinds", "getOn", "(II)I"⟩,
  ⟨"OfDifferentMinds", "getOff", "()I"⟩,
  ⟨"OfDifferentMinds", "goOn", "(I)I"⟩,
  ⟨"OfDifferentMinds", "goAfoot", "(II)I"⟩,
  ⟨"OfDifferentMinds", "goLeading", "(II)I"⟩,
  ⟨"OfDifferentMinds", "sleep", "(I)I"⟩,
  ⟨"OfDifferentMinds", "changeMaps", "(II)I"⟩,
  ⟨"OfDifferentMinds", "journey", "()I"⟩,
  ⟨"OfDifferentMinds", "act", "(III)I"⟩,
  ⟨"OfDifferentMinds", "undo", "()I"⟩,
  ⟨"OfDifferentMinds", "where", "(I)I"⟩,
  ⟨"OfDifferentMinds", "canRide", "(III)Z"⟩,
  ⟨"OfDifferentMinds", "stops", "(III)I"⟩,
  ⟨"OfDifferentMinds", "trail", "(III)I"⟩,
  ⟨"OfDifferentMinds", "tellVisits", "()I"⟩,
  ⟨"OfDifferentMinds", "reaches", "(IIII)I"⟩,
  ⟨"OfDifferentMinds", "pairs", "(II)I"⟩,
  ⟨"OfDifferentMinds", "stopsAt", "(IIII)Z"⟩,
  ⟨"OfDifferentMinds", "changes", "(II)I"⟩,
  ⟨"OfDifferentMinds", "stations", "(I)I"⟩,
  ⟨"OfDifferentMinds", "foot", "(II)I"⟩,
  ⟨"OfDifferentMinds", "stepsOf", "(III)I"⟩,
  ⟨"OfDifferentMinds", "record", "(I)I"⟩,
  ⟨"OfDifferentMinds", "matches", "(II)I"⟩,
  ⟨"OfDifferentMinds", "partner", "(II)I"⟩,
  ⟨"OfDifferentMinds", "agree", "(II)I"⟩,
  ⟨"OfDifferentMinds", "convinces", "(III)I"⟩,
  ⟨"OfDifferentMinds", "claim", "(II)I"⟩,
  ⟨"OfDifferentMinds", "lie", "(II)I"⟩,
  ⟨"OfDifferentMinds", "prints", "()I"⟩,
  ⟨"OfDifferentMinds", "fits", "()I"⟩,
  ⟨"OfDifferentMinds", "leavesPrints", "(II)Z"⟩,
  ⟨"OfDifferentMinds", "views", "()I"⟩,
  ⟨"OfDifferentMinds", "viewsBetween", "(III)I"⟩,
  ⟨"OfDifferentMinds", "editions", "(I)I"⟩,
  ⟨"OfDifferentMinds", "editionSeen", "(II)I"⟩,
  ⟨"OfDifferentMinds", "kinds", "(II)I"⟩,
  ⟨"OfDifferentMinds", "holdersOf", "(III)I"⟩,
  ⟨"OfDifferentMinds", "county", "(II)I"⟩,
  ⟨"OfDifferentMinds", "rideInCounty", "(I)I"⟩,
  ⟨"OfDifferentMinds", "draw", "(I)I"⟩,
  ⟨"OfDifferentMinds", "farthestRidden", "()I"⟩,
  ⟨"OfDifferentMinds", "keep", "(I)Z"⟩,
  ⟨"OfDifferentMinds", "again", "(I)Z"⟩,
  ⟨"OfDifferentMinds", "count", "(I)I"⟩,
  ⟨"OfDifferentMinds", "convincedOnes", "()I"⟩,
  ⟨"OfDifferentMinds", "row", "(I)I"⟩,
  ⟨"OfDifferentMindsModel", "<init>", "()V"⟩,
  ⟨"OfDifferentMindsModel", "empty", "()V"⟩,
  ⟨"OfDifferentMindsModel", "thrown", "()I"⟩,
  ⟨"OfDifferentMindsModel", "in", "(III)Z"⟩,
  ⟨"OfDifferentMindsModel", "has", "(II)Z"⟩,
  ⟨"OfDifferentMindsModel", "lost", "()I"⟩,
  ⟨"OfDifferentMindsModel", "tell", "(I)V"⟩,
  ⟨"OfDifferentMindsModel", "isPlace", "(I)Z"⟩,
  ⟨"OfDifferentMindsModel", "isRider", "(I)Z"⟩,
  ⟨"OfDifferentMindsModel", "areTwo", "(II)Z"⟩,
  ⟨"OfDifferentMindsModel", "isOn", "([II)Z"⟩,
  ⟨"OfDifferentMindsModel", "isRidden", "()Z"⟩,
  ⟨"OfDifferentMindsModel", "sign", "(I)I"⟩,
  ⟨"OfDifferentMindsModel", "end", "(I)Z"⟩,
  ⟨"OfDifferentMindsModel", "begin", "([BII)V"⟩,
  ⟨"OfDifferentMindsModel", "here", "()I"⟩,
  ⟨"OfDifferentMindsModel", "fine", "()Z"⟩,
  ⟨"OfDifferentMindsModel", "fault", "(I)V"⟩,
  ⟨"OfDifferentMindsModel", "passes", "(C)Z"⟩,
  ⟨"OfDifferentMindsModel", "need", "(C)V"⟩,
  ⟨"OfDifferentMindsModel", "digit", "(II)I"⟩,
  ⟨"OfDifferentMindsModel", "number", "(I)I"⟩,
  ⟨"OfDifferentMindsModel", "readPlace", "(I)V"⟩,
  ⟨"OfDifferentMindsModel", "roads", "()I"⟩,
  ⟨"OfDifferentMindsModel", "readRider", "(I)V"⟩,
  ⟨"OfDifferentMindsModel", "riders", "()I"⟩,
  ⟨"OfDifferentMindsModel", "held", "(I)I"⟩,
  ⟨"OfDifferentMindsModel", "sum", "(I)I"⟩,
  ⟨"OfDifferentMindsModel", "product", "(I)I"⟩,
  ⟨"OfDifferentMindsModel", "letterOf", "(I)I"⟩,
  ⟨"OfDifferentMindsModel", "thing", "(I)I"⟩,
  ⟨"OfDifferentMindsModel", "rule", "()I"⟩,
  ⟨"OfDifferentMindsModel", "wayBy", "(IIIIII)I"⟩,
  ⟨"OfDifferentMindsModel", "viewOf", "([III)I"⟩,
  ⟨"OfDifferentMindsModel", "leftOf", "([II)I"⟩,
  ⟨"OfDifferentMindsModel", "goesOn", "([I)Z"⟩,
  ⟨"OfDifferentMindsModel", "goStep", "([III)V"⟩,
  ⟨"OfDifferentMindsModel", "step", "([I)Z"⟩,
  ⟨"OfDifferentMindsModel", "place", "(II)I"⟩,
  ⟨"OfDifferentMindsModel", "rider", "(II)I"⟩,
  ⟨"OfDifferentMindsModel", "view", "(II)I"⟩,
  ⟨"OfDifferentMindsModel", "sheet", "(IIII)I"⟩,
  ⟨"OfDifferentMindsModel", "lay", "([I[II)V"⟩,
  ⟨"OfDifferentMindsModel", "remember", "([I)V"⟩,
  ⟨"OfDifferentMindsModel", "refusesMount", "(II)I"⟩,
  ⟨"OfDifferentMindsModel", "goMount", "(II)V"⟩,
  ⟨"OfDifferentMindsModel", "mount", "(II)I"⟩,
  ⟨"OfDifferentMindsModel", "goDown", "()V"⟩,
  ⟨"OfDifferentMindsModel", "dismount", "()I"⟩,
  ⟨"OfDifferentMindsModel", "goRide", "([II)I"⟩,
  ⟨"OfDifferentMindsModel", "ride", "(I)I"⟩,
  ⟨"OfDifferentMindsModel", "isWay", "(II)Z"⟩,
  ⟨"OfDifferentMindsModel", "refusesWalk", "(II)I"⟩,
  ⟨"OfDifferentMindsModel", "goWalk", "(II)I"⟩,
  ⟨"OfDifferentMindsModel", "walk", "(II)I"⟩,
  ⟨"OfDifferentMindsModel", "refusesLead", "(II)I"⟩,
  ⟨"OfDifferentMindsModel", "goLead", "(II)I"⟩,
  ⟨"OfDifferentMindsModel", "lead", "(II)I"⟩,
  ⟨"OfDifferentMindsModel", "isAtInn", "(I)Z"⟩,
  ⟨"OfDifferentMindsModel", "refusesRest", "(I)I"⟩,
  ⟨"OfDifferentMindsModel", "goRest", "(I)I"⟩,
  ⟨"OfDifferentMindsModel", "rest", "(I)I"⟩,
  ⟨"OfDifferentMindsModel", "refusesDeal", "(II)I"⟩,
  ⟨"OfDifferentMindsModel", "goDeal", "(II)I"⟩,
  ⟨"OfDifferentMindsModel", "deal", "(II)I"⟩,
  ⟨"OfDifferentMindsModel", "journey", "()I"⟩,
  ⟨"OfDifferentMindsModel", "readAct", "(I)V"⟩,
  ⟨"OfDifferentMindsModel", "act", "(III)Z"⟩,
  ⟨"OfDifferentMindsModel", "undo", "()I"⟩,
  ⟨"OfDifferentMindsModel", "capSpent", "()V"⟩,
  ⟨"OfDifferentMindsModel", "where", "(I)I"⟩,
  ⟨"OfDifferentMindsModel", "mountThen", "(IIIZ)V"⟩,
  ⟨"OfDifferentMindsModel", "freshen", "()V"⟩,
  ⟨"OfDifferentMindsModel", "canRide", "(III)Z"⟩,
  ⟨"OfDifferentMindsModel", "stops", "(III)I"⟩,
  ⟨"OfDifferentMindsModel", "trail", "(III)I"⟩,
  ⟨"OfDifferentMindsModel", "reaches", "(IIII)I"⟩,
  ⟨"OfDifferentMindsModel", "stopOf", "(IIIZ)I"⟩,
  ⟨"OfDifferentMindsModel", "pairs", "(II)I"⟩,
  ⟨"OfDifferentMindsModel", "stopAt", "(III)I"⟩,
  ⟨"OfDifferentMindsModel", "layStops", "()V"⟩,
  ⟨"OfDifferentMindsModel", "ridesBy", "(IIIII)I"⟩,
  ⟨"OfDifferentMindsModel", "changes", "(II)I"⟩,
  ⟨"OfDifferentMindsModel", "stations", "(I)I"⟩,
  ⟨"OfDifferentMindsModel", "foot", "(II)I"⟩,
  ⟨"OfDifferentMindsModel", "stepsOf", "(III)I"⟩,
  ⟨"OfDifferentMindsModel", "record", "(I)I"⟩,
  ⟨"OfDifferentMindsModel", "goMatches", "(IIIII)V"⟩,
  ⟨"OfDifferentMindsModel", "areThose", "(I)Z"⟩,
  ⟨"OfDifferentMindsModel", "matches", "(II)I"⟩,
  ⟨"OfDifferentMindsModel", "partner", "(II)I"⟩,
  ⟨"OfDifferentMindsModel", "agree", "(II)I"⟩,
  ⟨"OfDifferentMindsModel", "convinces", "(III)I"⟩,
  ⟨"OfDifferentMindsModel", "claims", "(II)Z"⟩,
  ⟨"OfDifferentMindsModel", "wayOfClaim", "(II)I"⟩,
  ⟨"OfDifferentMindsModel", "claim", "(II)I"⟩,
  ⟨"OfDifferentMindsModel", "lie", "(II)I"⟩,
  ⟨"OfDifferentMindsModel", "prints", "()I"⟩,
  ⟨"OfDifferentMindsModel", "isPrinted", "(II)Z"⟩,
  ⟨"OfDifferentMindsModel", "fits", "()I"⟩,
  ⟨"OfDifferentMindsModel", "views", "()I"⟩,
  ⟨"OfDifferentMindsModel", "areLike", "(II)Z"⟩,
  ⟨"OfDifferentMindsModel", "editions", "(I)I"⟩,
  ⟨"OfDifferentMindsModel", "kinds", "(II)I"⟩,
  ⟨"OfDifferentMindsModel", "draw", "(I)I"⟩,
  ⟨"OfDifferentMindsModel", "county", "(II)I"⟩,
  ⟨"OfDifferentMindsModel", "keep", "(I)Z"⟩,
  ⟨"OfDifferentMindsModel", "again", "(I)Z"⟩,
  ⟨"OfDifferentMindsModel", "count", "(I)I"⟩,
  ⟨"OfDifferentMindsModel", "row", "(I)I"⟩,
  ⟨"java/lang/Integer", "bitCount", "(I)I"⟩,
  ⟨"java/lang/Math", "max", "(II)I"⟩,
  ⟨"java/lang/Math", "min", "(II)I"⟩]
/-- kind (0 virtual, 1 constructor, 2 static) and class of each method -/
def jx_kc : List (Nat × Nat) := [(1, 0), (0, 0), (0, 0), (0, 0), (0, 0), (0, 0), (0, 0), (0, 0), (0, 0), (0, 0), (2, 1), (2, 1), (2, 1), (2, 1), (2, 1), (2, 1), (2, 1), (2, 1), (1, 2), (0, 2), (0, 2), (0, 2), (0, 2), (0, 2), (0, 2), (0, 2), (1, 3), (0, 3), (0, 3), (0, 3), (0, 3), (0, 3), (0, 3), (0, 3), (0, 3), (0, 3), (0, 3), (0, 3), (0, 3), (0, 3), (0, 3), (0, 3), (0, 3), (1, 4), (0, 4), (0, 4), (0, 4), (0, 4), (1, 5), (0, 5), (0, 5), (0, 5), (0, 5), (0, 5), (0, 5), (0, 5), (0, 5), (0, 5), (0, 5), (0, 5), (0, 5), (0, 5), (0, 5), (0, 5), (0, 5), (0, 5), (0, 5), (1, 6), (0, 6), (0, 6), (0, 6), (0, 6), (0, 6), (0, 6), (0, 6), (1, 7), (0, 7), (0, 7), (2, 7), (0, 7), (0, 7), (0, 7), (2, 7), (0, 7), (0, 7), (0, 7), (2, 7), (1, 8), (0, 8), (0, 8), (0, 8), (0, 8), (0, 8), (0, 8), (0, 8), (0, 8), (0, 8), (0, 8), (0, 8), (0, 8), (0, 8), (0, 8), (0, 8), (0, 8), (0, 8), (0, 8), (0, 8), (0, 8), (0, 8), (0, 8), (0, 8), (0, 8), (1, 9), (0, 9), (0, 9), (0, 9), (0, 9), (0, 9), (0, 9), (0, 9), (0, 9), (0, 9), (0, 9), (0, 9), (0, 9), (0, 9), (0, 9), (0, 9), (1, 10), (0, 10), (0, 10), (0, 10), (0, 10), (0, 10), (0, 10), (0, 10), (0, 10), (0, 10), (0, 10), (0, 10), (0, 10), (2, 10), (0, 10), (0, 10), (0, 10), (0, 10), (0, 10), (0, 10), (0, 10), (0, 10), (0, 10), (0, 10), (0, 10), (0, 10), (0, 10), (0, 10), (0, 10), (0, 10), (0, 10), (0, 10), (0, 10), (0, 10), (0, 10), (0, 10), (0, 10), (0, 10), (0, 10), (0, 10), (0, 10), (0, 10), (0, 10), (0, 10), (0, 10), (0, 10), (0, 10), (0, 10), (0, 10), (0, 10), (0, 10), (0, 10), (0, 10), (0, 10), (0, 10), (0, 10), (0, 10), (0, 10), (0, 10), (0, 10), (0, 10), (0, 10), (0, 10), (0, 10), (0, 10), (0, 10), (0, 10), (0, 10), (0, 10), (0, 10), (0, 10), (1, 11), (0, 11), (0, 11), (2, 11), (2, 11), (0, 11), (0, 11), (0, 11), (0, 11), (0, 11), (2, 11), (0, 11), (0, 11), (0, 11), (0, 11), (0, 11), (0, 11), (0, 11), (0, 11), (0, 11), (0, 11), (0, 11), (0, 11), (0, 11), (0, 11), (0, 11), (0, 11), (0, 11), (0, 11), (2, 11), (0, 11), (0, 11), (0, 11), (0, 11), (0, 11), (0, 11), (0, 11), (0, 11), (0, 11), (0, 11), (0, 11), (0, 11), (2, 11), (0, 11), (0, 11), (0, 11), (0, 11), (0, 11), (0, 11), (0, 11), (0, 11), (0, 11), (0, 11), (0, 11), (0, 11), (0, 11), (0, 11), (0, 11), (0, 11), (0, 11), (0, 11), (0, 11), (0, 11), (0, 11), (0, 11), (0, 11), (0, 11), (0, 11), (0, 11), (0, 11), (0, 11), (0, 11), (0, 11), (0, 11), (0, 11), (0, 11), (0, 11), (0, 11), (0, 11), (0, 11), (0, 11), (0, 11), (0, 11), (0, 11), (0, 11), (0, 11), (0, 11), (0, 11), (0, 11), (0, 11), (0, 11), (0, 11), (0, 11), (0, 11), (0, 11), (0, 11), (0, 11), (0, 11), (0, 11), (0, 11), (0, 11), (0, 11), (0, 11), (0, 11), (0, 11), (0, 11), (0, 11), (0, 11), (0, 11), (0, 11), (2, 12), (2, 13), (2, 13)]
/-- owner, index, class, field, place -/
def jx_FL : List (Nat × Nat × Nat × Nat × Nat) := [
  (0, 9, 0, 0, 303),
  (0, 15, 0, 1, 304),
  (0, 19, 0, 2, 305),
  (0, 23, 0, 3, 306),
  (2, 13, 2, 0, 222),
  (2, 18, 2, 1, 223),
  (2, 21, 2, 3, 225),
  (2, 25, 2, 4, 226),
  (2, 28, 2, 2, 224),
  (3, 9, 3, 0, 159),
  (3, 15, 3, 1, 160),
  (3, 18, 3, 2, 161),
  (3, 21, 3, 3, 162),
  (3, 25, 3, 5, 164),
  (3, 28, 3, 4, 163),
  (4, 9, 4, 0, 322),
  (4, 15, 4, 1, 323),
  (4, 18, 4, 2, 324),
  (4, 21, 4, 3, 325),
  (5, 9, 5, 0, 257),
  (5, 15, 5, 1, 258),
  (5, 19, 5, 2, 259),
  (5, 23, 5, 3, 260),
  (5, 27, 5, 4, 261),
  (5, 30, 5, 5, 262),
  (5, 33, 5, 6, 263),
  (5, 36, 5, 7, 264),
  (5, 50, 5, 8, 265),
  (5, 54, 5, 9, 266),
  (5, 57, 5, 10, 267),
  (5, 60, 5, 11, 268),
  (5, 63, 5, 12, 269),
  (6, 11, 6, 0, 244),
  (6, 15, 6, 1, 245),
  (7, 9, 7, 0, 184),
  (7, 15, 7, 1, 185),
  (7, 18, 7, 2, 186),
  (7, 21, 7, 3, 187),
  (7, 24, 7, 4, 188),
  (7, 32, 7, 5, 189),
  (8, 11, 8, 0, 209),
  (9, 9, 9, 0, 139),
  (9, 15, 9, 1, 140),
  (9, 19, 9, 2, 141),
  (9, 22, 9, 3, 142),
  (10, 10, 10, 0, 335),
  (10, 19, 10, 1, 336),
  (10, 26, 10, 2, 337),
  (10, 33, 10, 3, 338),
  (10, 40, 10, 4, 339),
  (10, 47, 10, 5, 340),
  (10, 56, 10, 6, 341),
  (10, 65, 10, 7, 342),
  (10, 72, 10, 8, 343),
  (10, 76, 10, 9, 344),
  (10, 80, 10, 10, 345),
  (10, 83, 10, 11, 346),
  (10, 110, 10, 12, 347),
  (10, 433, 10, 13, 348),
  (11, 9, 11, 0, 1293),
  (11, 13, 11, 2, 1295),
  (11, 16, 11, 3, 1296),
  (11, 19, 11, 6, 1299),
  (11, 22, 11, 7, 1300),
  (11, 25, 11, 8, 1301),
  (11, 29, 11, 10, 1303),
  (11, 32, 11, 18, 1311),
  (11, 35, 11, 19, 1312),
  (11, 38, 11, 20, 1313),
  (11, 41, 11, 22, 1315),
  (11, 44, 11, 23, 1316),
  (11, 47, 11, 26, 1319),
  (11, 50, 11, 28, 1321),
  (11, 53, 11, 30, 1323),
  (11, 56, 11, 32, 1325),
  (11, 59, 11, 34, 1327),
  (11, 62, 11, 35, 1328),
  (11, 65, 11, 37, 1330),
  (11, 68, 11, 38, 1331),
  (11, 71, 11, 39, 1332),
  (11, 74, 11, 40, 1333),
  (11, 77, 11, 42, 1335),
  (11, 80, 11, 44, 1337),
  (11, 83, 11, 45, 1338),
  (11, 86, 11, 47, 1340),
  (11, 89, 11, 49, 1342),
  (11, 92, 11, 50, 1343),
  (11, 96, 11, 51, 1344),
  (11, 102, 11, 12, 1305),
  (11, 106, 11, 11, 1304),
  (11, 109, 11, 1, 1294),
  (11, 116, 11, 5, 1298),
  (11, 123, 11, 9, 1302),
  (11, 126, 11, 13, 1306),
  (11, 129, 11, 14, 1307),
  (11, 132, 11, 15, 1308),
  (11, 135, 11, 16, 1309),
  (11, 138, 11, 17, 1310),
  (11, 161, 11, 21, 1314),
  (11, 171, 11, 4, 1297),
  (11, 174, 11, 43, 1336),
  (11, 177, 11, 29, 1322),
  (11, 191, 11, 48, 1341),
  (11, 209, 11, 25, 1318),
  (11, 213, 11, 24, 1317),
  (11, 228, 11, 27, 1320),
  (11, 282, 11, 31, 1324),
  (11, 330, 11, 33, 1326),
  (11, 349, 11, 36, 1329),
  (11, 371, 11, 41, 1334),
  (11, 398, 11, 46, 1339)]
/-- owner, index, method, place -/
def jx_ML : List (Nat × Nat × Nat × Nat) := [
  (0, 26, 29, 959),
  (0, 32, 27, 963),
  (0, 35, 2, 964),
  (0, 39, 28, 968),
  (0, 42, 49, 969),
  (0, 48, 65, 970),
  (0, 51, 56, 971),
  (0, 55, 53, 972),
  (0, 58, 30, 991),
  (0, 62, 3, 977),
  (0, 66, 8, 981),
  (0, 70, 6, 992),
  (0, 73, 4, 987),
  (0, 76, 68, 1000),
  (0, 81, 311, 1001),
  (0, 86, 69, 1002),
  (0, 89, 33, 985),
  (0, 92, 35, 986),
  (1, 9, 11, 401),
  (1, 15, 113, 439),
  (1, 21, 114, 443),
  (1, 25, 118, 404),
  (1, 29, 12, 408),
  (1, 33, 119, 423),
  (1, 36, 124, 411),
  (1, 40, 127, 427),
  (1, 43, 125, 419),
  (1, 47, 14, 493),
  (1, 51, 126, 496),
  (1, 54, 16, 878),
  (1, 57, 120, 881),
  (1, 60, 123, 882),
  (2, 17, 87, 221),
  (2, 31, 89, 651),
  (2, 35, 311, 685),
  (3, 31, 30, 587),
  (3, 35, 31, 626),
  (3, 38, 41, 451),
  (3, 41, 113, 455),
  (3, 47, 114, 456),
  (3, 51, 42, 457),
  (4, 25, 309, 1040),
  (4, 31, 46, 1046),
  (4, 41, 68, 1055),
  (4, 46, 69, 1056),
  (5, 39, 37, 723),
  (5, 45, 99, 724),
  (5, 67, 49, 719),
  (5, 71, 93, 725),
  (5, 74, 97, 726),
  (5, 77, 100, 727),
  (5, 80, 105, 706),
  (5, 84, 106, 710),
  (5, 87, 103, 714),
  (5, 90, 50, 715),
  (5, 93, 107, 728),
  (5, 96, 104, 774),
  (5, 100, 108, 778),
  (5, 103, 96, 782),
  (5, 107, 94, 786),
  (5, 110, 98, 787),
  (5, 113, 33, 745),
  (5, 116, 76, 746),
  (5, 122, 77, 750),
  (5, 126, 36, 740),
  (5, 129, 58, 741),
  (5, 132, 59, 1090),
  (5, 135, 62, 757),
  (5, 139, 35, 761),
  (5, 142, 63, 765),
  (5, 145, 310, 769),
  (5, 150, 61, 736),
  (6, 19, 68, 811),
  (6, 22, 69, 815),
  (7, 28, 78, 754),
  (7, 35, 118, 531),
  (7, 41, 113, 532),
  (7, 44, 81, 533),
  (7, 48, 119, 566),
  (7, 51, 127, 567),
  (7, 60, 83, 537),
  (7, 64, 120, 542),
  (7, 67, 82, 563),
  (7, 71, 123, 547),
  (7, 74, 80, 556),
  (7, 77, 124, 541),
  (7, 81, 84, 543),
  (7, 84, 85, 551),
  (7, 88, 126, 555),
  (7, 91, 86, 560),
  (8, 15, 111, 465),
  (8, 25, 91, 515),
  (8, 29, 90, 600),
  (8, 33, 97, 596),
  (8, 37, 99, 604),
  (9, 25, 120, 415),
  (9, 29, 121, 431),
  (9, 33, 122, 435),
  (10, 9, 112, 135),
  (10, 18, 26, 155),
  (10, 25, 75, 180),
  (10, 32, 87, 205),
  (10, 39, 18, 215),
  (10, 46, 67, 240),
  (10, 53, 48, 253),
  (10, 62, 0, 299),
  (10, 71, 43, 318),
  (10, 86, 115, 382),
  (10, 90, 116, 390),
  (10, 94, 10, 398),
  (10, 100, 40, 447),
  (10, 104, 88, 461),
  (10, 107, 20, 469),
  (10, 114, 117, 473),
  (10, 115, 27, 477),
  (10, 119, 113, 485),
  (10, 122, 28, 486),
  (10, 125, 13, 490),
  (10, 129, 133, 500),
  (10, 132, 118, 504),
  (10, 136, 121, 505),
  (10, 140, 126, 506),
  (10, 143, 124, 507),
  (10, 146, 310, 508),
  (10, 152, 92, 511),
  (10, 156, 39, 519),
  (10, 158, 79, 527),
  (10, 161, 30, 579),
  (10, 171, 33, 583),
  (10, 174, 34, 850),
  (10, 177, 136, 1263),
  (10, 180, 35, 831),
  (10, 183, 95, 672),
  (10, 186, 31, 575),
  (10, 191, 37, 635),
  (10, 194, 93, 631),
  (10, 197, 97, 1184),
  (10, 200, 138, 588),
  (10, 203, 110, 827),
  (10, 206, 100, 592),
  (10, 209, 36, 608),
  (10, 212, 141, 616),
  (10, 215, 38, 622),
  (10, 218, 142, 627),
  (10, 221, 311, 619),
  (10, 224, 94, 639),
  (10, 227, 21, 647),
  (10, 231, 152, 656),
  (10, 234, 150, 677),
  (10, 237, 153, 690),
  (10, 240, 154, 698),
  (10, 243, 22, 681),
  (10, 246, 53, 795),
  (10, 249, 56, 799),
  (10, 252, 55, 803),
  (10, 255, 72, 807),
  (10, 259, 155, 823),
  (10, 262, 156, 837),
  (10, 265, 157, 846),
  (10, 268, 158, 859),
  (10, 271, 151, 660),
  (10, 275, 109, 664),
  (10, 278, 103, 668),
  (10, 281, 111, 676),
  (10, 284, 51, 702),
  (10, 287, 64, 732),
  (10, 290, 52, 770),
  (10, 293, 54, 791),
  (10, 296, 96, 832),
  (10, 299, 104, 841),
  (10, 302, 98, 854),
  (10, 305, 101, 863),
  (10, 308, 102, 867),
  (10, 310, 15, 875),
  (10, 313, 123, 883),
  (10, 316, 160, 884),
  (10, 320, 71, 888),
  (10, 322, 23, 896),
  (10, 326, 19, 900),
  (10, 329, 163, 912),
  (10, 333, 50, 916),
  (10, 336, 65, 917),
  (10, 339, 70, 921),
  (10, 341, 61, 929),
  (10, 344, 166, 930),
  (10, 347, 66, 938),
  (10, 350, 68, 946),
  (10, 351, 169, 947),
  (10, 355, 1, 955),
  (10, 358, 5, 973),
  (10, 362, 7, 996),
  (10, 366, 29, 1007),
  (10, 369, 9, 1012),
  (10, 372, 173, 1020),
  (10, 375, 32, 1028),
  (10, 378, 44, 1032),
  (10, 381, 45, 1036),
  (10, 384, 47, 1051),
  (10, 386, 309, 1065),
  (10, 391, 57, 1070),
  (10, 394, 59, 1078),
  (10, 397, 60, 1086),
  (10, 400, 17, 1095),
  (10, 404, 114, 1098),
  (10, 407, 183, 1103),
  (10, 410, 185, 1111),
  (10, 413, 69, 1117),
  (10, 416, 76, 1115),
  (10, 420, 77, 1116),
  (10, 423, 187, 1122),
  (10, 426, 99, 1126),
  (10, 429, 74, 1127),
  (10, 430, 189, 1135),
  (10, 436, 191, 1143),
  (10, 439, 193, 1153),
  (10, 442, 192, 1147),
  (10, 445, 49, 1152),
  (10, 449, 24, 1161),
  (10, 453, 25, 1169),
  (10, 456, 105, 1177),
  (10, 459, 106, 1178),
  (10, 462, 107, 1179),
  (10, 465, 197, 1180),
  (10, 468, 73, 1185),
  (11, 99, 200, 1289),
  (11, 112, 202, 1463),
  (11, 119, 207, 1553),
  (11, 141, 215, 1474),
  (11, 145, 214, 1490),
  (11, 149, 217, 1486),
  (11, 153, 216, 1478),
  (11, 157, 219, 1506),
  (11, 164, 213, 1470),
  (11, 168, 221, 1482),
  (11, 180, 220, 1502),
  (11, 184, 218, 1510),
  (11, 188, 223, 1498),
  (11, 194, 226, 1522),
  (11, 197, 227, 1526),
  (11, 200, 229, 1530),
  (11, 203, 225, 1518),
  (11, 206, 228, 1534),
  (11, 216, 232, 1557),
  (11, 220, 233, 1629),
  (11, 224, 231, 1633),
  (11, 231, 311, 1572),
  (11, 236, 234, 1621),
  (11, 240, 235, 1625),
  (11, 244, 206, 1541),
  (11, 247, 204, 1545),
  (11, 250, 209, 1561),
  (11, 254, 310, 1573),
  (11, 257, 241, 1594),
  (11, 261, 208, 1582),
  (11, 265, 210, 1586),
  (11, 268, 243, 1578),
  (11, 271, 242, 1590),
  (11, 275, 244, 1597),
  (11, 279, 246, 1605),
  (11, 285, 236, 1617),
  (11, 288, 248, 1613),
  (11, 291, 205, 1637),
  (11, 294, 250, 1649),
  (11, 297, 251, 1645),
  (11, 300, 252, 1653),
  (11, 303, 254, 1661),
  (11, 306, 255, 1665),
  (11, 309, 203, 1681),
  (11, 312, 257, 1677),
  (11, 315, 258, 1673),
  (11, 318, 259, 1684),
  (11, 321, 261, 1692),
  (11, 324, 262, 1696),
  (11, 327, 265, 1704),
  (11, 333, 266, 1708),
  (11, 336, 268, 1716),
  (11, 339, 271, 1736),
  (11, 342, 272, 1728),
  (11, 345, 270, 1732),
  (11, 353, 276, 1753),
  (11, 357, 278, 1769),
  (11, 361, 279, 1761),
  (11, 364, 280, 1765),
  (11, 368, 284, 1785),
  (11, 374, 286, 1798),
  (11, 378, 287, 1793),
  (11, 381, 309, 1797),
  (11, 386, 293, 1818),
  (11, 389, 292, 1826),
  (11, 392, 297, 1838),
  (11, 395, 300, 1850),
  (11, 402, 303, 1862)]
def jx_KL : List (Nat × Nat × Nat × Nat) := [(2, 11, 8, 219), (10, 7, 9, 133), (10, 16, 3, 153), (10, 23, 7, 178), (10, 30, 8, 203), (10, 37, 2, 213), (10, 44, 6, 238), (10, 51, 5, 251), (10, 60, 0, 297), (10, 69, 4, 316)]
def jx_CL : List (Nat × Nat × Int32 × Nat) := [(10, 448, 1103515245, 1151), (11, 352, 1000000, 1752), (11, 401, 1103515245, 1866), (12, 265, 1431655765, 1043), (12, 266, 858993459, 1044), (12, 267, 252645135, 1045)]
def jx_OL : List (Nat × Nat × Nat) := [(0, 3, 302), (2, 3, 218), (3, 3, 158), (4, 3, 321), (5, 3, 256), (6, 3, 243), (7, 3, 183), (8, 5, 208), (9, 3, 138), (10, 1, 130), (11, 3, 1288)]
def jx_AL : List (Nat × Nat × Nat) := [(4, 35, 1050), (7, 54, 568), (8, 19, 655)]
theorem jx_mem {w : Cond} {i : Nat} (h : lw_tbl[i]? = some w) (hg : goodWord w = true) : w ∈ lw_g := List.mem_filter.mpr ⟨List.mem_of_getElem? h, hg⟩
theorem jx_FL_ok : ∀ q ∈ jx_FL, Cond.fieldLink (jx_nm q.1) q.2.1 (jx_nm q.2.2.1) ((jx_cl.getD q.2.2.1 ("", jx_T0, 0)).2.1 q.2.2.2.1).2.1 ((jx_cl.getD q.2.2.1 ("", jx_T0, 0)).2.1 q.2.2.2.1).2.2.1 ∈ lw_g := by
  have h : jx_FL.all (fun q => decide (lw_tbl[q.2.2.2.2]? = some (Cond.fieldLink (jx_nm q.1) q.2.1 (jx_nm q.2.2.1) ((jx_cl.getD q.2.2.1 ("", jx_T0, 0)).2.1 q.2.2.2.1).2.1 ((jx_cl.getD q.2.2.1 ("", jx_T0, 0)).2.1 q.2.2.2.1).2.2.1))) = true := by decide +kernel
  intro q hq
  exact jx_mem (of_decide_eq_true (List.all_eq_true.mp h q hq)) rfl
theorem jx_ML_ok : ∀ q ∈ jx_ML, Cond.methodLink (jx_nm q.1) q.2.1 (jx_ys.getD q.2.2.1 ⟨"", "", ""⟩) ∈ lw_g := by
  have h : jx_ML.all (fun q => decide (lw_tbl[q.2.2.2]? = some (Cond.methodLink (jx_nm q.1) q.2.1 (jx_ys.getD q.2.2.1 ⟨"", "", ""⟩)))) = true := by decide +kernel
  intro q hq
  exact jx_mem (of_decide_eq_true (List.all_eq_true.mp h q hq)) rfl
theorem jx_KL_ok : ∀ q ∈ jx_KL, Cond.classLink (jx_nm q.1) q.2.1 (jx_nm q.2.2.1) ∈ lw_g := by
  have h : jx_KL.all (fun q => decide (lw_tbl[q.2.2.2]? = some (Cond.classLink (jx_nm q.1) q.2.1 (jx_nm q.2.2.1)))) = true := by decide +kernel
  intro q hq
  exact jx_mem (of_decide_eq_true (List.all_eq_true.mp h q hq)) rfl
theorem jx_CL_ok : ∀ q ∈ jx_CL, Cond.constant (jx_nm q.1) q.2.1 q.2.2.1 ∈ lw_g := by
  have h : jx_CL.all (fun q => decide (lw_tbl[q.2.2.2]? = some (Cond.constant (jx_nm q.1) q.2.1 q.2.2.1))) = true := by decide +kernel
  intro q hq
  exact jx_mem (of_decide_eq_true (List.all_eq_true.mp h q hq)) rfl
theorem jx_OL_ok : ∀ q ∈ jx_OL, Cond.methodLink (jx_nm q.1) q.2.1 Lib.objectInit ∈ lw_g := by
  have h : jx_OL.all (fun q => decide (lw_tbl[q.2.2]? = some (Cond.methodLink (jx_nm q.1) q.2.1 Lib.objectInit))) = true := by decide +kernel
  intro q hq
  exact jx_mem (of_decide_eq_true (List.all_eq_true.mp h q hq)) rfl
theorem jx_AL_ok : ∀ q ∈ jx_AL, Cond.methodLink (jx_nm q.1) q.2.1 arraycopyName ∈ lw_g := by
  have h : jx_AL.all (fun q => decide (lw_tbl[q.2.2]? = some (Cond.methodLink (jx_nm q.1) q.2.1 arraycopyName))) = true := by decide +kernel
  intro q hq
  exact jx_mem (of_decide_eq_true (List.all_eq_true.mp h q hq)) rfl
theorem jx_lay0 : ∀ w ∈ u_ws "OfDifferentMinds$Atlas" jx_T0 4, w ∈ lw_g := by
  have h : ((u_ws "OfDifferentMinds$Atlas" jx_T0 4).zip ([307, 309, 311, 313] : List Nat)).all (fun q => decide (lw_tbl[q.2]? = some q.1) && goodWord q.1) = true := by decide +kernel
  intro w hw
  obtain ⟨k, hk⟩ := List.getElem?_of_mem hw
  have hl : k < 4 := by
    have := (List.getElem?_eq_some_iff.mp hk).1
    simpa [u_ws] using this
  have hz := List.all_eq_true.mp h (w, ([307, 309, 311, 313] : List Nat).getD k 0) (by
    refine List.mem_of_getElem? (i := k) ?_
    rw [List.getElem?_zip_eq_some]
    refine ⟨hk, ?_⟩
    rw [List.getD_eq_getElem?_getD, List.getElem?_eq_getElem (by simpa using hl)]
    rfl)
  simp only [Bool.and_eq_true, decide_eq_true_eq] at hz
  exact jx_mem hz.1 hz.2
theorem jx_nd0 : ∀ a, a < 4 → ∀ b, b < 4 → a ≠ b → (jx_T0 a).2.1 ≠ (jx_T0 b).2.1 := by decide +kernel
theorem jx_tk0 : ∀ k, k < 4 → parseFieldDescriptor (jx_T0 k).2.2.1 = some (jx_ty 0 k) := by decide +kernel
theorem jx_lay1 : ∀ w ∈ u_ws "OfDifferentMinds$Grammar" jx_T1 0, w ∈ lw_g := by
  have h : ((u_ws "OfDifferentMinds$Grammar" jx_T1 0).zip ([] : List Nat)).all (fun q => decide (lw_tbl[q.2]? = some q.1) && goodWord q.1) = true := by decide +kernel
  intro w hw
  obtain ⟨k, hk⟩ := List.getElem?_of_mem hw
  have hl : k < 0 := by
    have := (List.getElem?_eq_some_iff.mp hk).1
    simpa [u_ws] using this
  have hz := List.all_eq_true.mp h (w, ([] : List Nat).getD k 0) (by
    refine List.mem_of_getElem? (i := k) ?_
    rw [List.getElem?_zip_eq_some]
    refine ⟨hk, ?_⟩
    rw [List.getD_eq_getElem?_getD, List.getElem?_eq_getElem (by simpa using hl)]
    rfl)
  simp only [Bool.and_eq_true, decide_eq_true_eq] at hz
  exact jx_mem hz.1 hz.2
theorem jx_nd1 : ∀ a, a < 0 → ∀ b, b < 0 → a ≠ b → (jx_T1 a).2.1 ≠ (jx_T1 b).2.1 := by decide +kernel
theorem jx_tk1 : ∀ k, k < 0 → parseFieldDescriptor (jx_T1 k).2.2.1 = some (jx_ty 1 k) := by decide +kernel
theorem jx_lay2 : ∀ w ∈ u_ws "OfDifferentMinds$History" jx_T2 5, w ∈ lw_g := by
  have h : ((u_ws "OfDifferentMinds$History" jx_T2 5).zip ([227, 229, 231, 233, 235] : List Nat)).all (fun q => decide (lw_tbl[q.2]? = some q.1) && goodWord q.1) = true := by decide +kernel
  intro w hw
  obtain ⟨k, hk⟩ := List.getElem?_of_mem hw
  have hl : k < 5 := by
    have := (List.getElem?_eq_some_iff.mp hk).1
    simpa [u_ws] using this
  have hz := List.all_eq_true.mp h (w, ([227, 229, 231, 233, 235] : List Nat).getD k 0) (by
    refine List.mem_of_getElem? (i := k) ?_
    rw [List.getElem?_zip_eq_some]
    refine ⟨hk, ?_⟩
    rw [List.getD_eq_getElem?_getD, List.getElem?_eq_getElem (by simpa using hl)]
    rfl)
  simp only [Bool.and_eq_true, decide_eq_true_eq] at hz
  exact jx_mem hz.1 hz.2
theorem jx_nd2 : ∀ a, a < 5 → ∀ b, b < 5 → a ≠ b → (jx_T2 a).2.1 ≠ (jx_T2 b).2.1 := by decide +kernel
theorem jx_tk2 : ∀ k, k < 5 → parseFieldDescriptor (jx_T2 k).2.2.1 = some (jx_ty 2 k) := by decide +kernel
theorem jx_lay3 : ∀ w ∈ u_ws "OfDifferentMinds$Land" jx_T3 6, w ∈ lw_g := by
  have h : ((u_ws "OfDifferentMinds$Land" jx_T3 6).zip ([165, 167, 169, 171, 173, 175] : List Nat)).all (fun q => decide (lw_tbl[q.2]? = some q.1) && goodWord q.1) = true := by decide +kernel
  intro w hw
  obtain ⟨k, hk⟩ := List.getElem?_of_mem hw
  have hl : k < 6 := by
    have := (List.getElem?_eq_some_iff.mp hk).1
    simpa [u_ws] using this
  have hz := List.all_eq_true.mp h (w, ([165, 167, 169, 171, 173, 175] : List Nat).getD k 0) (by
    refine List.mem_of_getElem? (i := k) ?_
    rw [List.getElem?_zip_eq_some]
    refine ⟨hk, ?_⟩
    rw [List.getD_eq_getElem?_getD, List.getElem?_eq_getElem (by simpa using hl)]
    rfl)
  simp only [Bool.and_eq_true, decide_eq_true_eq] at hz
  exact jx_mem hz.1 hz.2
theorem jx_nd3 : ∀ a, a < 6 → ∀ b, b < 6 → a ≠ b → (jx_T3 a).2.1 ≠ (jx_T3 b).2.1 := by decide +kernel
theorem jx_tk3 : ∀ k, k < 6 → parseFieldDescriptor (jx_T3 k).2.2.1 = some (jx_ty 3 k) := by decide +kernel
theorem jx_lay4 : ∀ w ∈ u_ws "OfDifferentMinds$Matching" jx_T4 4, w ∈ lw_g := by
  have h : ((u_ws "OfDifferentMinds$Matching" jx_T4 4).zip ([326, 328, 330, 332] : List Nat)).all (fun q => decide (lw_tbl[q.2]? = some q.1) && goodWord q.1) = true := by decide +kernel
  intro w hw
  obtain ⟨k, hk⟩ := List.getElem?_of_mem hw
  have hl : k < 4 := by
    have := (List.getElem?_eq_some_iff.mp hk).1
    simpa [u_ws] using this
  have hz := List.all_eq_true.mp h (w, ([326, 328, 330, 332] : List Nat).getD k 0) (by
    refine List.mem_of_getElem? (i := k) ?_
    rw [List.getElem?_zip_eq_some]
    refine ⟨hk, ?_⟩
    rw [List.getD_eq_getElem?_getD, List.getElem?_eq_getElem (by simpa using hl)]
    rfl)
  simp only [Bool.and_eq_true, decide_eq_true_eq] at hz
  exact jx_mem hz.1 hz.2
theorem jx_nd4 : ∀ a, a < 4 → ∀ b, b < 4 → a ≠ b → (jx_T4 a).2.1 ≠ (jx_T4 b).2.1 := by decide +kernel
theorem jx_tk4 : ∀ k, k < 4 → parseFieldDescriptor (jx_T4 k).2.2.1 = some (jx_ty 4 k) := by decide +kernel
theorem jx_lay5 : ∀ w ∈ u_ws "OfDifferentMinds$Ride" jx_T5 13, w ∈ lw_g := by
  have h : ((u_ws "OfDifferentMinds$Ride" jx_T5 13).zip ([270, 272, 274, 276, 278, 280, 282, 284, 286, 288, 290, 292, 294] : List Nat)).all (fun q => decide (lw_tbl[q.2]? = some q.1) && goodWord q.1) = true := by decide +kernel
  intro w hw
  obtain ⟨k, hk⟩ := List.getElem?_of_mem hw
  have hl : k < 13 := by
    have := (List.getElem?_eq_some_iff.mp hk).1
    simpa [u_ws] using this
  have hz := List.all_eq_true.mp h (w, ([270, 272, 274, 276, 278, 280, 282, 284, 286, 288, 290, 292, 294] : List Nat).getD k 0) (by
    refine List.mem_of_getElem? (i := k) ?_
    rw [List.getElem?_zip_eq_some]
    refine ⟨hk, ?_⟩
    rw [List.getD_eq_getElem?_getD, List.getElem?_eq_getElem (by simpa using hl)]
    rfl)
  simp only [Bool.and_eq_true, decide_eq_true_eq] at hz
  exact jx_mem hz.1 hz.2
theorem jx_nd5 : ∀ a, a < 13 → ∀ b, b < 13 → a ≠ b → (jx_T5 a).2.1 ≠ (jx_T5 b).2.1 := by decide +kernel
theorem jx_tk5 : ∀ k, k < 13 → parseFieldDescriptor (jx_T5 k).2.2.1 = some (jx_ty 5 k) := by decide +kernel
theorem jx_lay6 : ∀ w ∈ u_ws "OfDifferentMinds$Row" jx_T6 2, w ∈ lw_g := by
  have h : ((u_ws "OfDifferentMinds$Row" jx_T6 2).zip ([246, 248] : List Nat)).all (fun q => decide (lw_tbl[q.2]? = some q.1) && goodWord q.1) = true := by decide +kernel
  intro w hw
  obtain ⟨k, hk⟩ := List.getElem?_of_mem hw
  have hl : k < 2 := by
    have := (List.getElem?_eq_some_iff.mp hk).1
    simpa [u_ws] using this
  have hz := List.all_eq_true.mp h (w, ([246, 248] : List Nat).getD k 0) (by
    refine List.mem_of_getElem? (i := k) ?_
    rw [List.getElem?_zip_eq_some]
    refine ⟨hk, ?_⟩
    rw [List.getD_eq_getElem?_getD, List.getElem?_eq_getElem (by simpa using hl)]
    rfl)
  simp only [Bool.and_eq_true, decide_eq_true_eq] at hz
  exact jx_mem hz.1 hz.2
theorem jx_nd6 : ∀ a, a < 2 → ∀ b, b < 2 → a ≠ b → (jx_T6 a).2.1 ≠ (jx_T6 b).2.1 := by decide +kernel
theorem jx_tk6 : ∀ k, k < 2 → parseFieldDescriptor (jx_T6 k).2.2.1 = some (jx_ty 6 k) := by decide +kernel
theorem jx_lay7 : ∀ w ∈ u_ws "OfDifferentMinds$Rule" jx_T7 6, w ∈ lw_g := by
  have h : ((u_ws "OfDifferentMinds$Rule" jx_T7 6).zip ([190, 192, 194, 196, 198, 200] : List Nat)).all (fun q => decide (lw_tbl[q.2]? = some q.1) && goodWord q.1) = true := by decide +kernel
  intro w hw
  obtain ⟨k, hk⟩ := List.getElem?_of_mem hw
  have hl : k < 6 := by
    have := (List.getElem?_eq_some_iff.mp hk).1
    simpa [u_ws] using this
  have hz := List.all_eq_true.mp h (w, ([190, 192, 194, 196, 198, 200] : List Nat).getD k 0) (by
    refine List.mem_of_getElem? (i := k) ?_
    rw [List.getElem?_zip_eq_some]
    refine ⟨hk, ?_⟩
    rw [List.getD_eq_getElem?_getD, List.getElem?_eq_getElem (by simpa using hl)]
    rfl)
  simp only [Bool.and_eq_true, decide_eq_true_eq] at hz
  exact jx_mem hz.1 hz.2
theorem jx_nd7 : ∀ a, a < 6 → ∀ b, b < 6 → a ≠ b → (jx_T7 a).2.1 ≠ (jx_T7 b).2.1 := by decide +kernel
theorem jx_tk7 : ∀ k, k < 6 → parseFieldDescriptor (jx_T7 k).2.2.1 = some (jx_ty 7 k) := by decide +kernel
theorem jx_lay8 : ∀ w ∈ u_ws "OfDifferentMinds$Standing" jx_T8 1, w ∈ lw_g := by
  have h : ((u_ws "OfDifferentMinds$Standing" jx_T8 1).zip ([210] : List Nat)).all (fun q => decide (lw_tbl[q.2]? = some q.1) && goodWord q.1) = true := by decide +kernel
  intro w hw
  obtain ⟨k, hk⟩ := List.getElem?_of_mem hw
  have hl : k < 1 := by
    have := (List.getElem?_eq_some_iff.mp hk).1
    simpa [u_ws] using this
  have hz := List.all_eq_true.mp h (w, ([210] : List Nat).getD k 0) (by
    refine List.mem_of_getElem? (i := k) ?_
    rw [List.getElem?_zip_eq_some]
    refine ⟨hk, ?_⟩
    rw [List.getD_eq_getElem?_getD, List.getElem?_eq_getElem (by simpa using hl)]
    rfl)
  simp only [Bool.and_eq_true, decide_eq_true_eq] at hz
  exact jx_mem hz.1 hz.2
theorem jx_nd8 : ∀ a, a < 1 → ∀ b, b < 1 → a ≠ b → (jx_T8 a).2.1 ≠ (jx_T8 b).2.1 := by decide +kernel
theorem jx_tk8 : ∀ k, k < 1 → parseFieldDescriptor (jx_T8 k).2.2.1 = some (jx_ty 8 k) := by decide +kernel
theorem jx_lay9 : ∀ w ∈ u_ws "OfDifferentMinds$Text" jx_T9 4, w ∈ lw_g := by
  have h : ((u_ws "OfDifferentMinds$Text" jx_T9 4).zip ([143, 145, 147, 149] : List Nat)).all (fun q => decide (lw_tbl[q.2]? = some q.1) && goodWord q.1) = true := by decide +kernel
  intro w hw
  obtain ⟨k, hk⟩ := List.getElem?_of_mem hw
  have hl : k < 4 := by
    have := (List.getElem?_eq_some_iff.mp hk).1
    simpa [u_ws] using this
  have hz := List.all_eq_true.mp h (w, ([143, 145, 147, 149] : List Nat).getD k 0) (by
    refine List.mem_of_getElem? (i := k) ?_
    rw [List.getElem?_zip_eq_some]
    refine ⟨hk, ?_⟩
    rw [List.getD_eq_getElem?_getD, List.getElem?_eq_getElem (by simpa using hl)]
    rfl)
  simp only [Bool.and_eq_true, decide_eq_true_eq] at hz
  exact jx_mem hz.1 hz.2
theorem jx_nd9 : ∀ a, a < 4 → ∀ b, b < 4 → a ≠ b → (jx_T9 a).2.1 ≠ (jx_T9 b).2.1 := by decide +kernel
theorem jx_tk9 : ∀ k, k < 4 → parseFieldDescriptor (jx_T9 k).2.2.1 = some (jx_ty 9 k) := by decide +kernel
theorem jx_lay10 : ∀ w ∈ u_ws "OfDifferentMinds" jx_T10 14, w ∈ lw_g := by
  have h : ((u_ws "OfDifferentMinds" jx_T10 14).zip ([349, 351, 353, 355, 357, 359, 361, 363, 365, 367, 369, 371, 373, 375] : List Nat)).all (fun q => decide (lw_tbl[q.2]? = some q.1) && goodWord q.1) = true := by decide +kernel
  intro w hw
  obtain ⟨k, hk⟩ := List.getElem?_of_mem hw
  have hl : k < 14 := by
    have := (List.getElem?_eq_some_iff.mp hk).1
    simpa [u_ws] using this
  have hz := List.all_eq_true.mp h (w, ([349, 351, 353, 355, 357, 359, 361, 363, 365, 367, 369, 371, 373, 375] : List Nat).getD k 0) (by
    refine List.mem_of_getElem? (i := k) ?_
    rw [List.getElem?_zip_eq_some]
    refine ⟨hk, ?_⟩
    rw [List.getD_eq_getElem?_getD, List.getElem?_eq_getElem (by simpa using hl)]
    rfl)
  simp only [Bool.and_eq_true, decide_eq_true_eq] at hz
  exact jx_mem hz.1 hz.2
theorem jx_nd10 : ∀ a, a < 14 → ∀ b, b < 14 → a ≠ b → (jx_T10 a).2.1 ≠ (jx_T10 b).2.1 := by decide +kernel
theorem jx_tk10 : ∀ k, k < 14 → parseFieldDescriptor (jx_T10 k).2.2.1 = some (jx_ty 10 k) := by decide +kernel
theorem jx_lay11 : ∀ w ∈ u_ws "OfDifferentMindsModel" jx_T11 52, w ∈ lw_g := by
  have h : ((u_ws "OfDifferentMindsModel" jx_T11 52).zip ([1345, 1347, 1349, 1351, 1353, 1355, 1357, 1359, 1361, 1363, 1365, 1367, 1369, 1371, 1373, 1375, 1377, 1379, 1381, 1383, 1385, 1387, 1389, 1391, 1393, 1395, 1397, 1399, 1401, 1403, 1405, 1407, 1409, 1411, 1413, 1415, 1417, 1419, 1421, 1423, 1425, 1427, 1429, 1431, 1433, 1435, 1437, 1439, 1441, 1443, 1445, 1447] : List Nat)).all (fun q => decide (lw_tbl[q.2]? = some q.1) && goodWord q.1) = true := by decide +kernel
  intro w hw
  obtain ⟨k, hk⟩ := List.getElem?_of_mem hw
  have hl : k < 52 := by
    have := (List.getElem?_eq_some_iff.mp hk).1
    simpa [u_ws] using this
  have hz := List.all_eq_true.mp h (w, ([1345, 1347, 1349, 1351, 1353, 1355, 1357, 1359, 1361, 1363, 1365, 1367, 1369, 1371, 1373, 1375, 1377, 1379, 1381, 1383, 1385, 1387, 1389, 1391, 1393, 1395, 1397, 1399, 1401, 1403, 1405, 1407, 1409, 1411, 1413, 1415, 1417, 1419, 1421, 1423, 1425, 1427, 1429, 1431, 1433, 1435, 1437, 1439, 1441, 1443, 1445, 1447] : List Nat).getD k 0) (by
    refine List.mem_of_getElem? (i := k) ?_
    rw [List.getElem?_zip_eq_some]
    refine ⟨hk, ?_⟩
    rw [List.getD_eq_getElem?_getD, List.getElem?_eq_getElem (by simpa using hl)]
    rfl)
  simp only [Bool.and_eq_true, decide_eq_true_eq] at hz
  exact jx_mem hz.1 hz.2
theorem jx_nd11 : ∀ a, a < 52 → ∀ b, b < 52 → a ≠ b → (jx_T11 a).2.1 ≠ (jx_T11 b).2.1 := by decide +kernel
theorem jx_tk11 : ∀ k, k < 52 → parseFieldDescriptor (jx_T11 k).2.2.1 = some (jx_ty 11 k) := by decide +kernel
/-- what is known of a class of the worlds -/
def jx_okC (c : Nat) (q : vw_C) : Prop := q.1 = jx_nm c ∧ q.2.2 ≤ 64 ∧ (∀ w ∈ u_ws q.1 q.2.1 q.2.2, w ∈ lw_g) ∧ (∀ a, a < q.2.2 → ∀ b, b < q.2.2 → a ≠ b → (q.2.1 a).2.1 ≠ (q.2.1 b).2.1) ∧ (∀ k, k < q.2.2 → parseFieldDescriptor (q.2.1 k).2.2.1 = some (jx_ty c k)) ∧ (∀ k, k < q.2.2 → (q.2.1 k).1 = q.1)
theorem jx_cl_ok : ∀ (c : Nat) (q : vw_C), jx_cl[c]? = some q → jx_okC c q := by
  intro c q h
  match c, h with
  | 0, h => cases h; exact ⟨rfl, by decide, jx_lay0, jx_nd0, jx_tk0, by decide +kernel⟩
  | 1, h => cases h; exact ⟨rfl, by decide, jx_lay1, jx_nd1, jx_tk1, by decide +kernel⟩
  | 2, h => cases h; exact ⟨rfl, by decide, jx_lay2, jx_nd2, jx_tk2, by decide +kernel⟩
  | 3, h => cases h; exact ⟨rfl, by decide, jx_lay3, jx_nd3, jx_tk3, by decide +kernel⟩
  | 4, h => cases h; exact ⟨rfl, by decide, jx_lay4, jx_nd4, jx_tk4, by decide +kernel⟩
  | 5, h => cases h; exact ⟨rfl, by decide, jx_lay5, jx_nd5, jx_tk5, by decide +kernel⟩
  | 6, h => cases h; exact ⟨rfl, by decide, jx_lay6, jx_nd6, jx_tk6, by decide +kernel⟩
  | 7, h => cases h; exact ⟨rfl, by decide, jx_lay7, jx_nd7, jx_tk7, by decide +kernel⟩
  | 8, h => cases h; exact ⟨rfl, by decide, jx_lay8, jx_nd8, jx_tk8, by decide +kernel⟩
  | 9, h => cases h; exact ⟨rfl, by decide, jx_lay9, jx_nd9, jx_tk9, by decide +kernel⟩
  | 10, h => cases h; exact ⟨rfl, by decide, jx_lay10, jx_nd10, jx_tk10, by decide +kernel⟩
  | 11, h => cases h; exact ⟨rfl, by decide, jx_lay11, jx_nd11, jx_tk11, by decide +kernel⟩
  | k + 12, h => simp [jx_cl] at h
theorem jx_new_ok : ∀ (c : Nat) (q : vw_C), jx_cl[c]? = some q → c ≠ 1 → Cond.instantiable q.1 q.2.2 ∈ lw_g ∧ Cond.initialized q.1 ∈ lw_g := by
  intro c q h h1
  match c, h, h1 with
  | 0, h, h1 => cases h; exact ⟨jx_mem (i := 298) (by decide +kernel) rfl, jx_mem (i := 114) (by decide +kernel) rfl⟩
  | 1, h, h1 => exact absurd rfl h1
  | 2, h, h1 => cases h; exact ⟨jx_mem (i := 214) (by decide +kernel) rfl, jx_mem (i := 111) (by decide +kernel) rfl⟩
  | 3, h, h1 => cases h; exact ⟨jx_mem (i := 154) (by decide +kernel) rfl, jx_mem (i := 108) (by decide +kernel) rfl⟩
  | 4, h, h1 => cases h; exact ⟨jx_mem (i := 317) (by decide +kernel) rfl, jx_mem (i := 115) (by decide +kernel) rfl⟩
  | 5, h, h1 => cases h; exact ⟨jx_mem (i := 252) (by decide +kernel) rfl, jx_mem (i := 113) (by decide +kernel) rfl⟩
  | 6, h, h1 => cases h; exact ⟨jx_mem (i := 239) (by decide +kernel) rfl, jx_mem (i := 112) (by decide +kernel) rfl⟩
  | 7, h, h1 => cases h; exact ⟨jx_mem (i := 179) (by decide +kernel) rfl, jx_mem (i := 109) (by decide +kernel) rfl⟩
  | 8, h, h1 => cases h; exact ⟨jx_mem (i := 204) (by decide +kernel) rfl, jx_mem (i := 110) (by decide +kernel) rfl⟩
  | 9, h, h1 => cases h; exact ⟨jx_mem (i := 134) (by decide +kernel) rfl, jx_mem (i := 107) (by decide +kernel) rfl⟩
  | 10, h, h1 => cases h; exact ⟨jx_mem (i := 126) (by decide +kernel) rfl, jx_mem (i := 106) (by decide +kernel) rfl⟩
  | 11, h, h1 => cases h; exact ⟨jx_mem (i := 1284) (by decide +kernel) rfl, jx_mem (i := 116) (by decide +kernel) rfl⟩
  | k + 12, h, h1 => simp [jx_cl] at h
theorem jx_wo1 : Cond.instanceMethod Lib.objectInit ∈ lw_g := jx_mem (i := 131) (by decide +kernel) rfl
theorem jx_wo2 : Cond.code Lib.objectInit ⟨#[0xb1]⟩ 1 none ∈ lw_g := jx_mem (i := 132) (by first | decide +kernel | rfl) rfl
theorem jx_wa3 : Cond.initialized "java/lang/System" ∈ lw_g := jx_mem (i := 119) (by decide +kernel) rfl
theorem jx_wa2 : Cond.static arraycopyName ∈ lw_g := jx_mem (i := 569) (by decide +kernel) rfl
theorem jx_wa1 : Cond.native arraycopyName ∈ lw_g := jx_mem (i := 570) (by decide +kernel) rfl
theorem jx_wm0 : Cond.initialized "java/lang/Math" ∈ lw_g := jx_mem (i := 118) (by decide +kernel) rfl
theorem jx_wmax1 : Cond.static Lib.Math.max.name ∈ lw_g := jx_mem (i := 509) (by decide +kernel) rfl
theorem jx_wmax2 : Cond.code Lib.Math.max.name Lib.Math.max.code 2 (some .int) ∈ lw_g := jx_mem (i := 510) (by decide +kernel) rfl
theorem jx_wmin1 : Cond.static Lib.Math.min.name ∈ lw_g := jx_mem (i := 620) (by decide +kernel) rfl
theorem jx_wmin2 : Cond.code Lib.Math.min.name Lib.Math.min.code 2 (some .int) ∈ lw_g := jx_mem (i := 621) (by decide +kernel) rfl
theorem jx_wi : Cond.arrayClass .int ∈ lw_g := jx_mem (i := 152) (by decide +kernel) rfl
theorem jx_wb : Cond.arrayClass .byte ∈ lw_g := jx_mem (i := 1262) (by decide +kernel) rfl
theorem jx_wz : Cond.arrayClass .boolean ∈ lw_g := jx_mem (i := 1450) (by decide +kernel) rfl
end
section
/-! ===== a small machine over plain numbers: what the claim's methods do, as a function =====
a cell's number is its place in the row 'lay' of kinds; fields of cell o are at 64*o+k (numbers in G, references in P); rows in A -/
abbrev jx_E : Type := Nat × Nat × (Nat × Nat × Nat × Nat) × Int32 × List (Int32 × Nat)
abbrev jx_H : Type := List (Nat × Nat) × (Nat → Value) × (Nat → Int32) × (Nat → Nat → Int32)
abbrev jx_B : Type := List (Nat × List jx_E)
abbrev jx_C : Type := List jx_E × List Value × List Value × jx_H
abbrev jx_K : Type := Nat × List Value × List jx_E × List Value × List Value
abbrev jx_R : Type := jx_C ⊕ (jx_K ⊕ Option Value)
/-- name, bytes, locals, what it returns, kind (0 virtual, 1 constructor, 2 static), arguments (this counted), class, blocks -/
abbrev jx_M : Type := MethodName × ByteArray × Nat × Option FieldType × Nat × Nat × Nat × jx_B
def jx_up {α : Type} (f : Nat → α) (k : Nat) (x : α) : Nat → α := fun j => if j = k then x else f j
def jx_up2 {α : Type} (f : Nat → Nat → α) (o k : Nat) (x : α) : Nat → Nat → α := fun p j => if p = o ∧ j = k then x else f p j
def jx_at : jx_B → Nat → List jx_E
  | [], _ => []
  | b :: r, t => if b.1 = t then b.2 else jx_at r t
abbrev jx_in (i : Int32) (n : Nat) : Prop := ¬ (i < 0 ∨ n ≤ i.toNatClampNeg)
abbrev jx_c8 (st : List Value) : Prop := (st.map fun v => v.category).sum ≤ 8
def jx_max (z y : Int32) : Int32 := if z < y then y else z
def jx_min (z y : Int32) : Int32 := if y < z then y else z
/-- how many fields the classes have -/
def jx_N (c : Nat) : Nat := (jx_cl.getD c ("", fun _ => ("", "", "", false), 0)).2.2
def jx_n (r : List jx_E) (ls st : List Value) (h : jx_H) : Option jx_R := some (.inl (r, ls, st, h))
def jx_lk : List (Int32 × Nat) → Int32 → Nat → Nat
  | [], _, d => d
  | q :: r, x, d => if x = q.1 then q.2 else jx_lk r x d
def jx_s (bl : jx_B) (e : jx_E) (r : List jx_E) (ls st : List Value) (h : jx_H) : Option jx_R :=
  match e with
  | (_, op, (a, b, c, d), x, L) =>
  match op with
  | 0 => match ls[a]? with
    | some (.int v) => jx_n r ls (.int v :: st) h
    | _ => none
  | 1 => match ls[a]? with
    | some (.int v) => jx_n r ls (.int v :: st) h
    | _ => none
  | 2 => match ls[a]? with
    | some (.ref v) => jx_n r ls (.ref v :: st) h
    | _ => none
  | 3 => match ls[a]? with
    | some (.ref v) => jx_n r ls (.ref v :: st) h
    | _ => none
  | 4 => match st with
    | .int v :: s => jx_n r (ls.set a (.int v)) s h
    | _ => none
  | 5 => match st with
    | .int v :: s => jx_n r (ls.set a (.int v)) s h
    | _ => none
  | 6 => match st with
    | .ref v :: s => jx_n r (ls.set a (.ref v)) s h
    | _ => none
  | 7 => match st with
    | .ref v :: s => jx_n r (ls.set a (.ref v)) s h
    | _ => none
  | 8 => jx_n r ls (.int x :: st) h
  | 9 => jx_n r ls (.int x :: st) h
  | 10 => jx_n r ls (.int x :: st) h
  | 11 => jx_n r ls (.int x :: st) h
  | 12 => jx_n r ls (.int x :: st) h
  | 13 => match ls[a]? with
    | some (.int v) => jx_n r (ls.set a (.int (v + x))) st h
    | _ => none
  | 14 => match st with
    | .int y :: .int z :: s => jx_n r ls (.int (z + y) :: s) h
    | _ => none
  | 15 => match st with
    | .int y :: .int z :: s => jx_n r ls (.int (z - y) :: s) h
    | _ => none
  | 16 => match st with
    | .int y :: .int z :: s => jx_n r ls (.int (z * y) :: s) h
    | _ => none
  | 17 => match st with
    | .int y :: .int z :: s => if y = 0 then none else jx_n r ls (.int (z / y) :: s) h
    | _ => none
  | 18 => match st with
    | .int y :: .int z :: s => if y = 0 then none else jx_n r ls (.int (z - z / y * y) :: s) h
    | _ => none
  | 19 => match st with
    | .int y :: s => jx_n r ls (.int (-y) :: s) h
    | _ => none
  | 20 => match st with
    | .int y :: .int z :: s => jx_n r ls (.int (z &&& y) :: s) h
    | _ => none
  | 21 => match st with
    | .int y :: .int z :: s => jx_n r ls (.int (z ||| y) :: s) h
    | _ => none
  | 22 => match st with
    | .int y :: .int z :: s => jx_n r ls (.int (z ^^^ y) :: s) h
    | _ => none
  | 23 => match st with
    | .int y :: .int z :: s => jx_n r ls (.int (z <<< (y &&& 31)) :: s) h
    | _ => none
  | 24 => match st with
    | .int y :: .int z :: s => jx_n r ls (.int (z >>> (y &&& 31)) :: s) h
    | _ => none
  | 25 => match st with
    | .int y :: .int z :: s => jx_n r ls (.int (z.toUInt32 >>> (y.toUInt32 &&& Int32.toUInt32 31)).toInt32 :: s) h
    | _ => none
  | 26 => match st with
    | .int y :: s => jx_n r ls (.int y.toInt8.toInt32 :: s) h
    | _ => none
  | 27 => match st with
    | .int y :: s => jx_n r ls (.int y.toInt16.toInt32 :: s) h
    | _ => none
  | 28 => match st with
    | .int y :: s => jx_n r ls (.int y :: .int y :: s) h
    | .ref y :: s => jx_n r ls (.ref y :: .ref y :: s) h
    | _ => none
  | 29 => match st with
    | .int y :: .ref z :: s => jx_n r ls (.int y :: .ref z :: .int y :: .ref z :: s) h
    | _ => none
  | 30 => match st with
    | .int y :: .ref z :: s => jx_n r ls (.int y :: .ref z :: .int y :: s) h
    | _ => none
  | 31 => match st with
    | .int _ :: s => jx_n r ls s h
    | _ => none
  | 32 => match st with
    | .ref o :: s => if h.1[o]? = some (10 + a, jx_N a) then jx_n r ls (.int (h.2.2.1 (64 * o + b)) :: s) h else none
    | _ => none
  | 33 => match st with
    | .ref o :: s => if h.1[o]? = some (10 + a, jx_N a) then jx_n r ls (h.2.1 (64 * o + b) :: s) h else none
    | _ => none
  | 34 => match st with
    | .int v :: .ref o :: s => if h.1[o]? = some (10 + a, jx_N a) then jx_n r ls s (h.1, h.2.1, jx_up h.2.2.1 (64 * o + b) v, h.2.2.2) else none
    | _ => none
  | 35 => match st with
    | .int v :: .ref o :: s => if h.1[o]? = some (10 + a, jx_N a) ∧ (v = 0 ∨ v = 1) then jx_n r ls s (h.1, h.2.1, jx_up h.2.2.1 (64 * o + b) v, h.2.2.2) else none
    | _ => none
  | 36 => match st with
    | .ref v :: .ref o :: s => if h.1[o]? = some (10 + a, jx_N a) then jx_n r ls s (h.1, jx_up h.2.1 (64 * o + b) (.ref v), h.2.2.1, h.2.2.2) else none
    | _ => none
  | 37 => match st with
    | .ref v :: .ref o :: s => if h.1[o]? = some (10 + a, jx_N a) then jx_n r ls s (h.1, jx_up h.2.1 (64 * o + b) (.ref v), h.2.2.1, h.2.2.2) else none
    | _ => none
  | 38 => match st with
    | .int i :: .ref o :: s => match h.1[o]? with
      | some (0, n) => if jx_in i n then jx_n r ls (.int (h.2.2.2 o i.toNatClampNeg) :: s) h else none
      | _ => none
    | _ => none
  | 39 => match st with
    | .int i :: .ref o :: s => match h.1[o]? with
      | some (1, n) => if jx_in i n then jx_n r ls (.int (h.2.2.2 o i.toNatClampNeg) :: s) h else none
      | some (2, n) => if jx_in i n then jx_n r ls (.int (h.2.2.2 o i.toNatClampNeg) :: s) h else none
      | _ => none
    | _ => none
  | 41 => match st with
    | .int v :: .int i :: .ref o :: s => match h.1[o]? with
      | some (0, n) => if jx_in i n then jx_n r ls s (h.1, h.2.1, h.2.2.1, jx_up2 h.2.2.2 o i.toNatClampNeg v) else none
      | _ => none
    | _ => none
  | 42 => match st with
    | .int v :: .int i :: .ref o :: s => match h.1[o]? with
      | some (1, n) => if jx_in i n then jx_n r ls s (h.1, h.2.1, h.2.2.1, jx_up2 h.2.2.2 o i.toNatClampNeg v.toInt8.toInt32) else none
      | some (2, n) => if jx_in i n then jx_n r ls s (h.1, h.2.1, h.2.2.1, jx_up2 h.2.2.2 o i.toNatClampNeg (v &&& 1)) else none
      | _ => none
    | _ => none
  | 44 => match st with
    | .int i :: .ref o :: s => match h.1[o]? with
      | some (4, n) => if jx_in i n ∧ n ≤ 64 then (match h.2.1 (64 * o + i.toNatClampNeg) with | .ref q => jx_n r ls (.ref q :: s) h | _ => none) else none
      | _ => none
    | _ => none
  | 45 => match st with
    | .ref v :: .int i :: .ref o :: s => match h.1[o]? with
      | some (4, n) => if jx_in i n ∧ n ≤ 64 ∧ h.1[v]? = some (10 + 8, jx_N 8) then jx_n r ls s (h.1, jx_up h.2.1 (64 * o + i.toNatClampNeg) (.ref v), h.2.2.1, h.2.2.2) else none
      | _ => none
    | _ => none
  | 46 => match st with
    | .int n :: s => if ¬ n < 0 ∧ n.toNatClampNeg ≤ 1000 then jx_n r ls (.ref h.1.length :: s) (h.1 ++ [(a, n.toNatClampNeg)], h.2.1, h.2.2.1, fun o => if o = h.1.length then fun _ => 0 else h.2.2.2 o) else none
    | _ => none
  | 47 => match st with
    | .int n :: s => if ¬ n < 0 ∧ n.toNatClampNeg ≤ 64 then jx_n r ls (.ref h.1.length :: s) (h.1 ++ [(4, n.toNatClampNeg)], fun q => if 64 * h.1.length ≤ q then .null else h.2.1 q, h.2.2.1, h.2.2.2) else none
    | _ => none
  | 48 => jx_n r ls (.ref h.1.length :: st) (h.1 ++ [(10 + a, jx_N a)], fun q => if 64 * h.1.length ≤ q then .null else h.2.1 q, fun q => if 64 * h.1.length ≤ q then 0 else h.2.2.1 q, h.2.2.2)
  | 49 => match (st.take b).reverse with
    | .ref o :: as => if h.1[o]? = some (10 + c, jx_N c) ∧ as.length + 1 = b ∧ jx_c8 (st.drop b) then some (.inr (.inl (a, .ref o :: as, r, ls, st.drop b))) else none
    | _ => none
  | 50 => if (st.take b).length = b ∧ jx_c8 (st.drop b) then some (.inr (.inl (a, (st.take b).reverse, r, ls, st.drop b))) else none
  | 51 => match (st.take b).reverse with
    | .ref o :: as => if as.length + 1 = b ∧ jx_c8 (st.drop b) then some (.inr (.inl (a, .ref o :: as, r, ls, st.drop b))) else none
    | _ => none
  | 52 => match st with
    | .ref _ :: s => if jx_c8 s then jx_n r ls s h else none
    | _ => none
  | 53 => match st with
    | .int n :: .int dp :: .ref q :: .int sp :: .ref o :: s => match h.1[o]?, h.1[q]? with
      | some (0, n0), some (0, n1) => if ¬ sp < 0 ∧ ¬ dp < 0 ∧ ¬ n < 0 ∧ sp.toNatClampNeg + n.toNatClampNeg ≤ n0 ∧ dp.toNatClampNeg + n.toNatClampNeg ≤ n1 ∧ jx_c8 s
        then jx_n r ls s (h.1, h.2.1, h.2.2.1, fun z => if z = q then va_cpy (h.2.2.2 o) (h.2.2.2 q) sp.toNatClampNeg dp.toNatClampNeg n.toNatClampNeg else h.2.2.2 z) else none
      | _, _ => none
    | _ => none
  | 54 => jx_n (jx_at bl a) ls st h
  | 55 => match st with
    | .int z :: s => jx_n (if z = 0 then jx_at bl a else r) ls s h
    | _ => none
  | 56 => match st with
    | .int z :: s => jx_n (if ¬ z = 0 then jx_at bl a else r) ls s h
    | _ => none
  | 57 => match st with
    | .int z :: s => jx_n (if z < 0 then jx_at bl a else r) ls s h
    | _ => none
  | 58 => match st with
    | .int z :: s => jx_n (if 0 ≤ z then jx_at bl a else r) ls s h
    | _ => none
  | 59 => match st with
    | .int z :: s => jx_n (if 0 < z then jx_at bl a else r) ls s h
    | _ => none
  | 60 => match st with
    | .int z :: s => jx_n (if z ≤ 0 then jx_at bl a else r) ls s h
    | _ => none
  | 61 => match st with
    | .int y :: .int z :: s => jx_n (if z = y then jx_at bl a else r) ls s h
    | _ => none
  | 62 => match st with
    | .int y :: .int z :: s => jx_n (if ¬ z = y then jx_at bl a else r) ls s h
    | _ => none
  | 63 => match st with
    | .int y :: .int z :: s => jx_n (if z < y then jx_at bl a else r) ls s h
    | _ => none
  | 64 => match st with
    | .int y :: .int z :: s => jx_n (if y ≤ z then jx_at bl a else r) ls s h
    | _ => none
  | 65 => match st with
    | .int y :: .int z :: s => jx_n (if y < z then jx_at bl a else r) ls s h
    | _ => none
  | 66 => match st with
    | .int y :: .int z :: s => jx_n (if z ≤ y then jx_at bl a else r) ls s h
    | _ => none
  | 67 => match st with
    | .int z :: s => jx_n (jx_at bl (jx_lk L z a)) ls s h
    | _ => none
  | 68 => match st with
    | .int z :: s => jx_n (jx_at bl (jx_lk L z a)) ls s h
    | _ => none
  | 69 => match st with
    | [.int z] => some (.inr (.inr (some (.int z))))
    | _ => none
  | 70 => match st with
    | [.int z] => if z = 0 ∨ z = 1 then some (.inr (.inr (some (.int z)))) else none
    | _ => none
  | 71 => match st with
    | [] => some (.inr (.inr none))
    | _ => none
  | 72 => match st with
    | .int y :: .int z :: s => if jx_c8 s then jx_n r ls (.int (jx_max z y) :: s) h else none
    | _ => none
  | 73 => match st with
    | .int y :: .int z :: s => if jx_c8 s then jx_n r ls (.int (jx_min z y) :: s) h else none
    | _ => none
  | _ => none
/-- the instruction that an entry stands for, and its length -/
def jx_ins (e : jx_E) : Instr × Nat :=
  match e with
  | (pc, op, (a, b, c, d), x, L) =>
  match op with
  | 0 => (.iload_n (Fin.ofNat 4 a), 1)
  | 1 => (.iload a, 2)
  | 2 => (.aload_n (Fin.ofNat 4 a), 1)
  | 3 => (.aload a, 2)
  | 4 => (.istore_n (Fin.ofNat 4 a), 1)
  | 5 => (.istore a, 2)
  | 6 => (.astore_n (Fin.ofNat 4 a), 1)
  | 7 => (.astore a, 2)
  | 8 => (.iconst x.toInt, 1)
  | 9 => (.bipush x.toInt, 2)
  | 10 => (.sipush x.toInt, 3)
  | 11 => (.ldc d, 2)
  | 12 => (.ldc_w d, 3)
  | 13 => (.iinc a x.toInt, 3)
  | 14 => (.iadd, 1)
  | 15 => (.isub, 1)
  | 16 => (.imul, 1)
  | 17 => (.idiv, 1)
  | 18 => (.irem, 1)
  | 19 => (.ineg, 1)
  | 20 => (.iand, 1)
  | 21 => (.ior, 1)
  | 22 => (.ixor, 1)
  | 23 => (.ishl, 1)
  | 24 => (.ishr, 1)
  | 25 => (.iushr, 1)
  | 26 => (.i2b, 1)
  | 27 => (.i2s, 1)
  | 28 => (.dup, 1)
  | 29 => (.dup2, 1)
  | 30 => (.dup_x1, 1)
  | 31 => (.pop, 1)
  | 32 => (.getfield d, 3)
  | 33 => (.getfield d, 3)
  | 34 => (.putfield d, 3)
  | 35 => (.putfield d, 3)
  | 36 => (.putfield d, 3)
  | 37 => (.putfield d, 3)
  | 38 => (.iaload, 1)
  | 39 => (.baload, 1)
  | 41 => (.iastore, 1)
  | 42 => (.bastore, 1)
  | 44 => (.aaload, 1)
  | 45 => (.aastore, 1)
  | 46 => (.newarray (if a = 0 then .int else if a = 1 then .byte else .boolean), 2)
  | 47 => (.anewarray d, 3)
  | 48 => (.new d, 3)
  | 49 => (.invokevirtual d, 3)
  | 50 => (.invokestatic d, 3)
  | 51 => (.invokespecial d, 3)
  | 52 => (.invokespecial d, 3)
  | 53 => (.invokestatic d, 3)
  | 54 => (.goto ((a : Int) - pc), 3)
  | 55 => (.ifCond .eq ((a : Int) - pc), 3)
  | 56 => (.ifCond .ne ((a : Int) - pc), 3)
  | 57 => (.ifCond .lt ((a : Int) - pc), 3)
  | 58 => (.ifCond .ge ((a : Int) - pc), 3)
  | 59 => (.ifCond .gt ((a : Int) - pc), 3)
  | 60 => (.ifCond .le ((a : Int) - pc), 3)
  | 61 => (.if_icmp .eq ((a : Int) - pc), 3)
  | 62 => (.if_icmp .ne ((a : Int) - pc), 3)
  | 63 => (.if_icmp .lt ((a : Int) - pc), 3)
  | 64 => (.if_icmp .ge ((a : Int) - pc), 3)
  | 65 => (.if_icmp .gt ((a : Int) - pc), 3)
  | 66 => (.if_icmp .le ((a : Int) - pc), 3)
  | 67 => (.tableswitch ((a : Int) - pc) x.toInt (x.toInt + L.length - 1) (L.map fun q => (q.2 : Int) - pc).toArray, d)
  | 68 => (.lookupswitch ((a : Int) - pc) (L.map fun q => (q.1.toInt, (q.2 : Int) - pc)).toArray, d)
  | 69 => (.ireturn, 1)
  | 70 => (.ireturn, 1)
  | 71 => (.return_, 1)
  | 72 => (.invokestatic d, 3)
  | 73 => (.invokestatic d, 3)
  | _ => (.nop, 1)
/-- the small machine, with d calls deep and n steps long at most -/
def jx_x (MS : List jx_M) : Nat → Nat → jx_B → List jx_E → List Value → List Value → jx_H → Option (Option Value × jx_H)
  | _, 0, _, _, _, _, _ => none
  | d, n + 1, bl, rem, ls, st, h =>
    match rem with
    | [] => none
    | e :: r =>
      match jx_s bl e r ls st h with
      | none => none
      | some (.inl q) => jx_x MS d n bl q.1 q.2.1 q.2.2.1 q.2.2.2
      | some (.inr (.inr v)) => some (v, h)
      | some (.inr (.inl k)) =>
        match d, MS[k.1]? with
        | d' + 1, some i =>
          if k.2.1.length = i.2.2.2.2.2.1 ∧ k.2.1.all (fun v => decide (v.category = 1)) = true then
            match jx_x MS d' n i.2.2.2.2.2.2.2 (jx_at i.2.2.2.2.2.2.2 0) (k.2.1 ++ List.replicate (i.2.2.1 - k.2.1.length) (.retAddr 0)) [] h with
            | some y => jx_x MS d n bl k.2.2.1 k.2.2.2.1 (y.1.toList ++ k.2.2.2.2) y.2
            | none => none
          else none
        | _, _ => none
end
section
/-! ===== the small machine's heap, as the machine's ===== -/
def jx_V (base : Nat) : Value → Value
  | .ref a => .ref (base + a)
  | v => v
def jx_oq (base : Nat) : Value → Option Nat
  | .ref a => some (base + a)
  | _ => none
def jx_isr (c k : Nat) : Bool := match jx_ty c k with
  | .int => false
  | .boolean => false
  | _ => true
def jx_f (base : Nat) (h : jx_H) (c o k : Nat) : Value := if k < 64 then (if jx_isr c k = true then jx_V base (h.2.1 (64 * o + k)) else .int (h.2.2.1 (64 * o + k))) else .null
def jx_e (base : Nat) (cA : Nat → ClassId) (O : Nat → va_E) (h : jx_H) (i : Nat) : va_E :=
  match h.1[i]? with
  | some (k, n) => if k < 3 then .inl (cA k, n, .inl (h.2.2.2 i)) else if k = 4 then .inl (cA 4, n, .inr (.inr (.inr (.inr (fun j => if j < 64 then jx_oq base (h.2.1 (64 * i + j)) else none))))) else if k < 10 then O i else .inr (k - 10, (List.range n).map (jx_f base h (k - 10) i))
  | none => O i
def jx_ws (base : Nat) (cA : Nat → ClassId) (O : Nat → va_E) (h : jx_H) : va_W := (List.range h.1.length).map fun i => (base + i, jx_e base cA O h i)
def jx_SC : String := "OfDifferentMinds$Standing"
def jx_ta (cA : Nat → ClassId) : List (ClassId × FieldType) := [(cA 0, .int), (cA 1, .byte), (cA 2, .boolean), (cA 4, .object jx_SC)]
def jx_KK (D : va_G) (cA : Nat → ClassId) (U : State) : Prop := va_K D jx_cl (jx_ta cA) U ∧ va_AO jx_SC U
theorem jx_KK.moved {D : va_G} {cA : Nat → ClassId} {u U : State} (hvm : u.vm.Alike U.vm) (h : jx_KK D cA u) : jx_KK D cA U := ⟨h.1.moved hvm, h.2.moved hvm⟩
theorem jx_ws_get {base : Nat} {cA : Nat → ClassId} {O : Nat → va_E} {h : jx_H} {i : Nat} (hi : i < h.1.length) : (jx_ws base cA O h)[i]? = some (base + i, jx_e base cA O h i) := by
  unfold jx_ws
  rw [List.getElem?_map, List.getElem?_range hi]
  rfl
theorem jx_ws_inv {base : Nat} {cA : Nat → ClassId} {O : Nat → va_E} {h : jx_H} {i : Nat} {q : Nat × va_E} (hq : (jx_ws base cA O h)[i]? = some q) : i < h.1.length ∧ q = (base + i, jx_e base cA O h i) := by
  have hl : i < h.1.length := by
    have := (List.getElem?_eq_some_iff.mp hq).1
    simpa [jx_ws] using this
  rw [jx_ws_get hl] at hq
  exact ⟨hl, (Option.some.inj hq).symm⟩
theorem jx_ws_D {base : Nat} {cA : Nat → ClassId} {O : Nat → va_E} {h : jx_H} : va_D (fun q => base ≤ q) (jx_ws base cA O h) := by
  refine ⟨fun i j p q hi hj he => ?_, fun k q hk => ?_⟩
  · obtain ⟨-, rfl⟩ := jx_ws_inv hi
    obtain ⟨-, rfl⟩ := jx_ws_inv hj
    simp only at he
    omega
  · obtain ⟨-, rfl⟩ := jx_ws_inv hk
    exact Nat.le_add_right _ _
theorem jx_lt {h : jx_H} {o : Nat} {q : Nat × Nat} (ho : h.1[o]? = some q) : o < h.1.length := (List.getElem?_eq_some_iff.mp ho).1
theorem jx_e_arr {base : Nat} {cA : Nat → ClassId} {O : Nat → va_E} {h : jx_H} {o k n : Nat} (ho : h.1[o]? = some (k, n)) (hk : k < 3) : jx_e base cA O h o = .inl (cA k, n, .inl (h.2.2.2 o)) := by
  unfold jx_e
  rw [ho]
  simp [hk]
theorem jx_e_q {base : Nat} {cA : Nat → ClassId} {O : Nat → va_E} {h : jx_H} {o n : Nat} (ho : h.1[o]? = some (4, n)) : jx_e base cA O h o = .inl (cA 4, n, .inr (.inr (.inr (.inr (fun j => if j < 64 then jx_oq base (h.2.1 (64 * o + j)) else none))))) := by
  unfold jx_e
  rw [ho]
  simp
theorem jx_e_obj {base : Nat} {cA : Nat → ClassId} {O : Nat → va_E} {h : jx_H} {o c n : Nat} (ho : h.1[o]? = some (10 + c, n)) : jx_e base cA O h o = .inr (c, (List.range n).map (jx_f base h c o)) := by
  unfold jx_e
  rw [ho]
  have h1 : ¬ 10 + c < 3 := by omega
  have h2 : ¬ 10 + c = 4 := by omega
  have h3 : ¬ 10 + c < 10 := by omega
  simp [h1, h2, h3]
/-- a world whose row of kinds is the same, and whose cells but one are -/
theorem jx_P_set {D : va_G} {base : Nat} {cA : Nat → ClassId} {O : Nat → va_E} {h h1 : jx_H} {o : Nat} {H H1 : Heap} (hP : va_P D jx_cl (jx_ws base cA O h) H) (hl : h1.1 = h.1) (ho : o < h.1.length) (hne : ∀ i, i ≠ o → jx_e base cA O h1 i = jx_e base cA O h i) (hat : va_at D jx_cl (base + o, jx_e base cA O h1 o) H1) (hoq : ∀ q : Nat, q ≠ base + o → H1[q]? = H[q]?) : va_P D jx_cl (jx_ws base cA O h1) H1 := by
  intro k q hk
  obtain ⟨hkl, rfl⟩ := jx_ws_inv hk
  rw [hl] at hkl
  by_cases hko : k = o
  · subst hko; exact hat
  · rw [hne k hko]
    exact (hP k _ (jx_ws_get hkl)).kept (hoq _ (by simp only; omega))
/-- a world with one more cell -/
theorem jx_P_push {D : va_G} {base : Nat} {cA : Nat → ClassId} {O : Nat → va_E} {h h1 : jx_H} {q0 : Nat × Nat} {H H1 : Heap} (hP : va_P D jx_cl (jx_ws base cA O h) H) (hz : H.size = base + h.1.length) (hl : h1.1 = h.1 ++ [q0]) (hne : ∀ i, i < h.1.length → jx_e base cA O h1 i = jx_e base cA O h i) (hat : va_at D jx_cl (base + h.1.length, jx_e base cA O h1 h.1.length) H1) (hoq : ∀ q : Nat, q < H.size → H1[q]? = H[q]?) : va_P D jx_cl (jx_ws base cA O h1) H1 := by
  intro k q hk
  obtain ⟨hkl, rfl⟩ := jx_ws_inv hk
  rw [hl, List.length_append, List.length_singleton] at hkl
  by_cases hko : k = h.1.length
  · subst hko; exact hat
  · have hk2 : k < h.1.length := by omega
    rw [hne k hk2]
    exact (hP k _ (jx_ws_get hk2)).kept (hoq _ (by simp only; omega))
theorem jx_e_congr {base : Nat} {cA : Nat → ClassId} {O : Nat → va_E} {h h1 : jx_H} {i : Nat} (hl : h1.1[i]? = h.1[i]?) (hA : h1.2.2.2 i = h.2.2.2 i) (hP : ∀ j, j < 64 → h1.2.1 (64 * i + j) = h.2.1 (64 * i + j)) (hG : ∀ j, j < 64 → h1.2.2.1 (64 * i + j) = h.2.2.1 (64 * i + j)) : jx_e base cA O h1 i = jx_e base cA O h i := by
  have hf : ∀ c, jx_f base h1 c i = jx_f base h c i := by
    intro c
    funext k
    unfold jx_f
    by_cases hk : k < 64
    · simp only [hk, if_true, hP k hk, hG k hk]
    · simp only [hk, if_false]
  have hq : (fun j => if j < 64 then jx_oq base (h1.2.1 (64 * i + j)) else none) = (fun j => if j < 64 then jx_oq base (h.2.1 (64 * i + j)) else none) := by
    funext j
    by_cases hk : j < 64
    · simp only [hk, if_true, hP j hk]
    · simp only [hk, if_false]
  unfold jx_e
  rw [hl, hA]
  simp only [hf, hq]
/-- the locals -/
def jx_L (base : Nat) (ls : List Value) (lsA : Array Slot) (nL : Nat) : Prop := ls.length = nL ∧ ∃ lv : List (Nat × Value), lv_has lsA nL lv ∧ ∀ (i : Nat) (v : Value), ls[i]? = some v → v ≠ .retAddr 0 → v.category = 1 ∧ (i, jx_V base v) ∈ lv
theorem jx_V_cat (base : Nat) (v : Value) : (jx_V base v).category = v.category := by cases v <;> rfl
theorem jx_L_get {base : Nat} {ls : List Value} {lsA : Array Slot} {nL i : Nat} {v : Value} (h : jx_L base ls lsA nL) (hi : ls[i]? = some v) (hv : v ≠ .retAddr 0) : lsA[i]? = some (.val (jx_V base v)) := by
  obtain ⟨-, lv, h1, h2⟩ := h
  exact h1.2.2 _ (h2 i v hi hv).2
theorem jx_L_set {base : Nat} {ls : List Value} {lsA' : Array Slot} {nL i : Nat} {v : Value} {lv : List (Nat × Value)} (hlen : ls.length = nL) (h2 : ∀ (i : Nat) (v : Value), ls[i]? = some v → v ≠ .retAddr 0 → v.category = 1 ∧ (i, jx_V base v) ∈ lv) (hi : i < nL) (hc : v.category = 1)
    (h' : lv_has lsA' nL ((i, jx_V base v) :: lv.filter (fun q => !(q.1 == i) && !(q.1 + 1 == i && q.2.category == 2)))) : jx_L base (ls.set i v) lsA' nL := by
  refine ⟨by rw [List.length_set]; exact hlen, _, h', fun j w hj hw => ?_⟩
  by_cases hji : j = i
  · subst hji
    rw [List.getElem?_set_self (by omega)] at hj
    cases hj
    exact ⟨hc, List.mem_cons_self⟩
  · rw [List.getElem?_set_ne (Ne.symm hji)] at hj
    obtain ⟨a, b⟩ := h2 j w hj hw
    refine ⟨a, List.mem_cons_of_mem _ (List.mem_filter.mpr ⟨b, ?_⟩)⟩
    have : (jx_V base w).category = 1 := by rw [jx_V_cat]; exact a
    simp [hji, this]
theorem jx_L_idx {base : Nat} {ls : List Value} {lsA : Array Slot} {nL i : Nat} {v : Value} (h : jx_L base ls lsA nL) (hi : ls[i]? = some v) : i < nL := by
  have := (List.getElem?_eq_some_iff.mp hi).1
  rw [h.1] at this
  exact this
/-- what stands at a method's walk and doesn't change -/
def jx_Cx (p : Program) (s : State) (m : MethodId) (args : Array Value) (meth : Method) (c : Code) (base : Nat) (D : va_G) (cA : Nat → ClassId) (cc : ByteArray) (nL own : Nat) : Prop :=
  p.tables.exec = Jvm.exec ∧ c.code = cc ∧ c.maxLocals = nL ∧ s.vm.findClass (jx_nm own) = some m.cls ∧ (∀ w ∈ lw_g, w.before args s = true) ∧ jx_KK D cA s ∧ base ≤ s.heap.size
/-- the walk goes on from here -/
def jx_Go (p : Program) (l : Launch) (e : Env) (R : Room) (s : State) (m : MethodId) (args : Array Value) (below : List Frame) (meth : Method) (c : Code) (base : Nat) (D : va_G) (cA : Nat → ClassId) (O : Nat → va_E) (nL : Nat) (Q : State → Prop) (cells slots pc : Nat) (ls st : List Value) (h : jx_H) : Prop :=
  ∀ (H : Heap) (locs : List Loc) (lsA : Array Slot), va_P D jx_cl (jx_ws base cA O h) H → H.size = base + h.1.length → va_S (fun q => base ≤ q) s.heap H locs → jx_L base ls lsA nL → W p l e R s m args below meth c H locs cells slots Q (F0 m pc lsA (st.map (jx_V base)))
end
section
/-! ===== one instruction of the small machine is one of the machine ===== -/
section JXO
variable {p : Program} {l : Launch} {e : Env} {R : Room} {s : State} {m : MethodId} {args : Array Value} {below : List Frame} {meth : Method} {c : Code} {base : Nat} {D : va_G} {cA : Nat → ClassId} {O : Nat → va_E} {cc : ByteArray} {nL own : Nat} {Q : State → Prop} {cells slots pc : Nat} {ls st : List Value} {h : jx_H}
theorem jx_iload_n (C : jx_Cx p s m args meth c base D cA cc nL own) {i : Nat} {v : Int32} (hi : i < 4) (hd : decode cc pc = .ok (.iload_n (Fin.ofNat 4 i), 1)) (hl : ls[i]? = some (.int v)) (kk : jx_Go p l e R s m args below meth c base D cA O nL Q cells slots (pc + 1) ls (.int v :: st) h) : jx_Go p l e R s m args below meth c base D cA O nL Q cells slots pc ls st h := fun H locs lsA hP hz hS hL =>
  lv_iload_n C.1 C.2.1 hd (by simp [Fin.ofNat, Nat.mod_eq_of_lt hi]) (jx_L_get hL hl (fun q => by cases q)) (kk H locs lsA hP hz hS hL)
theorem jx_iload (C : jx_Cx p s m args meth c base D cA cc nL own) {i : Nat} {v : Int32} (hd : decode cc pc = .ok (.iload i, 2)) (hl : ls[i]? = some (.int v)) (kk : jx_Go p l e R s m args below meth c base D cA O nL Q cells slots (pc + 2) ls (.int v :: st) h) : jx_Go p l e R s m args below meth c base D cA O nL Q cells slots pc ls st h := fun H locs lsA hP hz hS hL =>
  lv_iload C.1 C.2.1 hd (jx_L_get hL hl (fun q => by cases q)) (kk H locs lsA hP hz hS hL)
theorem jx_aload_n (C : jx_Cx p s m args meth c base D cA cc nL own) {i : Nat} {v : Nat} (hi : i < 4) (hd : decode cc pc = .ok (.aload_n (Fin.ofNat 4 i), 1)) (hl : ls[i]? = some (.ref v)) (kk : jx_Go p l e R s m args below meth c base D cA O nL Q cells slots (pc + 1) ls (.ref v :: st) h) : jx_Go p l e R s m args below meth c base D cA O nL Q cells slots pc ls st h := fun H locs lsA hP hz hS hL =>
  lv_aload_n C.1 C.2.1 hd (by simp [Fin.ofNat, Nat.mod_eq_of_lt hi]) (jx_L_get hL hl (fun q => by cases q)) (kk H locs lsA hP hz hS hL)
theorem jx_aload (C : jx_Cx p s m args meth c base D cA cc nL own) {i : Nat} {v : Nat} (hd : decode cc pc = .ok (.aload i, 2)) (hl : ls[i]? = some (.ref v)) (kk : jx_Go p l e R s m args below meth c base D cA O nL Q cells slots (pc + 2) ls (.ref v :: st) h) : jx_Go p l e R s m args below meth c base D cA O nL Q cells slots pc ls st h := fun H locs lsA hP hz hS hL =>
  lv_aload C.1 C.2.1 hd (jx_L_get hL hl (fun q => by cases q)) (kk H locs lsA hP hz hS hL)
theorem jx_istore_n (C : jx_Cx p s m args meth c base D cA cc nL own) {i : Nat} {v : Int32} (hi : i < 4) (hd : decode cc pc = .ok (.istore_n (Fin.ofNat 4 i), 1)) (hn : i < nL) (kk : jx_Go p l e R s m args below meth c base D cA O nL Q cells slots (pc + 1) (ls.set i (.int v)) st h) : jx_Go p l e R s m args below meth c base D cA O nL Q cells slots pc ls (.int v :: st) h := fun H locs lsA hP hz hS hL => by
  obtain ⟨hl1, lv, hl2, hl3⟩ := hL
  exact lv_istore_n C.1 C.2.1 hd (by simp [Fin.ofNat, Nat.mod_eq_of_lt hi]) hl2 hn rfl (fun ls' hl' => kk H locs ls' hP hz hS (jx_L_set (v := .int v) hl1 hl3 hn rfl hl'))
theorem jx_istore (C : jx_Cx p s m args meth c base D cA cc nL own) {i : Nat} {v : Int32} (hd : decode cc pc = .ok (.istore i, 2)) (hn : i < nL) (kk : jx_Go p l e R s m args below meth c base D cA O nL Q cells slots (pc + 2) (ls.set i (.int v)) st h) : jx_Go p l e R s m args below meth c base D cA O nL Q cells slots pc ls (.int v :: st) h := fun H locs lsA hP hz hS hL => by
  obtain ⟨hl1, lv, hl2, hl3⟩ := hL
  exact lv_istore C.1 C.2.1 hd hl2 hn rfl (fun ls' hl' => kk H locs ls' hP hz hS (jx_L_set (v := .int v) hl1 hl3 hn rfl hl'))
theorem jx_astore_n (C : jx_Cx p s m args meth c base D cA cc nL own) {i : Nat} {v : Nat} (hi : i < 4) (hd : decode cc pc = .ok (.astore_n (Fin.ofNat 4 i), 1)) (hn : i < nL) (kk : jx_Go p l e R s m args below meth c base D cA O nL Q cells slots (pc + 1) (ls.set i (.ref v)) st h) : jx_Go p l e R s m args below meth c base D cA O nL Q cells slots pc ls (.ref v :: st) h := fun H locs lsA hP hz hS hL => by
  obtain ⟨hl1, lv, hl2, hl3⟩ := hL
  exact lv_astore_n C.1 C.2.1 hd (by simp [Fin.ofNat, Nat.mod_eq_of_lt hi]) hl2 hn rfl (fun ls' hl' => kk H locs ls' hP hz hS (jx_L_set (v := .ref v) hl1 hl3 hn rfl hl'))
theorem jx_astore (C : jx_Cx p s m args meth c base D cA cc nL own) {i : Nat} {v : Nat} (hd : decode cc pc = .ok (.astore i, 2)) (hn : i < nL) (kk : jx_Go p l e R s m args below meth c base D cA O nL Q cells slots (pc + 2) (ls.set i (.ref v)) st h) : jx_Go p l e R s m args below meth c base D cA O nL Q cells slots pc ls (.ref v :: st) h := fun H locs lsA hP hz hS hL => by
  obtain ⟨hl1, lv, hl2, hl3⟩ := hL
  exact lv_astore C.1 C.2.1 hd hl2 hn rfl (fun ls' hl' => kk H locs ls' hP hz hS (jx_L_set (v := .ref v) hl1 hl3 hn rfl hl'))
theorem jx_iinc (C : jx_Cx p s m args meth c base D cA cc nL own) {i : Nat} {v x : Int32} (hd : decode cc pc = .ok (.iinc i x.toInt, 3)) (hl : ls[i]? = some (.int v)) (kk : jx_Go p l e R s m args below meth c base D cA O nL Q cells slots (pc + 3) (ls.set i (.int (v + x))) st h) : jx_Go p l e R s m args below meth c base D cA O nL Q cells slots pc ls st h := fun H locs lsA hP hz hS hL => by
  have hn := jx_L_idx hL hl
  obtain ⟨hl1, lv, hl2, hl3⟩ := hL
  obtain ⟨k, hk⟩ := List.getElem?_of_mem (hl3 i _ hl (fun q => by cases q)).2
  exact lv_iinc C.1 C.2.1 hd hl2 hk (by rw [Int32.ofInt_toInt]) hn rfl (fun ls' hl' => kk H locs ls' hP hz hS (jx_L_set (v := .int (v + x)) hl1 hl3 hn rfl hl'))
theorem jx_iconst (C : jx_Cx p s m args meth c base D cA cc nL own) {x : Int32} (hd : decode cc pc = .ok (.iconst x.toInt, 1)) (kk : jx_Go p l e R s m args below meth c base D cA O nL Q cells slots (pc + 1) ls (.int x :: st) h) : jx_Go p l e R s m args below meth c base D cA O nL Q cells slots pc ls st h := fun H locs lsA hP hz hS hL =>
  lv_iconst C.1 C.2.1 hd (by rw [Int32.ofInt_toInt]) (kk H locs lsA hP hz hS hL)
theorem jx_bipush (C : jx_Cx p s m args meth c base D cA cc nL own) {x : Int32} (hx : (Int8.ofInt x.toInt).toInt32 = x) (hd : decode cc pc = .ok (.bipush x.toInt, 2)) (kk : jx_Go p l e R s m args below meth c base D cA O nL Q cells slots (pc + 2) ls (.int x :: st) h) : jx_Go p l e R s m args below meth c base D cA O nL Q cells slots pc ls st h := fun H locs lsA hP hz hS hL =>
  lv_bipush C.1 C.2.1 hd hx (kk H locs lsA hP hz hS hL)
theorem jx_sipush (C : jx_Cx p s m args meth c base D cA cc nL own) {x : Int32} (hx : (Int16.ofInt x.toInt).toInt32 = x) (hd : decode cc pc = .ok (.sipush x.toInt, 3)) (kk : jx_Go p l e R s m args below meth c base D cA O nL Q cells slots (pc + 3) ls (.int x :: st) h) : jx_Go p l e R s m args below meth c base D cA O nL Q cells slots pc ls st h := fun H locs lsA hP hz hS hL =>
  lv_sipush C.1 C.2.1 hd hx (kk H locs lsA hP hz hS hL)
theorem jx_ldc (C : jx_Cx p s m args meth c base D cA cc nL own) {x : Int32} {d : Nat} (hw : Cond.constant (jx_nm own) d x ∈ lw_g) (hd : decode cc pc = .ok (.ldc d, 2)) (kk : jx_Go p l e R s m args below meth c base D cA O nL Q cells slots (pc + 2) ls (.int x :: st) h) : jx_Go p l e R s m args below meth c base D cA O nL Q cells slots pc ls st h := fun H locs lsA hP hz hS hL =>
  lv_ldc C.1 C.2.1 C.2.2.2.1 (C.2.2.2.2.1 _ hw) hd (kk H locs lsA hP hz hS hL)
theorem jx_ldc_w (C : jx_Cx p s m args meth c base D cA cc nL own) {x : Int32} {d : Nat} (hw : Cond.constant (jx_nm own) d x ∈ lw_g) (hd : decode cc pc = .ok (.ldc_w d, 3)) (kk : jx_Go p l e R s m args below meth c base D cA O nL Q cells slots (pc + 3) ls (.int x :: st) h) : jx_Go p l e R s m args below meth c base D cA O nL Q cells slots pc ls st h := fun H locs lsA hP hz hS hL =>
  lv_ldcw C.1 C.2.1 C.2.2.2.1 (C.2.2.2.2.1 _ hw) hd (kk H locs lsA hP hz hS hL)
theorem jx_iadd (C : jx_Cx p s m args meth c base D cA cc nL own) {y z : Int32} (hd : decode cc pc = .ok (.iadd, 1)) (kk : jx_Go p l e R s m args below meth c base D cA O nL Q cells slots (pc + 1) ls (.int (z + y) :: st) h) : jx_Go p l e R s m args below meth c base D cA O nL Q cells slots pc ls (.int y :: .int z :: st) h := fun H locs lsA hP hz hS hL =>
  lv_iadd C.1 C.2.1 hd (kk H locs lsA hP hz hS hL)
theorem jx_isub (C : jx_Cx p s m args meth c base D cA cc nL own) {y z : Int32} (hd : decode cc pc = .ok (.isub, 1)) (kk : jx_Go p l e R s m args below meth c base D cA O nL Q cells slots (pc + 1) ls (.int (z - y) :: st) h) : jx_Go p l e R s m args below meth c base D cA O nL Q cells slots pc ls (.int y :: .int z :: st) h := fun H locs lsA hP hz hS hL =>
  lv_isub C.1 C.2.1 hd (kk H locs lsA hP hz hS hL)
theorem jx_imul (C : jx_Cx p s m args meth c base D cA cc nL own) {y z : Int32} (hd : decode cc pc = .ok (.imul, 1)) (kk : jx_Go p l e R s m args below meth c base D cA O nL Q cells slots (pc + 1) ls (.int (z * y) :: st) h) : jx_Go p l e R s m args below meth c base D cA O nL Q cells slots pc ls (.int y :: .int z :: st) h := fun H locs lsA hP hz hS hL =>
  lv_imul C.1 C.2.1 hd (kk H locs lsA hP hz hS hL)
theorem jx_iand (C : jx_Cx p s m args meth c base D cA cc nL own) {y z : Int32} (hd : decode cc pc = .ok (.iand, 1)) (kk : jx_Go p l e R s m args below meth c base D cA O nL Q cells slots (pc + 1) ls (.int (z &&& y) :: st) h) : jx_Go p l e R s m args below meth c base D cA O nL Q cells slots pc ls (.int y :: .int z :: st) h := fun H locs lsA hP hz hS hL =>
  lv_iand C.1 C.2.1 hd (kk H locs lsA hP hz hS hL)
theorem jx_ior (C : jx_Cx p s m args meth c base D cA cc nL own) {y z : Int32} (hd : decode cc pc = .ok (.ior, 1)) (kk : jx_Go p l e R s m args below meth c base D cA O nL Q cells slots (pc + 1) ls (.int (z ||| y) :: st) h) : jx_Go p l e R s m args below meth c base D cA O nL Q cells slots pc ls (.int y :: .int z :: st) h := fun H locs lsA hP hz hS hL =>
  lv_ior C.1 C.2.1 hd (kk H locs lsA hP hz hS hL)
theorem jx_ixor (C : jx_Cx p s m args meth c base D cA cc nL own) {y z : Int32} (hd : decode cc pc = .ok (.ixor, 1)) (kk : jx_Go p l e R s m args below meth c base D cA O nL Q cells slots (pc + 1) ls (.int (z ^^^ y) :: st) h) : jx_Go p l e R s m args below meth c base D cA O nL Q cells slots pc ls (.int y :: .int z :: st) h := fun H locs lsA hP hz hS hL =>
  lv_ixor C.1 C.2.1 hd (kk H locs lsA hP hz hS hL)
theorem jx_ishl (C : jx_Cx p s m args meth c base D cA cc nL own) {y z : Int32} (hd : decode cc pc = .ok (.ishl, 1)) (kk : jx_Go p l e R s m args below meth c base D cA O nL Q cells slots (pc + 1) ls (.int (z <<< (y &&& 31)) :: st) h) : jx_Go p l e R s m args below meth c base D cA O nL Q cells slots pc ls (.int y :: .int z :: st) h := fun H locs lsA hP hz hS hL =>
  lv_ishl C.1 C.2.1 hd (kk H locs lsA hP hz hS hL)
theorem jx_ishr (C : jx_Cx p s m args meth c base D cA cc nL own) {y z : Int32} (hd : decode cc pc = .ok (.ishr, 1)) (kk : jx_Go p l e R s m args below meth c base D cA O nL Q cells slots (pc + 1) ls (.int (z >>> (y &&& 31)) :: st) h) : jx_Go p l e R s m args below meth c base D cA O nL Q cells slots pc ls (.int y :: .int z :: st) h := fun H locs lsA hP hz hS hL =>
  lv_ishr C.1 C.2.1 hd (kk H locs lsA hP hz hS hL)
theorem jx_iushr (C : jx_Cx p s m args meth c base D cA cc nL own) {y z : Int32} (hd : decode cc pc = .ok (.iushr, 1)) (kk : jx_Go p l e R s m args below meth c base D cA O nL Q cells slots (pc + 1) ls (.int (z.toUInt32 >>> (y.toUInt32 &&& Int32.toUInt32 31)).toInt32 :: st) h) : jx_Go p l e R s m args below meth c base D cA O nL Q cells slots pc ls (.int y :: .int z :: st) h := fun H locs lsA hP hz hS hL =>
  lv_iushr C.1 C.2.1 hd rfl (kk H locs lsA hP hz hS hL)
theorem jx_idiv (C : jx_Cx p s m args meth c base D cA cc nL own) {y z : Int32} (hy : ¬ y = 0) (hd : decode cc pc = .ok (.idiv, 1)) (kk : jx_Go p l e R s m args below meth c base D cA O nL Q cells slots (pc + 1) ls (.int (z / y) :: st) h) : jx_Go p l e R s m args below meth c base D cA O nL Q cells slots pc ls (.int y :: .int z :: st) h := fun H locs lsA hP hz hS hL =>
  lv_idiv C.1 C.2.1 hd hy (kk H locs lsA hP hz hS hL)
theorem jx_irem (C : jx_Cx p s m args meth c base D cA cc nL own) {y z : Int32} (hy : ¬ y = 0) (hd : decode cc pc = .ok (.irem, 1)) (kk : jx_Go p l e R s m args below meth c base D cA O nL Q cells slots (pc + 1) ls (.int (z - z / y * y) :: st) h) : jx_Go p l e R s m args below meth c base D cA O nL Q cells slots pc ls (.int y :: .int z :: st) h := fun H locs lsA hP hz hS hL =>
  lv_irem C.1 C.2.1 hd hy (kk H locs lsA hP hz hS hL)
theorem jx_ineg (C : jx_Cx p s m args meth c base D cA cc nL own) {y : Int32} (hd : decode cc pc = .ok (.ineg, 1)) (kk : jx_Go p l e R s m args below meth c base D cA O nL Q cells slots (pc + 1) ls (.int (-y) :: st) h) : jx_Go p l e R s m args below meth c base D cA O nL Q cells slots pc ls (.int y :: st) h := fun H locs lsA hP hz hS hL =>
  lv_ineg C.1 C.2.1 hd (kk H locs lsA hP hz hS hL)
theorem jx_i2b (C : jx_Cx p s m args meth c base D cA cc nL own) {y : Int32} (hd : decode cc pc = .ok (.i2b, 1)) (kk : jx_Go p l e R s m args below meth c base D cA O nL Q cells slots (pc + 1) ls (.int y.toInt8.toInt32 :: st) h) : jx_Go p l e R s m args below meth c base D cA O nL Q cells slots pc ls (.int y :: st) h := fun H locs lsA hP hz hS hL =>
  lv_i2b C.1 C.2.1 hd rfl (kk H locs lsA hP hz hS hL)
theorem jx_i2s (C : jx_Cx p s m args meth c base D cA cc nL own) {y : Int32} (hd : decode cc pc = .ok (.i2s, 1)) (kk : jx_Go p l e R s m args below meth c base D cA O nL Q cells slots (pc + 1) ls (.int y.toInt16.toInt32 :: st) h) : jx_Go p l e R s m args below meth c base D cA O nL Q cells slots pc ls (.int y :: st) h := fun H locs lsA hP hz hS hL =>
  lv_i2s C.1 C.2.1 hd rfl (kk H locs lsA hP hz hS hL)
theorem jx_dup (C : jx_Cx p s m args meth c base D cA cc nL own) {v : Value} (hv : v.category = 1) (hd : decode cc pc = .ok (.dup, 1)) (kk : jx_Go p l e R s m args below meth c base D cA O nL Q cells slots (pc + 1) ls (v :: v :: st) h) : jx_Go p l e R s m args below meth c base D cA O nL Q cells slots pc ls (v :: st) h := fun H locs lsA hP hz hS hL =>
  lv_dup C.1 C.2.1 hd (by rw [jx_V_cat]; exact hv) (kk H locs lsA hP hz hS hL)
theorem jx_dup2 (C : jx_Cx p s m args meth c base D cA cc nL own) {v w : Value} (hv : v.category = 1) (hw : w.category = 1) (hd : decode cc pc = .ok (.dup2, 1)) (kk : jx_Go p l e R s m args below meth c base D cA O nL Q cells slots (pc + 1) ls (v :: w :: v :: w :: st) h) : jx_Go p l e R s m args below meth c base D cA O nL Q cells slots pc ls (v :: w :: st) h := fun H locs lsA hP hz hS hL =>
  lv_dup2_11 C.1 C.2.1 hd (by rw [jx_V_cat]; exact hv) (by rw [jx_V_cat]; exact hw) (kk H locs lsA hP hz hS hL)
theorem jx_dup_x1 (C : jx_Cx p s m args meth c base D cA cc nL own) {v w : Value} (hv : v.category = 1) (hw : w.category = 1) (hd : decode cc pc = .ok (.dup_x1, 1)) (kk : jx_Go p l e R s m args below meth c base D cA O nL Q cells slots (pc + 1) ls (v :: w :: v :: st) h) : jx_Go p l e R s m args below meth c base D cA O nL Q cells slots pc ls (v :: w :: st) h := fun H locs lsA hP hz hS hL =>
  lv_dup_x1 C.1 C.2.1 hd (by rw [jx_V_cat]; exact hv) (by rw [jx_V_cat]; exact hw) (kk H locs lsA hP hz hS hL)
theorem jx_pop (C : jx_Cx p s m args meth c base D cA cc nL own) {v : Value} (hv : v.category = 1) (hd : decode cc pc = .ok (.pop, 1)) (kk : jx_Go p l e R s m args below meth c base D cA O nL Q cells slots (pc + 1) ls st h) : jx_Go p l e R s m args below meth c base D cA O nL Q cells slots pc ls (v :: st) h := fun H locs lsA hP hz hS hL =>
  lv_pop C.1 C.2.1 hd (by rw [jx_V_cat]; exact hv) (kk H locs lsA hP hz hS hL)
theorem jx_goto (C : jx_Cx p s m args meth c base D cA cc nL own) {a : Nat} (hd : decode cc pc = .ok (.goto ((a : Int) - pc), 3)) (kk : jx_Go p l e R s m args below meth c base D cA O nL Q cells slots a ls st h) : jx_Go p l e R s m args below meth c base D cA O nL Q cells slots pc ls st h := fun H locs lsA hP hz hS hL =>
  lv_goto C.1 C.2.1 hd (by omega) (kk H locs lsA hP hz hS hL)
theorem jx_if_eq (C : jx_Cx p s m args meth c base D cA cc nL own) {a : Nat} {z : Int32} (hd : decode cc pc = .ok (.ifCond .eq ((a : Int) - pc), 3)) (kt : z = 0 → jx_Go p l e R s m args below meth c base D cA O nL Q cells slots a ls st h) (kf : ¬ (z = 0) → jx_Go p l e R s m args below meth c base D cA O nL Q cells slots (pc + 3) ls st h) : jx_Go p l e R s m args below meth c base D cA O nL Q cells slots pc ls (.int z :: st) h := fun H locs lsA hP hz hS hL =>
  lv_if_eq C.1 C.2.1 hd (by omega) (fun q => kt q H locs lsA hP hz hS hL) (fun q => kf q H locs lsA hP hz hS hL)
theorem jx_icmp_eq (C : jx_Cx p s m args meth c base D cA cc nL own) {a : Nat} {y z : Int32} (hd : decode cc pc = .ok (.if_icmp .eq ((a : Int) - pc), 3)) (kt : z = y → jx_Go p l e R s m args below meth c base D cA O nL Q cells slots a ls st h) (kf : ¬ (z = y) → jx_Go p l e R s m args below meth c base D cA O nL Q cells slots (pc + 3) ls st h) : jx_Go p l e R s m args below meth c base D cA O nL Q cells slots pc ls (.int y :: .int z :: st) h := fun H locs lsA hP hz hS hL =>
  lv_icmp_eq C.1 C.2.1 hd (by omega) (fun q => kt q H locs lsA hP hz hS hL) (fun q => kf q H locs lsA hP hz hS hL)
theorem jx_if_ne (C : jx_Cx p s m args meth c base D cA cc nL own) {a : Nat} {z : Int32} (hd : decode cc pc = .ok (.ifCond .ne ((a : Int) - pc), 3)) (kt : ¬ z = 0 → jx_Go p l e R s m args below meth c base D cA O nL Q cells slots a ls st h) (kf : ¬ (¬ z = 0) → jx_Go p l e R s m args below meth c base D cA O nL Q cells slots (pc + 3) ls st h) : jx_Go p l e R s m args below meth c base D cA O nL Q cells slots pc ls (.int z :: st) h := fun H locs lsA hP hz hS hL =>
  lv_if_ne C.1 C.2.1 hd (by omega) (fun q => kt q H locs lsA hP hz hS hL) (fun q => kf (fun r => r q) H locs lsA hP hz hS hL)
theorem jx_icmp_ne (C : jx_Cx p s m args meth c base D cA cc nL own) {a : Nat} {y z : Int32} (hd : decode cc pc = .ok (.if_icmp .ne ((a : Int) - pc), 3)) (kt : ¬ z = y → jx_Go p l e R s m args below meth c base D cA O nL Q cells slots a ls st h) (kf : ¬ (¬ z = y) → jx_Go p l e R s m args below meth c base D cA O nL Q cells slots (pc + 3) ls st h) : jx_Go p l e R s m args below meth c base D cA O nL Q cells slots pc ls (.int y :: .int z :: st) h := fun H locs lsA hP hz hS hL =>
  lv_icmp_ne C.1 C.2.1 hd (by omega) (fun q => kt q H locs lsA hP hz hS hL) (fun q => kf (fun r => r q) H locs lsA hP hz hS hL)
theorem jx_if_lt (C : jx_Cx p s m args meth c base D cA cc nL own) {a : Nat} {z : Int32} (hd : decode cc pc = .ok (.ifCond .lt ((a : Int) - pc), 3)) (kt : z < 0 → jx_Go p l e R s m args below meth c base D cA O nL Q cells slots a ls st h) (kf : ¬ (z < 0) → jx_Go p l e R s m args below meth c base D cA O nL Q cells slots (pc + 3) ls st h) : jx_Go p l e R s m args below meth c base D cA O nL Q cells slots pc ls (.int z :: st) h := fun H locs lsA hP hz hS hL =>
  lv_if_lt C.1 C.2.1 hd (by omega) (fun q => kt q H locs lsA hP hz hS hL) (fun q => kf q H locs lsA hP hz hS hL)
theorem jx_icmp_lt (C : jx_Cx p s m args meth c base D cA cc nL own) {a : Nat} {y z : Int32} (hd : decode cc pc = .ok (.if_icmp .lt ((a : Int) - pc), 3)) (kt : z < y → jx_Go p l e R s m args below meth c base D cA O nL Q cells slots a ls st h) (kf : ¬ (z < y) → jx_Go p l e R s m args below meth c base D cA O nL Q cells slots (pc + 3) ls st h) : jx_Go p l e R s m args below meth c base D cA O nL Q cells slots pc ls (.int y :: .int z :: st) h := fun H locs lsA hP hz hS hL =>
  lv_icmp_lt C.1 C.2.1 hd (by omega) (fun q => kt q H locs lsA hP hz hS hL) (fun q => kf q H locs lsA hP hz hS hL)
theorem jx_if_ge (C : jx_Cx p s m args meth c base D cA cc nL own) {a : Nat} {z : Int32} (hd : decode cc pc = .ok (.ifCond .ge ((a : Int) - pc), 3)) (kt : 0 ≤ z → jx_Go p l e R s m args below meth c base D cA O nL Q cells slots a ls st h) (kf : ¬ (0 ≤ z) → jx_Go p l e R s m args below meth c base D cA O nL Q cells slots (pc + 3) ls st h) : jx_Go p l e R s m args below meth c base D cA O nL Q cells slots pc ls (.int z :: st) h := fun H locs lsA hP hz hS hL =>
  lv_if_ge C.1 C.2.1 hd (by omega) (fun q => kt q H locs lsA hP hz hS hL) (fun q => kf q H locs lsA hP hz hS hL)
theorem jx_icmp_ge (C : jx_Cx p s m args meth c base D cA cc nL own) {a : Nat} {y z : Int32} (hd : decode cc pc = .ok (.if_icmp .ge ((a : Int) - pc), 3)) (kt : y ≤ z → jx_Go p l e R s m args below meth c base D cA O nL Q cells slots a ls st h) (kf : ¬ (y ≤ z) → jx_Go p l e R s m args below meth c base D cA O nL Q cells slots (pc + 3) ls st h) : jx_Go p l e R s m args below meth c base D cA O nL Q cells slots pc ls (.int y :: .int z :: st) h := fun H locs lsA hP hz hS hL =>
  lv_icmp_ge C.1 C.2.1 hd (by omega) (fun q => kt q H locs lsA hP hz hS hL) (fun q => kf q H locs lsA hP hz hS hL)
theorem jx_if_gt (C : jx_Cx p s m args meth c base D cA cc nL own) {a : Nat} {z : Int32} (hd : decode cc pc = .ok (.ifCond .gt ((a : Int) - pc), 3)) (kt : 0 < z → jx_Go p l e R s m args below meth c base D cA O nL Q cells slots a ls st h) (kf : ¬ (0 < z) → jx_Go p l e R s m args below meth c base D cA O nL Q cells slots (pc + 3) ls st h) : jx_Go p l e R s m args below meth c base D cA O nL Q cells slots pc ls (.int z :: st) h := fun H locs lsA hP hz hS hL =>
  lv_if_gt C.1 C.2.1 hd (by omega) (fun q => kt q H locs lsA hP hz hS hL) (fun q => kf q H locs lsA hP hz hS hL)
theorem jx_icmp_gt (C : jx_Cx p s m args meth c base D cA cc nL own) {a : Nat} {y z : Int32} (hd : decode cc pc = .ok (.if_icmp .gt ((a : Int) - pc), 3)) (kt : y < z → jx_Go p l e R s m args below meth c base D cA O nL Q cells slots a ls st h) (kf : ¬ (y < z) → jx_Go p l e R s m args below meth c base D cA O nL Q cells slots (pc + 3) ls st h) : jx_Go p l e R s m args below meth c base D cA O nL Q cells slots pc ls (.int y :: .int z :: st) h := fun H locs lsA hP hz hS hL =>
  lv_icmp_gt C.1 C.2.1 hd (by omega) (fun q => kt q H locs lsA hP hz hS hL) (fun q => kf q H locs lsA hP hz hS hL)
theorem jx_if_le (C : jx_Cx p s m args meth c base D cA cc nL own) {a : Nat} {z : Int32} (hd : decode cc pc = .ok (.ifCond .le ((a : Int) - pc), 3)) (kt : z ≤ 0 → jx_Go p l e R s m args below meth c base D cA O nL Q cells slots a ls st h) (kf : ¬ (z ≤ 0) → jx_Go p l e R s m args below meth c base D cA O nL Q cells slots (pc + 3) ls st h) : jx_Go p l e R s m args below meth c base D cA O nL Q cells slots pc ls (.int z :: st) h := fun H locs lsA hP hz hS hL =>
  lv_if_le C.1 C.2.1 hd (by omega) (fun q => kt q H locs lsA hP hz hS hL) (fun q => kf q H locs lsA hP hz hS hL)
theorem jx_icmp_le (C : jx_Cx p s m args meth c base D cA cc nL own) {a : Nat} {y z : Int32} (hd : decode cc pc = .ok (.if_icmp .le ((a : Int) - pc), 3)) (kt : z ≤ y → jx_Go p l e R s m args below meth c base D cA O nL Q cells slots a ls st h) (kf : ¬ (z ≤ y) → jx_Go p l e R s m args below meth c base D cA O nL Q cells slots (pc + 3) ls st h) : jx_Go p l e R s m args below meth c base D cA O nL Q cells slots pc ls (.int y :: .int z :: st) h := fun H locs lsA hP hz hS hL =>
  lv_icmp_le C.1 C.2.1 hd (by omega) (fun q => kt q H locs lsA hP hz hS hL) (fun q => kf q H locs lsA hP hz hS hL)
theorem jx_cls {c : Nat} (hc : c < 12) : ∃ T, jx_cl[c]? = some (jx_nm c, T, jx_N c) := by
  have hq : jx_cl[c]? = some (jx_cl[c]'(by simpa [jx_cl] using hc)) := List.getElem?_eq_getElem _
  have hk := jx_cl_ok c _ hq
  refine ⟨(jx_cl[c]'(by simpa [jx_cl] using hc)).2.1, ?_⟩
  rw [hq]
  have h2 : jx_N c = (jx_cl[c]'(by simpa [jx_cl] using hc)).2.2 := by
    unfold jx_N
    rw [List.getD_eq_getElem?_getD, hq]
    rfl
  rw [h2, ← hk.1]
theorem jx_obj_at {a o : Nat} (ho : h.1[o]? = some (10 + a, jx_N a)) : (jx_ws base cA O h)[o]? = some (base + o, .inr (a, (List.range (jx_N a)).map (jx_f base h a o))) := by
  rw [jx_ws_get (jx_lt ho), jx_e_obj ho]
theorem jx_get (C : jx_Cx p s m args meth c base D cA cc nL own) {a b d o : Nat} (ha : a < 12) (hb : b < jx_N a) (ho : h.1[o]? = some (10 + a, jx_N a)) (hw : Cond.fieldLink (jx_nm own) d (jx_nm a) ((jx_cl.getD a ("", jx_T0, 0)).2.1 b).2.1 ((jx_cl.getD a ("", jx_T0, 0)).2.1 b).2.2.1 ∈ lw_g) (hd : decode cc pc = .ok (.getfield d, 3))
    {v : Value} (hv : jx_f base h a o b = jx_V base v) (kk : jx_Go p l e R s m args below meth c base D cA O nL Q cells slots (pc + 3) ls (v :: st) h) : jx_Go p l e R s m args below meth c base D cA O nL Q cells slots pc ls (.ref o :: st) h := fun H locs lsA hP hz hS hL => by
  obtain ⟨T, hT⟩ := jx_cls ha
  have hok := jx_cl_ok a _ hT
  have hD : (jx_cl.getD a ("", jx_T0, 0)).2.1 = T := by rw [List.getD_eq_getElem?_getD, hT]; rfl
  rw [hD] at hw
  refine va_get C.1 C.2.1 C.2.2.2.2.1 hok.2.2.1 C.2.2.2.1 C.2.2.2.2.2.1.1 hP o (jx_obj_at ho) hT b hb (C.2.2.2.2.1 _ hw) (fun x hx => by rw [hok.2.2.2.2.2 b hb] at hx; exact hx) (v := jx_V base v) ?_ hd (kk H locs lsA hP hz hS hL)
  rw [List.getElem?_map, List.getElem?_range hb]
  exact congrArg some hv
end JXO
end
section
/-! ===== stores, rows, new cells ===== -/
section JXP
variable {p : Program} {l : Launch} {e : Env} {R : Room} {s : State} {m : MethodId} {args : Array Value} {below : List Frame} {meth : Method} {c : Code} {base : Nat} {D : va_G} {cA : Nat → ClassId} {O : Nat → va_E} {cc : ByteArray} {nL own : Nat} {Q : State → Prop} {cells slots pc : Nat} {ls st : List Value} {h : jx_H}
theorem jx_range_set {n k : Nat} (f g : Nat → Value) (hk : k < n) (hfg : ∀ j, j ≠ k → g j = f j) : (List.range n).map g = ((List.range n).map f).set k (g k) := by
  refine List.ext_getElem? fun i => ?_
  by_cases hik : i = k
  · subst hik
    rw [List.getElem?_set_self (by simpa using hk), List.getElem?_map, List.getElem?_range hk]
    rfl
  · rw [List.getElem?_set_ne (Ne.symm hik), List.getElem?_map, List.getElem?_map]
    by_cases hin : i < n
    · rw [List.getElem?_range hin]
      simp [hfg i hik]
    · rw [List.getElem?_eq_none (by simpa using hin)]
      rfl
theorem jx_put (C : jx_Cx p s m args meth c base D cA cc nL own) {a b d o : Nat} (ha : a < 12) (hb : b < jx_N a) (ho : h.1[o]? = some (10 + a, jx_N a)) (hw : Cond.fieldLink (jx_nm own) d (jx_nm a) ((jx_cl.getD a ("", jx_T0, 0)).2.1 b).2.1 ((jx_cl.getD a ("", jx_T0, 0)).2.1 b).2.2.1 ∈ lw_g) (hd : decode cc pc = .ok (.putfield d, 3))
    (hfin : ((jx_cl.getD a ("", jx_T0, 0)).2.1 b).2.2.2 = false ∨ (((jx_cl.getD a ("", jx_T0, 0)).2.1 b).2.2.2 = true ∧ meth.name = "<init>" ∧ own = a))
    {v : Value} {h1 : jx_H} (hn : narrow (jx_ty a b) (jx_V base v) = jx_V base v) (hfit : fits (jx_ty a b) (jx_V base v) = true) (hl1 : h1.1 = h.1) (hA1 : h1.2.2.2 = h.2.2.2) (hne : ∀ q, q ≠ 64 * o + b → h1.2.1 q = h.2.1 q ∧ h1.2.2.1 q = h.2.2.1 q) (hv : jx_f base h1 a o b = jx_V base v)
    (kk : jx_Go p l e R s m args below meth c base D cA O nL Q cells slots (pc + 3) ls st h1) : jx_Go p l e R s m args below meth c base D cA O nL Q cells slots pc ls (v :: .ref o :: st) h := fun H locs lsA hP hz hS hL => by
  obtain ⟨T, hT⟩ := jx_cls ha
  have hok := jx_cl_ok a _ hT
  have hD : (jx_cl.getD a ("", jx_T0, 0)).2.1 = T := by rw [List.getD_eq_getElem?_getD, hT]; rfl
  rw [hD] at hw hfin
  have hN : jx_N a ≤ 64 := hok.2.1
  have hb64 : b < 64 := by omega
  obtain ⟨r, e1, cell, q1, q2, q3, q4⟩ := hP o _ (jx_obj_at ho)
  have hr : r = (jx_nm a, T, jx_N a) := Option.some.inj (e1.symm.trans hT)
  subst hr
  have hKs := C.2.2.2.2.2.1.1
  obtain ⟨hSl, hfc, kC, hkC, hkind⟩ := hKs.1 a _ hT
  obtain ⟨cf, kf, fi, f, hi, hsl⟩ := hSl b hb
  have hap := va_apart (own := jx_nm own) C.2.2.2.2.1 hok.2.2.1 (jx_ty a) hok.2.2.2.2.1 hok.2.2.2.1 hKs hT
  have hlays := u_lays (args := args) C.2.2.2.2.1 hok.2.2.1 hb
  have hst := (u_facts hfc hkC hlays hi).1
  have hi2 : s.fieldFound? (jx_nm a) (T b).2.1 (T b).2.2.1 = some (cf, kf, fi, f) := by
    have := hok.2.2.2.2.2 b hb
    simp only at this
    rw [this] at hi
    exact hi
  have fin : ∀ H' : Heap, H'[base + o]? = some (cell.setSlot f.slot (jx_V base v)) → H'.size = H.size → (∀ q, q ≠ base + o → H'[q]? = H[q]?) → W p l e R s m args below meth c H' (locs ++ [⟨base + o, f.slot⟩]) cells slots Q (F0 m (pc + 3) lsA (st.map (jx_V base))) := by
    intro H' g1 g2 g3
    refine kk H' _ lsA ?_ (by rw [g2, hz, hl1]) ?_ hL
    · refine jx_P_set hP hl1 (jx_lt ho) (fun i hio => ?_) ?_ g3
      · refine jx_e_congr (by rw [hl1]) (by rw [hA1]) (fun j hj => (hne _ (by omega)).1) (fun j hj => (hne _ (by omega)).2)
      · rw [jx_e_obj (by rw [hl1]; exact ho)]
        refine ⟨_, hT, ?_⟩
        rw [jx_range_set (jx_f base h a o) (jx_f base h1 a o) hb (fun j hj => ?_), hv]
        · rw [hsl] at g1
          exact t_OB.to (V := updV (vp_V ((List.range (jx_N a)).map (jx_f base h a o))) b (jx_V base v)) ⟨_, g1, q2, q3, t_set q4 hap hb (jx_V base v)⟩ (fun j _ => vp_updV_set (by simpa using hb) (jx_V base v) j)
        · unfold jx_f
          by_cases hj64 : j < 64
          · have := hne (64 * o + j) (by omega)
            simp only [hj64, if_true, this.1, this.2]
          · simp only [hj64, if_false]
    · exact hS.put g2 g3 (Nat.le_add_right _ _)
  rcases hfin with hf | ⟨hf, hm, ho2⟩
  · have hlay := C.2.2.2.2.1 _ (hok.2.2.1 _ (u_in_lay hb))
    unfold u_lay at hlay
    rw [if_neg (by rw [hf]; decide)] at hlay
    have h6 := u_store hfc hkC hkind hlay hi (hok.2.2.2.2.1 b hb) hn hfit
    exact W.putK C.1 C.2.1 (f := f) ⟨C.2.2.2.1, C.2.2.2.2.1 _ hw, ⟨_, _, _, hi2⟩, hst⟩ (by rw [q2]; exact h6) q1 q3 (by rw [hsl]; exact k2_hasslot (q4 b hb)) rfl rfl hd fin
  · subst ho2
    have hlay := C.2.2.2.2.1 _ (hok.2.2.1 _ (u_in_lay hb))
    unfold u_lay at hlay
    rw [if_pos hf] at hlay
    have hcf : m.cls = cf := by
      obtain ⟨_, _, c', _, _, _, -, -, hf', -, -, -, hown2, -⟩ := Cond.laysFinal_spec hlay
      have e1 : c' = cf := by have := hi.symm.trans hf'; simp at this; exact this.1.symm
      have e2 := hok.2.2.2.2.2 b hb
      simp only at e2
      rw [e2] at hown2
      rw [← e1]; exact Option.some.inj (C.2.2.2.1.symm.trans hown2)
    have h6 := u_fits hfc hkC hkind (Or.inr hlay) hi (hok.2.2.2.2.1 b hb) hn hfit
    exact W.putFinK C.1 C.2.1 C.2.2.2.1 (C.2.2.2.2.1 _ hw) hi2 hst hcf hm (by rw [q2]; exact h6) q1 q3 (by rw [hsl]; exact k2_hasslot (q4 b hb)) rfl rfl hd fin
theorem jx_iaload (C : jx_Cx p s m args meth c base D cA cc nL own) {n o : Nat} {i : Int32} (ho : h.1[o]? = some (0, n)) (hin : jx_in i n) (hd : decode cc pc = .ok (.iaload, 1)) (kk : jx_Go p l e R s m args below meth c base D cA O nL Q cells slots (pc + 1) ls (.int (h.2.2.2 o i.toNatClampNeg) :: st) h) : jx_Go p l e R s m args below meth c base D cA O nL Q cells slots pc ls (.int i :: .ref o :: st) h := fun H locs lsA hP hz hS hL =>
  va_iald C.1 C.2.1 C.2.2.2.2.2.1.1 hP o 0 (by rw [jx_ws_get (jx_lt ho), jx_e_arr ho (by decide)]) rfl hin hd (kk H locs lsA hP hz hS hL)
theorem jx_baload (C : jx_Cx p s m args meth c base D cA cc nL own) {n o : Nat} {i : Int32} (ho : h.1[o]? = some (1, n)) (hin : jx_in i n) (hd : decode cc pc = .ok (.baload, 1)) (kk : jx_Go p l e R s m args below meth c base D cA O nL Q cells slots (pc + 1) ls (.int (h.2.2.2 o i.toNatClampNeg) :: st) h) : jx_Go p l e R s m args below meth c base D cA O nL Q cells slots pc ls (.int i :: .ref o :: st) h := fun H locs lsA hP hz hS hL =>
  va_bald C.1 C.2.1 C.2.2.2.2.2.1.1 hP o 1 (by rw [jx_ws_get (jx_lt ho), jx_e_arr ho (by decide)]) rfl hin hd (kk H locs lsA hP hz hS hL)
theorem jx_zaload (C : jx_Cx p s m args meth c base D cA cc nL own) {n o : Nat} {i : Int32} (ho : h.1[o]? = some (2, n)) (hin : jx_in i n) (hd : decode cc pc = .ok (.baload, 1)) (kk : jx_Go p l e R s m args below meth c base D cA O nL Q cells slots (pc + 1) ls (.int (h.2.2.2 o i.toNatClampNeg) :: st) h) : jx_Go p l e R s m args below meth c base D cA O nL Q cells slots pc ls (.int i :: .ref o :: st) h := fun H locs lsA hP hz hS hL =>
  va_zald C.1 C.2.1 C.2.2.2.2.2.1.1 hP o 2 (by rw [jx_ws_get (jx_lt ho), jx_e_arr ho (by decide)]) rfl hin hd (kk H locs lsA hP hz hS hL)
theorem jx_iastore (C : jx_Cx p s m args meth c base D cA cc nL own) {n o : Nat} {i v : Int32} (ho : h.1[o]? = some (0, n)) (hin : jx_in i n) (hd : decode cc pc = .ok (.iastore, 1)) (kk : jx_Go p l e R s m args below meth c base D cA O nL Q cells slots (pc + 1) ls st (h.1, h.2.1, h.2.2.1, jx_up2 h.2.2.2 o i.toNatClampNeg v)) : jx_Go p l e R s m args below meth c base D cA O nL Q cells slots pc ls (.int v :: .int i :: .ref o :: st) h := fun H locs lsA hP hz hS hL => by
  have ha : (jx_ws base cA O h)[o]? = some (base + o, .inl (cA 0, n, .inl (h.2.2.2 o))) := by rw [jx_ws_get (jx_lt ho), jx_e_arr ho (by decide)]
  refine W.iast C.1 C.2.1 (hP o _ ha) ((C.2.2.2.2.2.1.1.2 0 _ rfl).1 n (fun j => .int (h.2.2.2 o j))) (fun q => by cases q) (by show ¬ (i < 0 ∨ (arrV _ _ _).slots.size ≤ _); rw [arrV_size]; exact hin) rfl rfl hd fun H1 e1 z1 oq => ?_
  refine kk H1 _ lsA ?_ (by rw [z1, hz]) (hS.put z1 oq (Nat.le_add_right _ _)) hL
  refine jx_P_set hP rfl (jx_lt ho) (fun j hj => jx_e_congr rfl ?_ (fun _ _ => rfl) (fun _ _ => rfl)) ?_ oq
  · funext q
    simp [jx_up2, hj]
  · rw [jx_e_arr (h := (h.1, h.2.1, h.2.2.1, jx_up2 h.2.2.2 o i.toNatClampNeg v)) ho (by decide)]
    show H1[base + o]? = some (vp_cell _ _)
    rw [e1, vp_cell_i, vp_cell_i, arrV_store]
    congr 2
    funext q
    by_cases hq : q = i.toNatClampNeg
    · subst hq
      simp [updV, jx_up2, vp_nar, narrow]
    · simp [updV, jx_up2, hq]
theorem jx_bastore (C : jx_Cx p s m args meth c base D cA cc nL own) {n o : Nat} {i v : Int32} (ho : h.1[o]? = some (1, n)) (hin : jx_in i n) (hd : decode cc pc = .ok (.bastore, 1)) (kk : jx_Go p l e R s m args below meth c base D cA O nL Q cells slots (pc + 1) ls st (h.1, h.2.1, h.2.2.1, jx_up2 h.2.2.2 o i.toNatClampNeg v.toInt8.toInt32)) : jx_Go p l e R s m args below meth c base D cA O nL Q cells slots pc ls (.int v :: .int i :: .ref o :: st) h := fun H locs lsA hP hz hS hL => by
  have ha : (jx_ws base cA O h)[o]? = some (base + o, .inl (cA 1, n, .inl (h.2.2.2 o))) := by rw [jx_ws_get (jx_lt ho), jx_e_arr ho (by decide)]
  refine W.bast C.1 C.2.1 (hP o _ ha) ((C.2.2.2.2.2.1.1.2 1 _ rfl).1 n (fun j => .int (h.2.2.2 o j))) (fun q => by cases q) (by show ¬ (i < 0 ∨ (arrV _ _ _).slots.size ≤ _); rw [arrV_size]; exact hin) rfl rfl hd fun H1 e1 z1 oq => ?_
  refine kk H1 _ lsA ?_ (by rw [z1, hz]) (hS.put z1 oq (Nat.le_add_right _ _)) hL
  refine jx_P_set hP rfl (jx_lt ho) (fun j hj => jx_e_congr rfl ?_ (fun _ _ => rfl) (fun _ _ => rfl)) ?_ oq
  · funext q
    simp [jx_up2, hj]
  · rw [jx_e_arr (h := (h.1, h.2.1, h.2.2.1, jx_up2 h.2.2.2 o i.toNatClampNeg v.toInt8.toInt32)) ho (by decide)]
    show H1[base + o]? = some (vp_cell _ _)
    rw [e1, vp_cell_i, vp_cell_i, arrV_store]
    congr 2
    funext q
    by_cases hq : q = i.toNatClampNeg
    · subst hq
      simp [updV, jx_up2, vp_nar, narrow]
    · simp [updV, jx_up2, hq]
theorem jx_zastore (C : jx_Cx p s m args meth c base D cA cc nL own) {n o : Nat} {i v : Int32} (ho : h.1[o]? = some (2, n)) (hin : jx_in i n) (hd : decode cc pc = .ok (.bastore, 1)) (kk : jx_Go p l e R s m args below meth c base D cA O nL Q cells slots (pc + 1) ls st (h.1, h.2.1, h.2.2.1, jx_up2 h.2.2.2 o i.toNatClampNeg (v &&& 1))) : jx_Go p l e R s m args below meth c base D cA O nL Q cells slots pc ls (.int v :: .int i :: .ref o :: st) h := fun H locs lsA hP hz hS hL => by
  have ha : (jx_ws base cA O h)[o]? = some (base + o, .inl (cA 2, n, .inl (h.2.2.2 o))) := by rw [jx_ws_get (jx_lt ho), jx_e_arr ho (by decide)]
  refine W.zast C.1 C.2.1 (hP o _ ha) ((C.2.2.2.2.2.1.1.2 2 _ rfl).1 n (fun j => .int (h.2.2.2 o j))) (fun q => by cases q) (by show ¬ (i < 0 ∨ (arrV _ _ _).slots.size ≤ _); rw [arrV_size]; exact hin) rfl rfl hd fun H1 e1 z1 oq => ?_
  refine kk H1 _ lsA ?_ (by rw [z1, hz]) (hS.put z1 oq (Nat.le_add_right _ _)) hL
  refine jx_P_set hP rfl (jx_lt ho) (fun j hj => jx_e_congr rfl ?_ (fun _ _ => rfl) (fun _ _ => rfl)) ?_ oq
  · funext q
    simp [jx_up2, hj]
  · rw [jx_e_arr (h := (h.1, h.2.1, h.2.2.1, jx_up2 h.2.2.2 o i.toNatClampNeg (v &&& 1))) ho (by decide)]
    show H1[base + o]? = some (vp_cell _ _)
    rw [e1, vp_cell_i, vp_cell_i, arrV_store]
    congr 2
    funext q
    by_cases hq : q = i.toNatClampNeg
    · subst hq
      simp [updV, jx_up2, vp_nar, narrow]
    · simp [updV, jx_up2, hq]
theorem jx_aaload (C : jx_Cx p s m args meth c base D cA cc nL own) {n o r : Nat} {i : Int32} (ho : h.1[o]? = some (4, n)) (hin : jx_in i n) (hn : n ≤ 64) (hv : h.2.1 (64 * o + i.toNatClampNeg) = .ref r) (hd : decode cc pc = .ok (.aaload, 1)) (kk : jx_Go p l e R s m args below meth c base D cA O nL Q cells slots (pc + 1) ls (.ref r :: st) h) : jx_Go p l e R s m args below meth c base D cA O nL Q cells slots pc ls (.int i :: .ref o :: st) h := fun H locs lsA hP hz hS hL => by
  have ha : (jx_ws base cA O h)[o]? = some (base + o, .inl (cA 4, n, .inr (.inr (.inr (.inr (fun j => if j < 64 then jx_oq base (h.2.1 (64 * o + j)) else none)))))) := by rw [jx_ws_get (jx_lt ho), jx_e_q ho]
  refine va_aldq (C := jx_SC) C.1 C.2.1 C.2.2.2.2.2.1.1 hP o 3 ha rfl hin hd ?_
  have hlt : i.toNatClampNeg < n := Nat.not_le.mp fun q => hin (Or.inr q)
  have h64 : i.toNatClampNeg < 64 := by omega
  simp only [h64, if_true, hv, jx_oq, va_rf]
  exact kk H locs lsA hP hz hS hL
theorem jx_aastore (C : jx_Cx p s m args meth c base D cA cc nL own) {n o r : Nat} {i : Int32} (ho : h.1[o]? = some (4, n)) (hin : jx_in i n) (hn : n ≤ 64) (hr : h.1[r]? = some (10 + 8, jx_N 8)) (hd : decode cc pc = .ok (.aastore, 1)) (kk : jx_Go p l e R s m args below meth c base D cA O nL Q cells slots (pc + 1) ls st (h.1, jx_up h.2.1 (64 * o + i.toNatClampNeg) (.ref r), h.2.2.1, h.2.2.2)) : jx_Go p l e R s m args below meth c base D cA O nL Q cells slots pc ls (.ref r :: .int i :: .ref o :: st) h := fun H locs lsA hP hz hS hL => by
  have ha : (jx_ws base cA O h)[o]? = some (base + o, .inl (cA 4, n, .inr (.inr (.inr (.inr (fun j => if j < 64 then jx_oq base (h.2.1 (64 * o + j)) else none)))))) := by rw [jx_ws_get (jx_lt ho), jx_e_q ho]
  have hK := C.2.2.2.2.2.1.1
  have hlt : i.toNatClampNeg < n := Nat.not_le.mp fun q => hin (Or.inr q)
  have h64 : i.toNatClampNeg < 64 := by omega
  have h0 : ¬ i < 0 := fun q => hin (Or.inl q)
  obtain ⟨T, hT⟩ := jx_cls (c := 8) (by decide)
  obtain ⟨r', hr', cellV, g1, g2, g3, -⟩ := hP r _ (jx_obj_at hr)
  have hcls := (hK.1 8 _ hT).2
  obtain ⟨kA, comp, k1, k2, k3, -⟩ := (hK.2 3 _ rfl).2
  have hcomp : comp = D.1 8 := Option.some.inj (k3.symm.trans hcls.1)
  subst hcomp
  obtain ⟨kC, hkC, -⟩ := hcls.2
  refine W.aast C.1 C.2.1 (hP o _ ha) (fun q h => by cases h) (fun h => by cases h) k1 k2 rfl hkC ⟨h0, by show _ < (arrV _ _ _).slots.size; rw [arrV_size]; exact hlt⟩ g1 (fun q h => by rw [g3] at h; cases h) (by rw [g2]; exact hkC) (by rw [g2]; exact va_assign hcls) rfl rfl hd fun H1 e1 z1 oq => ?_
  refine kk H1 _ lsA ?_ (by rw [z1, hz]) (hS.put z1 oq (Nat.le_add_right _ _)) hL
  refine jx_P_set hP rfl (jx_lt ho) (fun j hj => jx_e_congr rfl rfl (fun k hk => ?_) (fun _ _ => rfl)) ?_ oq
  · have hne : ¬ 64 * j + k = 64 * o + i.toNatClampNeg := by omega
    simp [jx_up, hne]
  · rw [jx_e_q (h := (h.1, jx_up h.2.1 (64 * o + i.toNatClampNeg) (.ref r), h.2.2.1, h.2.2.2)) ho]
    show H1[base + o]? = some (vp_cell _ _)
    rw [e1, vp_cell_q, vp_cell_q, arrV_store]
    congr 2
    funext q
    by_cases hq : q = i.toNatClampNeg
    · subst hq
      simp [updV, jx_up, jx_oq, va_rf, h64]
    · simp [updV, jx_up, hq]
end JXP
end
section
/-! ===== new cells, System.arraycopy, switches ===== -/
section JXN
variable {p : Program} {l : Launch} {e : Env} {R : Room} {s : State} {m : MethodId} {args : Array Value} {below : List Frame} {meth : Method} {c : Code} {base : Nat} {D : va_G} {cA : Nat → ClassId} {O : Nat → va_E} {cc : ByteArray} {nL own : Nat} {Q : State → Prop} {cells slots pc : Nat} {ls st : List Value} {h : jx_H}
theorem jx_S_push {A : Nat → Prop} {H0 H H1 : Heap} {locs : List Loc} (hS : va_S A H0 H locs) (z1 : H1.size = H.size + 1) (o1 : ∀ q, q < H.size → H1[q]? = H[q]?) : va_S A H0 H1 locs :=
  ⟨Nat.le_trans hS.1 (by omega), fun x h1 h2 => (o1 x (Nat.lt_of_lt_of_le h1 hS.1)).trans (hS.2.1 x h1 h2), hS.2.2⟩
theorem jx_def_ok : ∀ c, c < 12 → ∀ k, k < 64 → defaultValue (jx_ty c k) = if jx_isr c k = true then .null else .int 0 := by decide +kernel
theorem jx_newi (C : jx_Cx p s m args meth c base D cA cc nL own) {n : Int32} (hn : ¬ n < 0) (h1000 : n.toNatClampNeg ≤ 1000) (hc : cells + 1 ≤ R.cells) (hs : slots + n.toNatClampNeg ≤ R.slots) (hd : decode cc pc = .ok (.newarray .int, 2))
    (kk : jx_Go p l e R s m args below meth c base D cA O nL Q (cells + 1) (slots + n.toNatClampNeg) (pc + 2) ls (.ref h.1.length :: st) (h.1 ++ [(0, n.toNatClampNeg)], h.2.1, h.2.2.1, fun o => if o = h.1.length then fun _ => 0 else h.2.2.2 o)) : jx_Go p l e R s m args below meth c base D cA O nL Q cells slots pc ls (.int n :: st) h := fun H locs lsA hP hz hS hL => by
  have hK := C.2.2.2.2.2.1.1
  refine va_newaK (atype := .int) C.1 C.2.1 (C.2.2.2.2.1 _ jx_wi) rfl hd rfl hn rfl (by show n.toNatClampNeg * 4 ≤ 536870912; omega) hc hs hz fun H1 cA' e1 z1 o1 hAr hNm => ?_
  have hcA : cA' = cA 0 := Option.some.inj (hNm.symm.trans (hK.2 0 _ rfl).2)
  subst hcA
  refine kk H1 locs lsA ?_ (by rw [z1]; show base + h.1.length + 1 = base + (h.1 ++ [_]).length; rw [List.length_append, List.length_singleton]; omega) (jx_S_push hS (by rw [z1, hz]) (by rw [hz]; exact o1)) hL
  refine jx_P_push (q0 := (0, n.toNatClampNeg)) hP hz rfl (fun i hi => jx_e_congr ?_ ?_ (fun _ _ => rfl) (fun _ _ => rfl)) ?_ (by rw [hz]; exact o1)
  · exact List.getElem?_append_left hi
  · have : ¬ i = h.1.length := by omega
    simp [this]
  · rw [jx_e_arr (h := (h.1 ++ [(0, n.toNatClampNeg)], h.2.1, h.2.2.1, fun o => if o = h.1.length then fun _ => 0 else h.2.2.2 o)) (k := 0) (n := n.toNatClampNeg) (by show (h.1 ++ [_])[h.1.length]? = _; rw [List.getElem?_append_right (Nat.le_refl _), Nat.sub_self]; rfl) (by decide)]
    show H1[base + h.1.length]? = some (vp_cell _ _)
    rw [e1, vp_cell_i]
    simp
    rfl
theorem jx_newb (C : jx_Cx p s m args meth c base D cA cc nL own) {n : Int32} (hn : ¬ n < 0) (h1000 : n.toNatClampNeg ≤ 1000) (hc : cells + 1 ≤ R.cells) (hs : slots + n.toNatClampNeg ≤ R.slots) (hd : decode cc pc = .ok (.newarray .byte, 2))
    (kk : jx_Go p l e R s m args below meth c base D cA O nL Q (cells + 1) (slots + n.toNatClampNeg) (pc + 2) ls (.ref h.1.length :: st) (h.1 ++ [(1, n.toNatClampNeg)], h.2.1, h.2.2.1, fun o => if o = h.1.length then fun _ => 0 else h.2.2.2 o)) : jx_Go p l e R s m args below meth c base D cA O nL Q cells slots pc ls (.int n :: st) h := fun H locs lsA hP hz hS hL => by
  have hK := C.2.2.2.2.2.1.1
  refine va_newaK (atype := .byte) C.1 C.2.1 (C.2.2.2.2.1 _ jx_wb) rfl hd rfl hn rfl (by show n.toNatClampNeg * 1 ≤ 536870912; omega) hc hs hz fun H1 cA' e1 z1 o1 hAr hNm => ?_
  have hcA : cA' = cA 1 := Option.some.inj (hNm.symm.trans (hK.2 1 _ rfl).2)
  subst hcA
  refine kk H1 locs lsA ?_ (by rw [z1]; show base + h.1.length + 1 = base + (h.1 ++ [_]).length; rw [List.length_append, List.length_singleton]; omega) (jx_S_push hS (by rw [z1, hz]) (by rw [hz]; exact o1)) hL
  refine jx_P_push (q0 := (1, n.toNatClampNeg)) hP hz rfl (fun i hi => jx_e_congr ?_ ?_ (fun _ _ => rfl) (fun _ _ => rfl)) ?_ (by rw [hz]; exact o1)
  · exact List.getElem?_append_left hi
  · have : ¬ i = h.1.length := by omega
    simp [this]
  · rw [jx_e_arr (h := (h.1 ++ [(1, n.toNatClampNeg)], h.2.1, h.2.2.1, fun o => if o = h.1.length then fun _ => 0 else h.2.2.2 o)) (k := 1) (n := n.toNatClampNeg) (by show (h.1 ++ [_])[h.1.length]? = _; rw [List.getElem?_append_right (Nat.le_refl _), Nat.sub_self]; rfl) (by decide)]
    show H1[base + h.1.length]? = some (vp_cell _ _)
    rw [e1, vp_cell_i]
    simp
    rfl
theorem jx_newz (C : jx_Cx p s m args meth c base D cA cc nL own) {n : Int32} (hn : ¬ n < 0) (h1000 : n.toNatClampNeg ≤ 1000) (hc : cells + 1 ≤ R.cells) (hs : slots + n.toNatClampNeg ≤ R.slots) (hd : decode cc pc = .ok (.newarray .boolean, 2))
    (kk : jx_Go p l e R s m args below meth c base D cA O nL Q (cells + 1) (slots + n.toNatClampNeg) (pc + 2) ls (.ref h.1.length :: st) (h.1 ++ [(2, n.toNatClampNeg)], h.2.1, h.2.2.1, fun o => if o = h.1.length then fun _ => 0 else h.2.2.2 o)) : jx_Go p l e R s m args below meth c base D cA O nL Q cells slots pc ls (.int n :: st) h := fun H locs lsA hP hz hS hL => by
  have hK := C.2.2.2.2.2.1.1
  refine va_newaK (atype := .boolean) C.1 C.2.1 (C.2.2.2.2.1 _ jx_wz) rfl hd rfl hn rfl (by show n.toNatClampNeg * 1 ≤ 536870912; omega) hc hs hz fun H1 cA' e1 z1 o1 hAr hNm => ?_
  have hcA : cA' = cA 2 := Option.some.inj (hNm.symm.trans (hK.2 2 _ rfl).2)
  subst hcA
  refine kk H1 locs lsA ?_ (by rw [z1]; show base + h.1.length + 1 = base + (h.1 ++ [_]).length; rw [List.length_append, List.length_singleton]; omega) (jx_S_push hS (by rw [z1, hz]) (by rw [hz]; exact o1)) hL
  refine jx_P_push (q0 := (2, n.toNatClampNeg)) hP hz rfl (fun i hi => jx_e_congr ?_ ?_ (fun _ _ => rfl) (fun _ _ => rfl)) ?_ (by rw [hz]; exact o1)
  · exact List.getElem?_append_left hi
  · have : ¬ i = h.1.length := by omega
    simp [this]
  · rw [jx_e_arr (h := (h.1 ++ [(2, n.toNatClampNeg)], h.2.1, h.2.2.1, fun o => if o = h.1.length then fun _ => 0 else h.2.2.2 o)) (k := 2) (n := n.toNatClampNeg) (by show (h.1 ++ [_])[h.1.length]? = _; rw [List.getElem?_append_right (Nat.le_refl _), Nat.sub_self]; rfl) (by decide)]
    show H1[base + h.1.length]? = some (vp_cell _ _)
    rw [e1, vp_cell_i]
    simp
    rfl
theorem jx_anew (C : jx_Cx p s m args meth c base D cA cc nL own) {n : Int32} {d : Nat} (hw : Cond.classLink (jx_nm own) d jx_SC ∈ lw_g) (hn : ¬ n < 0) (h64 : n.toNatClampNeg ≤ 64) (hc : cells + 1 ≤ R.cells) (hs : slots + n.toNatClampNeg ≤ R.slots) (hd : decode cc pc = .ok (.anewarray d, 3))
    (kk : jx_Go p l e R s m args below meth c base D cA O nL Q (cells + 1) (slots + n.toNatClampNeg) (pc + 3) ls (.ref h.1.length :: st) (h.1 ++ [(4, n.toNatClampNeg)], fun q => if 64 * h.1.length ≤ q then .null else h.2.1 q, h.2.2.1, h.2.2.2)) : jx_Go p l e R s m args below meth c base D cA O nL Q cells slots pc ls (.int n :: st) h := fun H locs lsA hP hz hS hL => by
  have hK := C.2.2.2.2.2.1
  refine W.anew (C := jx_SC) C.1 C.2.1 C.2.2.2.1 (C.2.2.2.2.1 _ hw) (va_AO.use hK.2) rfl hd rfl hn (by omega) hc hs fun cA' kA comp f1 f2 f3 f4 => ?_
  generalize hH1 : H.push ({ cls := cA', slots := Array.replicate n.toNatClampNeg .null, vm := .none } : Cell) = H1
  have z1 : H1.size = H.size + 1 := by rw [← hH1, Array.size_push]
  have e1 : H1[H.size]? = some (arrV cA' n.toNatClampNeg (fun _ => .null)) := by rw [← hH1, Array.getElem?_push_size, ← arrV_new]
  have o1 : ∀ q : Nat, q < H.size → H1[q]? = H[q]? := fun q hq => by rw [← hH1, Array.getElem?_push, if_neg (Nat.ne_of_lt hq)]
  obtain ⟨kA2, comp2, g1, g2, g3, g4⟩ := (hK.1.2 3 _ rfl).2
  have hcA : cA' = cA 4 := Option.some.inj (f1.symm.trans g4)
  subst hcA
  have hgo := kk H1 locs lsA ?_ (by rw [z1, hz]; show base + h.1.length + 1 = base + (h.1 ++ [_]).length; rw [List.length_append, List.length_singleton]; omega) (jx_S_push hS z1 o1) hL
  · simp only [List.map_cons, jx_V] at hgo
    rw [← hz] at hgo
    exact hgo
  refine jx_P_push (q0 := (4, n.toNatClampNeg)) hP hz rfl (fun i hi => jx_e_congr ?_ rfl (fun j hj => ?_) (fun _ _ => rfl)) ?_ o1
  · exact List.getElem?_append_left hi
  · have : ¬ 64 * h.1.length ≤ 64 * i + j := by omega
    simp [this]
  · rw [jx_e_q (h := (h.1 ++ [(4, n.toNatClampNeg)], fun q => if 64 * h.1.length ≤ q then .null else h.2.1 q, h.2.2.1, h.2.2.2)) (n := n.toNatClampNeg) (by show (h.1 ++ [_])[h.1.length]? = _; rw [List.getElem?_append_right (Nat.le_refl _), Nat.sub_self]; rfl)]
    show H1[base + h.1.length]? = some (vp_cell _ _)
    rw [← hz, e1, vp_cell_q]
    congr 2
    funext j
    by_cases hj : j < 64
    · have : 64 * h.1.length ≤ 64 * h.1.length + j := by omega
      simp [hj, jx_oq, va_rf]
    · simp [hj, va_rf]
theorem jx_new (C : jx_Cx p s m args meth c base D cA cc nL own) {a d : Nat} (ha : a < 12) (ha1 : a ≠ 1) (hw : Cond.classLink (jx_nm own) d (jx_nm a) ∈ lw_g) (hc : cells + 1 ≤ R.cells) (hs : slots + jx_N a ≤ R.slots) (hd : decode cc pc = .ok (.new d, 3))
    (kk : jx_Go p l e R s m args below meth c base D cA O nL Q (cells + 1) (slots + jx_N a) (pc + 3) ls (.ref h.1.length :: st) (h.1 ++ [(10 + a, jx_N a)], fun q => if 64 * h.1.length ≤ q then .null else h.2.1 q, fun q => if 64 * h.1.length ≤ q then 0 else h.2.2.1 q, h.2.2.2)) : jx_Go p l e R s m args below meth c base D cA O nL Q cells slots pc ls st h := fun H locs lsA hP hz hS hL => by
  have hK := C.2.2.2.2.2.1
  obtain ⟨T, hT⟩ := jx_cls ha
  have hok := jx_cl_ok a _ hT
  have hnw := jx_new_ok a _ hT ha1
  have hKn := hK.1.1 a _ hT
  refine W.newcK C.1 C.2.1 C.2.2.2.1 (C.2.2.2.2.1 _ hw) (C.2.2.2.2.1 _ hnw.1) (C.2.2.2.2.1 _ hnw.2) rfl hd hc hs hKn.2.1 hz fun H1 kC hkC e1 z1 o1 => ?_
  refine kk H1 locs lsA ?_ (by rw [z1]; show base + h.1.length + 1 = base + (h.1 ++ [_]).length; rw [List.length_append, List.length_singleton]; omega) (jx_S_push hS (by rw [z1, hz]) (by rw [hz]; exact o1)) hL
  refine jx_P_push (q0 := (10 + a, jx_N a)) hP hz rfl (fun i hi => jx_e_congr ?_ rfl (fun j hj => ?_) (fun j hj => ?_)) ?_ (by rw [hz]; exact o1)
  · exact List.getElem?_append_left hi
  · have : ¬ 64 * h.1.length ≤ 64 * i + j := by omega
    simp [this]
  · have : ¬ 64 * h.1.length ≤ 64 * i + j := by omega
    simp [this]
  · rw [jx_e_obj (h := (h.1 ++ [(10 + a, jx_N a)], fun q => if 64 * h.1.length ≤ q then .null else h.2.1 q, fun q => if 64 * h.1.length ≤ q then 0 else h.2.2.1 q, h.2.2.2)) (c := a) (n := jx_N a) (by show (h.1 ++ [_])[h.1.length]? = _; rw [List.getElem?_append_right (Nat.le_refl _), Nat.sub_self]; rfl)]
    refine ⟨_, hT, (u_born (jx_ty a) C.2.2.2.2.1 hok.2.2.1 hKn hkC e1 hok.2.2.2.2.1).to (fun k hk => ?_)⟩
    have hk64 : k < 64 := Nat.lt_of_lt_of_le hk hok.2.1
    have hk2 : k < jx_N a := hk
    rw [jx_def_ok a ha k hk64]
    simp [vp_V, List.getD_eq_getElem?_getD, hk2, jx_f, hk64, jx_V]
theorem jx_oinit (C : jx_Cx p s m args meth c base D cA cc nL own) {d o : Nat} (hw : Cond.methodLink (jx_nm own) d Lib.objectInit ∈ lw_g) (h8 : jx_c8 st) (hfr : 1 ≤ R.frames) (hlo : 64 ≤ R.locals) (hd : decode cc pc = .ok (.invokespecial d, 3)) (kk : jx_Go p l e R s m args below meth c base D cA O nL Q cells slots (pc + 3) ls st h) : jx_Go p l e R s m args below meth c base D cA O nL Q cells slots pc ls (.ref o :: st) h := fun H locs lsA hP hz hS hL => by
  obtain ⟨hl1, lv, hl2, hl3⟩ := id hL
  refine W.objInit C.1 C.2.1 C.2.2.2.1 (C.2.2.2.2.1 _ hw) (C.2.2.2.2.1 _ jx_wo1) (C.2.2.2.2.1 _ jx_wo2) (g := F0 m pc lsA (.ref (base + o) :: st.map (jx_V base))) rfl (by show lsA.size = c.maxLocals; rw [hl2.1, C.2.2.1]) (a := base + o) (rest := st.map (jx_V base)) rfl hd hfr ?_ (kk H locs lsA hP hz hS hL)
  have e1 : ((st.map (jx_V base)).map fun v => v.category) = st.map fun v => v.category := by
    rw [List.map_map]
    exact List.map_congr_left fun v _ => jx_V_cat base v
  show 2 * 0 + ((st.map (jx_V base)).map fun v => v.category).sum + 12 ≤ R.locals
  rw [e1]
  have : (st.map fun v => v.category).sum ≤ 8 := h8
  omega
theorem jx_acopy (C : jx_Cx p s m args meth c base D cA cc nL own) {d o q n0 n1 : Nat} {sp dp n : Int32} (hw : Cond.methodLink (jx_nm own) d arraycopyName ∈ lw_g) (ho : h.1[o]? = some (0, n0)) (hq : h.1[q]? = some (0, n1)) (h1 : ¬ sp < 0) (h2 : ¬ dp < 0) (h3 : ¬ n < 0) (h4 : sp.toNatClampNeg + n.toNatClampNeg ≤ n0) (h5 : dp.toNatClampNeg + n.toNatClampNeg ≤ n1) (h8 : jx_c8 st) (hfr : 1 ≤ R.frames) (hlo : 64 ≤ R.locals) (hd : decode cc pc = .ok (.invokestatic d, 3))
    (kk : jx_Go p l e R s m args below meth c base D cA O nL Q cells slots (pc + 3) ls st (h.1, h.2.1, h.2.2.1, fun z => if z = q then va_cpy (h.2.2.2 o) (h.2.2.2 q) sp.toNatClampNeg dp.toNatClampNeg n.toNatClampNeg else h.2.2.2 z)) : jx_Go p l e R s m args below meth c base D cA O nL Q cells slots pc ls (.int n :: .int dp :: .ref q :: .int sp :: .ref o :: st) h := fun H locs lsA hP hz hS hL => by
  have hK := C.2.2.2.2.2.1.1
  obtain ⟨hl1, lv, hl2, hl3⟩ := id hL
  have ha0 : (jx_ws base cA O h)[o]? = some (base + o, .inl (cA 0, n0, .inl (h.2.2.2 o))) := by rw [jx_ws_get (jx_lt ho), jx_e_arr ho (by decide)]
  have ha1 : (jx_ws base cA O h)[q]? = some (base + q, .inl (cA 0, n1, .inl (h.2.2.2 q))) := by rw [jx_ws_get (jx_lt hq), jx_e_arr hq (by decide)]
  have nn : ∀ z : Int32, ¬ z < 0 → z.toInt = (z.toNatClampNeg : Int) := by
    intro z hz
    have hz0 : (0 : Int) ≤ z.toInt := by
      have := Int32.not_lt.mp hz
      simpa using Int32.le_iff_toInt_le.mp this
    show z.toInt = ((z.toInt.toNat : Nat) : Int)
    omega
  have e8 : ((st.map (jx_V base)).map fun v => v.category) = st.map fun v => v.category := by
    rw [List.map_map]
    exact List.map_congr_left fun v _ => jx_V_cat base v
  have h8' : (st.map fun v => v.category).sum ≤ 8 := h8
  have hnf : nativeFrameWords "java/lang/System" "arraycopy" 5 + 11 ≤ 56 := by decide +kernel
  intro T hT X
  have hc0 : H[base + o]? = some (vp_cell (cA 0) (n0, .inl (h.2.2.2 o))) := hP o _ ha0
  have hc1 : H[base + q]? = some (vp_cell (cA 0) (n1, .inl (h.2.2.2 q))) := hP q _ ha1
  obtain ⟨-, k0, hk0, cm0, hkk0⟩ := (hK.2 0 _ rfl).1 n0 (fun j => .int (h.2.2.2 o j))
  obtain ⟨-, k1, hk1, cm1, hkk1⟩ := (hK.2 0 _ rfl).1 n1 (fun j => .int (h.2.2.2 q j))
  obtain ⟨vm', X', step⟩ := X.arraycopy C.1 C.2.2.2.1 (C.2.2.2.2.1 _ hw) (C.2.2.2.2.1 _ jx_wa1) (C.2.2.2.2.1 _ jx_wa2) (C.2.2.2.2.1 _ jx_wa3) (src := base + o) (dst := base + q) (cs := vp_cell (cA 0) (n0, .inl (h.2.2.2 o))) (cd := vp_cell (cA 0) (n1, .inl (h.2.2.2 q))) (srcPos := sp) (destPos := dp) (n := n) (by rw [hT]; exact hc0) (by rw [hT]; exact hc1)
    (fun _ h => by cases h) (fun _ h => by cases h) (fun h => by cases h) (fun h => by cases h) hk0 hk1 hkk0 hkk1 (by simp [refKind]) h1 h2 h3
    (by rw [nn sp h1, nn n h3]; show ¬ _ > ((arrV (cA 0) n0 (fun j => .int (h.2.2.2 o j))).slots.size : Int); rw [arrV_size]; omega)
    (by rw [nn dp h2, nn n h3]; show ¬ _ > ((arrV (cA 0) n1 (fun j => .int (h.2.2.2 q j))).slots.size : Int); rw [arrV_size]; omega)
    (fun vm₁ _ i hi => by
      have e : (vp_cell (cA 0) (n0, .inl (h.2.2.2 o))).slots.getD (sp.toNatClampNeg + i) .null = .int (h.2.2.2 o (sp.toNatClampNeg + i)) := by
        show (arrV (cA 0) n0 (fun j => .int (h.2.2.2 o j))).slots.getD _ _ = _
        rw [Array.getD_eq_getD_getElem?, arrV_read _ _ (by omega)]
        rfl
      refine ⟨?_, ?_⟩
      · rw [e]
        rfl
      · rw [e]
        exact trivial)
    (g := F0 m pc lsA (.int n :: .int dp :: .ref (base + q) :: .int sp :: .ref (base + o) :: st.map (jx_V base))) rfl (by show lsA.size = c.maxLocals; rw [hl2.1, C.2.2.1]) (rest := st.map (jx_V base)) rfl (by rw [C.2.1]; exact hd) hfr (by show 2 * 0 + _ + _ ≤ _; rw [e8]; omega)
  have e1 : copied (vp_cell (cA 0) (n0, .inl (h.2.2.2 o))) (vp_cell (cA 0) (n1, .inl (h.2.2.2 q))) sp dp n = vp_cell (cA 0) (n1, .inl (va_cpy (h.2.2.2 o) (h.2.2.2 q) sp.toNatClampNeg dp.toNatClampNeg n.toNatClampNeg)) := va_copied (fun z => .int z) (cA 0) (cA 0) (h.2.2.2 o) (h.2.2.2 q) h4
  rw [e1] at X' step
  have hl : base + q < H.size := (Array.getElem?_eq_some_iff.mp hc1).1
  have hheap : ((T.setVm vm').setCell (base + q) (vp_cell (cA 0) (n1, .inl (va_cpy (h.2.2.2 o) (h.2.2.2 q) sp.toNatClampNeg dp.toNatClampNeg n.toNatClampNeg)))).heap = H.setIfInBounds (base + q) (vp_cell (cA 0) (n1, .inl (va_cpy (h.2.2.2 o) (h.2.2.2 q) sp.toNatClampNeg dp.toNatClampNeg n.toNatClampNeg))) := by rw [← hT]; rfl
  have oq : ∀ z : Nat, z ≠ base + q → (H.setIfInBounds (base + q) (vp_cell (cA 0) (n1, .inl (va_cpy (h.2.2.2 o) (h.2.2.2 q) sp.toNatClampNeg dp.toNatClampNeg n.toNatClampNeg))))[z]? = H[z]? := fun z hz => by simp [Array.getElem?_setIfInBounds, Ne.symm hz]
  obtain ⟨t, a1, b1⟩ := kk _ _ lsA (jx_P_set hP rfl (jx_lt hq) (fun j hj => jx_e_congr rfl (by simp [hj]) (fun _ _ => rfl) (fun _ _ => rfl)) (by
      rw [jx_e_arr (h := (h.1, h.2.1, h.2.2.1, fun z => if z = q then va_cpy (h.2.2.2 o) (h.2.2.2 q) sp.toNatClampNeg dp.toNatClampNeg n.toNatClampNeg else h.2.2.2 z)) hq (by decide)]
      show (H.setIfInBounds (base + q) _)[base + q]? = some (vp_cell _ _)
      simp [Array.getElem?_setIfInBounds, hl]) oq) (by simp; exact hz) ⟨by simp; exact hS.1, fun z g1 g2 => by
      rw [oq z (fun e => g2 (by rw [e]; exact Nat.le_add_right _ _))]
      exact hS.2.1 z g1 g2, fun z hz => by
      rcases List.mem_append.mp hz with h | h
      · exact hS.2.2 z h
      · obtain ⟨w, -, hw⟩ := List.mem_map.mp h
        rw [← hw]
        exact Nat.le_add_right _ _⟩ hL _ hheap X'
  exact ⟨t, step t a1, b1⟩
theorem jx_lk_off {pc a : Nat} : ∀ (L : List (Int32 × Nat)) (z : Int32), Op.lookupswitch.offset (L.map fun q => (q.1.toInt, (q.2 : Int) - pc)) ((a : Int) - pc) z.toInt = (jx_lk L z a : Int) - pc
  | [], z => rfl
  | q :: L, z => by
    by_cases hq : z = q.1
    · subst hq
      simp [jx_lk, Op.lookupswitch.offset]
    · have h1 : ¬ z.toInt = q.1.toInt := fun h => hq (Int32.toInt_inj.mp h)
      rw [List.map_cons, lv_osw hq rfl, jx_lk_off L z]
      simp [jx_lk, hq]
theorem jx_lsw (C : jx_Cx p s m args meth c base D cA cc nL own) {a d : Nat} {z : Int32} {L : List (Int32 × Nat)} (hs : ((L.map fun q => (q.1.toInt, (q.2 : Int) - pc)).zip ((L.map fun q => (q.1.toInt, (q.2 : Int) - pc)).drop 1)).all (fun (a, next) => a.1 < next.1) = true) (hd : decode cc pc = .ok (.lookupswitch ((a : Int) - pc) (L.map fun q => (q.1.toInt, (q.2 : Int) - pc)).toArray, d))
    (kk : jx_Go p l e R s m args below meth c base D cA O nL Q cells slots (jx_lk L z a) ls st h) : jx_Go p l e R s m args below meth c base D cA O nL Q cells slots pc ls (.int z :: st) h := fun H locs lsA hP hz hS hL =>
  lv_lookup C.1 C.2.1 hd hs (jx_lk_off L z) (by omega) (kk H locs lsA hP hz hS hL)
theorem jx_tk (x : Int32) : ∀ (L : List (Int32 × Nat)) (k : Nat) (z : Int32) (a : Nat), (∀ (i : Nat) (q : Int32 × Nat), L[i]? = some q → q.1.toInt = x.toInt + k + i) → (if z.toInt < x.toInt + k ∨ x.toInt + k + L.length - 1 < z.toInt then jx_lk L z a = a else ∃ q, L[(z.toInt - (x.toInt + k)).toNat]? = some q ∧ jx_lk L z a = q.2)
  | [], k, z, a, hL => by
    rw [if_pos]
    · rfl
    · simp only [List.length_nil]
      omega
  | q :: L, k, z, a, hL => by
    have h0 : q.1.toInt = x.toInt + k := by
      have := hL 0 q rfl
      omega
    have ih := jx_tk x L (k + 1) z a (fun i r hr => by
      have := hL (i + 1) r (by simpa using hr)
      omega)
    by_cases hz : z = q.1
    · have hzi : z.toInt = x.toInt + k := by rw [hz]; exact h0
      rw [if_neg (by simp only [List.length_cons]; omega)]
      refine ⟨q, ?_, by simp [jx_lk, hz]⟩
      rw [show (z.toInt - (x.toInt + k)).toNat = 0 by omega]
      rfl
    · have hzi : ¬ z.toInt = x.toInt + k := fun h => hz (Int32.toInt_inj.mp (h.trans h0.symm))
      have e1 : jx_lk (q :: L) z a = jx_lk L z a := by simp [jx_lk, hz]
      rw [e1]
      by_cases hc : z.toInt < x.toInt + (k + 1 : Nat) ∨ x.toInt + (k + 1 : Nat) + L.length - 1 < z.toInt
      · rw [if_pos hc] at ih
        rw [if_pos (by simp only [List.length_cons]; omega)]
        exact ih
      · rw [if_neg hc] at ih
        rw [if_neg (by simp only [List.length_cons]; omega)]
        obtain ⟨r, h1, h2⟩ := ih
        refine ⟨r, ?_, h2⟩
        rw [show (z.toInt - (x.toInt + k)).toNat = (z.toInt - (x.toInt + (k + 1 : Nat))).toNat + 1 by omega]
        simpa using h1
theorem jx_tsw (C : jx_Cx p s m args meth c base D cA cc nL own) {a d : Nat} {x z : Int32} {L : List (Int32 × Nat)} (hL0 : ∀ (i : Nat) (q : Int32 × Nat), L[i]? = some q → q.1.toInt = x.toInt + i) (hd : decode cc pc = .ok (.tableswitch ((a : Int) - pc) x.toInt (x.toInt + L.length - 1) (L.map fun q => (q.2 : Int) - pc).toArray, d))
    (kk : jx_Go p l e R s m args below meth c base D cA O nL Q cells slots (jx_lk L z a) ls st h) : jx_Go p l e R s m args below meth c base D cA O nL Q cells slots pc ls (.int z :: st) h := fun H locs lsA hP hz hS hL => by
  have hk := jx_tk x L 0 z a (fun i q hq => by have := hL0 i q hq; omega)
  by_cases hc : z.toInt < x.toInt ∨ x.toInt + L.length - 1 < z.toInt
  · rw [if_pos (by omega)] at hk
    rw [hk] at kk
    exact lv_tableOut C.1 C.2.1 hd hc (by omega) (kk H locs lsA hP hz hS hL)
  · rw [if_neg (by omega)] at hk
    obtain ⟨q, h1, h2⟩ := hk
    rw [h2] at kk
    refine lv_tableIn C.1 C.2.1 hd (by omega) (by omega) (off := (q.2 : Int) - pc) ?_ (by omega) (kk H locs lsA hP hz hS hL)
    have h3 : L[(z.toInt - x.toInt).toNat]? = some q := by
      rw [show (z.toInt - x.toInt).toNat = (z.toInt - (x.toInt + (0 : Nat))).toNat by omega]
      exact h1
    simp [h3]
theorem jx_mmax (C : jx_Cx p s m args meth c base D cA cc nL own) {d : Nat} {y z : Int32} (hw : Cond.methodLink (jx_nm own) d Lib.Math.max.name ∈ lw_g) (h8 : jx_c8 st) (hfr : 1 ≤ R.frames) (hlo : 64 ≤ R.locals) (hc : cells ≤ R.cells) (hs : slots ≤ R.slots) (hd : decode cc pc = .ok (.invokestatic d, 3)) (kk : jx_Go p l e R s m args below meth c base D cA O nL Q cells slots (pc + 3) ls (.int (jx_max z y) :: st) h) : jx_Go p l e R s m args below meth c base D cA O nL Q cells slots pc ls (.int y :: .int z :: st) h := fun H locs lsA hP hz hS hL => by
  obtain ⟨hl1, lv, hl2, hl3⟩ := id hL
  have e1 : ((st.map (jx_V base)).map fun v => v.category) = st.map fun v => v.category := by
    rw [List.map_map]
    exact List.map_congr_left fun v _ => jx_V_cat base v
  have h8' : (st.map fun v => v.category).sum ≤ 8 := h8
  exact va_mmax (rest := st.map (jx_V base)) C.1 C.2.1 (by rw [hl2.1, C.2.2.1]) C.2.2.2.1 (C.2.2.2.2.1 _ hw) (C.2.2.2.2.1 _ jx_wmax1) (C.2.2.2.2.1 _ jx_wm0) (C.2.2.2.2.1 _ jx_wmax2) hfr (by rw [e1]; omega) hc hs hd (kk H locs lsA hP hz hS hL)
theorem jx_mmin (C : jx_Cx p s m args meth c base D cA cc nL own) {d : Nat} {y z : Int32} (hw : Cond.methodLink (jx_nm own) d Lib.Math.min.name ∈ lw_g) (h8 : jx_c8 st) (hfr : 1 ≤ R.frames) (hlo : 64 ≤ R.locals) (hc : cells ≤ R.cells) (hs : slots ≤ R.slots) (hd : decode cc pc = .ok (.invokestatic d, 3)) (kk : jx_Go p l e R s m args below meth c base D cA O nL Q cells slots (pc + 3) ls (.int (jx_min z y) :: st) h) : jx_Go p l e R s m args below meth c base D cA O nL Q cells slots pc ls (.int y :: .int z :: st) h := fun H locs lsA hP hz hS hL => by
  obtain ⟨hl1, lv, hl2, hl3⟩ := id hL
  have e1 : ((st.map (jx_V base)).map fun v => v.category) = st.map fun v => v.category := by
    rw [List.map_map]
    exact List.map_congr_left fun v _ => jx_V_cat base v
  have h8' : (st.map fun v => v.category).sum ≤ 8 := h8
  exact va_mmin (rest := st.map (jx_V base)) C.1 C.2.1 (by rw [hl2.1, C.2.2.1]) C.2.2.2.1 (C.2.2.2.2.1 _ hw) (C.2.2.2.2.1 _ jx_wmin1) (C.2.2.2.2.1 _ jx_wm0) (C.2.2.2.2.1 _ jx_wmin2) hfr (by rw [e1]; omega) hc hs hd (kk H locs lsA hP hz hS hL)
end JXN
end
section
/-! ===== a text of entries stands for a method's bytes ===== -/
def jx_side (own nL rt kd : Nat) (e : jx_E) : Bool :=
  match e with
  | (_, op, (a, b, c0, d), x, L) =>
  match op with
  | 0 => decide (a < 4)
  | 2 => decide (a < 4)
  | 4 => decide (a < 4) && decide (a < nL)
  | 5 => decide (a < nL)
  | 6 => decide (a < 4) && decide (a < nL)
  | 7 => decide (a < nL)
  | 9 => decide ((Int8.ofInt x.toInt).toInt32 = x)
  | 10 => decide ((Int16.ofInt x.toInt).toInt32 = x)
  | 11 => jx_CL.any (fun q => decide (q.1 = own ∧ q.2.1 = d ∧ q.2.2.1 = x))
  | 12 => jx_CL.any (fun q => decide (q.1 = own ∧ q.2.1 = d ∧ q.2.2.1 = x))
  | 32 => decide (a < 12 ∧ b < jx_N a) && !jx_isr a b && jx_FL.any (fun q => decide (q.1 = own ∧ q.2.1 = d ∧ q.2.2.1 = a ∧ q.2.2.2.1 = b))
  | 33 => decide (a < 12 ∧ b < jx_N a) && jx_isr a b && jx_FL.any (fun q => decide (q.1 = own ∧ q.2.1 = d ∧ q.2.2.1 = a ∧ q.2.2.2.1 = b))
  | 34 => decide (a < 12 ∧ b < jx_N a ∧ jx_ty a b = .int ∧ ((jx_cl.getD a ("", jx_T0, 0)).2.1 b).2.2.2 = false) && jx_FL.any (fun q => decide (q.1 = own ∧ q.2.1 = d ∧ q.2.2.1 = a ∧ q.2.2.2.1 = b))
  | 35 => decide (a < 12 ∧ b < jx_N a ∧ jx_ty a b = .boolean ∧ ((jx_cl.getD a ("", jx_T0, 0)).2.1 b).2.2.2 = false) && jx_FL.any (fun q => decide (q.1 = own ∧ q.2.1 = d ∧ q.2.2.1 = a ∧ q.2.2.2.1 = b))
  | 36 => decide (a < 12 ∧ b < jx_N a ∧ ((jx_cl.getD a ("", jx_T0, 0)).2.1 b).2.2.2 = false) && jx_isr a b && jx_FL.any (fun q => decide (q.1 = own ∧ q.2.1 = d ∧ q.2.2.1 = a ∧ q.2.2.2.1 = b))
  | 37 => decide (a < 12 ∧ b < jx_N a ∧ ((jx_cl.getD a ("", jx_T0, 0)).2.1 b).2.2.2 = true ∧ kd = 1 ∧ own = a) && jx_isr a b && jx_FL.any (fun q => decide (q.1 = own ∧ q.2.1 = d ∧ q.2.2.1 = a ∧ q.2.2.2.1 = b))
  | 46 => decide (a < 3)
  | 47 => jx_KL.any (fun q => decide (q.1 = own ∧ q.2.1 = d ∧ q.2.2.1 = 8))
  | 48 => decide (a < 12 ∧ a ≠ 1) && jx_KL.any (fun q => decide (q.1 = own ∧ q.2.1 = d ∧ q.2.2.1 = a))
  | 49 => jx_ML.any (fun q => decide (q.1 = own ∧ q.2.1 = d ∧ q.2.2.1 = a)) && decide (jx_kc[a]? = some (0, c0))
  | 50 => jx_ML.any (fun q => decide (q.1 = own ∧ q.2.1 = d ∧ q.2.2.1 = a)) && decide ((jx_kc[a]?).map (fun q => q.1) = some 2)
  | 51 => jx_ML.any (fun q => decide (q.1 = own ∧ q.2.1 = d ∧ q.2.2.1 = a)) && decide ((jx_kc[a]?).map (fun q => q.1) = some 1)
  | 52 => jx_OL.any (fun q => decide (q.1 = own ∧ q.2.1 = d))
  | 53 => jx_AL.any (fun q => decide (q.1 = own ∧ q.2.1 = d))
  | 67 => (L.zipIdx).all (fun q => decide (q.1.1.toInt = x.toInt + q.2))
  | 68 => ((L.map fun q => (q.1.toInt, (q.2 : Int) - e.1)).zip ((L.map fun q => (q.1.toInt, (q.2 : Int) - e.1)).drop 1)).all (fun (a, next) => a.1 < next.1)
  | 69 => decide (rt = 1)
  | 70 => decide (rt = 2)
  | 71 => decide (rt = 0)
  | 72 => jx_ML.any (fun q => decide (q.1 = own ∧ q.2.1 = d ∧ q.2.2.1 = a)) && decide (jx_ys.getD a ⟨"", "", ""⟩ = Lib.Math.max.name)
  | 73 => jx_ML.any (fun q => decide (q.1 = own ∧ q.2.1 = d ∧ q.2.2.1 = a)) && decide (jx_ys.getD a ⟨"", "", ""⟩ = Lib.Math.min.name)
  | _ => true
def jx_okE (cc : ByteArray) (own nL rt kd : Nat) (e : jx_E) : Bool := decide (decode cc e.1 = .ok (jx_ins e)) && jx_side own nL rt kd e
def jx_okR (cc : ByteArray) (own nL rt kd : Nat) : Nat → List jx_E → Bool
  | _, [] => true
  | pc, e :: r => decide (e.1 = pc) && jx_okE cc own nL rt kd e && jx_okR cc own nL rt kd (pc + (jx_ins e).2) r
def jx_sz (L : List (Nat × Nat)) : Nat := (L.map (fun q => q.2)).sum
theorem jx_nil {α : Type} {a x : List α} (h : a = a ++ x) : x = [] := by
  have := congrArg List.length h
  rw [List.length_append] at this
  exact List.length_eq_zero_iff.mp (by omega)
theorem jx_app {α : Type} {a x y : List α} (h : a ++ y = a ++ x) : x = y := (List.append_cancel_left h).symm
theorem jx_at_ok {cc : ByteArray} {own nL rt kd : Nat} : ∀ {bl : jx_B}, (∀ b ∈ bl, jx_okR cc own nL rt kd b.1 b.2 = true) → ∀ t, jx_okR cc own nL rt kd t (jx_at bl t) = true
  | [], _, _ => rfl
  | b :: r, h, t => by
    unfold jx_at
    by_cases hb : b.1 = t
    · rw [if_pos hb, ← hb]
      exact h b List.mem_cons_self
    · rw [if_neg hb]
      exact jx_at_ok (fun q hq => h q (List.mem_cons_of_mem _ hq)) t
theorem jx_fl_in {own d a b : Nat} (h : jx_FL.any (fun q => decide (q.1 = own ∧ q.2.1 = d ∧ q.2.2.1 = a ∧ q.2.2.2.1 = b)) = true) : Cond.fieldLink (jx_nm own) d (jx_nm a) ((jx_cl.getD a ("", jx_T0, 0)).2.1 b).2.1 ((jx_cl.getD a ("", jx_T0, 0)).2.1 b).2.2.1 ∈ lw_g := by
  obtain ⟨q, hq, h1⟩ := List.any_eq_true.mp h
  obtain ⟨rfl, rfl, rfl, rfl⟩ := of_decide_eq_true h1
  exact jx_FL_ok q hq
theorem jx_ml_in {own d a : Nat} (h : jx_ML.any (fun q => decide (q.1 = own ∧ q.2.1 = d ∧ q.2.2.1 = a)) = true) : Cond.methodLink (jx_nm own) d (jx_ys.getD a ⟨"", "", ""⟩) ∈ lw_g := by
  obtain ⟨q, hq, h1⟩ := List.any_eq_true.mp h
  obtain ⟨rfl, rfl, rfl⟩ := of_decide_eq_true h1
  exact jx_ML_ok q hq
theorem jx_kl_in {own d a : Nat} (h : jx_KL.any (fun q => decide (q.1 = own ∧ q.2.1 = d ∧ q.2.2.1 = a)) = true) : Cond.classLink (jx_nm own) d (jx_nm a) ∈ lw_g := by
  obtain ⟨q, hq, h1⟩ := List.any_eq_true.mp h
  obtain ⟨rfl, rfl, rfl⟩ := of_decide_eq_true h1
  exact jx_KL_ok q hq
theorem jx_cl_in {own d : Nat} {x : Int32} (h : jx_CL.any (fun q => decide (q.1 = own ∧ q.2.1 = d ∧ q.2.2.1 = x)) = true) : Cond.constant (jx_nm own) d x ∈ lw_g := by
  obtain ⟨q, hq, h1⟩ := List.any_eq_true.mp h
  obtain ⟨rfl, rfl, rfl⟩ := of_decide_eq_true h1
  exact jx_CL_ok q hq
theorem jx_ol_in {own d : Nat} (h : jx_OL.any (fun q => decide (q.1 = own ∧ q.2.1 = d)) = true) : Cond.methodLink (jx_nm own) d Lib.objectInit ∈ lw_g := by
  obtain ⟨q, hq, h1⟩ := List.any_eq_true.mp h
  obtain ⟨rfl, rfl⟩ := of_decide_eq_true h1
  exact jx_OL_ok q hq
theorem jx_al_in {own d : Nat} (h : jx_AL.any (fun q => decide (q.1 = own ∧ q.2.1 = d)) = true) : Cond.methodLink (jx_nm own) d arraycopyName ∈ lw_g := by
  obtain ⟨q, hq, h1⟩ := List.any_eq_true.mp h
  obtain ⟨rfl, rfl⟩ := of_decide_eq_true h1
  exact jx_AL_ok q hq
theorem jx_ref_ok {c k : Nat} (h : jx_isr c k = true) (hc : c < 12) (hk : k < jx_N c) (a : Nat) : narrow (jx_ty c k) (.ref a) = .ref a ∧ fits (jx_ty c k) (.ref a) = true := by
  have key : ∀ c, c < 12 → ∀ k, k < 64 → jx_isr c k = true → (match jx_ty c k with | .object _ => true | .array _ => true | _ => false) = true := by decide +kernel
  obtain ⟨T, hT⟩ := jx_cls hc
  have hN : jx_N c ≤ 64 := (jx_cl_ok c _ hT).2.1
  have h1 := key c hc k (by omega) h
  cases ht : jx_ty c k <;> rw [ht] at h1 <;> simp at h1 <;> exact ⟨rfl, rfl⟩
section JXQ
variable {p : Program} {l : Launch} {e : Env} {R : Room} {s : State} {m : MethodId} {args : Array Value} {below : List Frame} {meth : Method} {c : Code} {base : Nat} {D : va_G} {cA : Nat → ClassId} {O : Nat → va_E} {cc : ByteArray} {nL own rt kd : Nat} {Q : State → Prop} {cells slots pc : Nat} {ls st : List Value} {h : jx_H}
set_option maxHeartbeats 4000000 in
theorem jx_one (C : jx_Cx p s m args meth c base D cA cc nL own) {bl : jx_B} {e0 : jx_E} {r r' : List jx_E} {ls' st' : List Value} {h1 : jx_H} (hs : jx_s bl e0 r ls st h = some (.inl (r', ls', st', h1))) (hok : jx_okR cc own nL rt kd pc (e0 :: r) = true) (hbl : ∀ b ∈ bl, jx_okR cc own nL rt kd b.1 b.2 = true)
    (hin : kd = 1 → meth.name = "<init>") (hfr : 1 ≤ R.frames) (hlo : 64 ≤ R.locals) (x0 : List (Nat × Nat)) (hx : h1.1 = h.1 ++ x0) (hcl : cells + x0.length ≤ R.cells) (hsl : slots + jx_sz x0 ≤ R.slots)
    (kk : ∀ pc', jx_okR cc own nL rt kd pc' r' = true → jx_Go p l e R s m args below meth c base D cA O nL Q (cells + x0.length) (slots + jx_sz x0) pc' ls' st' h1) : jx_Go p l e R s m args below meth c base D cA O nL Q cells slots pc ls st h := by
  simp only [jx_okR, jx_okE, Bool.and_eq_true, decide_eq_true_eq] at hok
  obtain ⟨⟨hpc, hd, hsd⟩, hr⟩ := hok
  have hat := jx_at_ok hbl
  obtain ⟨pc0, op, ⟨a, b, c0, d⟩, x, L⟩ := e0
  simp only at hpc
  subst hpc
  match op, hs, hd, hsd, hr with
  | 0, hs, hd, hsd, hr =>
    simp only [jx_s, jx_n] at hs
    split at hs
    · rename_i v hv
      cases hs; obtain rfl := jx_nil hx
      exact jx_iload_n C (by simpa [jx_side] using hsd) hd hv (kk _ hr)
    · cases hs
  | 1, hs, hd, hsd, hr =>
    simp only [jx_s, jx_n] at hs
    split at hs
    · rename_i v hv
      cases hs; obtain rfl := jx_nil hx
      exact jx_iload C hd hv (kk _ hr)
    · cases hs
  | 2, hs, hd, hsd, hr =>
    simp only [jx_s, jx_n] at hs
    split at hs
    · rename_i v hv
      cases hs; obtain rfl := jx_nil hx
      exact jx_aload_n C (by simpa [jx_side] using hsd) hd hv (kk _ hr)
    · cases hs
  | 3, hs, hd, hsd, hr =>
    simp only [jx_s, jx_n] at hs
    split at hs
    · rename_i v hv
      cases hs; obtain rfl := jx_nil hx
      exact jx_aload C hd hv (kk _ hr)
    · cases hs
  | 4, hs, hd, hsd, hr =>
    simp only [jx_s, jx_n] at hs
    split at hs
    · cases hs; obtain rfl := jx_nil hx
      exact jx_istore_n C (by simp [jx_side] at hsd; exact hsd.1) hd (by simp [jx_side] at hsd; exact hsd.2) (kk _ hr)
    · cases hs
  | 5, hs, hd, hsd, hr =>
    simp only [jx_s, jx_n] at hs
    split at hs
    · cases hs; obtain rfl := jx_nil hx
      exact jx_istore C hd (by simpa [jx_side] using hsd) (kk _ hr)
    · cases hs
  | 6, hs, hd, hsd, hr =>
    simp only [jx_s, jx_n] at hs
    split at hs
    · cases hs; obtain rfl := jx_nil hx
      exact jx_astore_n C (by simp [jx_side] at hsd; exact hsd.1) hd (by simp [jx_side] at hsd; exact hsd.2) (kk _ hr)
    · cases hs
  | 7, hs, hd, hsd, hr =>
    simp only [jx_s, jx_n] at hs
    split at hs
    · cases hs; obtain rfl := jx_nil hx
      exact jx_astore C hd (by simpa [jx_side] using hsd) (kk _ hr)
    · cases hs
  | 8, hs, hd, hsd, hr =>
    simp only [jx_s, jx_n] at hs
    cases hs
    obtain rfl := jx_nil hx
    exact jx_iconst C hd (kk _ hr)
  | 9, hs, hd, hsd, hr =>
    simp only [jx_s, jx_n] at hs
    cases hs
    obtain rfl := jx_nil hx
    exact jx_bipush C (by simpa [jx_side] using hsd) hd (kk _ hr)
  | 10, hs, hd, hsd, hr =>
    simp only [jx_s, jx_n] at hs
    cases hs
    obtain rfl := jx_nil hx
    exact jx_sipush C (by simpa [jx_side] using hsd) hd (kk _ hr)
  | 11, hs, hd, hsd, hr =>
    simp only [jx_s, jx_n] at hs
    cases hs
    obtain rfl := jx_nil hx
    exact jx_ldc C (jx_cl_in hsd) hd (kk _ hr)
  | 12, hs, hd, hsd, hr =>
    simp only [jx_s, jx_n] at hs
    cases hs
    obtain rfl := jx_nil hx
    exact jx_ldc_w C (jx_cl_in hsd) hd (kk _ hr)
  | 13, hs, hd, hsd, hr =>
    simp only [jx_s, jx_n] at hs
    split at hs
    · rename_i v hv
      cases hs; obtain rfl := jx_nil hx
      exact jx_iinc C hd hv (kk _ hr)
    · cases hs
  | 14, hs, hd, hsd, hr =>
    simp only [jx_s, jx_n] at hs
    split at hs
    · cases hs; obtain rfl := jx_nil hx
      exact jx_iadd C hd (kk _ hr)
    · cases hs
  | 15, hs, hd, hsd, hr =>
    simp only [jx_s, jx_n] at hs
    split at hs
    · cases hs; obtain rfl := jx_nil hx
      exact jx_isub C hd (kk _ hr)
    · cases hs
  | 16, hs, hd, hsd, hr =>
    simp only [jx_s, jx_n] at hs
    split at hs
    · cases hs; obtain rfl := jx_nil hx
      exact jx_imul C hd (kk _ hr)
    · cases hs
  | 20, hs, hd, hsd, hr =>
    simp only [jx_s, jx_n] at hs
    split at hs
    · cases hs; obtain rfl := jx_nil hx
      exact jx_iand C hd (kk _ hr)
    · cases hs
  | 21, hs, hd, hsd, hr =>
    simp only [jx_s, jx_n] at hs
    split at hs
    · cases hs; obtain rfl := jx_nil hx
      exact jx_ior C hd (kk _ hr)
    · cases hs
  | 22, hs, hd, hsd, hr =>
    simp only [jx_s, jx_n] at hs
    split at hs
    · cases hs; obtain rfl := jx_nil hx
      exact jx_ixor C hd (kk _ hr)
    · cases hs
  | 23, hs, hd, hsd, hr =>
    simp only [jx_s, jx_n] at hs
    split at hs
    · cases hs; obtain rfl := jx_nil hx
      exact jx_ishl C hd (kk _ hr)
    · cases hs
  | 24, hs, hd, hsd, hr =>
    simp only [jx_s, jx_n] at hs
    split at hs
    · cases hs; obtain rfl := jx_nil hx
      exact jx_ishr C hd (kk _ hr)
    · cases hs
  | 25, hs, hd, hsd, hr =>
    simp only [jx_s, jx_n] at hs
    split at hs
    · cases hs; obtain rfl := jx_nil hx
      exact jx_iushr C hd (kk _ hr)
    · cases hs
  | 19, hs, hd, hsd, hr =>
    simp only [jx_s, jx_n] at hs
    split at hs
    · cases hs; obtain rfl := jx_nil hx
      exact jx_ineg C hd (kk _ hr)
    · cases hs
  | 26, hs, hd, hsd, hr =>
    simp only [jx_s, jx_n] at hs
    split at hs
    · cases hs; obtain rfl := jx_nil hx
      exact jx_i2b C hd (kk _ hr)
    · cases hs
  | 27, hs, hd, hsd, hr =>
    simp only [jx_s, jx_n] at hs
    split at hs
    · cases hs; obtain rfl := jx_nil hx
      exact jx_i2s C hd (kk _ hr)
    · cases hs
  | 17, hs, hd, hsd, hr =>
    simp only [jx_s, jx_n] at hs
    split at hs
    · split at hs
      · cases hs
      · rename_i hy
        cases hs; obtain rfl := jx_nil hx
        exact jx_idiv C hy hd (kk _ hr)
    · cases hs
  | 18, hs, hd, hsd, hr =>
    simp only [jx_s, jx_n] at hs
    split at hs
    · split at hs
      · cases hs
      · rename_i hy
        cases hs; obtain rfl := jx_nil hx
        exact jx_irem C hy hd (kk _ hr)
    · cases hs
  | 28, hs, hd, hsd, hr =>
    simp only [jx_s, jx_n] at hs
    split at hs
    · cases hs; obtain rfl := jx_nil hx
      exact jx_dup C rfl hd (kk _ hr)
    · cases hs; obtain rfl := jx_nil hx
      exact jx_dup C rfl hd (kk _ hr)
    · cases hs
  | 29, hs, hd, hsd, hr =>
    simp only [jx_s, jx_n] at hs
    split at hs
    · cases hs; obtain rfl := jx_nil hx
      exact jx_dup2 C rfl rfl hd (kk _ hr)
    · cases hs
  | 30, hs, hd, hsd, hr =>
    simp only [jx_s, jx_n] at hs
    split at hs
    · cases hs; obtain rfl := jx_nil hx
      exact jx_dup_x1 C rfl rfl hd (kk _ hr)
    · cases hs
  | 31, hs, hd, hsd, hr =>
    simp only [jx_s, jx_n] at hs
    split at hs
    · cases hs; obtain rfl := jx_nil hx
      exact jx_pop C rfl hd (kk _ hr)
    · cases hs
  | 32, hs, hd, hsd, hr =>
    simp only [jx_s, jx_n] at hs
    simp only [jx_side, Bool.and_eq_true, decide_eq_true_eq, Bool.not_eq_true'] at hsd
    obtain ⟨⟨⟨ha, hb⟩, hi⟩, hf⟩ := hsd
    split at hs
    · split at hs
      · rename_i ho
        cases hs; obtain rfl := jx_nil hx
        have hb64 : b < 64 := by
          obtain ⟨T, hT⟩ := jx_cls ha
          exact Nat.lt_of_lt_of_le hb (jx_cl_ok a _ hT).2.1
        exact jx_get C ha hb ho (jx_fl_in hf) hd (by simp [jx_f, hb64, hi, jx_V]) (kk _ hr)
      · cases hs
    · cases hs
  | 33, hs, hd, hsd, hr =>
    simp only [jx_s, jx_n] at hs
    simp only [jx_side, Bool.and_eq_true, decide_eq_true_eq, Bool.not_eq_true'] at hsd
    obtain ⟨⟨⟨ha, hb⟩, hi⟩, hf⟩ := hsd
    split at hs
    · split at hs
      · rename_i ho
        cases hs; obtain rfl := jx_nil hx
        have hb64 : b < 64 := by
          obtain ⟨T, hT⟩ := jx_cls ha
          exact Nat.lt_of_lt_of_le hb (jx_cl_ok a _ hT).2.1
        exact jx_get C ha hb ho (jx_fl_in hf) hd (by simp [jx_f, hb64, hi, jx_V]) (kk _ hr)
      · cases hs
    · cases hs
  | 34, hs, hd, hsd, hr =>
    simp only [jx_s, jx_n] at hs
    simp only [jx_side, Bool.and_eq_true, decide_eq_true_eq] at hsd
    obtain ⟨⟨ha, hb, hty, hfi⟩, hf⟩ := hsd
    split at hs
    · split at hs
      · rename_i ho
        cases hs; obtain rfl := jx_nil hx
        have hb64 : b < 64 := by
          obtain ⟨T, hT⟩ := jx_cls ha
          exact Nat.lt_of_lt_of_le hb (jx_cl_ok a _ hT).2.1
        have hi : jx_isr a b = false := by simp [jx_isr, hty]
        have k2 := kk _ hr
        refine jx_put C ha hb ho (jx_fl_in hf) hd (Or.inl hfi) ?_ ?_ ?_ ?_ ?_ ?_ k2
        · rw [hty]; rfl
        · rw [hty]; rfl
        · rfl
        · rfl
        · exact fun q hq => ⟨rfl, by simp [jx_up, hq]⟩
        · simp [jx_f, hb64, hi, jx_V, jx_up]
      · cases hs
    · cases hs
  | 35, hs, hd, hsd, hr =>
    simp only [jx_s, jx_n] at hs
    simp only [jx_side, Bool.and_eq_true, decide_eq_true_eq] at hsd
    obtain ⟨⟨ha, hb, hty, hfi⟩, hf⟩ := hsd
    split at hs
    · split at hs
      · rename_i hov
        obtain ⟨ho, hv01⟩ := hov
        cases hs; obtain rfl := jx_nil hx
        have hb64 : b < 64 := by
          obtain ⟨T, hT⟩ := jx_cls ha
          exact Nat.lt_of_lt_of_le hb (jx_cl_ok a _ hT).2.1
        have hi : jx_isr a b = false := by simp [jx_isr, hty]
        have k2 := kk _ hr
        refine jx_put C ha hb ho (jx_fl_in hf) hd (Or.inl hfi) ?_ ?_ ?_ ?_ ?_ ?_ k2
        · rw [hty]; rcases hv01 with rfl | rfl <;> rfl
        · rw [hty]; rcases hv01 with rfl | rfl <;> rfl
        · rfl
        · rfl
        · exact fun q hq => ⟨rfl, by simp [jx_up, hq]⟩
        · simp [jx_f, hb64, hi, jx_V, jx_up]
      · cases hs
    · cases hs
  | 36, hs, hd, hsd, hr =>
    simp only [jx_s, jx_n] at hs
    simp only [jx_side, Bool.and_eq_true, decide_eq_true_eq] at hsd
    obtain ⟨⟨⟨ha, hb, hfi⟩, hi⟩, hf⟩ := hsd
    split at hs
    · split at hs
      · rename_i ho
        cases hs; obtain rfl := jx_nil hx
        have hb64 : b < 64 := by
          obtain ⟨T, hT⟩ := jx_cls ha
          exact Nat.lt_of_lt_of_le hb (jx_cl_ok a _ hT).2.1
        have k2 := kk _ hr
        refine jx_put C ha hb ho (jx_fl_in hf) hd (Or.inl hfi) ?_ ?_ ?_ ?_ ?_ ?_ k2
        · exact (jx_ref_ok hi ha hb _).1
        · exact (jx_ref_ok hi ha hb _).2
        · rfl
        · rfl
        · exact fun q hq => ⟨by simp [jx_up, hq], rfl⟩
        · simp [jx_f, hb64, hi, jx_V, jx_up]
      · cases hs
    · cases hs
  | 37, hs, hd, hsd, hr =>
    simp only [jx_s, jx_n] at hs
    simp only [jx_side, Bool.and_eq_true, decide_eq_true_eq] at hsd
    obtain ⟨⟨⟨ha, hb, hfi, hkd, hoa⟩, hi⟩, hf⟩ := hsd
    split at hs
    · split at hs
      · rename_i ho
        cases hs; obtain rfl := jx_nil hx
        have hb64 : b < 64 := by
          obtain ⟨T, hT⟩ := jx_cls ha
          exact Nat.lt_of_lt_of_le hb (jx_cl_ok a _ hT).2.1
        have k2 := kk _ hr
        refine jx_put C ha hb ho (jx_fl_in hf) hd (Or.inr ⟨hfi, hin hkd, hoa⟩) ?_ ?_ ?_ ?_ ?_ ?_ k2
        · exact (jx_ref_ok hi ha hb _).1
        · exact (jx_ref_ok hi ha hb _).2
        · rfl
        · rfl
        · exact fun q hq => ⟨by simp [jx_up, hq], rfl⟩
        · simp [jx_f, hb64, hi, jx_V, jx_up]
      · cases hs
    · cases hs
  | 38, hs, hd, hsd, hr =>
    simp only [jx_s, jx_n] at hs
    split at hs
    · split at hs
      · rename_i n ho
        split at hs
        · rename_i hin
          cases hs; obtain rfl := jx_nil hx
          exact jx_iaload C ho hin hd (kk _ hr)
        · cases hs
      · cases hs
    · cases hs
  | 39, hs, hd, hsd, hr =>
    simp only [jx_s, jx_n] at hs
    split at hs
    · split at hs
      · rename_i n ho
        split at hs
        · rename_i hin
          cases hs; obtain rfl := jx_nil hx
          exact jx_baload C ho hin hd (kk _ hr)
        · cases hs
      · rename_i n ho
        split at hs
        · rename_i hin
          cases hs; obtain rfl := jx_nil hx
          exact jx_zaload C ho hin hd (kk _ hr)
        · cases hs
      · cases hs
    · cases hs
  | 40, hs, hd, hsd, hr => cases hs
  | 41, hs, hd, hsd, hr =>
    simp only [jx_s, jx_n] at hs
    split at hs
    · split at hs
      · rename_i n ho
        split at hs
        · rename_i hin
          cases hs; obtain rfl := jx_nil hx
          exact jx_iastore C ho hin hd (kk _ hr)
        · cases hs
      · cases hs
    · cases hs
  | 42, hs, hd, hsd, hr =>
    simp only [jx_s, jx_n] at hs
    split at hs
    · split at hs
      · rename_i n ho
        split at hs
        · rename_i hin
          cases hs; obtain rfl := jx_nil hx
          exact jx_bastore C ho hin hd (kk _ hr)
        · cases hs
      · rename_i n ho
        split at hs
        · rename_i hin
          cases hs; obtain rfl := jx_nil hx
          exact jx_zastore C ho hin hd (kk _ hr)
        · cases hs
      · cases hs
    · cases hs
  | 43, hs, hd, hsd, hr => cases hs
  | 44, hs, hd, hsd, hr =>
    simp only [jx_s, jx_n] at hs
    split at hs
    · split at hs
      · rename_i n ho
        split at hs
        · rename_i hin
          split at hs
          · rename_i hv
            cases hs; obtain rfl := jx_nil hx
            exact jx_aaload C ho hin.1 hin.2 hv hd (kk _ hr)
          · cases hs
        · cases hs
      · cases hs
    · cases hs
  | 45, hs, hd, hsd, hr =>
    simp only [jx_s, jx_n] at hs
    split at hs
    · split at hs
      · rename_i n ho
        split at hs
        · rename_i hin
          cases hs; obtain rfl := jx_nil hx
          exact jx_aastore C ho hin.1 hin.2.1 hin.2.2 hd (kk _ hr)
        · cases hs
      · cases hs
    · cases hs
  | 46, hs, hd, hsd, hr =>
    simp only [jx_s, jx_n] at hs
    have ha3 : a < 3 := by simpa [jx_side] using hsd
    split at hs
    · split at hs
      · rename_i ho
        cases hs
        obtain rfl := jx_app hx
        match a, ha3, hd with
        | 0, _, hd => exact jx_newi C ho.1 ho.2 hcl hsl hd (kk _ hr)
        | 1, _, hd => exact jx_newb C ho.1 ho.2 hcl hsl hd (kk _ hr)
        | 2, _, hd => exact jx_newz C ho.1 ho.2 hcl hsl hd (kk _ hr)
      · cases hs
    · cases hs
  | 47, hs, hd, hsd, hr =>
    simp only [jx_s, jx_n] at hs
    split at hs
    · split at hs
      · rename_i ho
        cases hs
        obtain rfl := jx_app hx
        exact jx_anew C (jx_kl_in hsd) ho.1 ho.2 hcl hsl hd (kk _ hr)
      · cases hs
    · cases hs
  | 48, hs, hd, hsd, hr =>
    simp only [jx_s, jx_n] at hs
    simp only [jx_side, Bool.and_eq_true, decide_eq_true_eq] at hsd
    cases hs
    obtain rfl := jx_app hx
    exact jx_new C hsd.1.1 hsd.1.2 (jx_kl_in hsd.2) hcl hsl hd (kk _ hr)
  | 49, hs, hd, hsd, hr =>
    simp only [jx_s] at hs
    split at hs
    · split at hs <;> cases hs
    · cases hs
  | 50, hs, hd, hsd, hr =>
    simp only [jx_s] at hs
    split at hs <;> cases hs
  | 51, hs, hd, hsd, hr =>
    simp only [jx_s] at hs
    split at hs
    · split at hs <;> cases hs
    · cases hs
  | 52, hs, hd, hsd, hr =>
    simp only [jx_s, jx_n] at hs
    split at hs
    · split at hs
      · rename_i h8
        cases hs; obtain rfl := jx_nil hx
        exact jx_oinit C (jx_ol_in hsd) h8 hfr hlo hd (kk _ hr)
      · cases hs
    · cases hs
  | 53, hs, hd, hsd, hr =>
    simp only [jx_s, jx_n] at hs
    split at hs
    · split at hs
      · rename_i ho1 ho2
        split at hs
        · rename_i ho
          cases hs; obtain rfl := jx_nil hx
          exact jx_acopy C (jx_al_in hsd) ho1 ho2 ho.1 ho.2.1 ho.2.2.1 ho.2.2.2.1 ho.2.2.2.2.1 ho.2.2.2.2.2 hfr hlo hd (kk _ hr)
        · cases hs
      · cases hs
    · cases hs
  | 54, hs, hd, hsd, hr =>
    simp only [jx_s, jx_n] at hs
    cases hs
    obtain rfl := jx_nil hx
    exact jx_goto C hd (kk _ (hat a))
  | 55, hs, hd, hsd, hr =>
    simp only [jx_s, jx_n] at hs
    split at hs
    · cases hs; obtain rfl := jx_nil hx
      exact jx_if_eq C hd (fun q => by rw [if_pos q] at kk; exact kk _ (hat a)) (fun q => by rw [if_neg q] at kk; exact kk _ hr)
    · cases hs
  | 56, hs, hd, hsd, hr =>
    simp only [jx_s, jx_n] at hs
    split at hs
    · cases hs; obtain rfl := jx_nil hx
      exact jx_if_ne C hd (fun q => by rw [if_pos q] at kk; exact kk _ (hat a)) (fun q => by rw [if_neg q] at kk; exact kk _ hr)
    · cases hs
  | 57, hs, hd, hsd, hr =>
    simp only [jx_s, jx_n] at hs
    split at hs
    · cases hs; obtain rfl := jx_nil hx
      exact jx_if_lt C hd (fun q => by rw [if_pos q] at kk; exact kk _ (hat a)) (fun q => by rw [if_neg q] at kk; exact kk _ hr)
    · cases hs
  | 58, hs, hd, hsd, hr =>
    simp only [jx_s, jx_n] at hs
    split at hs
    · cases hs; obtain rfl := jx_nil hx
      exact jx_if_ge C hd (fun q => by rw [if_pos q] at kk; exact kk _ (hat a)) (fun q => by rw [if_neg q] at kk; exact kk _ hr)
    · cases hs
  | 59, hs, hd, hsd, hr =>
    simp only [jx_s, jx_n] at hs
    split at hs
    · cases hs; obtain rfl := jx_nil hx
      exact jx_if_gt C hd (fun q => by rw [if_pos q] at kk; exact kk _ (hat a)) (fun q => by rw [if_neg q] at kk; exact kk _ hr)
    · cases hs
  | 60, hs, hd, hsd, hr =>
    simp only [jx_s, jx_n] at hs
    split at hs
    · cases hs; obtain rfl := jx_nil hx
      exact jx_if_le C hd (fun q => by rw [if_pos q] at kk; exact kk _ (hat a)) (fun q => by rw [if_neg q] at kk; exact kk _ hr)
    · cases hs
  | 61, hs, hd, hsd, hr =>
    simp only [jx_s, jx_n] at hs
    split at hs
    · cases hs; obtain rfl := jx_nil hx
      exact jx_icmp_eq C hd (fun q => by rw [if_pos q] at kk; exact kk _ (hat a)) (fun q => by rw [if_neg q] at kk; exact kk _ hr)
    · cases hs
  | 62, hs, hd, hsd, hr =>
    simp only [jx_s, jx_n] at hs
    split at hs
    · cases hs; obtain rfl := jx_nil hx
      exact jx_icmp_ne C hd (fun q => by rw [if_pos q] at kk; exact kk _ (hat a)) (fun q => by rw [if_neg q] at kk; exact kk _ hr)
    · cases hs
  | 63, hs, hd, hsd, hr =>
    simp only [jx_s, jx_n] at hs
    split at hs
    · cases hs; obtain rfl := jx_nil hx
      exact jx_icmp_lt C hd (fun q => by rw [if_pos q] at kk; exact kk _ (hat a)) (fun q => by rw [if_neg q] at kk; exact kk _ hr)
    · cases hs
  | 64, hs, hd, hsd, hr =>
    simp only [jx_s, jx_n] at hs
    split at hs
    · cases hs; obtain rfl := jx_nil hx
      exact jx_icmp_ge C hd (fun q => by rw [if_pos q] at kk; exact kk _ (hat a)) (fun q => by rw [if_neg q] at kk; exact kk _ hr)
    · cases hs
  | 65, hs, hd, hsd, hr =>
    simp only [jx_s, jx_n] at hs
    split at hs
    · cases hs; obtain rfl := jx_nil hx
      exact jx_icmp_gt C hd (fun q => by rw [if_pos q] at kk; exact kk _ (hat a)) (fun q => by rw [if_neg q] at kk; exact kk _ hr)
    · cases hs
  | 66, hs, hd, hsd, hr =>
    simp only [jx_s, jx_n] at hs
    split at hs
    · cases hs; obtain rfl := jx_nil hx
      exact jx_icmp_le C hd (fun q => by rw [if_pos q] at kk; exact kk _ (hat a)) (fun q => by rw [if_neg q] at kk; exact kk _ hr)
    · cases hs
  | 67, hs, hd, hsd, hr =>
    simp only [jx_s, jx_n] at hs
    split at hs
    · cases hs; obtain rfl := jx_nil hx
      refine jx_tsw C (fun i q hq => ?_) hd (kk _ (hat _))
      have h1 := List.all_eq_true.mp hsd (q, i) (List.mem_of_getElem? (i := i) (by rw [List.getElem?_zipIdx, hq]; simp))
      simpa using h1
    · cases hs
  | 68, hs, hd, hsd, hr =>
    simp only [jx_s, jx_n] at hs
    split at hs
    · cases hs; obtain rfl := jx_nil hx
      exact jx_lsw C hsd hd (kk _ (hat _))
    · cases hs
  | 69, hs, hd, hsd, hr =>
    simp only [jx_s] at hs
    split at hs <;> cases hs
  | 70, hs, hd, hsd, hr =>
    simp only [jx_s] at hs
    split at hs
    · split at hs <;> cases hs
    · cases hs
  | 71, hs, hd, hsd, hr =>
    simp only [jx_s] at hs
    split at hs <;> cases hs
  | 72, hs, hd, hsd, hr =>
    simp only [jx_s, jx_n] at hs
    simp only [jx_side, Bool.and_eq_true, decide_eq_true_eq] at hsd
    split at hs
    · split at hs
      · rename_i h8
        cases hs; obtain rfl := jx_nil hx
        have hw := jx_ml_in hsd.1
        rw [hsd.2] at hw
        exact jx_mmax C hw h8 hfr hlo (by simpa using hcl) (by simpa [jx_sz] using hsl) hd (kk _ hr)
      · cases hs
    · cases hs
  | 73, hs, hd, hsd, hr =>
    simp only [jx_s, jx_n] at hs
    simp only [jx_side, Bool.and_eq_true, decide_eq_true_eq] at hsd
    split at hs
    · split at hs
      · rename_i h8
        cases hs; obtain rfl := jx_nil hx
        have hw := jx_ml_in hsd.1
        rw [hsd.2] at hw
        exact jx_mmin C hw h8 hfr hlo (by simpa using hcl) (by simpa [jx_sz] using hsl) hd (kk _ hr)
      · cases hs
    · cases hs
  | n + 74, hs, hd, hsd, hr => cases hs
end JXQ
end
section
/-! ===== what the small machine answers, the machine does ===== -/
def jx_rt (r : Option FieldType) : Nat := match r with
  | none => 0
  | some .int => 1
  | some .boolean => 2
  | _ => 3
def jx_okM (m : Nat) (i : jx_M) : Prop :=
  jx_ys[m]? = some i.1 ∧ i.1.cls = jx_nm i.2.2.2.2.2.2.1 ∧ plainName i.1.cls = true ∧ (i.1.cls ≠ "java/lang/invoke/MethodHandle" ∧ i.1.cls ≠ "java/lang/invoke/VarHandle") ∧
  (parseMethodDescriptor i.1.desc).map (fun d => d.parameters.length) = some (if i.2.2.2.2.1 = 2 then i.2.2.2.2.2.1 else i.2.2.2.2.2.1 - 1) ∧
  Cond.code i.1 i.2.1 i.2.2.1 i.2.2.2.1 ∈ lw_g ∧ Cond.initialized i.1.cls ∈ lw_g ∧
  (i.2.2.2.2.1 = 0 → Cond.instanceMethod i.1 ∈ lw_g ∧ Cond.selects i.1.cls i.1 i.1 ∈ lw_g ∧ i.2.2.2.2.2.2.1 < 12) ∧
  (i.2.2.2.2.1 = 1 → i.1.name = "<init>" ∧ Cond.instanceMethod i.1 ∈ lw_g ∧ i.2.2.2.1 = none) ∧
  (i.2.2.2.2.1 = 2 → Cond.static i.1 ∈ lw_g) ∧ i.2.2.1 ≤ 40 ∧ i.2.2.2.2.2.1 ≤ i.2.2.1 ∧ jx_rt i.2.2.2.1 < 3 ∧ jx_kc[m]? = some (i.2.2.2.2.1, i.2.2.2.2.2.2.1) ∧
  ∀ b ∈ i.2.2.2.2.2.2.2, jx_okR i.2.1 i.2.2.2.2.2.2.1 i.2.2.1 (jx_rt i.2.2.2.1) i.2.2.2.2.1 b.1 b.2 = true
set_option maxHeartbeats 4000000 in
theorem jx_grow1 {bl : jx_B} {e0 : jx_E} {r r' : List jx_E} {ls st ls' st' : List Value} {h h1 : jx_H} (hs : jx_s bl e0 r ls st h = some (.inl (r', ls', st', h1))) : ∃ x, h1.1 = h.1 ++ x := by
  obtain ⟨pc0, op, ⟨a, b, c0, d⟩, x, L⟩ := e0
  unfold jx_s at hs
  simp only [jx_n] at hs
  split at hs
  all_goals (repeat' (split at hs))
  all_goals (first | (cases hs; exact ⟨[], (List.append_nil _).symm⟩) | (cases hs; exact ⟨[_], rfl⟩) | cases hs)
theorem jx_grow {MS : List jx_M} : ∀ (n d : Nat) (bl : jx_B) (rem : List jx_E) (ls st : List Value) (h : jx_H) (v : Option Value) (h' : jx_H), jx_x MS d n bl rem ls st h = some (v, h') → ∃ x, h'.1 = h.1 ++ x
  | 0, d, bl, rem, ls, st, h, v, h', hx => by cases hx
  | n + 1, d, bl, [], ls, st, h, v, h', hx => by cases hx
  | n + 1, d, bl, e :: r, ls, st, h, v, h', hx => by
    unfold jx_x at hx
    simp only at hx
    split at hx
    · cases hx
    · rename_i q hq
      obtain ⟨q1, q2, q3, q4⟩ := q
      obtain ⟨x1, e1⟩ := jx_grow1 hq
      obtain ⟨x2, e2⟩ := jx_grow n _ _ _ _ _ _ _ _ hx
      exact ⟨x1 ++ x2, by rw [e2]; simp only; rw [e1, List.append_assoc]⟩
    · cases hx
      exact ⟨[], (List.append_nil _).symm⟩
    · split at hx
      · split at hx
        · split at hx
          · rename_i y hy
            obtain ⟨x1, e1⟩ := jx_grow n _ _ _ _ _ _ _ _ hy
            obtain ⟨x2, e2⟩ := jx_grow n _ _ _ _ _ _ _ _ hx
            exact ⟨x1 ++ x2, by rw [e2, e1, List.append_assoc]⟩
          · cases hx
        · cases hx
      · cases hx
def jx_Bd (base : Nat) (D : va_G) (cA : Nat → ClassId) (O : Nat → va_E) (h : jx_H) (U : State) : Prop := va_P D jx_cl (jx_ws base cA O h) U.heap ∧ jx_KK D cA U ∧ U.heap.size = base + h.1.length
def jx_Qc (base : Nat) (D : va_G) (cA : Nat → ClassId) (O : Nat → va_E) (v : Option Value) (h' : jx_H) : Array Value → State → Outcome → State → Prop := fun _ st o t =>
  (o = .returned (v.map (jx_V base)) ∧ jx_Bd base D cA O h' t) ∧ va_F (fun q => base ≤ q) st t
def jx_rm (d mc ms : Nat) : Room := { frames := d + 1, cells := mc, slots := ms, locals := 64 * (d + 1) }
def jx_wsM (i : jx_M) : List Cond := Cond.code i.1 i.2.1 i.2.2.1 i.2.2.2.1 :: lw_g
def jx_MetM (l : Launch) (base : Nat) (D : va_G) (cA : Nat → ClassId) (O : Nat → va_E) (d : Nat) (i : jx_M) (as : List Value) (h : jx_H) (v : Option Value) (h' : jx_H) (x : List (Nat × Nat)) : Prop :=
  Met l i.1 (jx_wsM i) (jx_rm d x.length (jx_sz x)) (va_Pc (as.map (jx_V base)) (jx_Bd base D cA O h)) (jx_Qc base D cA O v h') x.length (jx_sz x) (fun q => base ≤ q)
theorem jx_good {m : Nat} {i : jx_M} (h : jx_okM m i) : GoodIn lw_g (jx_wsM i) := by
  intro w hw
  have hm : w ∈ lw_g := by
    rcases List.mem_cons.mp hw with rfl | hw
    · exact h.2.2.2.2.2.1
    · exact hw
  exact ⟨hm, good_of_word (List.mem_filter.mp hm).2⟩
theorem jx_blind {base : Nat} {D : va_G} {cA : Nat → ClassId} {O : Nat → va_E} {as : List Value} {h : jx_H} : FrameBlind (va_Pc as (jx_Bd base D cA O h)) := fun a U g mk q => ⟨q.1, q.2.1, jx_KK.moved (u := U) (U := U.calling g mk a) (Vm.Alike.refl U.vm) q.2.2.1, q.2.2.2⟩
section JXS
variable {p : Program} {l : Launch} {e : Env} {R : Room} {s : State} {m : MethodId} {args : Array Value} {below : List Frame} {meth : Method} {c : Code} {base : Nat} {D : va_G} {cA : Nat → ClassId} {O : Nat → va_E} {cc : ByteArray} {nL own : Nat} {Q : State → Prop} {cells slots pc : Nat} {ls st : List Value} {h : jx_H}
theorem jx_after {H : Heap} {locs : List Loc} {lsA : Array Slot} {st0 rest : List Value} {mc ms : Nat} {v : Option Value} {h1 : jx_H} {av : Array Value} (hr : va_Run p l e R s m args below meth c H locs cells slots mc ms (F0 m pc lsA st0) rest (jx_Qc base D cA O v h1 av) (fun q => base ≤ q)) (hS : va_S (fun q => base ≤ q) s.heap H locs) (hL : jx_L base ls lsA nL) (hrest : rest = st.map (jx_V base))
    (kk : jx_Go p l e R s m args below meth c base D cA O nL Q (cells + mc) (slots + ms) (pc + 3) ls (v.toList ++ st) h1) : W p l e R s m args below meth c H locs cells slots Q (F0 m pc lsA st0) := by
  intro T hT X
  obtain ⟨v', st₀, t, T', L, h0, X', hLo, e1, e2, ⟨⟨hv, hP1, hK1, hz1⟩, hz, hk⟩, stp⟩ := hr T hT X
  have hv2 : v' = v.map (jx_V base) := Outcome.returned.inj hv
  subst hv2
  rw [h0] at hz hk
  obtain ⟨t2, a1, b1⟩ := kk T'.heap (locs ++ L) lsA (by rw [e1]; exact hP1) (by rw [e1]; exact hz1)
    ⟨Nat.le_trans hS.1 (by rw [e1]; exact hz), fun q h1 h2 => by rw [e1, hk q (Nat.lt_of_lt_of_le h1 hS.1) h2]; exact hS.2.1 q h1 h2, fun q hq => by
      rcases List.mem_append.mp hq with h | h
      · exact hS.2.2 q h
      · exact hLo q h⟩ hL T' rfl X'
  refine ⟨t2, stp t2 ?_, b1⟩
  have e3 : (v.toList ++ st).map (jx_V base) = (v.map (jx_V base)).toList ++ rest := by
    rw [hrest, List.map_append]
    cases v <;> rfl
  rw [e3] at a1
  exact a1
theorem jx_cat_map (st : List Value) : ((st.map (jx_V base)).map fun v => v.category) = st.map fun v => v.category := by
  rw [List.map_map]
  exact List.map_congr_left fun v _ => jx_V_cat base v
theorem jx_callB {m0 d' : Nat} {i : jx_M} {x1 : List (Nat × Nat)} {d : Nat} (C : jx_Cx p s m args meth c base D cA cc nL own) (hi : jx_okM m0 i) (hw : Cond.methodLink (jx_nm own) d i.1 ∈ lw_g) (hfr : d' + 1 + 1 ≤ R.frames) (hlo : 64 * (d' + 1 + 1) ≤ R.locals) {n0 : Nat} (hn0 : n0 = (if i.2.2.2.2.1 = 2 then i.2.2.2.2.2.1 else i.2.2.2.2.2.1 - 1)) :
    CallB R s args (jx_nm own) d i.1 i.2.1 i.2.2.1 i.2.2.2.1 (jx_wsM i) (jx_rm d' x1.length (jx_sz x1)) x1.length (jx_sz x1) n0 := by
  have hts := C.2.2.2.2.1
  have h40 := hi.2.2.2.2.2.2.2.2.2.2.1
  refine callB_of (Ts := lw_g) n0 hts (jx_good hi) rfl rfl rfl (hts _ hi.2.2.2.2.2.2.1) (hts _ hw) ⟨hi.2.2.2.1.1, hi.2.2.2.1.2, ?_⟩ ⟨hfr, ?_⟩
  · rw [hn0]; exact hi.2.2.2.2.1
  · show 8 + (i.2.2.1 + 11) + 64 * (d' + 1) ≤ R.locals
    omega
/-- a call of a method of the small machine -/
theorem jx_call {m0 d' : Nat} {i : jx_M} {as : List Value} {h1 : jx_H} {v : Option Value} {x1 : List (Nat × Nat)} {op a b c0 d : Nat} {x : Int32} {L : List (Int32 × Nat)} {bl : jx_B} {r r' : List jx_E} {ls' st' : List Value} (C : jx_Cx p s m args meth c base D cA cc nL own) (hi : jx_okM m0 i)
    (hM : jx_MetM l base D cA O d' i as h v h1 x1) (hs : jx_s bl (pc, op, (a, b, c0, d), x, L) r ls st h = some (.inr (.inl (m0, as, r', ls', st')))) (hlen : as.length = i.2.2.2.2.2.1) (hd : decode cc pc = .ok (jx_ins (pc, op, (a, b, c0, d), x, L))) {rt kd : Nat} (hsd : jx_side own nL rt kd (pc, op, (a, b, c0, d), x, L) = true)
    (hfr : d' + 1 + 1 ≤ R.frames) (hlo : 64 * (d' + 1 + 1) ≤ R.locals) (hcl : cells + x1.length ≤ R.cells) (hsl : slots + jx_sz x1 ≤ R.slots)
    (kk : jx_Go p l e R s m args below meth c base D cA O nL Q (cells + x1.length) (slots + jx_sz x1) (pc + 3) ls' (v.toList ++ st') h1) : r' = r ∧ jx_Go p l e R s m args below meth c base D cA O nL Q cells slots pc ls st h := by
  have hys : jx_ys.getD m0 ⟨"", "", ""⟩ = i.1 := by rw [List.getD_eq_getElem?_getD, hi.1]; rfl
  have hpre : ∀ (H : Heap), va_P D jx_cl (jx_ws base cA O h) H → H.size = base + h.1.length → ∀ U : State, U.heap = H → s.WarmedH U.vm → va_Pc (as.map (jx_V base)) (jx_Bd base D cA O h) (as.map (jx_V base)).toArray U := fun H hP hz U hU hW => ⟨rfl, by rw [hU]; exact hP, jx_KK.moved hW.alike C.2.2.2.2.2.1, by rw [hU]; exact hz⟩
  by_cases h49 : op = 49
  · subst h49
    simp only [jx_s] at hs
    split at hs
    · rename_i o as' hrev
      split at hs
      · rename_i hc
        simp only [Option.some.injEq, Sum.inr.injEq, Sum.inl.injEq, Prod.mk.injEq] at hs
        obtain ⟨rfl, rfl, rfl, rfl, rfl⟩ := hs
        refine ⟨rfl, fun H locs lsA hP hz hS hL => ?_⟩
        have hkc := hi.2.2.2.2.2.2.2.2.2.2.2.2.2.1
        simp only [jx_side, Bool.and_eq_true, decide_eq_true_eq] at hsd
        obtain ⟨hsd, hkd⟩ := hsd
        rw [hkc] at hkd
        obtain ⟨hk0, hc0⟩ : i.2.2.2.2.1 = 0 ∧ c0 = i.2.2.2.2.2.2.1 := by
          simp only [Option.some.injEq, Prod.mk.injEq] at hkd
          exact ⟨hkd.1, hkd.2.symm⟩
        obtain ⟨hi1, hi2, hi3⟩ := hi.2.2.2.2.2.2.2.1 hk0
        have hw := jx_ml_in hsd
        rw [hys] at hw
        have hlb : as'.length + 1 = b := hc.2.1
        have hst : st = as'.reverse ++ .ref o :: st.drop b := by
          have h1 : st.take b = (.ref o :: as').reverse := by rw [← hrev, List.reverse_reverse]
          have h2 := List.take_append_drop b st
          rw [h1, List.reverse_cons, List.append_assoc] at h2
          exact h2.symm
        obtain ⟨hl1, lv, hl2, hl3⟩ := id hL
        refine jx_after (mc := x1.length) (ms := jx_sz x1) (rest := (st.drop b).map (jx_V base)) (va_runV (C := i.1.cls) (b := base + o) (As := as'.map (jx_V base)) (n := as'.length) (index := d) (own := jx_nm own) (Ts := lw_g) (cc := cc) (nL := nL) ⟨C.1, C.2.1, C.2.2.1, C.2.2.2.1, C.2.2.2.2.1⟩ hM ⟨jx_callB C hi hw hfr hlo (by rw [if_neg (by omega)]; rw [List.length_cons] at hlen; omega), C.2.2.2.2.1 _ hi1, C.2.2.2.2.1 _ hi2⟩ ⟨jx_blind, ?_, hpre H hP hz⟩ rfl (by rw [List.length_map]) (by show lsA.size = nL; rw [hl2.1]) ?_ ?_ hd ⟨hcl, hsl⟩) hS hL rfl kk
        · obtain ⟨T, hT⟩ := jx_cls hi3
          rw [hi.2.1, ← hc0]
          rw [← hc0] at hT
          exact va_recv C.2.2.2.2.2.1.1 hP hT (jx_obj_at hc.1)
        · show st.map (jx_V base) = _
          rw [← List.map_reverse]
          conv => lhs; rw [hst]
          rw [List.map_append]
          rfl
        · show 2 * 0 + _ ≤ 8
          rw [jx_cat_map]
          have : ((st.drop b).map fun v => v.category).sum ≤ 8 := hc.2.2
          omega
      · cases hs
    · cases hs
  · by_cases h50 : op = 50
    · subst h50
      simp only [jx_s] at hs
      split at hs
      · rename_i hc
        simp only [Option.some.injEq, Sum.inr.injEq, Sum.inl.injEq, Prod.mk.injEq] at hs
        obtain ⟨rfl, rfl, rfl, rfl, rfl⟩ := hs
        refine ⟨rfl, fun H locs lsA hP hz hS hL => ?_⟩
        have hkc := hi.2.2.2.2.2.2.2.2.2.2.2.2.2.1
        simp only [jx_side, Bool.and_eq_true, decide_eq_true_eq] at hsd
        obtain ⟨hsd, hkd⟩ := hsd
        rw [hkc] at hkd
        have hk0 : i.2.2.2.2.1 = 2 := by simpa using hkd
        have hi1 := hi.2.2.2.2.2.2.2.2.2.1 hk0
        have hw := jx_ml_in hsd
        rw [hys] at hw
        obtain ⟨hl1, lv, hl2, hl3⟩ := id hL
        refine jx_after (mc := x1.length) (ms := jx_sz x1) (rest := (st.drop b).map (jx_V base)) (va_runS (As := (st.take b).reverse.map (jx_V base)) (n := (st.take b).reverse.length) (index := d) (own := jx_nm own) (Ts := lw_g) (cc := cc) (nL := nL) ⟨C.1, C.2.1, C.2.2.1, C.2.2.2.1, C.2.2.2.2.1⟩ hM ⟨jx_callB C hi hw hfr hlo (by rw [if_pos hk0]; exact hlen), C.2.2.2.2.1 _ hi1⟩ ⟨jx_blind, hpre H hP hz⟩ rfl (by rw [List.length_map]) (by show lsA.size = nL; rw [hl2.1]) ?_ ?_ hd ⟨hcl, hsl⟩) hS hL rfl kk
        · show st.map (jx_V base) = _
          rw [← List.map_reverse, List.reverse_reverse, ← List.map_append, List.take_append_drop]
        · show 2 * 0 + _ ≤ 8
          rw [jx_cat_map]
          have : ((st.drop b).map fun v => v.category).sum ≤ 8 := hc.2
          omega
      · cases hs
    · by_cases h51 : op = 51
      · subst h51
        simp only [jx_s] at hs
        split at hs
        · rename_i o as' hrev
          split at hs
          · rename_i hc
            simp only [Option.some.injEq, Sum.inr.injEq, Sum.inl.injEq, Prod.mk.injEq] at hs
            obtain ⟨rfl, rfl, rfl, rfl, rfl⟩ := hs
            refine ⟨rfl, fun H locs lsA hP hz hS hL => ?_⟩
            have hkc := hi.2.2.2.2.2.2.2.2.2.2.2.2.2.1
            simp only [jx_side, Bool.and_eq_true, decide_eq_true_eq] at hsd
            obtain ⟨hsd, hkd⟩ := hsd
            rw [hkc] at hkd
            have hk0 : i.2.2.2.2.1 = 1 := by simpa using hkd
            obtain ⟨hi1, hi2, hi3⟩ := hi.2.2.2.2.2.2.2.2.1 hk0
            have hw := jx_ml_in hsd
            rw [hys] at hw
            have hst : st = as'.reverse ++ .ref o :: st.drop b := by
              have h1 : st.take b = (.ref o :: as').reverse := by rw [← hrev, List.reverse_reverse]
              have h2 := List.take_append_drop b st
              rw [h1, List.reverse_cons, List.append_assoc] at h2
              exact h2.symm
            obtain ⟨hl1, lv, hl2, hl3⟩ := id hL
            have hcb := jx_callB (x1 := x1) C hi hw hfr hlo (n0 := as'.length) (by rw [if_neg (by omega)]; rw [List.length_cons] at hlen; omega)
            rw [hi3] at hcb
            refine jx_after (mc := x1.length) (ms := jx_sz x1) (rest := (st.drop b).map (jx_V base)) (va_runI (b := base + o) (As := as'.map (jx_V base)) (n := as'.length) (index := d) (own := jx_nm own) (Ts := lw_g) (cc := cc) (nL := nL) ⟨C.1, C.2.1, C.2.2.1, C.2.2.2.1, C.2.2.2.2.1⟩ hM ⟨hcb, hi1, C.2.2.2.2.1 _ hi2⟩ ⟨jx_blind, hpre H hP hz⟩ rfl (by rw [List.length_map]) (by show lsA.size = nL; rw [hl2.1]) ?_ ?_ hd ⟨hcl, hsl⟩) hS hL rfl kk
            · show st.map (jx_V base) = _
              rw [← List.map_reverse]
              conv => lhs; rw [hst]
              rw [List.map_append]
              rfl
            · show 2 * 0 + _ ≤ 8
              rw [jx_cat_map]
              have : ((st.drop b).map fun v => v.category).sum ≤ 8 := hc.2
              omega
          · cases hs
        · cases hs
      · exfalso
        unfold jx_s at hs
        simp only [jx_n] at hs
        split at hs
        all_goals (first | (exact absurd rfl h49) | (exact absurd rfl h50) | (exact absurd rfl h51) | (repeat' (split at hs)))
        all_goals (first | cases hs | skip)
end JXS
set_option maxHeartbeats 4000000 in
theorem jx_call_r {bl : jx_B} {e0 : jx_E} {r r' : List jx_E} {ls st ls' st' as : List Value} {h : jx_H} {m0 : Nat} (hs : jx_s bl e0 r ls st h = some (.inr (.inl (m0, as, r', ls', st')))) : r' = r ∧ (jx_ins e0).2 = 3 := by
  obtain ⟨pc0, op, ⟨a, b, c0, d⟩, x, L⟩ := e0
  unfold jx_s at hs
  simp only [jx_n] at hs
  split at hs
  all_goals (repeat' (split at hs))
  all_goals (first | (cases hs; done) | (cases hs; exact ⟨rfl, rfl⟩))
theorem jx_sl_len {base : Nat} : ∀ (as : List Value), as.all (fun v => decide (v.category = 1)) = true → (lg_sl (as.map (jx_V base))).length = as.length
  | [], _ => rfl
  | v :: as, h => by
    simp only [List.all_cons, Bool.and_eq_true, decide_eq_true_eq] at h
    have ih := jx_sl_len (base := base) as h.2
    have h1 : (jx_V base v).category = 1 := by rw [jx_V_cat]; exact h.1
    simp only [lg_sl, List.map_cons, List.flatMap_cons, h1, List.length_append] at ih ⊢
    rw [ih]
    simp
    omega
theorem jx_args_in {base : Nat} : ∀ (as : List Value) (k : Nat), as.all (fun v => decide (v.category = 1)) = true → ∀ (i : Nat) (v : Value), as[i]? = some v → v.category = 1 ∧ (k + i, jx_V base v) ∈ lv_args k (as.map (jx_V base))
  | [], k, _, i, v, hv => by simp at hv
  | w :: as, k, h, i, v, hv => by
    simp only [List.all_cons, Bool.and_eq_true, decide_eq_true_eq] at h
    have h1 : (jx_V base w).category = 1 := by rw [jx_V_cat]; exact h.1
    simp only [List.map_cons, lv_args, h1]
    cases i with
    | zero =>
      cases hv
      exact ⟨h.1, List.mem_cons_self⟩
    | succ i =>
      obtain ⟨a, b⟩ := jx_args_in (base := base) as (k + 1) h.2 i v (by simpa using hv)
      refine ⟨a, List.mem_cons_of_mem _ ?_⟩
      rw [show k + (i + 1) = k + 1 + i by omega]
      simpa using b
theorem jx_L_entry {base nL : Nat} {as : List Value} (ha : as.all (fun v => decide (v.category = 1)) = true) (hl : as.length ≤ nL) : jx_L base (as ++ List.replicate (nL - as.length) (.retAddr 0)) ((lg_sl (as.map (jx_V base)) ++ List.replicate (nL - (lg_sl (as.map (jx_V base))).length) Slot.unset).toArray) nL := by
  have e1 := jx_sl_len (base := base) as ha
  refine ⟨by simp; omega, _, lv_entry (as.map (jx_V base)) (by rw [e1]; exact hl), fun i v hv hne => ?_⟩
  by_cases hi : i < as.length
  · rw [List.getElem?_append_left hi] at hv
    have := jx_args_in (base := base) as 0 ha i v hv
    rw [Nat.zero_add] at this
    exact this
  · rw [List.getElem?_append_right (by omega), List.getElem?_replicate] at hv
    split at hv
    · cases hv
      exact absurd rfl hne
    · cases hv
set_option maxHeartbeats 4000000 in
theorem jx_sound {MS : List jx_M} (hMS : ∀ m i, MS[m]? = some i → jx_okM m i) (l : Launch) {base : Nat} {D : va_G} {cA : Nat → ClassId} {O : Nat → va_E} : ∀ (n d m0 : Nat) (i : jx_M), jx_okM m0 i → ∀ (rem : List jx_E) (ls st : List Value) (h : jx_H) (v : Option Value) (h' : jx_H), jx_x MS d n i.2.2.2.2.2.2.2 rem ls st h = some (v, h') →
    ∀ (p : Program) (e : Env) (R : Room) (s : State) (m : MethodId) (args : Array Value) (below : List Frame) (meth : Method) (c : Code), jx_Cx p s m args meth c base D cA i.2.1 i.2.2.1 i.2.2.2.2.2.2.1 → meth.sig.returnType = i.2.2.2.1 → meth.locks = false → (i.2.2.2.2.1 = 1 → meth.name = "<init>") → d + 1 ≤ R.frames → 64 * (d + 1) ≤ R.locals →
    ∀ (x : List (Nat × Nat)) (cells slots pc : Nat), h'.1 = h.1 ++ x → R.cells = cells + x.length → R.slots = slots + jx_sz x → jx_okR i.2.1 i.2.2.2.2.2.2.1 i.2.2.1 (jx_rt i.2.2.2.1) i.2.2.2.2.1 pc rem = true →
    jx_Go p l e R s m args below meth c base D cA O i.2.2.1 (MQ below (jx_Qc base D cA O v h') args s R.cells R.slots (fun q => base ≤ q)) cells slots pc ls st h
  | 0, d, m0, i, hi, rem, ls, st, h, v, h', hx => by cases hx
  | n + 1, d, m0, i, hi, [], ls, st, h, v, h', hx => by cases hx
  | n + 1, d, m0, i, hi, e0 :: r, ls, st, h, v, h', hx => by
    intro p e R s m args below meth c C hret hlk hini hfr hlo x cells slots pc hg hrc hrs hok
    have ih := jx_sound hMS l (base := base) (D := D) (cA := cA) (O := O) n
    have hbl := hi.2.2.2.2.2.2.2.2.2.2.2.2.2.2
    unfold jx_x at hx
    simp only at hx
    split at hx
    · cases hx
    · rename_i q hq
      obtain ⟨q1, q2, q3, q4⟩ := q
      obtain ⟨x1, e1⟩ := jx_grow1 hq
      obtain ⟨x2, e2⟩ := jx_grow n _ _ _ _ _ _ _ _ hx
      simp only at e2
      have e3 : x = x1 ++ x2 := by
        rw [hg, e1, List.append_assoc] at e2
        exact List.append_cancel_left e2
      subst e3
      have esz : jx_sz (x1 ++ x2) = jx_sz x1 + jx_sz x2 := by simp [jx_sz]
      rw [List.length_append] at hrc
      rw [esz] at hrs
      refine jx_one C hq hok hbl hini (by omega) (by omega) x1 e1 (by omega) (by omega) (fun pc' hok' => ?_)
      exact ih d m0 i hi q1 q2 q3 q4 v h' hx _ _ _ _ _ _ _ _ _ C hret hlk hini hfr hlo x2 _ _ pc' e2 (by omega) (by omega) hok'
    · rename_i v' hv
      cases hx
      obtain rfl : x = [] := jx_nil hg
      have hrc' : R.cells = cells := hrc
      have hrs' : R.slots = slots := hrs
      intro H locs lsA hP hz hS hL
      simp only [jx_okR, jx_okE, Bool.and_eq_true, decide_eq_true_eq] at hok
      obtain ⟨⟨hpc, hd, hsd⟩, hr⟩ := hok
      obtain ⟨pc0, op, ⟨a, b, c0, d0⟩, x0, L0⟩ := e0
      simp only at hpc
      subst hpc
      have hq : ∀ (w : Option Value), ∀ t : State, t.heap = H → s.WarmedH t.vm → jx_Qc base D cA O w h args s (.returned (w.map (jx_V base))) t := fun w t ht hW => ⟨⟨rfl, by rw [ht]; exact hP, jx_KK.moved hW.alike C.2.2.2.2.2.1, by rw [ht]; exact hz⟩, hS.F ht⟩
      rw [hrc', hrs']
      by_cases h69 : op = 69
      · subst h69
        simp only [jx_s] at hv
        split at hv
        · cases hv
          have hrt : jx_rt i.2.2.2.1 = 1 := by simpa [jx_side] using hsd
          have hri : i.2.2.2.1 = some .int := by
            unfold jx_rt at hrt
            split at hrt <;> first | rfl | (exfalso; omega) | skip
            all_goals simp_all
          exact W.iret C.1 C.2.1 (by rw [hret, hri]) (hq (some (.int _))) hS.2.2 hd hlk
        · cases hv
      · by_cases h70 : op = 70
        · subst h70
          simp only [jx_s] at hv
          split at hv
          · split at hv
            · rename_i hz01
              cases hv
              have hrt : jx_rt i.2.2.2.1 = 2 := by simpa [jx_side] using hsd
              have hri : i.2.2.2.1 = some .boolean := by
                unfold jx_rt at hrt
                split at hrt <;> first | rfl | (exfalso; omega) | skip
                all_goals simp_all
              refine W.zret (ty := .boolean) C.1 C.2.1 (by rw [hret, hri]) ?_ (hq (some (.int _))) hS.2.2 hd hlk
              rcases hz01 with rfl | rfl <;> rfl
            · cases hv
          · cases hv
        · by_cases h71 : op = 71
          · subst h71
            simp only [jx_s] at hv
            split at hv
            · cases hv
              have hrt : jx_rt i.2.2.2.1 = 0 := by simpa [jx_side] using hsd
              have hri : i.2.2.2.1 = none := by
                unfold jx_rt at hrt
                split at hrt <;> first | assumption | rfl | (exfalso; omega) | skip
                all_goals simp_all
              exact W.vret C.1 C.2.1 (by rw [hret, hri]) (hq none) hS.2.2 hd hlk
            · cases hv
          · exfalso
            unfold jx_s at hv
            simp only [jx_n] at hv
            split at hv
            all_goals (first | (exact absurd rfl h69) | (exact absurd rfl h70) | (exact absurd rfl h71) | (repeat' (split at hv)))
            all_goals (first | cases hv | skip)
    · rename_i k hk
      obtain ⟨k1, k2, k3, k4, k5⟩ := k
      split at hx
      · rename_i d' i1 hMi
        split at hx
        · rename_i hlen
          split at hx
          · rename_i y hy
            obtain ⟨v1, h1⟩ := y
            obtain ⟨x1, e1⟩ := jx_grow n _ _ _ _ _ _ _ _ hy
            obtain ⟨x2, e2⟩ := jx_grow n _ _ _ _ _ _ _ _ hx
            simp only at e2
            have e3 : x = x1 ++ x2 := by
              rw [hg, e1, List.append_assoc] at e2
              exact List.append_cancel_left e2
            subst e3
            have esz : jx_sz (x1 ++ x2) = jx_sz x1 + jx_sz x2 := by simp [jx_sz]
            rw [List.length_append] at hrc
            rw [esz] at hrs
            have hi1 := hMS _ _ hMi
            have hM : jx_MetM l base D cA O d' i1 k2 h v1 h1 x1 := by
              unfold jx_MetM
              refine Met.ofW (cc := i1.2.1) (maxL := i1.2.2.1) (ret := i1.2.2.2.1) hi1.2.2.1 rfl ?_
              intro p e s m args below meth c s₁ B hml hv
              obtain ⟨rfl, hP, hK, hz⟩ := hv
              have hts := atoms_spec (ws := jx_wsM i1) B.pre
              have hown : s.vm.findClass (jx_nm i1.2.2.2.2.2.2.1) = some m.cls := by
                rw [← hi1.2.1]
                exact findClass_of_methodNamed B.named
              have hna : k2.length ≤ i1.2.2.1 := by rw [hlen.1]; exact hi1.2.2.2.2.2.2.2.2.2.2.2.1
              have C1 : jx_Cx p s m (k2.map (jx_V base)).toArray meth c base D cA i1.2.1 i1.2.2.1 i1.2.2.2.2.2.2.1 := ⟨B.exec, B.bytes, hml, hown, fun w hw => hts w (List.mem_cons_of_mem _ hw), hK, by rw [hz]; exact Nat.le_add_right _ _⟩
              have g1 := ih d' _ i1 hi1 _ _ _ h v1 h1 hy p e (jx_rm d' x1.length (jx_sz x1)) s m (k2.map (jx_V base)).toArray below meth c C1 B.returns B.notSynchronized (fun hk => by rw [(name_of_methodNamed B.named B.method).1]; exact (hi1.2.2.2.2.2.2.2.2.1 hk).1) (Nat.le_refl _) (Nat.le_refl _) x1 0 0 0 e1 (Nat.zero_add _).symm (Nat.zero_add _).symm (jx_at_ok hi1.2.2.2.2.2.2.2.2.2.2.2.2.2.2 0)
              rw [lg_entry_eq]
              exact g1 s.heap [] _ hP hz va_S.rf (jx_L_entry hlen.2 hna)
            simp only [jx_okR, jx_okE, Bool.and_eq_true, decide_eq_true_eq] at hok
            obtain ⟨⟨hpc, hd, hsd⟩, hr⟩ := hok
            obtain ⟨pc0, op, ⟨a, b, c0, d0⟩, x0, L0⟩ := e0
            simp only at hpc
            subst hpc
            refine (jx_call C hi1 hM hk hlen.1 hd hsd (by omega) (by omega) (by omega) (by omega) ?_).2
            obtain ⟨hk3, h3⟩ := jx_call_r hk
            subst hk3
            rw [h3] at hr
            exact ih _ m0 i hi k3 k4 (v1.toList ++ k5) h1 v h' hx _ _ _ _ _ _ _ _ _ C hret hlk hini hfr hlo x2 _ _ (pc0 + 3) e2 (by omega) (by omega) hr
          · cases hx
        · cases hx
      · cases hx
end
section
/-! ===== methods 0 .. as entries ===== -/
-- OfDifferentMinds$Atlas.<init>(LOfDifferentMinds$Land;LOfDifferentMinds$Ride;)V
def jm_b0_0 : List jx_E := (0, 2, (0, 0, 0, 0), 0, []) :: (1, 52, (0, 0, 0, 3), 0, []) :: (4, 2, (0, 0, 0, 0), 0, []) :: (5, 2, (1, 0, 0, 0), 0, []) :: (6, 37, (0, 0, 0, 9), 0, []) :: (9, 2, (0, 0, 0, 0), 0, []) :: (10, 2, (2, 0, 0, 0), 0, []) :: (11, 37, (0, 1, 0, 15), 0, []) :: (14, 2, (0, 0, 0, 0), 0, []) :: (15, 10, (0, 0, 0, 0), 360, []) :: (18, 46, (0, 0, 0, 0), 0, []) :: (20, 37, (0, 2, 0, 19), 0, []) :: (23, 2, (0, 0, 0, 0), 0, []) :: (24, 9, (0, 0, 0, 0), 10, []) :: (26, 46, (0, 0, 0, 0), 0, []) :: (28, 37, (0, 3, 0, 23), 0, []) :: (31, 71, (0, 0, 0, 0), 0, []) :: []
def jm_l0 : jx_B := [(0, jm_b0_0)]
def jm_i0 : jx_M := (⟨"OfDifferentMinds$Atlas", "<init>", "(LOfDifferentMinds$Land;LOfDifferentMinds$Ride;)V"⟩, prog_2_method_1_code, 3, none, 1, 3, 0, jm_l0)
theorem jm_ok0 : jx_okM 0 jm_i0 := ⟨by decide +kernel, rfl, by decide +kernel, ⟨by decide +kernel, by decide +kernel⟩, by decide +kernel, jx_mem (i := 301) (by decide +kernel) rfl, jx_mem (i := 114) (by decide +kernel) rfl, fun h => absurd h (by decide), fun _ => ⟨rfl, jx_mem (i := 300) (by decide +kernel) rfl, rfl⟩, fun h => absurd h (by decide), by decide, by decide, by decide, by decide +kernel, by decide +kernel⟩
-- OfDifferentMinds$Atlas.survey(I)I
def jm_b1_110 : List jx_E := (110, 0, (2, 0, 0, 0), 0, []) :: (111, 69, (0, 0, 0, 0), 0, []) :: []
def jm_b1_99 : List jx_E := (99, 0, (3, 0, 0, 0), 0, []) :: (100, 1, (5, 0, 0, 0), 0, []) :: (102, 21, (0, 0, 0, 0), 0, []) :: (103, 4, (3, 0, 0, 0), 0, []) :: (104, 13, (4, 0, 0, 0), 1, []) :: (107, 54, (29, 0, 0, 0), 0, []) :: []
def jm_b1_91 : List jx_E := (91, 21, (0, 0, 0, 0), 0, []) :: (92, 4, (2, 0, 0, 0), 0, []) :: (93, 13, (6, 0, 0, 0), 1, []) :: (96, 54, (58, 0, 0, 0), 0, []) :: []
def jm_b1_90 : List jx_E := (90, 8, (0, 0, 0, 0), 0, []) :: jm_b1_91
def jm_b1_58 : List jx_E := (58, 1, (6, 0, 0, 0), 0, []) :: (60, 2, (0, 0, 0, 0), 0, []) :: (61, 33, (0, 0, 0, 9), 0, []) :: (64, 49, (27, 1, 3, 32), 0, []) :: (67, 64, (99, 0, 0, 0), 0, []) :: (70, 0, (2, 0, 0, 0), 0, []) :: (71, 1, (5, 0, 0, 0), 0, []) :: (73, 1, (6, 0, 0, 0), 0, []) :: (75, 24, (0, 0, 0, 0), 0, []) :: (76, 8, (0, 0, 0, 0), 1, []) :: (77, 20, (0, 0, 0, 0), 0, []) :: (78, 55, (90, 0, 0, 0), 0, []) :: (81, 2, (0, 0, 0, 0), 0, []) :: (82, 1, (6, 0, 0, 0), 0, []) :: (84, 49, (2, 2, 0, 35), 0, []) :: (87, 54, (91, 0, 0, 0), 0, []) :: []
def jm_b1_29 : List jx_E := (29, 1, (4, 0, 0, 0), 0, []) :: (31, 9, (0, 0, 0, 0), 10, []) :: (33, 64, (110, 0, 0, 0), 0, []) :: (36, 8, (0, 0, 0, 0), 1, []) :: (37, 0, (1, 0, 0, 0), 0, []) :: (38, 23, (0, 0, 0, 0), 0, []) :: (39, 0, (2, 0, 0, 0), 0, []) :: (40, 2, (0, 0, 0, 0), 0, []) :: (41, 33, (0, 0, 0, 9), 0, []) :: (44, 49, (29, 1, 3, 26), 0, []) :: (47, 20, (0, 0, 0, 0), 0, []) :: (48, 21, (0, 0, 0, 0), 0, []) :: (49, 0, (3, 0, 0, 0), 0, []) :: (50, 8, (0, 0, 0, 0), (-1), []) :: (51, 22, (0, 0, 0, 0), 0, []) :: (52, 20, (0, 0, 0, 0), 0, []) :: (53, 5, (5, 0, 0, 0), 0, []) :: (55, 8, (0, 0, 0, 0), 0, []) :: (56, 5, (6, 0, 0, 0), 0, []) :: jm_b1_58
def jm_b1_22 : List jx_E := (22, 8, (0, 0, 0, 0), 0, []) :: (23, 4, (2, 0, 0, 0), 0, []) :: (24, 8, (0, 0, 0, 0), 0, []) :: (25, 4, (3, 0, 0, 0), 0, []) :: (26, 8, (0, 0, 0, 0), 0, []) :: (27, 5, (4, 0, 0, 0), 0, []) :: jm_b1_29
def jm_b1_2 : List jx_E := (2, 0, (2, 0, 0, 0), 0, []) :: (3, 10, (0, 0, 0, 0), 360, []) :: (6, 64, (22, 0, 0, 0), 0, []) :: (9, 2, (0, 0, 0, 0), 0, []) :: (10, 33, (0, 2, 0, 19), 0, []) :: (13, 0, (2, 0, 0, 0), 0, []) :: (14, 8, (0, 0, 0, 0), (-1), []) :: (15, 41, (0, 0, 0, 0), 0, []) :: (16, 13, (2, 0, 0, 0), 1, []) :: (19, 54, (2, 0, 0, 0), 0, []) :: []
def jm_b1_0 : List jx_E := (0, 8, (0, 0, 0, 0), 0, []) :: (1, 4, (2, 0, 0, 0), 0, []) :: jm_b1_2
def jm_l1 : jx_B := [(0, jm_b1_0), (2, jm_b1_2), (22, jm_b1_22), (29, jm_b1_29), (58, jm_b1_58), (90, jm_b1_90), (91, jm_b1_91), (99, jm_b1_99), (110, jm_b1_110)]
def jm_i1 : jx_M := (⟨"OfDifferentMinds$Atlas", "survey", "(I)I"⟩, prog_2_method_2_code, 7, (some .int), 0, 2, 0, jm_l1)
theorem jm_ok1 : jx_okM 1 jm_i1 := ⟨by decide +kernel, rfl, by decide +kernel, ⟨by decide +kernel, by decide +kernel⟩, by decide +kernel, jx_mem (i := 958) (by decide +kernel) rfl, jx_mem (i := 114) (by decide +kernel) rfl, fun _ => ⟨jx_mem (i := 956) (by decide +kernel) rfl, jx_mem (i := 957) (by decide +kernel) rfl, by decide⟩, fun h => absurd h (by decide), fun h => absurd h (by decide), by decide, by decide, by decide, by decide +kernel, by decide +kernel⟩
-- OfDifferentMinds$Atlas.surveyFrom(I)I
def jm_b2_112 : List jx_E := (112, 0, (2, 0, 0, 0), 0, []) :: (113, 69, (0, 0, 0, 0), 0, []) :: []
def jm_b2_106 : List jx_E := (106, 13, (3, 0, 0, 0), 1, []) :: (109, 54, (4, 0, 0, 0), 0, []) :: []
def jm_b2_100 : List jx_E := (100, 13, (4, 0, 0, 0), 1, []) :: (103, 54, (18, 0, 0, 0), 0, []) :: []
def jm_b2_18 : List jx_E := (18, 1, (4, 0, 0, 0), 0, []) :: (20, 2, (0, 0, 0, 0), 0, []) :: (21, 33, (0, 0, 0, 9), 0, []) :: (24, 49, (28, 1, 3, 39), 0, []) :: (27, 64, (106, 0, 0, 0), 0, []) :: (30, 0, (3, 0, 0, 0), 0, []) :: (31, 1, (4, 0, 0, 0), 0, []) :: (33, 61, (100, 0, 0, 0), 0, []) :: (36, 2, (0, 0, 0, 0), 0, []) :: (37, 33, (0, 1, 0, 15), 0, []) :: (40, 0, (3, 0, 0, 0), 0, []) :: (41, 1, (4, 0, 0, 0), 0, []) :: (43, 0, (1, 0, 0, 0), 0, []) :: (44, 49, (49, 4, 5, 42), 0, []) :: (47, 2, (0, 0, 0, 0), 0, []) :: (48, 33, (0, 1, 0, 15), 0, []) :: (51, 49, (65, 1, 5, 48), 0, []) :: (54, 2, (0, 0, 0, 0), 0, []) :: (55, 33, (0, 1, 0, 15), 0, []) :: (58, 49, (56, 1, 5, 51), 0, []) :: (61, 55, (100, 0, 0, 0), 0, []) :: (64, 2, (0, 0, 0, 0), 0, []) :: (65, 33, (0, 2, 0, 19), 0, []) :: (68, 0, (1, 0, 0, 0), 0, []) :: (69, 9, (0, 0, 0, 0), 36, []) :: (71, 16, (0, 0, 0, 0), 0, []) :: (72, 0, (3, 0, 0, 0), 0, []) :: (73, 9, (0, 0, 0, 0), 6, []) :: (75, 16, (0, 0, 0, 0), 0, []) :: (76, 14, (0, 0, 0, 0), 0, []) :: (77, 1, (4, 0, 0, 0), 0, []) :: (79, 14, (0, 0, 0, 0), 0, []) :: (80, 2, (0, 0, 0, 0), 0, []) :: (81, 33, (0, 1, 0, 15), 0, []) :: (84, 49, (53, 1, 5, 55), 0, []) :: (87, 41, (0, 0, 0, 0), 0, []) :: (88, 0, (2, 0, 0, 0), 0, []) :: (89, 8, (0, 0, 0, 0), 1, []) :: (90, 2, (0, 0, 0, 0), 0, []) :: (91, 33, (0, 1, 0, 15), 0, []) :: (94, 49, (53, 1, 5, 55), 0, []) :: (97, 23, (0, 0, 0, 0), 0, []) :: (98, 21, (0, 0, 0, 0), 0, []) :: (99, 4, (2, 0, 0, 0), 0, []) :: jm_b2_100
def jm_b2_4 : List jx_E := (4, 0, (3, 0, 0, 0), 0, []) :: (5, 2, (0, 0, 0, 0), 0, []) :: (6, 33, (0, 0, 0, 9), 0, []) :: (9, 49, (28, 1, 3, 39), 0, []) :: (12, 64, (112, 0, 0, 0), 0, []) :: (15, 8, (0, 0, 0, 0), 0, []) :: (16, 5, (4, 0, 0, 0), 0, []) :: jm_b2_18
def jm_b2_0 : List jx_E := (0, 8, (0, 0, 0, 0), 0, []) :: (1, 4, (2, 0, 0, 0), 0, []) :: (2, 8, (0, 0, 0, 0), 0, []) :: (3, 4, (3, 0, 0, 0), 0, []) :: jm_b2_4
def jm_l2 : jx_B := [(0, jm_b2_0), (4, jm_b2_4), (18, jm_b2_18), (100, jm_b2_100), (106, jm_b2_106), (112, jm_b2_112)]
def jm_i2 : jx_M := (⟨"OfDifferentMinds$Atlas", "surveyFrom", "(I)I"⟩, prog_2_method_3_code, 5, (some .int), 0, 2, 0, jm_l2)
theorem jm_ok2 : jx_okM 2 jm_i2 := ⟨by decide +kernel, rfl, by decide +kernel, ⟨by decide +kernel, by decide +kernel⟩, by decide +kernel, jx_mem (i := 967) (by decide +kernel) rfl, jx_mem (i := 114) (by decide +kernel) rfl, fun _ => ⟨jx_mem (i := 966) (by decide +kernel) rfl, jx_mem (i := 28) (by decide +kernel) rfl, by decide⟩, fun h => absurd h (by decide), fun h => absurd h (by decide), by decide, by decide, by decide, by decide +kernel, by decide +kernel⟩
-- OfDifferentMinds$Atlas.beginAt(I)V
def jm_b3_30 : List jx_E := (30, 71, (0, 0, 0, 0), 0, []) :: []
def jm_b3_23 : List jx_E := (23, 41, (0, 0, 0, 0), 0, []) :: (24, 13, (2, 0, 0, 0), 1, []) :: (27, 54, (2, 0, 0, 0), 0, []) :: []
def jm_b3_22 : List jx_E := (22, 8, (0, 0, 0, 0), (-1), []) :: jm_b3_23
def jm_b3_2 : List jx_E := (2, 0, (2, 0, 0, 0), 0, []) :: (3, 9, (0, 0, 0, 0), 10, []) :: (5, 64, (30, 0, 0, 0), 0, []) :: (8, 2, (0, 0, 0, 0), 0, []) :: (9, 33, (0, 3, 0, 23), 0, []) :: (12, 0, (2, 0, 0, 0), 0, []) :: (13, 0, (2, 0, 0, 0), 0, []) :: (14, 0, (1, 0, 0, 0), 0, []) :: (15, 62, (22, 0, 0, 0), 0, []) :: (18, 8, (0, 0, 0, 0), 0, []) :: (19, 54, (23, 0, 0, 0), 0, []) :: []
def jm_b3_0 : List jx_E := (0, 8, (0, 0, 0, 0), 0, []) :: (1, 4, (2, 0, 0, 0), 0, []) :: jm_b3_2
def jm_l3 : jx_B := [(0, jm_b3_0), (2, jm_b3_2), (22, jm_b3_22), (23, jm_b3_23), (30, jm_b3_30)]
def jm_i3 : jx_M := (⟨"OfDifferentMinds$Atlas", "beginAt", "(I)V"⟩, prog_2_method_4_code, 3, none, 0, 2, 0, jm_l3)
theorem jm_ok3 : jx_okM 3 jm_i3 := ⟨by decide +kernel, rfl, by decide +kernel, ⟨by decide +kernel, by decide +kernel⟩, by decide +kernel, jx_mem (i := 980) (by decide +kernel) rfl, jx_mem (i := 114) (by decide +kernel) rfl, fun _ => ⟨jx_mem (i := 979) (by decide +kernel) rfl, jx_mem (i := 29) (by decide +kernel) rfl, by decide⟩, fun h => absurd h (by decide), fun h => absurd h (by decide), by decide, by decide, by decide, by decide +kernel, by decide +kernel⟩
-- OfDifferentMinds$Atlas.farOf(I)I
def jm_b4_21 : List jx_E := (21, 69, (0, 0, 0, 0), 0, []) :: []
def jm_b4_20 : List jx_E := (20, 8, (0, 0, 0, 0), (-1), []) :: jm_b4_21
def jm_b4_0 : List jx_E := (0, 2, (0, 0, 0, 0), 0, []) :: (1, 33, (0, 0, 0, 9), 0, []) :: (4, 0, (1, 0, 0, 0), 0, []) :: (5, 49, (30, 2, 3, 58), 0, []) :: (8, 55, (20, 0, 0, 0), 0, []) :: (11, 2, (0, 0, 0, 0), 0, []) :: (12, 33, (0, 3, 0, 23), 0, []) :: (15, 0, (1, 0, 0, 0), 0, []) :: (16, 38, (0, 0, 0, 0), 0, []) :: (17, 54, (21, 0, 0, 0), 0, []) :: []
def jm_l4 : jx_B := [(0, jm_b4_0), (20, jm_b4_20), (21, jm_b4_21)]
def jm_i4 : jx_M := (⟨"OfDifferentMinds$Atlas", "farOf", "(I)I"⟩, prog_2_method_5_code, 2, (some .int), 0, 2, 0, jm_l4)
theorem jm_ok4 : jx_okM 4 jm_i4 := ⟨by decide +kernel, rfl, by decide +kernel, ⟨by decide +kernel, by decide +kernel⟩, by decide +kernel, jx_mem (i := 990) (by decide +kernel) rfl, jx_mem (i := 114) (by decide +kernel) rfl, fun _ => ⟨jx_mem (i := 989) (by decide +kernel) rfl, jx_mem (i := 31) (by decide +kernel) rfl, by decide⟩, fun h => absurd h (by decide), fun h => absurd h (by decide), by decide, by decide, by decide, by decide +kernel, by decide +kernel⟩
-- OfDifferentMinds$Atlas.fewest(IIZ)I
def jm_b5_101 : List jx_E := (101, 2, (0, 0, 0, 0), 0, []) :: (102, 0, (1, 0, 0, 0), 0, []) :: (103, 49, (4, 2, 0, 73), 0, []) :: (106, 69, (0, 0, 0, 0), 0, []) :: []
def jm_b5_95 : List jx_E := (95, 13, (4, 0, 0, 0), 1, []) :: (98, 54, (8, 0, 0, 0), 0, []) :: []
def jm_b5_89 : List jx_E := (89, 13, (5, 0, 0, 0), 1, []) :: (92, 54, (18, 0, 0, 0), 0, []) :: []
def jm_b5_88 : List jx_E := (88, 41, (0, 0, 0, 0), 0, []) :: jm_b5_89
def jm_b5_86 : List jx_E := (86, 1, (4, 0, 0, 0), 0, []) :: jm_b5_88
def jm_b5_68 : List jx_E := (68, 5, (6, 0, 0, 0), 0, []) :: (70, 2, (0, 0, 0, 0), 0, []) :: (71, 33, (0, 3, 0, 23), 0, []) :: (74, 1, (5, 0, 0, 0), 0, []) :: (76, 1, (6, 0, 0, 0), 0, []) :: (78, 8, (0, 0, 0, 0), (-1), []) :: (79, 62, (86, 0, 0, 0), 0, []) :: (82, 8, (0, 0, 0, 0), (-1), []) :: (83, 54, (88, 0, 0, 0), 0, []) :: []
def jm_b5_58 : List jx_E := (58, 2, (0, 0, 0, 0), 0, []) :: (59, 1, (5, 0, 0, 0), 0, []) :: (61, 1, (4, 0, 0, 0), 0, []) :: (63, 8, (0, 0, 0, 0), 1, []) :: (64, 15, (0, 0, 0, 0), 0, []) :: (65, 49, (6, 3, 0, 70), 0, []) :: jm_b5_68
def jm_b5_18 : List jx_E := (18, 1, (5, 0, 0, 0), 0, []) :: (20, 2, (0, 0, 0, 0), 0, []) :: (21, 33, (0, 0, 0, 9), 0, []) :: (24, 49, (27, 1, 3, 32), 0, []) :: (27, 64, (95, 0, 0, 0), 0, []) :: (30, 2, (0, 0, 0, 0), 0, []) :: (31, 33, (0, 3, 0, 23), 0, []) :: (34, 1, (5, 0, 0, 0), 0, []) :: (36, 38, (0, 0, 0, 0), 0, []) :: (37, 8, (0, 0, 0, 0), (-1), []) :: (38, 62, (89, 0, 0, 0), 0, []) :: (41, 0, (3, 0, 0, 0), 0, []) :: (42, 55, (58, 0, 0, 0), 0, []) :: (45, 2, (0, 0, 0, 0), 0, []) :: (46, 1, (5, 0, 0, 0), 0, []) :: (48, 1, (4, 0, 0, 0), 0, []) :: (50, 8, (0, 0, 0, 0), 1, []) :: (51, 15, (0, 0, 0, 0), 0, []) :: (52, 49, (8, 3, 0, 66), 0, []) :: (55, 54, (68, 0, 0, 0), 0, []) :: []
def jm_b5_8 : List jx_E := (8, 1, (4, 0, 0, 0), 0, []) :: (10, 9, (0, 0, 0, 0), 10, []) :: (12, 64, (101, 0, 0, 0), 0, []) :: (15, 8, (0, 0, 0, 0), 0, []) :: (16, 5, (5, 0, 0, 0), 0, []) :: jm_b5_18
def jm_b5_0 : List jx_E := (0, 2, (0, 0, 0, 0), 0, []) :: (1, 0, (2, 0, 0, 0), 0, []) :: (2, 49, (3, 2, 0, 62), 0, []) :: (5, 8, (0, 0, 0, 0), 1, []) :: (6, 5, (4, 0, 0, 0), 0, []) :: jm_b5_8
def jm_l5 : jx_B := [(0, jm_b5_0), (8, jm_b5_8), (18, jm_b5_18), (58, jm_b5_58), (68, jm_b5_68), (86, jm_b5_86), (88, jm_b5_88), (89, jm_b5_89), (95, jm_b5_95), (101, jm_b5_101)]
def jm_i5 : jx_M := (⟨"OfDifferentMinds$Atlas", "fewest", "(IIZ)I"⟩, prog_2_method_6_code, 7, (some .int), 0, 4, 0, jm_l5)
theorem jm_ok5 : jx_okM 5 jm_i5 := ⟨by decide +kernel, rfl, by decide +kernel, ⟨by decide +kernel, by decide +kernel⟩, by decide +kernel, jx_mem (i := 976) (by decide +kernel) rfl, jx_mem (i := 114) (by decide +kernel) rfl, fun _ => ⟨jx_mem (i := 974) (by decide +kernel) rfl, jx_mem (i := 975) (by decide +kernel) rfl, by decide⟩, fun h => absurd h (by decide), fun h => absurd h (by decide), by decide, by decide, by decide, by decide +kernel, by decide +kernel⟩
-- OfDifferentMinds$Atlas.pairTo(II)I
def jm_b6_35 : List jx_E := (35, 8, (0, 0, 0, 0), (-1), []) :: (36, 69, (0, 0, 0, 0), 0, []) :: []
def jm_b6_29 : List jx_E := (29, 13, (3, 0, 0, 0), 1, []) :: (32, 54, (2, 0, 0, 0), 0, []) :: []
def jm_b6_2 : List jx_E := (2, 0, (3, 0, 0, 0), 0, []) :: (3, 9, (0, 0, 0, 0), 36, []) :: (5, 64, (35, 0, 0, 0), 0, []) :: (8, 2, (0, 0, 0, 0), 0, []) :: (9, 2, (0, 0, 0, 0), 0, []) :: (10, 33, (0, 2, 0, 19), 0, []) :: (13, 0, (1, 0, 0, 0), 0, []) :: (14, 9, (0, 0, 0, 0), 36, []) :: (16, 16, (0, 0, 0, 0), 0, []) :: (17, 0, (3, 0, 0, 0), 0, []) :: (18, 14, (0, 0, 0, 0), 0, []) :: (19, 38, (0, 0, 0, 0), 0, []) :: (20, 49, (4, 2, 0, 73), 0, []) :: (23, 0, (2, 0, 0, 0), 0, []) :: (24, 62, (29, 0, 0, 0), 0, []) :: (27, 0, (3, 0, 0, 0), 0, []) :: (28, 69, (0, 0, 0, 0), 0, []) :: []
def jm_b6_0 : List jx_E := (0, 8, (0, 0, 0, 0), 0, []) :: (1, 4, (3, 0, 0, 0), 0, []) :: jm_b6_2
def jm_l6 : jx_B := [(0, jm_b6_0), (2, jm_b6_2), (29, jm_b6_29), (35, jm_b6_35)]
def jm_i6 : jx_M := (⟨"OfDifferentMinds$Atlas", "pairTo", "(II)I"⟩, prog_2_method_7_code, 4, (some .int), 0, 3, 0, jm_l6)
theorem jm_ok6 : jx_okM 6 jm_i6 := ⟨by decide +kernel, rfl, by decide +kernel, ⟨by decide +kernel, by decide +kernel⟩, by decide +kernel, jx_mem (i := 995) (by decide +kernel) rfl, jx_mem (i := 114) (by decide +kernel) rfl, fun _ => ⟨jx_mem (i := 994) (by decide +kernel) rfl, jx_mem (i := 32) (by decide +kernel) rfl, by decide⟩, fun h => absurd h (by decide), fun h => absurd h (by decide), by decide, by decide, by decide, by decide +kernel, by decide +kernel⟩
-- OfDifferentMinds$Atlas.tellRides(ILOfDifferentMinds$Row;)V
def jm_b7_84 : List jx_E := (84, 71, (0, 0, 0, 0), 0, []) :: []
def jm_b7_78 : List jx_E := (78, 13, (5, 0, 0, 0), 1, []) :: (81, 54, (20, 0, 0, 0), 0, []) :: []
def jm_b7_20 : List jx_E := (20, 1, (5, 0, 0, 0), 0, []) :: (22, 1, (4, 0, 0, 0), 0, []) :: (24, 64, (84, 0, 0, 0), 0, []) :: (27, 2, (0, 0, 0, 0), 0, []) :: (28, 0, (3, 0, 0, 0), 0, []) :: (29, 2, (0, 0, 0, 0), 0, []) :: (30, 0, (3, 0, 0, 0), 0, []) :: (31, 49, (4, 2, 0, 73), 0, []) :: (34, 8, (0, 0, 0, 0), 1, []) :: (35, 15, (0, 0, 0, 0), 0, []) :: (36, 49, (6, 3, 0, 70), 0, []) :: (39, 5, (6, 0, 0, 0), 0, []) :: (41, 1, (6, 0, 0, 0), 0, []) :: (43, 8, (0, 0, 0, 0), (-1), []) :: (44, 61, (78, 0, 0, 0), 0, []) :: (47, 2, (2, 0, 0, 0), 0, []) :: (48, 1, (6, 0, 0, 0), 0, []) :: (50, 9, (0, 0, 0, 0), 6, []) :: (52, 17, (0, 0, 0, 0), 0, []) :: (53, 49, (69, 2, 6, 86), 0, []) :: (56, 2, (2, 0, 0, 0), 0, []) :: (57, 1, (6, 0, 0, 0), 0, []) :: (59, 9, (0, 0, 0, 0), 6, []) :: (61, 18, (0, 0, 0, 0), 0, []) :: (62, 49, (69, 2, 6, 86), 0, []) :: (65, 2, (0, 0, 0, 0), 0, []) :: (66, 33, (0, 2, 0, 19), 0, []) :: (69, 0, (3, 0, 0, 0), 0, []) :: (70, 9, (0, 0, 0, 0), 36, []) :: (72, 16, (0, 0, 0, 0), 0, []) :: (73, 1, (6, 0, 0, 0), 0, []) :: (75, 14, (0, 0, 0, 0), 0, []) :: (76, 38, (0, 0, 0, 0), 0, []) :: (77, 4, (3, 0, 0, 0), 0, []) :: jm_b7_78
def jm_b7_0 : List jx_E := (0, 2, (2, 0, 0, 0), 0, []) :: (1, 49, (68, 1, 6, 76), 0, []) :: (4, 0, (1, 0, 0, 0), 0, []) :: (5, 4, (3, 0, 0, 0), 0, []) :: (6, 2, (0, 0, 0, 0), 0, []) :: (7, 0, (1, 0, 0, 0), 0, []) :: (8, 49, (4, 2, 0, 73), 0, []) :: (11, 8, (0, 0, 0, 0), 5, []) :: (12, 73, (311, 0, 0, 81), 0, []) :: (15, 5, (4, 0, 0, 0), 0, []) :: (17, 8, (0, 0, 0, 0), 0, []) :: (18, 5, (5, 0, 0, 0), 0, []) :: jm_b7_20
def jm_l7 : jx_B := [(0, jm_b7_0), (20, jm_b7_20), (78, jm_b7_78), (84, jm_b7_84)]
def jm_i7 : jx_M := (⟨"OfDifferentMinds$Atlas", "tellRides", "(ILOfDifferentMinds$Row;)V"⟩, prog_2_method_8_code, 7, none, 0, 3, 0, jm_l7)
theorem jm_ok7 : jx_okM 7 jm_i7 := ⟨by decide +kernel, rfl, by decide +kernel, ⟨by decide +kernel, by decide +kernel⟩, by decide +kernel, jx_mem (i := 999) (by decide +kernel) rfl, jx_mem (i := 114) (by decide +kernel) rfl, fun _ => ⟨jx_mem (i := 997) (by decide +kernel) rfl, jx_mem (i := 998) (by decide +kernel) rfl, by decide⟩, fun h => absurd h (by decide), fun h => absurd h (by decide), by decide, by decide, by decide, by decide +kernel, by decide +kernel⟩
-- OfDifferentMinds$Atlas.wayTo(II)I
def jm_b8_39 : List jx_E := (39, 8, (0, 0, 0, 0), (-1), []) :: (40, 69, (0, 0, 0, 0), 0, []) :: []
def jm_b8_33 : List jx_E := (33, 13, (3, 0, 0, 0), 1, []) :: (36, 54, (2, 0, 0, 0), 0, []) :: []
def jm_b8_2 : List jx_E := (2, 0, (3, 0, 0, 0), 0, []) :: (3, 2, (0, 0, 0, 0), 0, []) :: (4, 33, (0, 0, 0, 9), 0, []) :: (7, 0, (1, 0, 0, 0), 0, []) :: (8, 49, (33, 2, 3, 89), 0, []) :: (11, 64, (39, 0, 0, 0), 0, []) :: (14, 2, (0, 0, 0, 0), 0, []) :: (15, 2, (0, 0, 0, 0), 0, []) :: (16, 33, (0, 0, 0, 9), 0, []) :: (19, 0, (1, 0, 0, 0), 0, []) :: (20, 0, (3, 0, 0, 0), 0, []) :: (21, 49, (35, 3, 3, 92), 0, []) :: (24, 49, (4, 2, 0, 73), 0, []) :: (27, 0, (2, 0, 0, 0), 0, []) :: (28, 62, (33, 0, 0, 0), 0, []) :: (31, 0, (3, 0, 0, 0), 0, []) :: (32, 69, (0, 0, 0, 0), 0, []) :: []
def jm_b8_0 : List jx_E := (0, 8, (0, 0, 0, 0), 0, []) :: (1, 4, (3, 0, 0, 0), 0, []) :: jm_b8_2
def jm_l8 : jx_B := [(0, jm_b8_0), (2, jm_b8_2), (33, jm_b8_33), (39, jm_b8_39)]
def jm_i8 : jx_M := (⟨"OfDifferentMinds$Atlas", "wayTo", "(II)I"⟩, prog_2_method_9_code, 4, (some .int), 0, 3, 0, jm_l8)
theorem jm_ok8 : jx_okM 8 jm_i8 := ⟨by decide +kernel, rfl, by decide +kernel, ⟨by decide +kernel, by decide +kernel⟩, by decide +kernel, jx_mem (i := 984) (by decide +kernel) rfl, jx_mem (i := 114) (by decide +kernel) rfl, fun _ => ⟨jx_mem (i := 983) (by decide +kernel) rfl, jx_mem (i := 30) (by decide +kernel) rfl, by decide⟩, fun h => absurd h (by decide), fun h => absurd h (by decide), by decide, by decide, by decide, by decide +kernel, by decide +kernel⟩
-- OfDifferentMinds$Atlas.tellWays(ILOfDifferentMinds$Row;)V
def jm_b9_60 : List jx_E := (60, 71, (0, 0, 0, 0), 0, []) :: []
def jm_b9_16 : List jx_E := (16, 1, (5, 0, 0, 0), 0, []) :: (18, 1, (4, 0, 0, 0), 0, []) :: (20, 64, (60, 0, 0, 0), 0, []) :: (23, 2, (0, 0, 0, 0), 0, []) :: (24, 0, (3, 0, 0, 0), 0, []) :: (25, 2, (0, 0, 0, 0), 0, []) :: (26, 0, (3, 0, 0, 0), 0, []) :: (27, 49, (4, 2, 0, 73), 0, []) :: (30, 8, (0, 0, 0, 0), 1, []) :: (31, 15, (0, 0, 0, 0), 0, []) :: (32, 49, (8, 3, 0, 66), 0, []) :: (35, 5, (6, 0, 0, 0), 0, []) :: (37, 2, (2, 0, 0, 0), 0, []) :: (38, 1, (6, 0, 0, 0), 0, []) :: (40, 49, (69, 2, 6, 86), 0, []) :: (43, 2, (0, 0, 0, 0), 0, []) :: (44, 33, (0, 0, 0, 9), 0, []) :: (47, 0, (3, 0, 0, 0), 0, []) :: (48, 1, (6, 0, 0, 0), 0, []) :: (50, 49, (35, 3, 3, 92), 0, []) :: (53, 4, (3, 0, 0, 0), 0, []) :: (54, 13, (5, 0, 0, 0), 1, []) :: (57, 54, (16, 0, 0, 0), 0, []) :: []
def jm_b9_0 : List jx_E := (0, 2, (2, 0, 0, 0), 0, []) :: (1, 49, (68, 1, 6, 76), 0, []) :: (4, 0, (1, 0, 0, 0), 0, []) :: (5, 4, (3, 0, 0, 0), 0, []) :: (6, 2, (0, 0, 0, 0), 0, []) :: (7, 0, (1, 0, 0, 0), 0, []) :: (8, 49, (4, 2, 0, 73), 0, []) :: (11, 5, (4, 0, 0, 0), 0, []) :: (13, 8, (0, 0, 0, 0), 0, []) :: (14, 5, (5, 0, 0, 0), 0, []) :: jm_b9_16
def jm_l9 : jx_B := [(0, jm_b9_0), (16, jm_b9_16), (60, jm_b9_60)]
def jm_i9 : jx_M := (⟨"OfDifferentMinds$Atlas", "tellWays", "(ILOfDifferentMinds$Row;)V"⟩, prog_2_method_10_code, 7, none, 0, 3, 0, jm_l9)
theorem jm_ok9 : jx_okM 9 jm_i9 := ⟨by decide +kernel, rfl, by decide +kernel, ⟨by decide +kernel, by decide +kernel⟩, by decide +kernel, jx_mem (i := 1015) (by decide +kernel) rfl, jx_mem (i := 114) (by decide +kernel) rfl, fun _ => ⟨jx_mem (i := 1013) (by decide +kernel) rfl, jx_mem (i := 1014) (by decide +kernel) rfl, by decide⟩, fun h => absurd h (by decide), fun h => absurd h (by decide), by decide, by decide, by decide, by decide +kernel, by decide +kernel⟩
-- OfDifferentMinds$Grammar.inRoads(LOfDifferentMinds$Text;)I
def jm_b10_78 : List jx_E := (78, 8, (0, 0, 0, 0), (-1), []) :: (79, 69, (0, 0, 0, 0), 0, []) :: []
def jm_b10_72 : List jx_E := (72, 13, (3, 0, 0, 0), 1, []) :: (75, 54, (50, 0, 0, 0), 0, []) :: []
def jm_b10_50 : List jx_E := (50, 0, (3, 0, 0, 0), 0, []) :: (51, 2, (0, 0, 0, 0), 0, []) :: (52, 49, (113, 1, 9, 15), 0, []) :: (55, 64, (78, 0, 0, 0), 0, []) :: (58, 2, (0, 0, 0, 0), 0, []) :: (59, 0, (3, 0, 0, 0), 0, []) :: (60, 49, (114, 2, 9, 21), 0, []) :: (63, 9, (0, 0, 0, 0), 97, []) :: (65, 0, (2, 0, 0, 0), 0, []) :: (66, 14, (0, 0, 0, 0), 0, []) :: (67, 63, (72, 0, 0, 0), 0, []) :: (70, 0, (3, 0, 0, 0), 0, []) :: (71, 69, (0, 0, 0, 0), 0, []) :: []
def jm_b10_48 : List jx_E := (48, 8, (0, 0, 0, 0), 0, []) :: (49, 4, (3, 0, 0, 0), 0, []) :: jm_b10_50
def jm_b10_40 : List jx_E := (40, 14, (0, 0, 0, 0), 0, []) :: (41, 4, (2, 0, 0, 0), 0, []) :: (42, 13, (3, 0, 0, 0), 1, []) :: (45, 54, (16, 0, 0, 0), 0, []) :: []
def jm_b10_39 : List jx_E := (39, 8, (0, 0, 0, 0), 0, []) :: jm_b10_40
def jm_b10_16 : List jx_E := (16, 0, (3, 0, 0, 0), 0, []) :: (17, 2, (0, 0, 0, 0), 0, []) :: (18, 49, (113, 1, 9, 15), 0, []) :: (21, 64, (48, 0, 0, 0), 0, []) :: (24, 0, (2, 0, 0, 0), 0, []) :: (25, 2, (0, 0, 0, 0), 0, []) :: (26, 0, (3, 0, 0, 0), 0, []) :: (27, 49, (114, 2, 9, 21), 0, []) :: (30, 9, (0, 0, 0, 0), 59, []) :: (32, 62, (39, 0, 0, 0), 0, []) :: (35, 8, (0, 0, 0, 0), 1, []) :: (36, 54, (40, 0, 0, 0), 0, []) :: []
def jm_b10_12 : List jx_E := (12, 8, (0, 0, 0, 0), 1, []) :: (13, 4, (2, 0, 0, 0), 0, []) :: (14, 8, (0, 0, 0, 0), 0, []) :: (15, 4, (3, 0, 0, 0), 0, []) :: jm_b10_16
def jm_b10_0 : List jx_E := (0, 2, (0, 0, 0, 0), 0, []) :: (1, 50, (11, 1, 0, 9), 0, []) :: (4, 4, (1, 0, 0, 0), 0, []) :: (5, 0, (1, 0, 0, 0), 0, []) :: (6, 8, (0, 0, 0, 0), (-1), []) :: (7, 61, (12, 0, 0, 0), 0, []) :: (10, 0, (1, 0, 0, 0), 0, []) :: (11, 69, (0, 0, 0, 0), 0, []) :: []
def jm_l10 : jx_B := [(0, jm_b10_0), (12, jm_b10_12), (16, jm_b10_16), (39, jm_b10_39), (40, jm_b10_40), (48, jm_b10_48), (50, jm_b10_50), (72, jm_b10_72), (78, jm_b10_78)]
def jm_i10 : jx_M := (⟨"OfDifferentMinds$Grammar", "inRoads", "(LOfDifferentMinds$Text;)I"⟩, prog_3_method_2_code, 4, (some .int), 2, 1, 1, jm_l10)
theorem jm_ok10 : jx_okM 10 jm_i10 := ⟨by decide +kernel, rfl, by decide +kernel, ⟨by decide +kernel, by decide +kernel⟩, by decide +kernel, jx_mem (i := 400) (by decide +kernel) rfl, jx_mem (i := 117) (by decide +kernel) rfl, fun h => absurd h (by decide), fun h => absurd h (by decide), fun _ => jx_mem (i := 399) (by decide +kernel) rfl, by decide, by decide, by decide, by decide +kernel, by decide +kernel⟩
-- OfDifferentMinds$Grammar.inRoadLines(LOfDifferentMinds$Text;)I
def jm_b11_46 : List jx_E := (46, 2, (0, 0, 0, 0), 0, []) :: (47, 49, (119, 1, 9, 33), 0, []) :: (50, 69, (0, 0, 0, 0), 0, []) :: []
def jm_b11_40 : List jx_E := (40, 13, (1, 0, 0, 0), 1, []) :: (43, 54, (8, 0, 0, 0), 0, []) :: []
def jm_b11_26 : List jx_E := (26, 2, (0, 0, 0, 0), 0, []) :: (27, 9, (0, 0, 0, 0), 59, []) :: (29, 49, (124, 2, 9, 36), 0, []) :: (32, 56, (40, 0, 0, 0), 0, []) :: (35, 2, (0, 0, 0, 0), 0, []) :: (36, 49, (127, 1, 9, 40), 0, []) :: (39, 69, (0, 0, 0, 0), 0, []) :: []
def jm_b11_8 : List jx_E := (8, 0, (1, 0, 0, 0), 0, []) :: (9, 9, (0, 0, 0, 0), 10, []) :: (11, 64, (46, 0, 0, 0), 0, []) :: (14, 2, (0, 0, 0, 0), 0, []) :: (15, 50, (12, 1, 0, 29), 0, []) :: (18, 56, (26, 0, 0, 0), 0, []) :: (21, 2, (0, 0, 0, 0), 0, []) :: (22, 49, (119, 1, 9, 33), 0, []) :: (25, 69, (0, 0, 0, 0), 0, []) :: []
def jm_b11_0 : List jx_E := (0, 2, (0, 0, 0, 0), 0, []) :: (1, 9, (0, 0, 0, 0), 76, []) :: (3, 49, (118, 2, 9, 25), 0, []) :: (6, 8, (0, 0, 0, 0), 0, []) :: (7, 4, (1, 0, 0, 0), 0, []) :: jm_b11_8
def jm_l11 : jx_B := [(0, jm_b11_0), (8, jm_b11_8), (26, jm_b11_26), (40, jm_b11_40), (46, jm_b11_46)]
def jm_i11 : jx_M := (⟨"OfDifferentMinds$Grammar", "inRoadLines", "(LOfDifferentMinds$Text;)I"⟩, prog_3_method_3_code, 2, (some .int), 2, 1, 1, jm_l11)
theorem jm_ok11 : jx_okM 11 jm_i11 := ⟨by decide +kernel, rfl, by decide +kernel, ⟨by decide +kernel, by decide +kernel⟩, by decide +kernel, jx_mem (i := 403) (by decide +kernel) rfl, jx_mem (i := 117) (by decide +kernel) rfl, fun h => absurd h (by decide), fun h => absurd h (by decide), fun _ => jx_mem (i := 402) (by decide +kernel) rfl, by decide, by decide, by decide, by decide +kernel, by decide +kernel⟩
-- OfDifferentMinds$Grammar.takeRoadLine(LOfDifferentMinds$Text;)Z
def jm_b12_48 : List jx_E := (48, 0, (1, 0, 0, 0), 0, []) :: (49, 70, (0, 0, 0, 0), 0, []) :: []
def jm_b12_37 : List jx_E := (37, 0, (1, 0, 0, 0), 0, []) :: (38, 55, (48, 0, 0, 0), 0, []) :: (41, 2, (0, 0, 0, 0), 0, []) :: (42, 9, (0, 0, 0, 0), 33, []) :: (44, 49, (124, 2, 9, 36), 0, []) :: (47, 31, (0, 0, 0, 0), 0, []) :: jm_b12_48
def jm_b12_13 : List jx_E := (13, 0, (2, 0, 0, 0), 0, []) :: (14, 8, (0, 0, 0, 0), 3, []) :: (15, 64, (37, 0, 0, 0), 0, []) :: (18, 2, (0, 0, 0, 0), 0, []) :: (19, 9, (0, 0, 0, 0), 97, []) :: (21, 9, (0, 0, 0, 0), 106, []) :: (23, 49, (125, 3, 9, 43), 0, []) :: (26, 55, (37, 0, 0, 0), 0, []) :: (29, 8, (0, 0, 0, 0), 1, []) :: (30, 4, (1, 0, 0, 0), 0, []) :: (31, 13, (2, 0, 0, 0), 1, []) :: (34, 54, (13, 0, 0, 0), 0, []) :: []
def jm_b12_0 : List jx_E := (0, 2, (0, 0, 0, 0), 0, []) :: (1, 9, (0, 0, 0, 0), 45, []) :: (3, 49, (124, 2, 9, 36), 0, []) :: (6, 4, (1, 0, 0, 0), 0, []) :: (7, 0, (1, 0, 0, 0), 0, []) :: (8, 56, (37, 0, 0, 0), 0, []) :: (11, 8, (0, 0, 0, 0), 0, []) :: (12, 4, (2, 0, 0, 0), 0, []) :: jm_b12_13
def jm_l12 : jx_B := [(0, jm_b12_0), (13, jm_b12_13), (37, jm_b12_37), (48, jm_b12_48)]
def jm_i12 : jx_M := (⟨"OfDifferentMinds$Grammar", "takeRoadLine", "(LOfDifferentMinds$Text;)Z"⟩, prog_3_method_4_code, 3, (some .boolean), 2, 1, 1, jm_l12)
theorem jm_ok12 : jx_okM 12 jm_i12 := ⟨by decide +kernel, rfl, by decide +kernel, ⟨by decide +kernel, by decide +kernel⟩, by decide +kernel, jx_mem (i := 410) (by decide +kernel) rfl, jx_mem (i := 117) (by decide +kernel) rfl, fun h => absurd h (by decide), fun h => absurd h (by decide), fun _ => jx_mem (i := 409) (by decide +kernel) rfl, by decide, by decide, by decide, by decide +kernel, by decide +kernel⟩
-- OfDifferentMinds$Grammar.inRiders(LOfDifferentMinds$Text;II)I
def jm_b13_49 : List jx_E := (49, 2, (0, 0, 0, 0), 0, []) :: (50, 49, (119, 1, 9, 33), 0, []) :: (53, 69, (0, 0, 0, 0), 0, []) :: []
def jm_b13_43 : List jx_E := (43, 13, (3, 0, 0, 0), 1, []) :: (46, 54, (8, 0, 0, 0), 0, []) :: []
def jm_b13_29 : List jx_E := (29, 2, (0, 0, 0, 0), 0, []) :: (30, 9, (0, 0, 0, 0), 59, []) :: (32, 49, (124, 2, 9, 36), 0, []) :: (35, 56, (43, 0, 0, 0), 0, []) :: (38, 2, (0, 0, 0, 0), 0, []) :: (39, 49, (127, 1, 9, 40), 0, []) :: (42, 69, (0, 0, 0, 0), 0, []) :: []
def jm_b13_8 : List jx_E := (8, 0, (3, 0, 0, 0), 0, []) :: (9, 0, (2, 0, 0, 0), 0, []) :: (10, 64, (49, 0, 0, 0), 0, []) :: (13, 2, (0, 0, 0, 0), 0, []) :: (14, 0, (1, 0, 0, 0), 0, []) :: (15, 50, (14, 2, 0, 47), 0, []) :: (18, 5, (4, 0, 0, 0), 0, []) :: (20, 1, (4, 0, 0, 0), 0, []) :: (22, 8, (0, 0, 0, 0), (-1), []) :: (23, 61, (29, 0, 0, 0), 0, []) :: (26, 1, (4, 0, 0, 0), 0, []) :: (28, 69, (0, 0, 0, 0), 0, []) :: []
def jm_b13_0 : List jx_E := (0, 2, (0, 0, 0, 0), 0, []) :: (1, 9, (0, 0, 0, 0), 76, []) :: (3, 49, (118, 2, 9, 25), 0, []) :: (6, 8, (0, 0, 0, 0), 0, []) :: (7, 4, (3, 0, 0, 0), 0, []) :: jm_b13_8
def jm_l13 : jx_B := [(0, jm_b13_0), (8, jm_b13_8), (29, jm_b13_29), (43, jm_b13_43), (49, jm_b13_49)]
def jm_i13 : jx_M := (⟨"OfDifferentMinds$Grammar", "inRiders", "(LOfDifferentMinds$Text;II)I"⟩, prog_3_method_5_code, 5, (some .int), 2, 3, 1, jm_l13)
theorem jm_ok13 : jx_okM 13 jm_i13 := ⟨by decide +kernel, rfl, by decide +kernel, ⟨by decide +kernel, by decide +kernel⟩, by decide +kernel, jx_mem (i := 492) (by decide +kernel) rfl, jx_mem (i := 117) (by decide +kernel) rfl, fun h => absurd h (by decide), fun h => absurd h (by decide), fun _ => jx_mem (i := 491) (by decide +kernel) rfl, by decide, by decide, by decide, by decide +kernel, by decide +kernel⟩
-- OfDifferentMinds$Grammar.inRiderLine(LOfDifferentMinds$Text;I)I
def jm_b14_65 : List jx_E := (65, 8, (0, 0, 0, 0), (-1), []) :: (66, 69, (0, 0, 0, 0), 0, []) :: []
def jm_b14_59 : List jx_E := (59, 13, (3, 0, 0, 0), 1, []) :: (62, 54, (38, 0, 0, 0), 0, []) :: []
def jm_b14_38 : List jx_E := (38, 0, (3, 0, 0, 0), 0, []) :: (39, 0, (1, 0, 0, 0), 0, []) :: (40, 64, (65, 0, 0, 0), 0, []) :: (43, 2, (0, 0, 0, 0), 0, []) :: (44, 9, (0, 0, 0, 0), 48, []) :: (46, 9, (0, 0, 0, 0), 50, []) :: (48, 49, (125, 3, 9, 43), 0, []) :: (51, 56, (59, 0, 0, 0), 0, []) :: (54, 2, (0, 0, 0, 0), 0, []) :: (55, 49, (119, 1, 9, 33), 0, []) :: (58, 69, (0, 0, 0, 0), 0, []) :: []
def jm_b14_36 : List jx_E := (36, 8, (0, 0, 0, 0), 0, []) :: (37, 4, (3, 0, 0, 0), 0, []) :: jm_b14_38
def jm_b14_31 : List jx_E := (31, 2, (0, 0, 0, 0), 0, []) :: (32, 49, (119, 1, 9, 33), 0, []) :: (35, 69, (0, 0, 0, 0), 0, []) :: []
def jm_b14_17 : List jx_E := (17, 0, (2, 0, 0, 0), 0, []) :: (18, 8, (0, 0, 0, 0), (-1), []) :: (19, 61, (31, 0, 0, 0), 0, []) :: (22, 2, (0, 0, 0, 0), 0, []) :: (23, 9, (0, 0, 0, 0), 58, []) :: (25, 49, (124, 2, 9, 36), 0, []) :: (28, 56, (36, 0, 0, 0), 0, []) :: jm_b14_31
def jm_b14_0 : List jx_E := (0, 2, (0, 0, 0, 0), 0, []) :: (1, 8, (0, 0, 0, 0), 2, []) :: (2, 49, (126, 2, 9, 51), 0, []) :: (5, 4, (2, 0, 0, 0), 0, []) :: (6, 0, (2, 0, 0, 0), 0, []) :: (7, 56, (17, 0, 0, 0), 0, []) :: (10, 2, (0, 0, 0, 0), 0, []) :: (11, 49, (119, 1, 9, 33), 0, []) :: (14, 8, (0, 0, 0, 0), 1, []) :: (15, 15, (0, 0, 0, 0), 0, []) :: (16, 69, (0, 0, 0, 0), 0, []) :: []
def jm_l14 : jx_B := [(0, jm_b14_0), (17, jm_b14_17), (31, jm_b14_31), (36, jm_b14_36), (38, jm_b14_38), (59, jm_b14_59), (65, jm_b14_65)]
def jm_i14 : jx_M := (⟨"OfDifferentMinds$Grammar", "inRiderLine", "(LOfDifferentMinds$Text;I)I"⟩, prog_3_method_6_code, 4, (some .int), 2, 2, 1, jm_l14)
theorem jm_ok14 : jx_okM 14 jm_i14 := ⟨by decide +kernel, rfl, by decide +kernel, ⟨by decide +kernel, by decide +kernel⟩, by decide +kernel, jx_mem (i := 495) (by decide +kernel) rfl, jx_mem (i := 117) (by decide +kernel) rfl, fun h => absurd h (by decide), fun h => absurd h (by decide), fun _ => jx_mem (i := 494) (by decide +kernel) rfl, by decide, by decide, by decide, by decide +kernel, by decide +kernel⟩
-- OfDifferentMinds$Grammar.inJourney(LOfDifferentMinds$Text;)I
def jm_b15_55 : List jx_E := (55, 2, (0, 0, 0, 0), 0, []) :: (56, 49, (119, 1, 9, 33), 0, []) :: (59, 69, (0, 0, 0, 0), 0, []) :: []
def jm_b15_49 : List jx_E := (49, 13, (1, 0, 0, 0), 1, []) :: (52, 54, (17, 0, 0, 0), 0, []) :: []
def jm_b15_35 : List jx_E := (35, 2, (0, 0, 0, 0), 0, []) :: (36, 9, (0, 0, 0, 0), 59, []) :: (38, 49, (124, 2, 9, 36), 0, []) :: (41, 56, (49, 0, 0, 0), 0, []) :: (44, 2, (0, 0, 0, 0), 0, []) :: (45, 49, (127, 1, 9, 40), 0, []) :: (48, 69, (0, 0, 0, 0), 0, []) :: []
def jm_b15_17 : List jx_E := (17, 0, (1, 0, 0, 0), 0, []) :: (18, 9, (0, 0, 0, 0), 60, []) :: (20, 64, (55, 0, 0, 0), 0, []) :: (23, 2, (0, 0, 0, 0), 0, []) :: (24, 50, (16, 1, 0, 54), 0, []) :: (27, 56, (35, 0, 0, 0), 0, []) :: (30, 2, (0, 0, 0, 0), 0, []) :: (31, 49, (119, 1, 9, 33), 0, []) :: (34, 69, (0, 0, 0, 0), 0, []) :: []
def jm_b15_15 : List jx_E := (15, 8, (0, 0, 0, 0), 0, []) :: (16, 4, (1, 0, 0, 0), 0, []) :: jm_b15_17
def jm_b15_0 : List jx_E := (0, 2, (0, 0, 0, 0), 0, []) :: (1, 9, (0, 0, 0, 0), 60, []) :: (3, 49, (118, 2, 9, 25), 0, []) :: (6, 2, (0, 0, 0, 0), 0, []) :: (7, 49, (113, 1, 9, 15), 0, []) :: (10, 56, (15, 0, 0, 0), 0, []) :: (13, 8, (0, 0, 0, 0), (-1), []) :: (14, 69, (0, 0, 0, 0), 0, []) :: []
def jm_l15 : jx_B := [(0, jm_b15_0), (15, jm_b15_15), (17, jm_b15_17), (35, jm_b15_35), (49, jm_b15_49), (55, jm_b15_55)]
def jm_i15 : jx_M := (⟨"OfDifferentMinds$Grammar", "inJourney", "(LOfDifferentMinds$Text;)I"⟩, prog_3_method_7_code, 2, (some .int), 2, 1, 1, jm_l15)
theorem jm_ok15 : jx_okM 15 jm_i15 := ⟨by decide +kernel, rfl, by decide +kernel, ⟨by decide +kernel, by decide +kernel⟩, by decide +kernel, jx_mem (i := 877) (by decide +kernel) rfl, jx_mem (i := 117) (by decide +kernel) rfl, fun h => absurd h (by decide), fun h => absurd h (by decide), fun _ => jx_mem (i := 876) (by decide +kernel) rfl, by decide, by decide, by decide, by decide +kernel, by decide +kernel⟩
-- OfDifferentMinds$Grammar.takeAct(LOfDifferentMinds$Text;)Z
def jm_b16_186 : List jx_E := (186, 8, (0, 0, 0, 0), 0, []) :: (187, 70, (0, 0, 0, 0), 0, []) :: []
def jm_b16_185 : List jx_E := (185, 70, (0, 0, 0, 0), 0, []) :: []
def jm_b16_184 : List jx_E := (184, 8, (0, 0, 0, 0), 0, []) :: jm_b16_185
def jm_b16_166 : List jx_E := (166, 2, (0, 0, 0, 0), 0, []) :: (167, 49, (123, 1, 9, 60), 0, []) :: (170, 31, (0, 0, 0, 0), 0, []) :: (171, 2, (0, 0, 0, 0), 0, []) :: (172, 8, (0, 0, 0, 0), 2, []) :: (173, 49, (126, 2, 9, 51), 0, []) :: (176, 8, (0, 0, 0, 0), (-1), []) :: (177, 61, (184, 0, 0, 0), 0, []) :: (180, 8, (0, 0, 0, 0), 1, []) :: (181, 54, (185, 0, 0, 0), 0, []) :: []
def jm_b16_152 : List jx_E := (152, 2, (0, 0, 0, 0), 0, []) :: (153, 49, (123, 1, 9, 60), 0, []) :: (156, 31, (0, 0, 0, 0), 0, []) :: (157, 2, (0, 0, 0, 0), 0, []) :: (158, 9, (0, 0, 0, 0), 48, []) :: (160, 9, (0, 0, 0, 0), 57, []) :: (162, 49, (125, 3, 9, 43), 0, []) :: (165, 70, (0, 0, 0, 0), 0, []) :: []
def jm_b16_145 : List jx_E := (145, 2, (0, 0, 0, 0), 0, []) :: (146, 49, (123, 1, 9, 60), 0, []) :: (149, 31, (0, 0, 0, 0), 0, []) :: (150, 8, (0, 0, 0, 0), 1, []) :: (151, 70, (0, 0, 0, 0), 0, []) :: []
def jm_b16_144 : List jx_E := (144, 70, (0, 0, 0, 0), 0, []) :: []
def jm_b16_143 : List jx_E := (143, 8, (0, 0, 0, 0), 0, []) :: jm_b16_144
def jm_b16_112 : List jx_E := (112, 2, (0, 0, 0, 0), 0, []) :: (113, 49, (123, 1, 9, 60), 0, []) :: (116, 31, (0, 0, 0, 0), 0, []) :: (117, 2, (0, 0, 0, 0), 0, []) :: (118, 9, (0, 0, 0, 0), 48, []) :: (120, 9, (0, 0, 0, 0), 57, []) :: (122, 49, (125, 3, 9, 43), 0, []) :: (125, 55, (143, 0, 0, 0), 0, []) :: (128, 2, (0, 0, 0, 0), 0, []) :: (129, 9, (0, 0, 0, 0), 48, []) :: (131, 9, (0, 0, 0, 0), 57, []) :: (133, 49, (125, 3, 9, 43), 0, []) :: (136, 55, (143, 0, 0, 0), 0, []) :: (139, 8, (0, 0, 0, 0), 1, []) :: (140, 54, (144, 0, 0, 0), 0, []) :: []
def jm_b16_0 : List jx_E := (0, 2, (0, 0, 0, 0), 0, []) :: (1, 49, (120, 1, 9, 57), 0, []) :: (4, 67, (186, 0, 0, 108), 100, [(100, 145), (101, 186), (102, 186), (103, 186), (104, 186), (105, 186), (106, 186), (107, 186), (108, 112), (109, 112), (110, 186), (111, 186), (112, 186), (113, 186), (114, 166), (115, 186), (116, 186), (117, 186), (118, 186), (119, 112), (120, 112), (121, 186), (122, 152)]) :: []
def jm_l16 : jx_B := [(0, jm_b16_0), (112, jm_b16_112), (143, jm_b16_143), (144, jm_b16_144), (145, jm_b16_145), (152, jm_b16_152), (166, jm_b16_166), (184, jm_b16_184), (185, jm_b16_185), (186, jm_b16_186)]
def jm_i16 : jx_M := (⟨"OfDifferentMinds$Grammar", "takeAct", "(LOfDifferentMinds$Text;)Z"⟩, prog_3_method_8_code, 1, (some .boolean), 2, 1, 1, jm_l16)
theorem jm_ok16 : jx_okM 16 jm_i16 := ⟨by decide +kernel, rfl, by decide +kernel, ⟨by decide +kernel, by decide +kernel⟩, by decide +kernel, jx_mem (i := 880) (by decide +kernel) rfl, jx_mem (i := 117) (by decide +kernel) rfl, fun h => absurd h (by decide), fun h => absurd h (by decide), fun _ => jx_mem (i := 879) (by decide +kernel) rfl, by decide, by decide, by decide, by decide +kernel, by decide +kernel⟩
-- OfDifferentMinds$Grammar.inPrints(LOfDifferentMinds$Text;I)I
def jm_b17_50 : List jx_E := (50, 69, (0, 0, 0, 0), 0, []) :: []
def jm_b17_46 : List jx_E := (46, 2, (0, 0, 0, 0), 0, []) :: (47, 49, (127, 1, 9, 40), 0, []) :: jm_b17_50
def jm_b17_35 : List jx_E := (35, 2, (0, 0, 0, 0), 0, []) :: (36, 49, (119, 1, 9, 33), 0, []) :: (39, 56, (46, 0, 0, 0), 0, []) :: (42, 8, (0, 0, 0, 0), 0, []) :: (43, 54, (50, 0, 0, 0), 0, []) :: []
def jm_b17_8 : List jx_E := (8, 0, (2, 0, 0, 0), 0, []) :: (9, 9, (0, 0, 0, 0), 20, []) :: (11, 64, (35, 0, 0, 0), 0, []) :: (14, 2, (0, 0, 0, 0), 0, []) :: (15, 9, (0, 0, 0, 0), 97, []) :: (17, 9, (0, 0, 0, 0), 97, []) :: (19, 0, (1, 0, 0, 0), 0, []) :: (20, 14, (0, 0, 0, 0), 0, []) :: (21, 8, (0, 0, 0, 0), 1, []) :: (22, 15, (0, 0, 0, 0), 0, []) :: (23, 49, (125, 3, 9, 43), 0, []) :: (26, 55, (35, 0, 0, 0), 0, []) :: (29, 13, (2, 0, 0, 0), 1, []) :: (32, 54, (8, 0, 0, 0), 0, []) :: []
def jm_b17_0 : List jx_E := (0, 2, (0, 0, 0, 0), 0, []) :: (1, 9, (0, 0, 0, 0), 20, []) :: (3, 49, (118, 2, 9, 25), 0, []) :: (6, 8, (0, 0, 0, 0), 0, []) :: (7, 4, (2, 0, 0, 0), 0, []) :: jm_b17_8
def jm_l17 : jx_B := [(0, jm_b17_0), (8, jm_b17_8), (35, jm_b17_35), (46, jm_b17_46), (50, jm_b17_50)]
def jm_i17 : jx_M := (⟨"OfDifferentMinds$Grammar", "inPrints", "(LOfDifferentMinds$Text;I)I"⟩, prog_3_method_9_code, 3, (some .int), 2, 2, 1, jm_l17)
theorem jm_ok17 : jx_okM 17 jm_i17 := ⟨by decide +kernel, rfl, by decide +kernel, ⟨by decide +kernel, by decide +kernel⟩, by decide +kernel, jx_mem (i := 1097) (by decide +kernel) rfl, jx_mem (i := 117) (by decide +kernel) rfl, fun h => absurd h (by decide), fun h => absurd h (by decide), fun _ => jx_mem (i := 1096) (by decide +kernel) rfl, by decide, by decide, by decide, by decide +kernel, by decide +kernel⟩
-- OfDifferentMinds$History.<init>()V
def jm_b18_74 : List jx_E := (74, 71, (0, 0, 0, 0), 0, []) :: []
def jm_b18_50 : List jx_E := (50, 0, (1, 0, 0, 0), 0, []) :: (51, 8, (0, 0, 0, 0), 2, []) :: (52, 64, (74, 0, 0, 0), 0, []) :: (55, 2, (0, 0, 0, 0), 0, []) :: (56, 33, (2, 1, 0, 18), 0, []) :: (59, 0, (1, 0, 0, 0), 0, []) :: (60, 48, (8, 0, 0, 11), 0, []) :: (63, 28, (0, 0, 0, 0), 0, []) :: (64, 51, (87, 1, 0, 17), 0, []) :: (67, 45, (0, 0, 0, 0), 0, []) :: (68, 13, (1, 0, 0, 0), 1, []) :: (71, 54, (50, 0, 0, 0), 0, []) :: []
def jm_b18_40 : List jx_E := (40, 2, (0, 0, 0, 0), 0, []) :: (41, 8, (0, 0, 0, 0), 2, []) :: (42, 47, (0, 0, 0, 11), 0, []) :: (45, 37, (2, 1, 0, 18), 0, []) :: (48, 8, (0, 0, 0, 0), 0, []) :: (49, 4, (1, 0, 0, 0), 0, []) :: jm_b18_50
def jm_b18_15 : List jx_E := (15, 0, (1, 0, 0, 0), 0, []) :: (16, 9, (0, 0, 0, 0), 13, []) :: (18, 64, (40, 0, 0, 0), 0, []) :: (21, 2, (0, 0, 0, 0), 0, []) :: (22, 33, (2, 0, 0, 13), 0, []) :: (25, 0, (1, 0, 0, 0), 0, []) :: (26, 48, (8, 0, 0, 11), 0, []) :: (29, 28, (0, 0, 0, 0), 0, []) :: (30, 51, (87, 1, 0, 17), 0, []) :: (33, 45, (0, 0, 0, 0), 0, []) :: (34, 13, (1, 0, 0, 0), 1, []) :: (37, 54, (15, 0, 0, 0), 0, []) :: []
def jm_b18_0 : List jx_E := (0, 2, (0, 0, 0, 0), 0, []) :: (1, 52, (0, 0, 0, 3), 0, []) :: (4, 2, (0, 0, 0, 0), 0, []) :: (5, 9, (0, 0, 0, 0), 13, []) :: (7, 47, (0, 0, 0, 11), 0, []) :: (10, 37, (2, 0, 0, 13), 0, []) :: (13, 8, (0, 0, 0, 0), 0, []) :: (14, 4, (1, 0, 0, 0), 0, []) :: jm_b18_15
def jm_l18 : jx_B := [(0, jm_b18_0), (15, jm_b18_15), (40, jm_b18_40), (50, jm_b18_50), (74, jm_b18_74)]
def jm_i18 : jx_M := (⟨"OfDifferentMinds$History", "<init>", "()V"⟩, prog_4_method_1_code, 2, none, 1, 1, 2, jm_l18)
theorem jm_ok18 : jx_okM 18 jm_i18 := ⟨by decide +kernel, rfl, by decide +kernel, ⟨by decide +kernel, by decide +kernel⟩, by decide +kernel, jx_mem (i := 217) (by decide +kernel) rfl, jx_mem (i := 111) (by decide +kernel) rfl, fun h => absurd h (by decide), fun _ => ⟨rfl, jx_mem (i := 216) (by decide +kernel) rfl, rfl⟩, fun h => absurd h (by decide), by decide, by decide, by decide, by decide +kernel, by decide +kernel⟩
-- OfDifferentMinds$History.size()I
def jm_b19_0 : List jx_E := (0, 2, (0, 0, 0, 0), 0, []) :: (1, 32, (2, 3, 0, 21), 0, []) :: (4, 69, (0, 0, 0, 0), 0, []) :: []
def jm_l19 : jx_B := [(0, jm_b19_0)]
def jm_i19 : jx_M := (⟨"OfDifferentMinds$History", "size", "()I"⟩, prog_4_method_2_code, 1, (some .int), 0, 1, 2, jm_l19)
theorem jm_ok19 : jx_okM 19 jm_i19 := ⟨by decide +kernel, rfl, by decide +kernel, ⟨by decide +kernel, by decide +kernel⟩, by decide +kernel, jx_mem (i := 903) (by decide +kernel) rfl, jx_mem (i := 111) (by decide +kernel) rfl, fun _ => ⟨jx_mem (i := 901) (by decide +kernel) rfl, jx_mem (i := 902) (by decide +kernel) rfl, by decide⟩, fun h => absurd h (by decide), fun h => absurd h (by decide), by decide, by decide, by decide, by decide +kernel, by decide +kernel⟩
-- OfDifferentMinds$History.forgetAll()V
def jm_b20_0 : List jx_E := (0, 2, (0, 0, 0, 0), 0, []) :: (1, 8, (0, 0, 0, 0), 0, []) :: (2, 34, (2, 3, 0, 21), 0, []) :: (5, 2, (0, 0, 0, 0), 0, []) :: (6, 8, (0, 0, 0, 0), 0, []) :: (7, 34, (2, 4, 0, 25), 0, []) :: (10, 71, (0, 0, 0, 0), 0, []) :: []
def jm_l20 : jx_B := [(0, jm_b20_0)]
def jm_i20 : jx_M := (⟨"OfDifferentMinds$History", "forgetAll", "()V"⟩, prog_4_method_3_code, 1, none, 0, 1, 2, jm_l20)
theorem jm_ok20 : jx_okM 20 jm_i20 := ⟨by decide +kernel, rfl, by decide +kernel, ⟨by decide +kernel, by decide +kernel⟩, by decide +kernel, jx_mem (i := 472) (by decide +kernel) rfl, jx_mem (i := 111) (by decide +kernel) rfl, fun _ => ⟨jx_mem (i := 470) (by decide +kernel) rfl, jx_mem (i := 471) (by decide +kernel) rfl, by decide⟩, fun h => absurd h (by decide), fun h => absurd h (by decide), by decide, by decide, by decide, by decide +kernel, by decide +kernel⟩
-- OfDifferentMinds$History.note(LOfDifferentMinds$Standing;)V
def jm_b21_0 : List jx_E := (0, 2, (0, 0, 0, 0), 0, []) :: (1, 33, (2, 0, 0, 13), 0, []) :: (4, 2, (0, 0, 0, 0), 0, []) :: (5, 32, (2, 2, 0, 28), 0, []) :: (8, 44, (0, 0, 0, 0), 0, []) :: (9, 2, (1, 0, 0, 0), 0, []) :: (10, 49, (89, 2, 8, 31), 0, []) :: (13, 71, (0, 0, 0, 0), 0, []) :: []
def jm_l21 : jx_B := [(0, jm_b21_0)]
def jm_i21 : jx_M := (⟨"OfDifferentMinds$History", "note", "(LOfDifferentMinds$Standing;)V"⟩, prog_4_method_4_code, 2, none, 0, 2, 2, jm_l21)
theorem jm_ok21 : jx_okM 21 jm_i21 := ⟨by decide +kernel, rfl, by decide +kernel, ⟨by decide +kernel, by decide +kernel⟩, by decide +kernel, jx_mem (i := 650) (by decide +kernel) rfl, jx_mem (i := 111) (by decide +kernel) rfl, fun _ => ⟨jx_mem (i := 648) (by decide +kernel) rfl, jx_mem (i := 649) (by decide +kernel) rfl, by decide⟩, fun h => absurd h (by decide), fun h => absurd h (by decide), by decide, by decide, by decide, by decide +kernel, by decide +kernel⟩
-- OfDifferentMinds$History.push()V
def jm_b22_0 : List jx_E := (0, 2, (0, 0, 0, 0), 0, []) :: (1, 2, (0, 0, 0, 0), 0, []) :: (2, 32, (2, 2, 0, 28), 0, []) :: (5, 8, (0, 0, 0, 0), 1, []) :: (6, 14, (0, 0, 0, 0), 0, []) :: (7, 9, (0, 0, 0, 0), 13, []) :: (9, 18, (0, 0, 0, 0), 0, []) :: (10, 34, (2, 2, 0, 28), 0, []) :: (13, 2, (0, 0, 0, 0), 0, []) :: (14, 2, (0, 0, 0, 0), 0, []) :: (15, 32, (2, 3, 0, 21), 0, []) :: (18, 8, (0, 0, 0, 0), 1, []) :: (19, 14, (0, 0, 0, 0), 0, []) :: (20, 9, (0, 0, 0, 0), 12, []) :: (22, 73, (311, 0, 0, 35), 0, []) :: (25, 34, (2, 3, 0, 21), 0, []) :: (28, 71, (0, 0, 0, 0), 0, []) :: []
def jm_l22 : jx_B := [(0, jm_b22_0)]
def jm_i22 : jx_M := (⟨"OfDifferentMinds$History", "push", "()V"⟩, prog_4_method_5_code, 1, none, 0, 1, 2, jm_l22)
theorem jm_ok22 : jx_okM 22 jm_i22 := ⟨by decide +kernel, rfl, by decide +kernel, ⟨by decide +kernel, by decide +kernel⟩, by decide +kernel, jx_mem (i := 684) (by decide +kernel) rfl, jx_mem (i := 111) (by decide +kernel) rfl, fun _ => ⟨jx_mem (i := 682) (by decide +kernel) rfl, jx_mem (i := 683) (by decide +kernel) rfl, by decide⟩, fun h => absurd h (by decide), fun h => absurd h (by decide), by decide, by decide, by decide, by decide +kernel, by decide +kernel⟩
-- OfDifferentMinds$History.back(LOfDifferentMinds$Standing;)Z
def jm_b23_9 : List jx_E := (9, 2, (0, 0, 0, 0), 0, []) :: (10, 2, (0, 0, 0, 0), 0, []) :: (11, 32, (2, 2, 0, 28), 0, []) :: (14, 9, (0, 0, 0, 0), 13, []) :: (16, 14, (0, 0, 0, 0), 0, []) :: (17, 8, (0, 0, 0, 0), 1, []) :: (18, 15, (0, 0, 0, 0), 0, []) :: (19, 9, (0, 0, 0, 0), 13, []) :: (21, 18, (0, 0, 0, 0), 0, []) :: (22, 34, (2, 2, 0, 28), 0, []) :: (25, 2, (0, 0, 0, 0), 0, []) :: (26, 28, (0, 0, 0, 0), 0, []) :: (27, 32, (2, 3, 0, 21), 0, []) :: (30, 8, (0, 0, 0, 0), 1, []) :: (31, 15, (0, 0, 0, 0), 0, []) :: (32, 34, (2, 3, 0, 21), 0, []) :: (35, 2, (1, 0, 0, 0), 0, []) :: (36, 2, (0, 0, 0, 0), 0, []) :: (37, 33, (2, 0, 0, 13), 0, []) :: (40, 2, (0, 0, 0, 0), 0, []) :: (41, 32, (2, 2, 0, 28), 0, []) :: (44, 44, (0, 0, 0, 0), 0, []) :: (45, 49, (89, 2, 8, 31), 0, []) :: (48, 8, (0, 0, 0, 0), 1, []) :: (49, 70, (0, 0, 0, 0), 0, []) :: []
def jm_b23_0 : List jx_E := (0, 2, (0, 0, 0, 0), 0, []) :: (1, 32, (2, 3, 0, 21), 0, []) :: (4, 56, (9, 0, 0, 0), 0, []) :: (7, 8, (0, 0, 0, 0), 0, []) :: (8, 70, (0, 0, 0, 0), 0, []) :: []
def jm_l23 : jx_B := [(0, jm_b23_0), (9, jm_b23_9)]
def jm_i23 : jx_M := (⟨"OfDifferentMinds$History", "back", "(LOfDifferentMinds$Standing;)Z"⟩, prog_4_method_6_code, 2, (some .boolean), 0, 2, 2, jm_l23)
theorem jm_ok23 : jx_okM 23 jm_i23 := ⟨by decide +kernel, rfl, by decide +kernel, ⟨by decide +kernel, by decide +kernel⟩, by decide +kernel, jx_mem (i := 899) (by decide +kernel) rfl, jx_mem (i := 111) (by decide +kernel) rfl, fun _ => ⟨jx_mem (i := 897) (by decide +kernel) rfl, jx_mem (i := 898) (by decide +kernel) rfl, by decide⟩, fun h => absurd h (by decide), fun h => absurd h (by decide), by decide, by decide, by decide, by decide +kernel, by decide +kernel⟩
-- OfDifferentMinds$History.keepUnder(ILOfDifferentMinds$Standing;)Z
def jm_b24_11 : List jx_E := (11, 2, (0, 0, 0, 0), 0, []) :: (12, 33, (2, 1, 0, 18), 0, []) :: (15, 0, (1, 0, 0, 0), 0, []) :: (16, 44, (0, 0, 0, 0), 0, []) :: (17, 2, (2, 0, 0, 0), 0, []) :: (18, 49, (89, 2, 8, 31), 0, []) :: (21, 2, (0, 0, 0, 0), 0, []) :: (22, 2, (0, 0, 0, 0), 0, []) :: (23, 32, (2, 4, 0, 25), 0, []) :: (26, 8, (0, 0, 0, 0), 1, []) :: (27, 0, (1, 0, 0, 0), 0, []) :: (28, 23, (0, 0, 0, 0), 0, []) :: (29, 21, (0, 0, 0, 0), 0, []) :: (30, 34, (2, 4, 0, 25), 0, []) :: (33, 8, (0, 0, 0, 0), 1, []) :: (34, 70, (0, 0, 0, 0), 0, []) :: []
def jm_b24_9 : List jx_E := (9, 8, (0, 0, 0, 0), 0, []) :: (10, 70, (0, 0, 0, 0), 0, []) :: []
def jm_b24_0 : List jx_E := (0, 0, (1, 0, 0, 0), 0, []) :: (1, 57, (9, 0, 0, 0), 0, []) :: (4, 0, (1, 0, 0, 0), 0, []) :: (5, 8, (0, 0, 0, 0), 2, []) :: (6, 63, (11, 0, 0, 0), 0, []) :: jm_b24_9
def jm_l24 : jx_B := [(0, jm_b24_0), (9, jm_b24_9), (11, jm_b24_11)]
def jm_i24 : jx_M := (⟨"OfDifferentMinds$History", "keepUnder", "(ILOfDifferentMinds$Standing;)Z"⟩, prog_4_method_7_code, 3, (some .boolean), 0, 3, 2, jm_l24)
theorem jm_ok24 : jx_okM 24 jm_i24 := ⟨by decide +kernel, rfl, by decide +kernel, ⟨by decide +kernel, by decide +kernel⟩, by decide +kernel, jx_mem (i := 1164) (by decide +kernel) rfl, jx_mem (i := 111) (by decide +kernel) rfl, fun _ => ⟨jx_mem (i := 1162) (by decide +kernel) rfl, jx_mem (i := 1163) (by decide +kernel) rfl, by decide⟩, fun h => absurd h (by decide), fun h => absurd h (by decide), by decide, by decide, by decide, by decide +kernel, by decide +kernel⟩
-- OfDifferentMinds$History.bringBack(ILOfDifferentMinds$Standing;)Z
def jm_b25_22 : List jx_E := (22, 2, (2, 0, 0, 0), 0, []) :: (23, 2, (0, 0, 0, 0), 0, []) :: (24, 33, (2, 1, 0, 18), 0, []) :: (27, 0, (1, 0, 0, 0), 0, []) :: (28, 44, (0, 0, 0, 0), 0, []) :: (29, 49, (89, 2, 8, 31), 0, []) :: (32, 2, (0, 0, 0, 0), 0, []) :: (33, 8, (0, 0, 0, 0), 0, []) :: (34, 34, (2, 3, 0, 21), 0, []) :: (37, 8, (0, 0, 0, 0), 1, []) :: (38, 70, (0, 0, 0, 0), 0, []) :: []
def jm_b25_20 : List jx_E := (20, 8, (0, 0, 0, 0), 0, []) :: (21, 70, (0, 0, 0, 0), 0, []) :: []
def jm_b25_0 : List jx_E := (0, 0, (1, 0, 0, 0), 0, []) :: (1, 57, (20, 0, 0, 0), 0, []) :: (4, 0, (1, 0, 0, 0), 0, []) :: (5, 8, (0, 0, 0, 0), 2, []) :: (6, 64, (20, 0, 0, 0), 0, []) :: (9, 2, (0, 0, 0, 0), 0, []) :: (10, 32, (2, 4, 0, 25), 0, []) :: (13, 0, (1, 0, 0, 0), 0, []) :: (14, 24, (0, 0, 0, 0), 0, []) :: (15, 8, (0, 0, 0, 0), 1, []) :: (16, 20, (0, 0, 0, 0), 0, []) :: (17, 56, (22, 0, 0, 0), 0, []) :: jm_b25_20
def jm_l25 : jx_B := [(0, jm_b25_0), (20, jm_b25_20), (22, jm_b25_22)]
def jm_i25 : jx_M := (⟨"OfDifferentMinds$History", "bringBack", "(ILOfDifferentMinds$Standing;)Z"⟩, prog_4_method_8_code, 3, (some .boolean), 0, 3, 2, jm_l25)
theorem jm_ok25 : jx_okM 25 jm_i25 := ⟨by decide +kernel, rfl, by decide +kernel, ⟨by decide +kernel, by decide +kernel⟩, by decide +kernel, jx_mem (i := 1172) (by decide +kernel) rfl, jx_mem (i := 111) (by decide +kernel) rfl, fun _ => ⟨jx_mem (i := 1170) (by decide +kernel) rfl, jx_mem (i := 1171) (by decide +kernel) rfl, by decide⟩, fun h => absurd h (by decide), fun h => absurd h (by decide), by decide, by decide, by decide, by decide +kernel, by decide +kernel⟩
-- OfDifferentMinds$Land.<init>()V
def jm_b26_0 : List jx_E := (0, 2, (0, 0, 0, 0), 0, []) :: (1, 52, (0, 0, 0, 3), 0, []) :: (4, 2, (0, 0, 0, 0), 0, []) :: (5, 9, (0, 0, 0, 0), 10, []) :: (7, 46, (0, 0, 0, 0), 0, []) :: (9, 37, (3, 0, 0, 9), 0, []) :: (12, 2, (0, 0, 0, 0), 0, []) :: (13, 9, (0, 0, 0, 0), 30, []) :: (15, 46, (0, 0, 0, 0), 0, []) :: (17, 37, (3, 1, 0, 15), 0, []) :: (20, 2, (0, 0, 0, 0), 0, []) :: (21, 9, (0, 0, 0, 0), 6, []) :: (23, 46, (0, 0, 0, 0), 0, []) :: (25, 37, (3, 2, 0, 18), 0, []) :: (28, 71, (0, 0, 0, 0), 0, []) :: []
def jm_l26 : jx_B := [(0, jm_b26_0)]
def jm_i26 : jx_M := (⟨"OfDifferentMinds$Land", "<init>", "()V"⟩, prog_5_method_1_code, 1, none, 1, 1, 3, jm_l26)
theorem jm_ok26 : jx_okM 26 jm_i26 := ⟨by decide +kernel, rfl, by decide +kernel, ⟨by decide +kernel, by decide +kernel⟩, by decide +kernel, jx_mem (i := 157) (by decide +kernel) rfl, jx_mem (i := 108) (by decide +kernel) rfl, fun h => absurd h (by decide), fun _ => ⟨rfl, jx_mem (i := 156) (by decide +kernel) rfl, rfl⟩, fun h => absurd h (by decide), by decide, by decide, by decide, by decide +kernel, by decide +kernel⟩
-- OfDifferentMinds$Land.places()I
def jm_b27_0 : List jx_E := (0, 2, (0, 0, 0, 0), 0, []) :: (1, 32, (3, 3, 0, 21), 0, []) :: (4, 69, (0, 0, 0, 0), 0, []) :: []
def jm_l27 : jx_B := [(0, jm_b27_0)]
def jm_i27 : jx_M := (⟨"OfDifferentMinds$Land", "places", "()I"⟩, prog_5_method_2_code, 1, (some .int), 0, 1, 3, jm_l27)
theorem jm_ok27 : jx_okM 27 jm_i27 := ⟨by decide +kernel, rfl, by decide +kernel, ⟨by decide +kernel, by decide +kernel⟩, by decide +kernel, jx_mem (i := 480) (by decide +kernel) rfl, jx_mem (i := 108) (by decide +kernel) rfl, fun _ => ⟨jx_mem (i := 478) (by decide +kernel) rfl, jx_mem (i := 479) (by decide +kernel) rfl, by decide⟩, fun h => absurd h (by decide), fun h => absurd h (by decide), by decide, by decide, by decide, by decide +kernel, by decide +kernel⟩
-- OfDifferentMinds$Land.riderCount()I
def jm_b28_0 : List jx_E := (0, 2, (0, 0, 0, 0), 0, []) :: (1, 32, (3, 5, 0, 25), 0, []) :: (4, 69, (0, 0, 0, 0), 0, []) :: []
def jm_l28 : jx_B := [(0, jm_b28_0)]
def jm_i28 : jx_M := (⟨"OfDifferentMinds$Land", "riderCount", "()I"⟩, prog_5_method_3_code, 1, (some .int), 0, 1, 3, jm_l28)
theorem jm_ok28 : jx_okM 28 jm_i28 := ⟨by decide +kernel, rfl, by decide +kernel, ⟨by decide +kernel, by decide +kernel⟩, by decide +kernel, jx_mem (i := 489) (by decide +kernel) rfl, jx_mem (i := 108) (by decide +kernel) rfl, fun _ => ⟨jx_mem (i := 487) (by decide +kernel) rfl, jx_mem (i := 488) (by decide +kernel) rfl, by decide⟩, fun h => absurd h (by decide), fun h => absurd h (by decide), by decide, by decide, by decide, by decide +kernel, by decide +kernel⟩
-- OfDifferentMinds$Land.inns()I
def jm_b29_0 : List jx_E := (0, 2, (0, 0, 0, 0), 0, []) :: (1, 32, (3, 4, 0, 28), 0, []) :: (4, 69, (0, 0, 0, 0), 0, []) :: []
def jm_l29 : jx_B := [(0, jm_b29_0)]
def jm_i29 : jx_M := (⟨"OfDifferentMinds$Land", "inns", "()I"⟩, prog_5_method_4_code, 1, (some .int), 0, 1, 3, jm_l29)
theorem jm_ok29 : jx_okM 29 jm_i29 := ⟨by decide +kernel, rfl, by decide +kernel, ⟨by decide +kernel, by decide +kernel⟩, by decide +kernel, jx_mem (i := 962) (by decide +kernel) rfl, jx_mem (i := 108) (by decide +kernel) rfl, fun _ => ⟨jx_mem (i := 960) (by decide +kernel) rfl, jx_mem (i := 961) (by decide +kernel) rfl, by decide⟩, fun h => absurd h (by decide), fun h => absurd h (by decide), by decide, by decide, by decide, by decide +kernel, by decide +kernel⟩
-- OfDifferentMinds$Land.hasPlace(I)Z
def jm_b30_17 : List jx_E := (17, 70, (0, 0, 0, 0), 0, []) :: []
def jm_b30_16 : List jx_E := (16, 8, (0, 0, 0, 0), 0, []) :: jm_b30_17
def jm_b30_0 : List jx_E := (0, 0, (1, 0, 0, 0), 0, []) :: (1, 57, (16, 0, 0, 0), 0, []) :: (4, 0, (1, 0, 0, 0), 0, []) :: (5, 2, (0, 0, 0, 0), 0, []) :: (6, 32, (3, 3, 0, 21), 0, []) :: (9, 64, (16, 0, 0, 0), 0, []) :: (12, 8, (0, 0, 0, 0), 1, []) :: (13, 54, (17, 0, 0, 0), 0, []) :: []
def jm_l30 : jx_B := [(0, jm_b30_0), (16, jm_b30_16), (17, jm_b30_17)]
def jm_i30 : jx_M := (⟨"OfDifferentMinds$Land", "hasPlace", "(I)Z"⟩, prog_5_method_5_code, 2, (some .boolean), 0, 2, 3, jm_l30)
theorem jm_ok30 : jx_okM 30 jm_i30 := ⟨by decide +kernel, rfl, by decide +kernel, ⟨by decide +kernel, by decide +kernel⟩, by decide +kernel, jx_mem (i := 582) (by decide +kernel) rfl, jx_mem (i := 108) (by decide +kernel) rfl, fun _ => ⟨jx_mem (i := 580) (by decide +kernel) rfl, jx_mem (i := 581) (by decide +kernel) rfl, by decide⟩, fun h => absurd h (by decide), fun h => absurd h (by decide), by decide, by decide, by decide, by decide +kernel, by decide +kernel⟩
-- OfDifferentMinds$Land.hasRider(I)Z
def jm_b31_17 : List jx_E := (17, 70, (0, 0, 0, 0), 0, []) :: []
def jm_b31_16 : List jx_E := (16, 8, (0, 0, 0, 0), 0, []) :: jm_b31_17
def jm_b31_0 : List jx_E := (0, 0, (1, 0, 0, 0), 0, []) :: (1, 57, (16, 0, 0, 0), 0, []) :: (4, 0, (1, 0, 0, 0), 0, []) :: (5, 2, (0, 0, 0, 0), 0, []) :: (6, 32, (3, 5, 0, 25), 0, []) :: (9, 64, (16, 0, 0, 0), 0, []) :: (12, 8, (0, 0, 0, 0), 1, []) :: (13, 54, (17, 0, 0, 0), 0, []) :: []
def jm_l31 : jx_B := [(0, jm_b31_0), (16, jm_b31_16), (17, jm_b31_17)]
def jm_i31 : jx_M := (⟨"OfDifferentMinds$Land", "hasRider", "(I)Z"⟩, prog_5_method_6_code, 2, (some .boolean), 0, 2, 3, jm_l31)
theorem jm_ok31 : jx_okM 31 jm_i31 := ⟨by decide +kernel, rfl, by decide +kernel, ⟨by decide +kernel, by decide +kernel⟩, by decide +kernel, jx_mem (i := 578) (by decide +kernel) rfl, jx_mem (i := 108) (by decide +kernel) rfl, fun _ => ⟨jx_mem (i := 576) (by decide +kernel) rfl, jx_mem (i := 577) (by decide +kernel) rfl, by decide⟩, fun h => absurd h (by decide), fun h => absurd h (by decide), by decide, by decide, by decide, by decide +kernel, by decide +kernel⟩
-- OfDifferentMinds$Land.hasRiders(I)Z
def jm_b32_19 : List jx_E := (19, 70, (0, 0, 0, 0), 0, []) :: []
def jm_b32_18 : List jx_E := (18, 8, (0, 0, 0, 0), 0, []) :: jm_b32_19
def jm_b32_0 : List jx_E := (0, 0, (1, 0, 0, 0), 0, []) :: (1, 57, (18, 0, 0, 0), 0, []) :: (4, 0, (1, 0, 0, 0), 0, []) :: (5, 8, (0, 0, 0, 0), 1, []) :: (6, 2, (0, 0, 0, 0), 0, []) :: (7, 32, (3, 5, 0, 25), 0, []) :: (10, 23, (0, 0, 0, 0), 0, []) :: (11, 64, (18, 0, 0, 0), 0, []) :: (14, 8, (0, 0, 0, 0), 1, []) :: (15, 54, (19, 0, 0, 0), 0, []) :: []
def jm_l32 : jx_B := [(0, jm_b32_0), (18, jm_b32_18), (19, jm_b32_19)]
def jm_i32 : jx_M := (⟨"OfDifferentMinds$Land", "hasRiders", "(I)Z"⟩, prog_5_method_7_code, 2, (some .boolean), 0, 2, 3, jm_l32)
theorem jm_ok32 : jx_okM 32 jm_i32 := ⟨by decide +kernel, rfl, by decide +kernel, ⟨by decide +kernel, by decide +kernel⟩, by decide +kernel, jx_mem (i := 1031) (by decide +kernel) rfl, jx_mem (i := 108) (by decide +kernel) rfl, fun _ => ⟨jx_mem (i := 1029) (by decide +kernel) rfl, jx_mem (i := 1030) (by decide +kernel) rfl, by decide⟩, fun h => absurd h (by decide), fun h => absurd h (by decide), by decide, by decide, by decide, by decide +kernel, by decide +kernel⟩
-- OfDifferentMinds$Land.waysAt(I)I
def jm_b33_18 : List jx_E := (18, 69, (0, 0, 0, 0), 0, []) :: []
def jm_b33_17 : List jx_E := (17, 8, (0, 0, 0, 0), 0, []) :: jm_b33_18
def jm_b33_0 : List jx_E := (0, 2, (0, 0, 0, 0), 0, []) :: (1, 0, (1, 0, 0, 0), 0, []) :: (2, 49, (30, 2, 3, 31), 0, []) :: (5, 55, (17, 0, 0, 0), 0, []) :: (8, 2, (0, 0, 0, 0), 0, []) :: (9, 33, (3, 0, 0, 9), 0, []) :: (12, 0, (1, 0, 0, 0), 0, []) :: (13, 38, (0, 0, 0, 0), 0, []) :: (14, 54, (18, 0, 0, 0), 0, []) :: []
def jm_l33 : jx_B := [(0, jm_b33_0), (17, jm_b33_17), (18, jm_b33_18)]
def jm_i33 : jx_M := (⟨"OfDifferentMinds$Land", "waysAt", "(I)I"⟩, prog_5_method_8_code, 2, (some .int), 0, 2, 3, jm_l33)
theorem jm_ok33 : jx_okM 33 jm_i33 := ⟨by decide +kernel, rfl, by decide +kernel, ⟨by decide +kernel, by decide +kernel⟩, by decide +kernel, jx_mem (i := 586) (by decide +kernel) rfl, jx_mem (i := 108) (by decide +kernel) rfl, fun _ => ⟨jx_mem (i := 584) (by decide +kernel) rfl, jx_mem (i := 585) (by decide +kernel) rfl, by decide⟩, fun h => absurd h (by decide), fun h => absurd h (by decide), by decide, by decide, by decide, by decide +kernel, by decide +kernel⟩
-- OfDifferentMinds$Land.isInn(I)Z
def jm_b34_24 : List jx_E := (24, 70, (0, 0, 0, 0), 0, []) :: []
def jm_b34_23 : List jx_E := (23, 8, (0, 0, 0, 0), 0, []) :: jm_b34_24
def jm_b34_0 : List jx_E := (0, 2, (0, 0, 0, 0), 0, []) :: (1, 0, (1, 0, 0, 0), 0, []) :: (2, 49, (30, 2, 3, 31), 0, []) :: (5, 55, (23, 0, 0, 0), 0, []) :: (8, 2, (0, 0, 0, 0), 0, []) :: (9, 32, (3, 4, 0, 28), 0, []) :: (12, 0, (1, 0, 0, 0), 0, []) :: (13, 24, (0, 0, 0, 0), 0, []) :: (14, 8, (0, 0, 0, 0), 1, []) :: (15, 20, (0, 0, 0, 0), 0, []) :: (16, 55, (23, 0, 0, 0), 0, []) :: (19, 8, (0, 0, 0, 0), 1, []) :: (20, 54, (24, 0, 0, 0), 0, []) :: []
def jm_l34 : jx_B := [(0, jm_b34_0), (23, jm_b34_23), (24, jm_b34_24)]
def jm_i34 : jx_M := (⟨"OfDifferentMinds$Land", "isInn", "(I)Z"⟩, prog_5_method_9_code, 2, (some .boolean), 0, 2, 3, jm_l34)
theorem jm_ok34 : jx_okM 34 jm_i34 := ⟨by decide +kernel, rfl, by decide +kernel, ⟨by decide +kernel, by decide +kernel⟩, by decide +kernel, jx_mem (i := 853) (by decide +kernel) rfl, jx_mem (i := 108) (by decide +kernel) rfl, fun _ => ⟨jx_mem (i := 851) (by decide +kernel) rfl, jx_mem (i := 852) (by decide +kernel) rfl, by decide⟩, fun h => absurd h (by decide), fun h => absurd h (by decide), by decide, by decide, by decide, by decide +kernel, by decide +kernel⟩
-- OfDifferentMinds$Land.leadsTo(II)I
def jm_b35_46 : List jx_E := (46, 69, (0, 0, 0, 0), 0, []) :: []
def jm_b35_45 : List jx_E := (45, 8, (0, 0, 0, 0), (-1), []) :: jm_b35_46
def jm_b35_27 : List jx_E := (27, 4, (3, 0, 0, 0), 0, []) :: (28, 0, (3, 0, 0, 0), 0, []) :: (29, 55, (45, 0, 0, 0), 0, []) :: (32, 2, (0, 0, 0, 0), 0, []) :: (33, 33, (3, 1, 0, 15), 0, []) :: (36, 0, (1, 0, 0, 0), 0, []) :: (37, 8, (0, 0, 0, 0), 3, []) :: (38, 16, (0, 0, 0, 0), 0, []) :: (39, 0, (2, 0, 0, 0), 0, []) :: (40, 14, (0, 0, 0, 0), 0, []) :: (41, 38, (0, 0, 0, 0), 0, []) :: (42, 54, (46, 0, 0, 0), 0, []) :: []
def jm_b35_26 : List jx_E := (26, 8, (0, 0, 0, 0), 0, []) :: jm_b35_27
def jm_b35_0 : List jx_E := (0, 2, (0, 0, 0, 0), 0, []) :: (1, 0, (1, 0, 0, 0), 0, []) :: (2, 49, (30, 2, 3, 31), 0, []) :: (5, 55, (26, 0, 0, 0), 0, []) :: (8, 0, (2, 0, 0, 0), 0, []) :: (9, 57, (26, 0, 0, 0), 0, []) :: (12, 0, (2, 0, 0, 0), 0, []) :: (13, 2, (0, 0, 0, 0), 0, []) :: (14, 33, (3, 0, 0, 9), 0, []) :: (17, 0, (1, 0, 0, 0), 0, []) :: (18, 38, (0, 0, 0, 0), 0, []) :: (19, 64, (26, 0, 0, 0), 0, []) :: (22, 8, (0, 0, 0, 0), 1, []) :: (23, 54, (27, 0, 0, 0), 0, []) :: []
def jm_l35 : jx_B := [(0, jm_b35_0), (26, jm_b35_26), (27, jm_b35_27), (45, jm_b35_45), (46, jm_b35_46)]
def jm_i35 : jx_M := (⟨"OfDifferentMinds$Land", "leadsTo", "(II)I"⟩, prog_5_method_10_code, 4, (some .int), 0, 3, 3, jm_l35)
theorem jm_ok35 : jx_okM 35 jm_i35 := ⟨by decide +kernel, rfl, by decide +kernel, ⟨by decide +kernel, by decide +kernel⟩, by decide +kernel, jx_mem (i := 764) (by decide +kernel) rfl, jx_mem (i := 108) (by decide +kernel) rfl, fun _ => ⟨jx_mem (i := 762) (by decide +kernel) rfl, jx_mem (i := 763) (by decide +kernel) rfl, by decide⟩, fun h => absurd h (by decide), fun h => absurd h (by decide), by decide, by decide, by decide, by decide +kernel, by decide +kernel⟩
-- OfDifferentMinds$Land.viewOf(II)I
def jm_b36_36 : List jx_E := (36, 69, (0, 0, 0, 0), 0, []) :: []
def jm_b36_35 : List jx_E := (35, 8, (0, 0, 0, 0), (-1), []) :: jm_b36_36
def jm_b36_18 : List jx_E := (18, 4, (3, 0, 0, 0), 0, []) :: (19, 0, (3, 0, 0, 0), 0, []) :: (20, 60, (35, 0, 0, 0), 0, []) :: (23, 0, (1, 0, 0, 0), 0, []) :: (24, 8, (0, 0, 0, 0), 2, []) :: (25, 0, (2, 0, 0, 0), 0, []) :: (26, 16, (0, 0, 0, 0), 0, []) :: (27, 24, (0, 0, 0, 0), 0, []) :: (28, 8, (0, 0, 0, 0), 3, []) :: (29, 20, (0, 0, 0, 0), 0, []) :: (30, 0, (3, 0, 0, 0), 0, []) :: (31, 18, (0, 0, 0, 0), 0, []) :: (32, 54, (36, 0, 0, 0), 0, []) :: []
def jm_b36_17 : List jx_E := (17, 8, (0, 0, 0, 0), 0, []) :: jm_b36_18
def jm_b36_0 : List jx_E := (0, 2, (0, 0, 0, 0), 0, []) :: (1, 0, (2, 0, 0, 0), 0, []) :: (2, 49, (30, 2, 3, 31), 0, []) :: (5, 55, (17, 0, 0, 0), 0, []) :: (8, 2, (0, 0, 0, 0), 0, []) :: (9, 33, (3, 0, 0, 9), 0, []) :: (12, 0, (2, 0, 0, 0), 0, []) :: (13, 38, (0, 0, 0, 0), 0, []) :: (14, 54, (18, 0, 0, 0), 0, []) :: []
def jm_l36 : jx_B := [(0, jm_b36_0), (17, jm_b36_17), (18, jm_b36_18), (35, jm_b36_35), (36, jm_b36_36)]
def jm_i36 : jx_M := (⟨"OfDifferentMinds$Land", "viewOf", "(II)I"⟩, prog_5_method_11_code, 4, (some .int), 0, 3, 3, jm_l36)
theorem jm_ok36 : jx_okM 36 jm_i36 := ⟨by decide +kernel, rfl, by decide +kernel, ⟨by decide +kernel, by decide +kernel⟩, by decide +kernel, jx_mem (i := 611) (by decide +kernel) rfl, jx_mem (i := 108) (by decide +kernel) rfl, fun _ => ⟨jx_mem (i := 609) (by decide +kernel) rfl, jx_mem (i := 610) (by decide +kernel) rfl, by decide⟩, fun h => absurd h (by decide), fun h => absurd h (by decide), by decide, by decide, by decide, by decide +kernel, by decide +kernel⟩
-- OfDifferentMinds$Land.mindOf(I)I
def jm_b37_18 : List jx_E := (18, 69, (0, 0, 0, 0), 0, []) :: []
def jm_b37_17 : List jx_E := (17, 8, (0, 0, 0, 0), 0, []) :: jm_b37_18
def jm_b37_0 : List jx_E := (0, 2, (0, 0, 0, 0), 0, []) :: (1, 0, (1, 0, 0, 0), 0, []) :: (2, 49, (31, 2, 3, 35), 0, []) :: (5, 55, (17, 0, 0, 0), 0, []) :: (8, 2, (0, 0, 0, 0), 0, []) :: (9, 33, (3, 2, 0, 18), 0, []) :: (12, 0, (1, 0, 0, 0), 0, []) :: (13, 38, (0, 0, 0, 0), 0, []) :: (14, 54, (18, 0, 0, 0), 0, []) :: []
def jm_l37 : jx_B := [(0, jm_b37_0), (17, jm_b37_17), (18, jm_b37_18)]
def jm_i37 : jx_M := (⟨"OfDifferentMinds$Land", "mindOf", "(I)I"⟩, prog_5_method_12_code, 2, (some .int), 0, 2, 3, jm_l37)
theorem jm_ok37 : jx_okM 37 jm_i37 := ⟨by decide +kernel, rfl, by decide +kernel, ⟨by decide +kernel, by decide +kernel⟩, by decide +kernel, jx_mem (i := 638) (by decide +kernel) rfl, jx_mem (i := 108) (by decide +kernel) rfl, fun _ => ⟨jx_mem (i := 636) (by decide +kernel) rfl, jx_mem (i := 637) (by decide +kernel) rfl, by decide⟩, fun h => absurd h (by decide), fun h => absurd h (by decide), by decide, by decide, by decide, by decide +kernel, by decide +kernel⟩
-- OfDifferentMinds$Land.setMind(II)V
def jm_b38_15 : List jx_E := (15, 71, (0, 0, 0, 0), 0, []) :: []
def jm_b38_0 : List jx_E := (0, 2, (0, 0, 0, 0), 0, []) :: (1, 0, (1, 0, 0, 0), 0, []) :: (2, 49, (31, 2, 3, 35), 0, []) :: (5, 55, (15, 0, 0, 0), 0, []) :: (8, 2, (0, 0, 0, 0), 0, []) :: (9, 33, (3, 2, 0, 18), 0, []) :: (12, 0, (1, 0, 0, 0), 0, []) :: (13, 0, (2, 0, 0, 0), 0, []) :: (14, 41, (0, 0, 0, 0), 0, []) :: jm_b38_15
def jm_l38 : jx_B := [(0, jm_b38_0), (15, jm_b38_15)]
def jm_i38 : jx_M := (⟨"OfDifferentMinds$Land", "setMind", "(II)V"⟩, prog_5_method_13_code, 3, none, 0, 3, 3, jm_l38)
theorem jm_ok38 : jx_okM 38 jm_i38 := ⟨by decide +kernel, rfl, by decide +kernel, ⟨by decide +kernel, by decide +kernel⟩, by decide +kernel, jx_mem (i := 625) (by decide +kernel) rfl, jx_mem (i := 108) (by decide +kernel) rfl, fun _ => ⟨jx_mem (i := 623) (by decide +kernel) rfl, jx_mem (i := 624) (by decide +kernel) rfl, by decide⟩, fun h => absurd h (by decide), fun h => absurd h (by decide), by decide, by decide, by decide, by decide +kernel, by decide +kernel⟩
-- OfDifferentMinds$Land.admit(I)V
def jm_b39_29 : List jx_E := (29, 71, (0, 0, 0, 0), 0, []) :: []
def jm_b39_0 : List jx_E := (0, 2, (0, 0, 0, 0), 0, []) :: (1, 32, (3, 5, 0, 25), 0, []) :: (4, 9, (0, 0, 0, 0), 6, []) :: (6, 64, (29, 0, 0, 0), 0, []) :: (9, 2, (0, 0, 0, 0), 0, []) :: (10, 33, (3, 2, 0, 18), 0, []) :: (13, 2, (0, 0, 0, 0), 0, []) :: (14, 32, (3, 5, 0, 25), 0, []) :: (17, 0, (1, 0, 0, 0), 0, []) :: (18, 41, (0, 0, 0, 0), 0, []) :: (19, 2, (0, 0, 0, 0), 0, []) :: (20, 28, (0, 0, 0, 0), 0, []) :: (21, 32, (3, 5, 0, 25), 0, []) :: (24, 8, (0, 0, 0, 0), 1, []) :: (25, 14, (0, 0, 0, 0), 0, []) :: (26, 34, (3, 5, 0, 25), 0, []) :: jm_b39_29
def jm_l39 : jx_B := [(0, jm_b39_0), (29, jm_b39_29)]
def jm_i39 : jx_M := (⟨"OfDifferentMinds$Land", "admit", "(I)V"⟩, prog_5_method_14_code, 2, none, 0, 2, 3, jm_l39)
theorem jm_ok39 : jx_okM 39 jm_i39 := ⟨by decide +kernel, rfl, by decide +kernel, ⟨by decide +kernel, by decide +kernel⟩, by decide +kernel, jx_mem (i := 522) (by decide +kernel) rfl, jx_mem (i := 108) (by decide +kernel) rfl, fun _ => ⟨jx_mem (i := 520) (by decide +kernel) rfl, jx_mem (i := 521) (by decide +kernel) rfl, by decide⟩, fun h => absurd h (by decide), fun h => absurd h (by decide), by decide, by decide, by decide, by decide +kernel, by decide +kernel⟩
end
section
/-! ===== methods 40 .. as entries ===== -/
-- OfDifferentMinds$Land.lay(LOfDifferentMinds$Text;)V
def jm_b40_94 : List jx_E := (94, 71, (0, 0, 0, 0), 0, []) :: []
def jm_b40_88 : List jx_E := (88, 13, (2, 0, 0, 0), 1, []) :: (91, 54, (21, 0, 0, 0), 0, []) :: []
def jm_b40_74 : List jx_E := (74, 0, (3, 0, 0, 0), 0, []) :: (75, 9, (0, 0, 0, 0), 45, []) :: (77, 61, (88, 0, 0, 0), 0, []) :: (80, 2, (0, 0, 0, 0), 0, []) :: (81, 0, (3, 0, 0, 0), 0, []) :: (82, 9, (0, 0, 0, 0), 97, []) :: (84, 15, (0, 0, 0, 0), 0, []) :: (85, 49, (42, 2, 3, 51), 0, []) :: jm_b40_88
def jm_b40_48 : List jx_E := (48, 0, (3, 0, 0, 0), 0, []) :: (49, 9, (0, 0, 0, 0), 33, []) :: (51, 62, (74, 0, 0, 0), 0, []) :: (54, 2, (0, 0, 0, 0), 0, []) :: (55, 2, (0, 0, 0, 0), 0, []) :: (56, 32, (3, 4, 0, 28), 0, []) :: (59, 8, (0, 0, 0, 0), 1, []) :: (60, 2, (0, 0, 0, 0), 0, []) :: (61, 32, (3, 3, 0, 21), 0, []) :: (64, 8, (0, 0, 0, 0), 1, []) :: (65, 15, (0, 0, 0, 0), 0, []) :: (66, 23, (0, 0, 0, 0), 0, []) :: (67, 21, (0, 0, 0, 0), 0, []) :: (68, 34, (3, 4, 0, 28), 0, []) :: (71, 54, (88, 0, 0, 0), 0, []) :: []
def jm_b40_21 : List jx_E := (21, 0, (2, 0, 0, 0), 0, []) :: (22, 2, (1, 0, 0, 0), 0, []) :: (23, 49, (113, 1, 9, 41), 0, []) :: (26, 64, (94, 0, 0, 0), 0, []) :: (29, 2, (1, 0, 0, 0), 0, []) :: (30, 0, (2, 0, 0, 0), 0, []) :: (31, 49, (114, 2, 9, 47), 0, []) :: (34, 4, (3, 0, 0, 0), 0, []) :: (35, 0, (3, 0, 0, 0), 0, []) :: (36, 9, (0, 0, 0, 0), 59, []) :: (38, 62, (48, 0, 0, 0), 0, []) :: (41, 2, (0, 0, 0, 0), 0, []) :: (42, 49, (41, 1, 3, 38), 0, []) :: (45, 54, (88, 0, 0, 0), 0, []) :: []
def jm_b40_0 : List jx_E := (0, 2, (0, 0, 0, 0), 0, []) :: (1, 8, (0, 0, 0, 0), 0, []) :: (2, 34, (3, 3, 0, 21), 0, []) :: (5, 2, (0, 0, 0, 0), 0, []) :: (6, 8, (0, 0, 0, 0), 0, []) :: (7, 34, (3, 4, 0, 28), 0, []) :: (10, 2, (0, 0, 0, 0), 0, []) :: (11, 8, (0, 0, 0, 0), 0, []) :: (12, 34, (3, 5, 0, 25), 0, []) :: (15, 2, (0, 0, 0, 0), 0, []) :: (16, 49, (41, 1, 3, 38), 0, []) :: (19, 8, (0, 0, 0, 0), 0, []) :: (20, 4, (2, 0, 0, 0), 0, []) :: jm_b40_21
def jm_l40 : jx_B := [(0, jm_b40_0), (21, jm_b40_21), (48, jm_b40_48), (74, jm_b40_74), (88, jm_b40_88), (94, jm_b40_94)]
def jm_i40 : jx_M := (⟨"OfDifferentMinds$Land", "lay", "(LOfDifferentMinds$Text;)V"⟩, prog_5_method_15_code, 4, none, 0, 2, 3, jm_l40)
theorem jm_ok40 : jx_okM 40 jm_i40 := ⟨by decide +kernel, rfl, by decide +kernel, ⟨by decide +kernel, by decide +kernel⟩, by decide +kernel, jx_mem (i := 450) (by decide +kernel) rfl, jx_mem (i := 108) (by decide +kernel) rfl, fun _ => ⟨jx_mem (i := 448) (by decide +kernel) rfl, jx_mem (i := 449) (by decide +kernel) rfl, by decide⟩, fun h => absurd h (by decide), fun h => absurd h (by decide), by decide, by decide, by decide, by decide +kernel, by decide +kernel⟩
-- OfDifferentMinds$Land.addPlace()V
def jm_b41_29 : List jx_E := (29, 71, (0, 0, 0, 0), 0, []) :: []
def jm_b41_0 : List jx_E := (0, 2, (0, 0, 0, 0), 0, []) :: (1, 32, (3, 3, 0, 21), 0, []) :: (4, 9, (0, 0, 0, 0), 10, []) :: (6, 64, (29, 0, 0, 0), 0, []) :: (9, 2, (0, 0, 0, 0), 0, []) :: (10, 33, (3, 0, 0, 9), 0, []) :: (13, 2, (0, 0, 0, 0), 0, []) :: (14, 32, (3, 3, 0, 21), 0, []) :: (17, 8, (0, 0, 0, 0), 0, []) :: (18, 41, (0, 0, 0, 0), 0, []) :: (19, 2, (0, 0, 0, 0), 0, []) :: (20, 28, (0, 0, 0, 0), 0, []) :: (21, 32, (3, 3, 0, 21), 0, []) :: (24, 8, (0, 0, 0, 0), 1, []) :: (25, 14, (0, 0, 0, 0), 0, []) :: (26, 34, (3, 3, 0, 21), 0, []) :: jm_b41_29
def jm_l41 : jx_B := [(0, jm_b41_0), (29, jm_b41_29)]
def jm_i41 : jx_M := (⟨"OfDifferentMinds$Land", "addPlace", "()V"⟩, prog_5_method_16_code, 1, none, 0, 1, 3, jm_l41)
theorem jm_ok41 : jx_okM 41 jm_i41 := ⟨by decide +kernel, rfl, by decide +kernel, ⟨by decide +kernel, by decide +kernel⟩, by decide +kernel, jx_mem (i := 454) (by decide +kernel) rfl, jx_mem (i := 108) (by decide +kernel) rfl, fun _ => ⟨jx_mem (i := 453) (by decide +kernel) rfl, jx_mem (i := 0) (by decide +kernel) rfl, by decide⟩, fun h => absurd h (by decide), fun h => absurd h (by decide), by decide, by decide, by decide, by decide +kernel, by decide +kernel⟩
-- OfDifferentMinds$Land.addWay(I)V
def jm_b42_47 : List jx_E := (47, 71, (0, 0, 0, 0), 0, []) :: []
def jm_b42_0 : List jx_E := (0, 2, (0, 0, 0, 0), 0, []) :: (1, 32, (3, 3, 0, 21), 0, []) :: (4, 8, (0, 0, 0, 0), 1, []) :: (5, 15, (0, 0, 0, 0), 0, []) :: (6, 4, (2, 0, 0, 0), 0, []) :: (7, 0, (2, 0, 0, 0), 0, []) :: (8, 57, (47, 0, 0, 0), 0, []) :: (11, 2, (0, 0, 0, 0), 0, []) :: (12, 33, (3, 0, 0, 9), 0, []) :: (15, 0, (2, 0, 0, 0), 0, []) :: (16, 38, (0, 0, 0, 0), 0, []) :: (17, 8, (0, 0, 0, 0), 3, []) :: (18, 64, (47, 0, 0, 0), 0, []) :: (21, 2, (0, 0, 0, 0), 0, []) :: (22, 33, (3, 1, 0, 15), 0, []) :: (25, 0, (2, 0, 0, 0), 0, []) :: (26, 8, (0, 0, 0, 0), 3, []) :: (27, 16, (0, 0, 0, 0), 0, []) :: (28, 2, (0, 0, 0, 0), 0, []) :: (29, 33, (3, 0, 0, 9), 0, []) :: (32, 0, (2, 0, 0, 0), 0, []) :: (33, 38, (0, 0, 0, 0), 0, []) :: (34, 14, (0, 0, 0, 0), 0, []) :: (35, 0, (1, 0, 0, 0), 0, []) :: (36, 41, (0, 0, 0, 0), 0, []) :: (37, 2, (0, 0, 0, 0), 0, []) :: (38, 33, (3, 0, 0, 9), 0, []) :: (41, 0, (2, 0, 0, 0), 0, []) :: (42, 29, (0, 0, 0, 0), 0, []) :: (43, 38, (0, 0, 0, 0), 0, []) :: (44, 8, (0, 0, 0, 0), 1, []) :: (45, 14, (0, 0, 0, 0), 0, []) :: (46, 41, (0, 0, 0, 0), 0, []) :: jm_b42_47
def jm_l42 : jx_B := [(0, jm_b42_0), (47, jm_b42_47)]
def jm_i42 : jx_M := (⟨"OfDifferentMinds$Land", "addWay", "(I)V"⟩, prog_5_method_17_code, 3, none, 0, 2, 3, jm_l42)
theorem jm_ok42 : jx_okM 42 jm_i42 := ⟨by decide +kernel, rfl, by decide +kernel, ⟨by decide +kernel, by decide +kernel⟩, by decide +kernel, jx_mem (i := 460) (by decide +kernel) rfl, jx_mem (i := 108) (by decide +kernel) rfl, fun _ => ⟨jx_mem (i := 459) (by decide +kernel) rfl, jx_mem (i := 1) (by decide +kernel) rfl, by decide⟩, fun h => absurd h (by decide), fun h => absurd h (by decide), by decide, by decide, by decide, by decide +kernel, by decide +kernel⟩
-- OfDifferentMinds$Matching.<init>()V
def jm_b43_0 : List jx_E := (0, 2, (0, 0, 0, 0), 0, []) :: (1, 52, (0, 0, 0, 3), 0, []) :: (4, 2, (0, 0, 0, 0), 0, []) :: (5, 9, (0, 0, 0, 0), 36, []) :: (7, 46, (0, 0, 0, 0), 0, []) :: (9, 37, (4, 0, 0, 9), 0, []) :: (12, 2, (0, 0, 0, 0), 0, []) :: (13, 9, (0, 0, 0, 0), 6, []) :: (15, 46, (0, 0, 0, 0), 0, []) :: (17, 37, (4, 1, 0, 15), 0, []) :: (20, 2, (0, 0, 0, 0), 0, []) :: (21, 9, (0, 0, 0, 0), 6, []) :: (23, 46, (0, 0, 0, 0), 0, []) :: (25, 37, (4, 2, 0, 18), 0, []) :: (28, 71, (0, 0, 0, 0), 0, []) :: []
def jm_l43 : jx_B := [(0, jm_b43_0)]
def jm_i43 : jx_M := (⟨"OfDifferentMinds$Matching", "<init>", "()V"⟩, prog_6_method_1_code, 1, none, 1, 1, 4, jm_l43)
theorem jm_ok43 : jx_okM 43 jm_i43 := ⟨by decide +kernel, rfl, by decide +kernel, ⟨by decide +kernel, by decide +kernel⟩, by decide +kernel, jx_mem (i := 320) (by decide +kernel) rfl, jx_mem (i := 115) (by decide +kernel) rfl, fun h => absurd h (by decide), fun _ => ⟨rfl, jx_mem (i := 319) (by decide +kernel) rfl, rfl⟩, fun h => absurd h (by decide), by decide, by decide, by decide, by decide +kernel, by decide +kernel⟩
-- OfDifferentMinds$Matching.setSteps(III)V
def jm_b44_32 : List jx_E := (32, 71, (0, 0, 0, 0), 0, []) :: []
def jm_b44_0 : List jx_E := (0, 0, (1, 0, 0, 0), 0, []) :: (1, 57, (32, 0, 0, 0), 0, []) :: (4, 0, (1, 0, 0, 0), 0, []) :: (5, 9, (0, 0, 0, 0), 6, []) :: (7, 64, (32, 0, 0, 0), 0, []) :: (10, 0, (2, 0, 0, 0), 0, []) :: (11, 57, (32, 0, 0, 0), 0, []) :: (14, 0, (2, 0, 0, 0), 0, []) :: (15, 9, (0, 0, 0, 0), 6, []) :: (17, 64, (32, 0, 0, 0), 0, []) :: (20, 2, (0, 0, 0, 0), 0, []) :: (21, 33, (4, 0, 0, 9), 0, []) :: (24, 0, (1, 0, 0, 0), 0, []) :: (25, 9, (0, 0, 0, 0), 6, []) :: (27, 16, (0, 0, 0, 0), 0, []) :: (28, 0, (2, 0, 0, 0), 0, []) :: (29, 14, (0, 0, 0, 0), 0, []) :: (30, 0, (3, 0, 0, 0), 0, []) :: (31, 41, (0, 0, 0, 0), 0, []) :: jm_b44_32
def jm_l44 : jx_B := [(0, jm_b44_0), (32, jm_b44_32)]
def jm_i44 : jx_M := (⟨"OfDifferentMinds$Matching", "setSteps", "(III)V"⟩, prog_6_method_2_code, 4, none, 0, 4, 4, jm_l44)
theorem jm_ok44 : jx_okM 44 jm_i44 := ⟨by decide +kernel, rfl, by decide +kernel, ⟨by decide +kernel, by decide +kernel⟩, by decide +kernel, jx_mem (i := 1035) (by decide +kernel) rfl, jx_mem (i := 115) (by decide +kernel) rfl, fun _ => ⟨jx_mem (i := 1033) (by decide +kernel) rfl, jx_mem (i := 1034) (by decide +kernel) rfl, by decide⟩, fun h => absurd h (by decide), fun h => absurd h (by decide), by decide, by decide, by decide, by decide +kernel, by decide +kernel⟩
-- OfDifferentMinds$Matching.best(I)I
def jm_b45_44 : List jx_E := (44, 49, (46, 5, 4, 31), 0, []) :: (47, 2, (0, 0, 0, 0), 0, []) :: (48, 32, (4, 3, 0, 21), 0, []) :: (51, 69, (0, 0, 0, 0), 0, []) :: []
def jm_b45_43 : List jx_E := (43, 8, (0, 0, 0, 0), 0, []) :: jm_b45_44
def jm_b45_26 : List jx_E := (26, 2, (0, 0, 0, 0), 0, []) :: (27, 8, (0, 0, 0, 0), 0, []) :: (28, 0, (1, 0, 0, 0), 0, []) :: (29, 8, (0, 0, 0, 0), 0, []) :: (30, 0, (1, 0, 0, 0), 0, []) :: (31, 50, (309, 1, 0, 25), 0, []) :: (34, 8, (0, 0, 0, 0), 2, []) :: (35, 18, (0, 0, 0, 0), 0, []) :: (36, 55, (43, 0, 0, 0), 0, []) :: (39, 8, (0, 0, 0, 0), 1, []) :: (40, 54, (44, 0, 0, 0), 0, []) :: []
def jm_b45_7 : List jx_E := (7, 0, (2, 0, 0, 0), 0, []) :: (8, 9, (0, 0, 0, 0), 6, []) :: (10, 64, (26, 0, 0, 0), 0, []) :: (13, 2, (0, 0, 0, 0), 0, []) :: (14, 33, (4, 1, 0, 15), 0, []) :: (17, 0, (2, 0, 0, 0), 0, []) :: (18, 8, (0, 0, 0, 0), (-1), []) :: (19, 41, (0, 0, 0, 0), 0, []) :: (20, 13, (2, 0, 0, 0), 1, []) :: (23, 54, (7, 0, 0, 0), 0, []) :: []
def jm_b45_0 : List jx_E := (0, 2, (0, 0, 0, 0), 0, []) :: (1, 8, (0, 0, 0, 0), (-1), []) :: (2, 34, (4, 3, 0, 21), 0, []) :: (5, 8, (0, 0, 0, 0), 0, []) :: (6, 4, (2, 0, 0, 0), 0, []) :: jm_b45_7
def jm_l45 : jx_B := [(0, jm_b45_0), (7, jm_b45_7), (26, jm_b45_26), (43, jm_b45_43), (44, jm_b45_44)]
def jm_i45 : jx_M := (⟨"OfDifferentMinds$Matching", "best", "(I)I"⟩, prog_6_method_3_code, 3, (some .int), 0, 2, 4, jm_l45)
theorem jm_ok45 : jx_okM 45 jm_i45 := ⟨by decide +kernel, rfl, by decide +kernel, ⟨by decide +kernel, by decide +kernel⟩, by decide +kernel, jx_mem (i := 1039) (by decide +kernel) rfl, jx_mem (i := 115) (by decide +kernel) rfl, fun _ => ⟨jx_mem (i := 1037) (by decide +kernel) rfl, jx_mem (i := 1038) (by decide +kernel) rfl, by decide⟩, fun h => absurd h (by decide), fun h => absurd h (by decide), by decide, by decide, by decide, by decide +kernel, by decide +kernel⟩
-- OfDifferentMinds$Matching.part(IIIZ)V
def jm_b46_165 : List jx_E := (165, 71, (0, 0, 0, 0), 0, []) :: []
def jm_b46_159 : List jx_E := (159, 13, (5, 0, 0, 0), 1, []) :: (162, 54, (88, 0, 0, 0), 0, []) :: []
def jm_b46_88 : List jx_E := (88, 1, (5, 0, 0, 0), 0, []) :: (90, 9, (0, 0, 0, 0), 6, []) :: (92, 64, (165, 0, 0, 0), 0, []) :: (95, 0, (2, 0, 0, 0), 0, []) :: (96, 1, (5, 0, 0, 0), 0, []) :: (98, 24, (0, 0, 0, 0), 0, []) :: (99, 8, (0, 0, 0, 0), 1, []) :: (100, 20, (0, 0, 0, 0), 0, []) :: (101, 55, (159, 0, 0, 0), 0, []) :: (104, 2, (0, 0, 0, 0), 0, []) :: (105, 33, (4, 1, 0, 15), 0, []) :: (108, 0, (1, 0, 0, 0), 0, []) :: (109, 1, (5, 0, 0, 0), 0, []) :: (111, 41, (0, 0, 0, 0), 0, []) :: (112, 2, (0, 0, 0, 0), 0, []) :: (113, 33, (4, 1, 0, 15), 0, []) :: (116, 1, (5, 0, 0, 0), 0, []) :: (118, 0, (1, 0, 0, 0), 0, []) :: (119, 41, (0, 0, 0, 0), 0, []) :: (120, 0, (2, 0, 0, 0), 0, []) :: (121, 8, (0, 0, 0, 0), 1, []) :: (122, 0, (1, 0, 0, 0), 0, []) :: (123, 23, (0, 0, 0, 0), 0, []) :: (124, 8, (0, 0, 0, 0), 1, []) :: (125, 1, (5, 0, 0, 0), 0, []) :: (127, 23, (0, 0, 0, 0), 0, []) :: (128, 21, (0, 0, 0, 0), 0, []) :: (129, 8, (0, 0, 0, 0), (-1), []) :: (130, 22, (0, 0, 0, 0), 0, []) :: (131, 20, (0, 0, 0, 0), 0, []) :: (132, 5, (6, 0, 0, 0), 0, []) :: (134, 2, (0, 0, 0, 0), 0, []) :: (135, 0, (1, 0, 0, 0), 0, []) :: (136, 8, (0, 0, 0, 0), 1, []) :: (137, 14, (0, 0, 0, 0), 0, []) :: (138, 1, (6, 0, 0, 0), 0, []) :: (140, 0, (3, 0, 0, 0), 0, []) :: (141, 2, (0, 0, 0, 0), 0, []) :: (142, 33, (4, 0, 0, 9), 0, []) :: (145, 0, (1, 0, 0, 0), 0, []) :: (146, 9, (0, 0, 0, 0), 6, []) :: (148, 16, (0, 0, 0, 0), 0, []) :: (149, 1, (5, 0, 0, 0), 0, []) :: (151, 14, (0, 0, 0, 0), 0, []) :: (152, 38, (0, 0, 0, 0), 0, []) :: (153, 14, (0, 0, 0, 0), 0, []) :: (154, 1, (4, 0, 0, 0), 0, []) :: (156, 49, (46, 5, 4, 31), 0, []) :: jm_b46_159
def jm_b46_83 : List jx_E := (83, 0, (1, 0, 0, 0), 0, []) :: (84, 8, (0, 0, 0, 0), 1, []) :: (85, 14, (0, 0, 0, 0), 0, []) :: (86, 5, (5, 0, 0, 0), 0, []) :: jm_b46_88
def jm_b46_55 : List jx_E := (55, 1, (4, 0, 0, 0), 0, []) :: (57, 55, (83, 0, 0, 0), 0, []) :: (60, 2, (0, 0, 0, 0), 0, []) :: (61, 33, (4, 1, 0, 15), 0, []) :: (64, 0, (1, 0, 0, 0), 0, []) :: (65, 8, (0, 0, 0, 0), (-1), []) :: (66, 41, (0, 0, 0, 0), 0, []) :: (67, 2, (0, 0, 0, 0), 0, []) :: (68, 0, (1, 0, 0, 0), 0, []) :: (69, 8, (0, 0, 0, 0), 1, []) :: (70, 14, (0, 0, 0, 0), 0, []) :: (71, 0, (2, 0, 0, 0), 0, []) :: (72, 8, (0, 0, 0, 0), 1, []) :: (73, 0, (1, 0, 0, 0), 0, []) :: (74, 23, (0, 0, 0, 0), 0, []) :: (75, 8, (0, 0, 0, 0), (-1), []) :: (76, 22, (0, 0, 0, 0), 0, []) :: (77, 20, (0, 0, 0, 0), 0, []) :: (78, 0, (3, 0, 0, 0), 0, []) :: (79, 8, (0, 0, 0, 0), 0, []) :: (80, 49, (46, 5, 4, 31), 0, []) :: jm_b46_83
def jm_b46_35 : List jx_E := (35, 0, (2, 0, 0, 0), 0, []) :: (36, 0, (1, 0, 0, 0), 0, []) :: (37, 24, (0, 0, 0, 0), 0, []) :: (38, 8, (0, 0, 0, 0), 1, []) :: (39, 20, (0, 0, 0, 0), 0, []) :: (40, 56, (55, 0, 0, 0), 0, []) :: (43, 2, (0, 0, 0, 0), 0, []) :: (44, 0, (1, 0, 0, 0), 0, []) :: (45, 8, (0, 0, 0, 0), 1, []) :: (46, 14, (0, 0, 0, 0), 0, []) :: (47, 0, (2, 0, 0, 0), 0, []) :: (48, 0, (3, 0, 0, 0), 0, []) :: (49, 1, (4, 0, 0, 0), 0, []) :: (51, 49, (46, 5, 4, 31), 0, []) :: (54, 71, (0, 0, 0, 0), 0, []) :: []
def jm_b46_34 : List jx_E := (34, 71, (0, 0, 0, 0), 0, []) :: []
def jm_b46_0 : List jx_E := (0, 0, (1, 0, 0, 0), 0, []) :: (1, 9, (0, 0, 0, 0), 6, []) :: (3, 63, (35, 0, 0, 0), 0, []) :: (6, 0, (3, 0, 0, 0), 0, []) :: (7, 2, (0, 0, 0, 0), 0, []) :: (8, 32, (4, 3, 0, 21), 0, []) :: (11, 66, (34, 0, 0, 0), 0, []) :: (14, 2, (0, 0, 0, 0), 0, []) :: (15, 0, (3, 0, 0, 0), 0, []) :: (16, 34, (4, 3, 0, 21), 0, []) :: (19, 2, (0, 0, 0, 0), 0, []) :: (20, 33, (4, 1, 0, 15), 0, []) :: (23, 8, (0, 0, 0, 0), 0, []) :: (24, 2, (0, 0, 0, 0), 0, []) :: (25, 33, (4, 2, 0, 18), 0, []) :: (28, 8, (0, 0, 0, 0), 0, []) :: (29, 9, (0, 0, 0, 0), 6, []) :: (31, 53, (0, 0, 0, 35), 0, []) :: jm_b46_34
def jm_l46 : jx_B := [(0, jm_b46_0), (34, jm_b46_34), (35, jm_b46_35), (55, jm_b46_55), (83, jm_b46_83), (88, jm_b46_88), (159, jm_b46_159), (165, jm_b46_165)]
def jm_i46 : jx_M := (⟨"OfDifferentMinds$Matching", "part", "(IIIZ)V"⟩, prog_6_method_4_code, 7, none, 0, 5, 4, jm_l46)
theorem jm_ok46 : jx_okM 46 jm_i46 := ⟨by decide +kernel, rfl, by decide +kernel, ⟨by decide +kernel, by decide +kernel⟩, by decide +kernel, jx_mem (i := 1049) (by decide +kernel) rfl, jx_mem (i := 115) (by decide +kernel) rfl, fun _ => ⟨jx_mem (i := 1048) (by decide +kernel) rfl, jx_mem (i := 34) (by decide +kernel) rfl, by decide⟩, fun h => absurd h (by decide), fun h => absurd h (by decide), by decide, by decide, by decide, by decide +kernel, by decide +kernel⟩
-- OfDifferentMinds$Matching.tell(ILOfDifferentMinds$Row;)V
def jm_b47_33 : List jx_E := (33, 71, (0, 0, 0, 0), 0, []) :: []
def jm_b47_6 : List jx_E := (6, 0, (3, 0, 0, 0), 0, []) :: (7, 0, (1, 0, 0, 0), 0, []) :: (8, 64, (33, 0, 0, 0), 0, []) :: (11, 0, (3, 0, 0, 0), 0, []) :: (12, 9, (0, 0, 0, 0), 6, []) :: (14, 64, (33, 0, 0, 0), 0, []) :: (17, 2, (2, 0, 0, 0), 0, []) :: (18, 2, (0, 0, 0, 0), 0, []) :: (19, 33, (4, 2, 0, 18), 0, []) :: (22, 0, (3, 0, 0, 0), 0, []) :: (23, 38, (0, 0, 0, 0), 0, []) :: (24, 49, (69, 2, 6, 46), 0, []) :: (27, 13, (3, 0, 0, 0), 1, []) :: (30, 54, (6, 0, 0, 0), 0, []) :: []
def jm_b47_0 : List jx_E := (0, 2, (2, 0, 0, 0), 0, []) :: (1, 49, (68, 1, 6, 41), 0, []) :: (4, 8, (0, 0, 0, 0), 0, []) :: (5, 4, (3, 0, 0, 0), 0, []) :: jm_b47_6
def jm_l47 : jx_B := [(0, jm_b47_0), (6, jm_b47_6), (33, jm_b47_33)]
def jm_i47 : jx_M := (⟨"OfDifferentMinds$Matching", "tell", "(ILOfDifferentMinds$Row;)V"⟩, prog_6_method_5_code, 4, none, 0, 3, 4, jm_l47)
theorem jm_ok47 : jx_okM 47 jm_i47 := ⟨by decide +kernel, rfl, by decide +kernel, ⟨by decide +kernel, by decide +kernel⟩, by decide +kernel, jx_mem (i := 1054) (by decide +kernel) rfl, jx_mem (i := 115) (by decide +kernel) rfl, fun _ => ⟨jx_mem (i := 1052) (by decide +kernel) rfl, jx_mem (i := 1053) (by decide +kernel) rfl, by decide⟩, fun h => absurd h (by decide), fun h => absurd h (by decide), by decide, by decide, by decide, by decide +kernel, by decide +kernel⟩
-- OfDifferentMinds$Ride.<init>(LOfDifferentMinds$Land;LOfDifferentMinds$Rule;LOfDifferentMinds$Standing;)V
def jm_b48_0 : List jx_E := (0, 2, (0, 0, 0, 0), 0, []) :: (1, 52, (0, 0, 0, 3), 0, []) :: (4, 2, (0, 0, 0, 0), 0, []) :: (5, 2, (1, 0, 0, 0), 0, []) :: (6, 37, (5, 0, 0, 9), 0, []) :: (9, 2, (0, 0, 0, 0), 0, []) :: (10, 2, (2, 0, 0, 0), 0, []) :: (11, 37, (5, 1, 0, 15), 0, []) :: (14, 2, (0, 0, 0, 0), 0, []) :: (15, 2, (3, 0, 0, 0), 0, []) :: (16, 37, (5, 2, 0, 19), 0, []) :: (19, 2, (0, 0, 0, 0), 0, []) :: (20, 8, (0, 0, 0, 0), 2, []) :: (21, 46, (0, 0, 0, 0), 0, []) :: (23, 37, (5, 3, 0, 23), 0, []) :: (26, 2, (0, 0, 0, 0), 0, []) :: (27, 8, (0, 0, 0, 0), 2, []) :: (28, 46, (0, 0, 0, 0), 0, []) :: (30, 37, (5, 4, 0, 27), 0, []) :: (33, 2, (0, 0, 0, 0), 0, []) :: (34, 8, (0, 0, 0, 0), 2, []) :: (35, 46, (0, 0, 0, 0), 0, []) :: (37, 37, (5, 5, 0, 30), 0, []) :: (40, 2, (0, 0, 0, 0), 0, []) :: (41, 8, (0, 0, 0, 0), 2, []) :: (42, 46, (0, 0, 0, 0), 0, []) :: (44, 37, (5, 6, 0, 33), 0, []) :: (47, 2, (0, 0, 0, 0), 0, []) :: (48, 8, (0, 0, 0, 0), 2, []) :: (49, 46, (0, 0, 0, 0), 0, []) :: (51, 37, (5, 7, 0, 36), 0, []) :: (54, 71, (0, 0, 0, 0), 0, []) :: []
def jm_l48 : jx_B := [(0, jm_b48_0)]
def jm_i48 : jx_M := (⟨"OfDifferentMinds$Ride", "<init>", "(LOfDifferentMinds$Land;LOfDifferentMinds$Rule;LOfDifferentMinds$Standing;)V"⟩, prog_7_method_1_code, 4, none, 1, 4, 5, jm_l48)
theorem jm_ok48 : jx_okM 48 jm_i48 := ⟨by decide +kernel, rfl, by decide +kernel, ⟨by decide +kernel, by decide +kernel⟩, by decide +kernel, jx_mem (i := 255) (by decide +kernel) rfl, jx_mem (i := 113) (by decide +kernel) rfl, fun h => absurd h (by decide), fun _ => ⟨rfl, jx_mem (i := 254) (by decide +kernel) rfl, rfl⟩, fun h => absurd h (by decide), by decide, by decide, by decide, by decide +kernel, by decide +kernel⟩
-- OfDifferentMinds$Ride.beginFresh(III)V
def jm_b49_93 : List jx_E := (93, 2, (0, 0, 0, 0), 0, []) :: (94, 0, (3, 0, 0, 0), 0, []) :: (95, 34, (5, 8, 0, 50), 0, []) :: (98, 2, (0, 0, 0, 0), 0, []) :: (99, 8, (0, 0, 0, 0), 0, []) :: (100, 34, (5, 9, 0, 54), 0, []) :: (103, 2, (0, 0, 0, 0), 0, []) :: (104, 8, (0, 0, 0, 0), 0, []) :: (105, 34, (5, 10, 0, 57), 0, []) :: (108, 2, (0, 0, 0, 0), 0, []) :: (109, 8, (0, 0, 0, 0), (-1), []) :: (110, 34, (5, 11, 0, 60), 0, []) :: (113, 2, (0, 0, 0, 0), 0, []) :: (114, 8, (0, 0, 0, 0), 0, []) :: (115, 35, (5, 12, 0, 63), 0, []) :: (118, 71, (0, 0, 0, 0), 0, []) :: []
def jm_b49_17 : List jx_E := (17, 1, (4, 0, 0, 0), 0, []) :: (19, 8, (0, 0, 0, 0), 2, []) :: (20, 64, (93, 0, 0, 0), 0, []) :: (23, 2, (0, 0, 0, 0), 0, []) :: (24, 33, (5, 4, 0, 27), 0, []) :: (27, 1, (4, 0, 0, 0), 0, []) :: (29, 2, (0, 0, 0, 0), 0, []) :: (30, 33, (5, 0, 0, 9), 0, []) :: (33, 2, (0, 0, 0, 0), 0, []) :: (34, 33, (5, 3, 0, 23), 0, []) :: (37, 1, (4, 0, 0, 0), 0, []) :: (39, 38, (0, 0, 0, 0), 0, []) :: (40, 49, (37, 2, 3, 39), 0, []) :: (43, 41, (0, 0, 0, 0), 0, []) :: (44, 2, (0, 0, 0, 0), 0, []) :: (45, 33, (5, 5, 0, 30), 0, []) :: (48, 1, (4, 0, 0, 0), 0, []) :: (50, 8, (0, 0, 0, 0), (-1), []) :: (51, 41, (0, 0, 0, 0), 0, []) :: (52, 2, (0, 0, 0, 0), 0, []) :: (53, 33, (5, 6, 0, 33), 0, []) :: (56, 1, (4, 0, 0, 0), 0, []) :: (58, 2, (0, 0, 0, 0), 0, []) :: (59, 33, (5, 2, 0, 19), 0, []) :: (62, 2, (0, 0, 0, 0), 0, []) :: (63, 33, (5, 3, 0, 23), 0, []) :: (66, 1, (4, 0, 0, 0), 0, []) :: (68, 38, (0, 0, 0, 0), 0, []) :: (69, 49, (99, 2, 8, 45), 0, []) :: (72, 41, (0, 0, 0, 0), 0, []) :: (73, 2, (0, 0, 0, 0), 0, []) :: (74, 33, (5, 7, 0, 36), 0, []) :: (77, 1, (4, 0, 0, 0), 0, []) :: (79, 2, (0, 0, 0, 0), 0, []) :: (80, 33, (5, 6, 0, 33), 0, []) :: (83, 1, (4, 0, 0, 0), 0, []) :: (85, 38, (0, 0, 0, 0), 0, []) :: (86, 41, (0, 0, 0, 0), 0, []) :: (87, 13, (4, 0, 0, 0), 1, []) :: (90, 54, (17, 0, 0, 0), 0, []) :: []
def jm_b49_0 : List jx_E := (0, 2, (0, 0, 0, 0), 0, []) :: (1, 33, (5, 3, 0, 23), 0, []) :: (4, 8, (0, 0, 0, 0), 0, []) :: (5, 0, (1, 0, 0, 0), 0, []) :: (6, 41, (0, 0, 0, 0), 0, []) :: (7, 2, (0, 0, 0, 0), 0, []) :: (8, 33, (5, 3, 0, 23), 0, []) :: (11, 8, (0, 0, 0, 0), 1, []) :: (12, 0, (2, 0, 0, 0), 0, []) :: (13, 41, (0, 0, 0, 0), 0, []) :: (14, 8, (0, 0, 0, 0), 0, []) :: (15, 5, (4, 0, 0, 0), 0, []) :: jm_b49_17
def jm_l49 : jx_B := [(0, jm_b49_0), (17, jm_b49_17), (93, jm_b49_93)]
def jm_i49 : jx_M := (⟨"OfDifferentMinds$Ride", "beginFresh", "(III)V"⟩, prog_7_method_2_code, 5, none, 0, 4, 5, jm_l49)
theorem jm_ok49 : jx_okM 49 jm_i49 := ⟨by decide +kernel, rfl, by decide +kernel, ⟨by decide +kernel, by decide +kernel⟩, by decide +kernel, jx_mem (i := 722) (by decide +kernel) rfl, jx_mem (i := 113) (by decide +kernel) rfl, fun _ => ⟨jx_mem (i := 720) (by decide +kernel) rfl, jx_mem (i := 721) (by decide +kernel) rfl, by decide⟩, fun h => absurd h (by decide), fun h => absurd h (by decide), by decide, by decide, by decide, by decide +kernel, by decide +kernel⟩
-- OfDifferentMinds$Ride.begin(III)V
def jm_b50_100 : List jx_E := (100, 71, (0, 0, 0, 0), 0, []) :: []
def jm_b50_10 : List jx_E := (10, 1, (4, 0, 0, 0), 0, []) :: (12, 8, (0, 0, 0, 0), 2, []) :: (13, 64, (100, 0, 0, 0), 0, []) :: (16, 2, (0, 0, 0, 0), 0, []) :: (17, 33, (5, 4, 0, 27), 0, []) :: (20, 1, (4, 0, 0, 0), 0, []) :: (22, 2, (0, 0, 0, 0), 0, []) :: (23, 33, (5, 0, 0, 9), 0, []) :: (26, 2, (0, 0, 0, 0), 0, []) :: (27, 33, (5, 3, 0, 23), 0, []) :: (30, 1, (4, 0, 0, 0), 0, []) :: (32, 38, (0, 0, 0, 0), 0, []) :: (33, 49, (37, 2, 3, 39), 0, []) :: (36, 2, (0, 0, 0, 0), 0, []) :: (37, 33, (5, 2, 0, 19), 0, []) :: (40, 2, (0, 0, 0, 0), 0, []) :: (41, 33, (5, 3, 0, 23), 0, []) :: (44, 1, (4, 0, 0, 0), 0, []) :: (46, 38, (0, 0, 0, 0), 0, []) :: (47, 49, (93, 2, 8, 71), 0, []) :: (50, 15, (0, 0, 0, 0), 0, []) :: (51, 41, (0, 0, 0, 0), 0, []) :: (52, 2, (0, 0, 0, 0), 0, []) :: (53, 33, (5, 5, 0, 30), 0, []) :: (56, 1, (4, 0, 0, 0), 0, []) :: (58, 2, (0, 0, 0, 0), 0, []) :: (59, 33, (5, 2, 0, 19), 0, []) :: (62, 2, (0, 0, 0, 0), 0, []) :: (63, 33, (5, 3, 0, 23), 0, []) :: (66, 1, (4, 0, 0, 0), 0, []) :: (68, 38, (0, 0, 0, 0), 0, []) :: (69, 49, (97, 2, 8, 74), 0, []) :: (72, 41, (0, 0, 0, 0), 0, []) :: (73, 2, (0, 0, 0, 0), 0, []) :: (74, 33, (5, 7, 0, 36), 0, []) :: (77, 1, (4, 0, 0, 0), 0, []) :: (79, 2, (0, 0, 0, 0), 0, []) :: (80, 33, (5, 2, 0, 19), 0, []) :: (83, 2, (0, 0, 0, 0), 0, []) :: (84, 33, (5, 3, 0, 23), 0, []) :: (87, 1, (4, 0, 0, 0), 0, []) :: (89, 38, (0, 0, 0, 0), 0, []) :: (90, 49, (100, 2, 8, 77), 0, []) :: (93, 41, (0, 0, 0, 0), 0, []) :: (94, 13, (4, 0, 0, 0), 1, []) :: (97, 54, (10, 0, 0, 0), 0, []) :: []
def jm_b50_0 : List jx_E := (0, 2, (0, 0, 0, 0), 0, []) :: (1, 0, (1, 0, 0, 0), 0, []) :: (2, 0, (2, 0, 0, 0), 0, []) :: (3, 0, (3, 0, 0, 0), 0, []) :: (4, 49, (49, 4, 5, 67), 0, []) :: (7, 8, (0, 0, 0, 0), 0, []) :: (8, 5, (4, 0, 0, 0), 0, []) :: jm_b50_10
def jm_l50 : jx_B := [(0, jm_b50_0), (10, jm_b50_10), (100, jm_b50_100)]
def jm_i50 : jx_M := (⟨"OfDifferentMinds$Ride", "begin", "(III)V"⟩, prog_7_method_3_code, 5, none, 0, 4, 5, jm_l50)
theorem jm_ok50 : jx_okM 50 jm_i50 := ⟨by decide +kernel, rfl, by decide +kernel, ⟨by decide +kernel, by decide +kernel⟩, by decide +kernel, jx_mem (i := 718) (by decide +kernel) rfl, jx_mem (i := 113) (by decide +kernel) rfl, fun _ => ⟨jx_mem (i := 716) (by decide +kernel) rfl, jx_mem (i := 717) (by decide +kernel) rfl, by decide⟩, fun h => absurd h (by decide), fun h => absurd h (by decide), by decide, by decide, by decide, by decide +kernel, by decide +kernel⟩
-- OfDifferentMinds$Ride.resume()V
def jm_b51_0 : List jx_E := (0, 2, (0, 0, 0, 0), 0, []) :: (1, 2, (0, 0, 0, 0), 0, []) :: (2, 33, (5, 2, 0, 19), 0, []) :: (5, 49, (105, 1, 8, 80), 0, []) :: (8, 2, (0, 0, 0, 0), 0, []) :: (9, 33, (5, 2, 0, 19), 0, []) :: (12, 49, (106, 1, 8, 84), 0, []) :: (15, 2, (0, 0, 0, 0), 0, []) :: (16, 33, (5, 2, 0, 19), 0, []) :: (19, 49, (103, 1, 8, 87), 0, []) :: (22, 49, (50, 4, 5, 90), 0, []) :: (25, 2, (0, 0, 0, 0), 0, []) :: (26, 2, (0, 0, 0, 0), 0, []) :: (27, 33, (5, 2, 0, 19), 0, []) :: (30, 49, (107, 1, 8, 93), 0, []) :: (33, 34, (5, 9, 0, 54), 0, []) :: (36, 71, (0, 0, 0, 0), 0, []) :: []
def jm_l51 : jx_B := [(0, jm_b51_0)]
def jm_i51 : jx_M := (⟨"OfDifferentMinds$Ride", "resume", "()V"⟩, prog_7_method_4_code, 1, none, 0, 1, 5, jm_l51)
theorem jm_ok51 : jx_okM 51 jm_i51 := ⟨by decide +kernel, rfl, by decide +kernel, ⟨by decide +kernel, by decide +kernel⟩, by decide +kernel, jx_mem (i := 705) (by decide +kernel) rfl, jx_mem (i := 113) (by decide +kernel) rfl, fun _ => ⟨jx_mem (i := 703) (by decide +kernel) rfl, jx_mem (i := 704) (by decide +kernel) rfl, by decide⟩, fun h => absurd h (by decide), fun h => absurd h (by decide), by decide, by decide, by decide, by decide +kernel, by decide +kernel⟩
-- OfDifferentMinds$Ride.settle()V
def jm_b52_109 : List jx_E := (109, 71, (0, 0, 0, 0), 0, []) :: []
def jm_b52_29 : List jx_E := (29, 0, (1, 0, 0, 0), 0, []) :: (30, 8, (0, 0, 0, 0), 2, []) :: (31, 64, (109, 0, 0, 0), 0, []) :: (34, 2, (0, 0, 0, 0), 0, []) :: (35, 33, (5, 2, 0, 19), 0, []) :: (38, 2, (0, 0, 0, 0), 0, []) :: (39, 33, (5, 3, 0, 23), 0, []) :: (42, 0, (1, 0, 0, 0), 0, []) :: (43, 38, (0, 0, 0, 0), 0, []) :: (44, 2, (0, 0, 0, 0), 0, []) :: (45, 32, (5, 8, 0, 50), 0, []) :: (48, 49, (96, 3, 8, 103), 0, []) :: (51, 2, (0, 0, 0, 0), 0, []) :: (52, 33, (5, 2, 0, 19), 0, []) :: (55, 2, (0, 0, 0, 0), 0, []) :: (56, 33, (5, 3, 0, 23), 0, []) :: (59, 0, (1, 0, 0, 0), 0, []) :: (60, 38, (0, 0, 0, 0), 0, []) :: (61, 2, (0, 0, 0, 0), 0, []) :: (62, 33, (5, 0, 0, 9), 0, []) :: (65, 2, (0, 0, 0, 0), 0, []) :: (66, 33, (5, 3, 0, 23), 0, []) :: (69, 0, (1, 0, 0, 0), 0, []) :: (70, 38, (0, 0, 0, 0), 0, []) :: (71, 49, (37, 2, 3, 39), 0, []) :: (74, 2, (0, 0, 0, 0), 0, []) :: (75, 33, (5, 4, 0, 27), 0, []) :: (78, 0, (1, 0, 0, 0), 0, []) :: (79, 38, (0, 0, 0, 0), 0, []) :: (80, 15, (0, 0, 0, 0), 0, []) :: (81, 49, (94, 3, 8, 107), 0, []) :: (84, 2, (0, 0, 0, 0), 0, []) :: (85, 33, (5, 2, 0, 19), 0, []) :: (88, 2, (0, 0, 0, 0), 0, []) :: (89, 33, (5, 3, 0, 23), 0, []) :: (92, 0, (1, 0, 0, 0), 0, []) :: (93, 38, (0, 0, 0, 0), 0, []) :: (94, 2, (0, 0, 0, 0), 0, []) :: (95, 33, (5, 5, 0, 30), 0, []) :: (98, 0, (1, 0, 0, 0), 0, []) :: (99, 38, (0, 0, 0, 0), 0, []) :: (100, 49, (98, 3, 8, 110), 0, []) :: (103, 13, (1, 0, 0, 0), 1, []) :: (106, 54, (29, 0, 0, 0), 0, []) :: []
def jm_b52_0 : List jx_E := (0, 2, (0, 0, 0, 0), 0, []) :: (1, 33, (5, 2, 0, 19), 0, []) :: (4, 2, (0, 0, 0, 0), 0, []) :: (5, 32, (5, 8, 0, 50), 0, []) :: (8, 49, (104, 2, 8, 96), 0, []) :: (11, 2, (0, 0, 0, 0), 0, []) :: (12, 33, (5, 2, 0, 19), 0, []) :: (15, 2, (0, 0, 0, 0), 0, []) :: (16, 32, (5, 9, 0, 54), 0, []) :: (19, 2, (0, 0, 0, 0), 0, []) :: (20, 32, (5, 10, 0, 57), 0, []) :: (23, 14, (0, 0, 0, 0), 0, []) :: (24, 49, (108, 2, 8, 100), 0, []) :: (27, 8, (0, 0, 0, 0), 0, []) :: (28, 4, (1, 0, 0, 0), 0, []) :: jm_b52_29
def jm_l52 : jx_B := [(0, jm_b52_0), (29, jm_b52_29), (109, jm_b52_109)]
def jm_i52 : jx_M := (⟨"OfDifferentMinds$Ride", "settle", "()V"⟩, prog_7_method_5_code, 2, none, 0, 1, 5, jm_l52)
theorem jm_ok52 : jx_okM 52 jm_i52 := ⟨by decide +kernel, rfl, by decide +kernel, ⟨by decide +kernel, by decide +kernel⟩, by decide +kernel, jx_mem (i := 773) (by decide +kernel) rfl, jx_mem (i := 113) (by decide +kernel) rfl, fun _ => ⟨jx_mem (i := 771) (by decide +kernel) rfl, jx_mem (i := 772) (by decide +kernel) rfl, by decide⟩, fun h => absurd h (by decide), fun h => absurd h (by decide), by decide, by decide, by decide, by decide +kernel, by decide +kernel⟩
-- OfDifferentMinds$Ride.spot()I
def jm_b53_0 : List jx_E := (0, 2, (0, 0, 0, 0), 0, []) :: (1, 32, (5, 8, 0, 50), 0, []) :: (4, 69, (0, 0, 0, 0), 0, []) :: []
def jm_l53 : jx_B := [(0, jm_b53_0)]
def jm_i53 : jx_M := (⟨"OfDifferentMinds$Ride", "spot", "()I"⟩, prog_7_method_6_code, 1, (some .int), 0, 1, 5, jm_l53)
theorem jm_ok53 : jx_okM 53 jm_i53 := ⟨by decide +kernel, rfl, by decide +kernel, ⟨by decide +kernel, by decide +kernel⟩, by decide +kernel, jx_mem (i := 798) (by decide +kernel) rfl, jx_mem (i := 113) (by decide +kernel) rfl, fun _ => ⟨jx_mem (i := 796) (by decide +kernel) rfl, jx_mem (i := 797) (by decide +kernel) rfl, by decide⟩, fun h => absurd h (by decide), fun h => absurd h (by decide), by decide, by decide, by decide, by decide +kernel, by decide +kernel⟩
-- OfDifferentMinds$Ride.taken()I
def jm_b54_0 : List jx_E := (0, 2, (0, 0, 0, 0), 0, []) :: (1, 32, (5, 10, 0, 57), 0, []) :: (4, 69, (0, 0, 0, 0), 0, []) :: []
def jm_l54 : jx_B := [(0, jm_b54_0)]
def jm_i54 : jx_M := (⟨"OfDifferentMinds$Ride", "taken", "()I"⟩, prog_7_method_7_code, 1, (some .int), 0, 1, 5, jm_l54)
theorem jm_ok54 : jx_okM 54 jm_i54 := ⟨by decide +kernel, rfl, by decide +kernel, ⟨by decide +kernel, by decide +kernel⟩, by decide +kernel, jx_mem (i := 794) (by decide +kernel) rfl, jx_mem (i := 113) (by decide +kernel) rfl, fun _ => ⟨jx_mem (i := 792) (by decide +kernel) rfl, jx_mem (i := 793) (by decide +kernel) rfl, by decide⟩, fun h => absurd h (by decide), fun h => absurd h (by decide), by decide, by decide, by decide, by decide +kernel, by decide +kernel⟩
-- OfDifferentMinds$Ride.latest()I
def jm_b55_0 : List jx_E := (0, 2, (0, 0, 0, 0), 0, []) :: (1, 32, (5, 11, 0, 60), 0, []) :: (4, 69, (0, 0, 0, 0), 0, []) :: []
def jm_l55 : jx_B := [(0, jm_b55_0)]
def jm_i55 : jx_M := (⟨"OfDifferentMinds$Ride", "latest", "()I"⟩, prog_7_method_8_code, 1, (some .int), 0, 1, 5, jm_l55)
theorem jm_ok55 : jx_okM 55 jm_i55 := ⟨by decide +kernel, rfl, by decide +kernel, ⟨by decide +kernel, by decide +kernel⟩, by decide +kernel, jx_mem (i := 806) (by decide +kernel) rfl, jx_mem (i := 113) (by decide +kernel) rfl, fun _ => ⟨jx_mem (i := 804) (by decide +kernel) rfl, jx_mem (i := 805) (by decide +kernel) rfl, by decide⟩, fun h => absurd h (by decide), fun h => absurd h (by decide), by decide, by decide, by decide, by decide +kernel, by decide +kernel⟩
-- OfDifferentMinds$Ride.hasStopped()Z
def jm_b56_0 : List jx_E := (0, 2, (0, 0, 0, 0), 0, []) :: (1, 32, (5, 12, 0, 63), 0, []) :: (4, 70, (0, 0, 0, 0), 0, []) :: []
def jm_l56 : jx_B := [(0, jm_b56_0)]
def jm_i56 : jx_M := (⟨"OfDifferentMinds$Ride", "hasStopped", "()Z"⟩, prog_7_method_9_code, 1, (some .boolean), 0, 1, 5, jm_l56)
theorem jm_ok56 : jx_okM 56 jm_i56 := ⟨by decide +kernel, rfl, by decide +kernel, ⟨by decide +kernel, by decide +kernel⟩, by decide +kernel, jx_mem (i := 802) (by decide +kernel) rfl, jx_mem (i := 113) (by decide +kernel) rfl, fun _ => ⟨jx_mem (i := 800) (by decide +kernel) rfl, jx_mem (i := 801) (by decide +kernel) rfl, by decide⟩, fun h => absurd h (by decide), fun h => absurd h (by decide), by decide, by decide, by decide, by decide +kernel, by decide +kernel⟩
-- OfDifferentMinds$Ride.leftBeside(I)I
def jm_b57_25 : List jx_E := (25, 69, (0, 0, 0, 0), 0, []) :: []
def jm_b57_19 : List jx_E := (19, 2, (0, 0, 0, 0), 0, []) :: (20, 33, (5, 4, 0, 27), 0, []) :: (23, 8, (0, 0, 0, 0), 0, []) :: (24, 38, (0, 0, 0, 0), 0, []) :: jm_b57_25
def jm_b57_0 : List jx_E := (0, 0, (1, 0, 0, 0), 0, []) :: (1, 2, (0, 0, 0, 0), 0, []) :: (2, 33, (5, 3, 0, 23), 0, []) :: (5, 8, (0, 0, 0, 0), 0, []) :: (6, 38, (0, 0, 0, 0), 0, []) :: (7, 62, (19, 0, 0, 0), 0, []) :: (10, 2, (0, 0, 0, 0), 0, []) :: (11, 33, (5, 4, 0, 27), 0, []) :: (14, 8, (0, 0, 0, 0), 1, []) :: (15, 38, (0, 0, 0, 0), 0, []) :: (16, 54, (25, 0, 0, 0), 0, []) :: []
def jm_l57 : jx_B := [(0, jm_b57_0), (19, jm_b57_19), (25, jm_b57_25)]
def jm_i57 : jx_M := (⟨"OfDifferentMinds$Ride", "leftBeside", "(I)I"⟩, prog_7_method_10_code, 2, (some .int), 0, 2, 5, jm_l57)
theorem jm_ok57 : jx_okM 57 jm_i57 := ⟨by decide +kernel, rfl, by decide +kernel, ⟨by decide +kernel, by decide +kernel⟩, by decide +kernel, jx_mem (i := 1073) (by decide +kernel) rfl, jx_mem (i := 113) (by decide +kernel) rfl, fun _ => ⟨jx_mem (i := 1071) (by decide +kernel) rfl, jx_mem (i := 1072) (by decide +kernel) rfl, by decide⟩, fun h => absurd h (by decide), fun h => absurd h (by decide), by decide, by decide, by decide, by decide +kernel, by decide +kernel⟩
-- OfDifferentMinds$Ride.wayBy(II)I
def jm_b58_23 : List jx_E := (23, 2, (0, 0, 0, 0), 0, []) :: (24, 33, (5, 1, 0, 15), 0, []) :: (27, 0, (3, 0, 0, 0), 0, []) :: (28, 2, (0, 0, 0, 0), 0, []) :: (29, 32, (5, 8, 0, 50), 0, []) :: (32, 2, (0, 0, 0, 0), 0, []) :: (33, 32, (5, 9, 0, 54), 0, []) :: (36, 2, (0, 0, 0, 0), 0, []) :: (37, 32, (5, 10, 0, 57), 0, []) :: (40, 14, (0, 0, 0, 0), 0, []) :: (41, 2, (0, 0, 0, 0), 0, []) :: (42, 33, (5, 4, 0, 27), 0, []) :: (45, 8, (0, 0, 0, 0), 0, []) :: (46, 38, (0, 0, 0, 0), 0, []) :: (47, 2, (0, 0, 0, 0), 0, []) :: (48, 33, (5, 4, 0, 27), 0, []) :: (51, 8, (0, 0, 0, 0), 1, []) :: (52, 38, (0, 0, 0, 0), 0, []) :: (53, 49, (76, 6, 7, 116), 0, []) :: (56, 2, (0, 0, 0, 0), 0, []) :: (57, 33, (5, 1, 0, 15), 0, []) :: (60, 0, (1, 0, 0, 0), 0, []) :: (61, 0, (2, 0, 0, 0), 0, []) :: (62, 49, (77, 3, 7, 122), 0, []) :: (65, 69, (0, 0, 0, 0), 0, []) :: []
def jm_b58_21 : List jx_E := (21, 8, (0, 0, 0, 0), (-1), []) :: (22, 69, (0, 0, 0, 0), 0, []) :: []
def jm_b58_0 : List jx_E := (0, 2, (0, 0, 0, 0), 0, []) :: (1, 33, (5, 0, 0, 9), 0, []) :: (4, 2, (0, 0, 0, 0), 0, []) :: (5, 32, (5, 8, 0, 50), 0, []) :: (8, 49, (33, 2, 3, 113), 0, []) :: (11, 4, (3, 0, 0, 0), 0, []) :: (12, 0, (1, 0, 0, 0), 0, []) :: (13, 0, (2, 0, 0, 0), 0, []) :: (14, 61, (21, 0, 0, 0), 0, []) :: (17, 0, (3, 0, 0, 0), 0, []) :: (18, 56, (23, 0, 0, 0), 0, []) :: jm_b58_21
def jm_l58 : jx_B := [(0, jm_b58_0), (21, jm_b58_21), (23, jm_b58_23)]
def jm_i58 : jx_M := (⟨"OfDifferentMinds$Ride", "wayBy", "(II)I"⟩, prog_7_method_11_code, 4, (some .int), 0, 3, 5, jm_l58)
theorem jm_ok58 : jx_okM 58 jm_i58 := ⟨by decide +kernel, rfl, by decide +kernel, ⟨by decide +kernel, by decide +kernel⟩, by decide +kernel, jx_mem (i := 744) (by decide +kernel) rfl, jx_mem (i := 113) (by decide +kernel) rfl, fun _ => ⟨jx_mem (i := 743) (by decide +kernel) rfl, jx_mem (i := 17) (by decide +kernel) rfl, by decide⟩, fun h => absurd h (by decide), fun h => absurd h (by decide), by decide, by decide, by decide, by decide +kernel, by decide +kernel⟩
-- OfDifferentMinds$Ride.wayClaiming(II)I
def jm_b59_50 : List jx_E := (50, 69, (0, 0, 0, 0), 0, []) :: []
def jm_b59_44 : List jx_E := (44, 2, (0, 0, 0, 0), 0, []) :: (45, 0, (3, 0, 0, 0), 0, []) :: (46, 0, (2, 0, 0, 0), 0, []) :: (47, 49, (58, 3, 5, 129), 0, []) :: jm_b59_50
def jm_b59_23 : List jx_E := (23, 2, (0, 0, 0, 0), 0, []) :: (24, 32, (5, 8, 0, 50), 0, []) :: (27, 49, (36, 3, 3, 126), 0, []) :: (30, 4, (3, 0, 0, 0), 0, []) :: (31, 0, (1, 0, 0, 0), 0, []) :: (32, 56, (44, 0, 0, 0), 0, []) :: (35, 2, (0, 0, 0, 0), 0, []) :: (36, 0, (2, 0, 0, 0), 0, []) :: (37, 0, (3, 0, 0, 0), 0, []) :: (38, 49, (58, 3, 5, 129), 0, []) :: (41, 54, (50, 0, 0, 0), 0, []) :: []
def jm_b59_17 : List jx_E := (17, 2, (0, 0, 0, 0), 0, []) :: (18, 33, (5, 7, 0, 36), 0, []) :: (21, 8, (0, 0, 0, 0), 0, []) :: (22, 38, (0, 0, 0, 0), 0, []) :: jm_b59_23
def jm_b59_0 : List jx_E := (0, 2, (0, 0, 0, 0), 0, []) :: (1, 33, (5, 0, 0, 9), 0, []) :: (4, 0, (1, 0, 0, 0), 0, []) :: (5, 56, (17, 0, 0, 0), 0, []) :: (8, 2, (0, 0, 0, 0), 0, []) :: (9, 33, (5, 7, 0, 36), 0, []) :: (12, 8, (0, 0, 0, 0), 1, []) :: (13, 38, (0, 0, 0, 0), 0, []) :: (14, 54, (23, 0, 0, 0), 0, []) :: []
def jm_l59 : jx_B := [(0, jm_b59_0), (17, jm_b59_17), (23, jm_b59_23), (44, jm_b59_44), (50, jm_b59_50)]
def jm_i59 : jx_M := (⟨"OfDifferentMinds$Ride", "wayClaiming", "(II)I"⟩, prog_7_method_12_code, 4, (some .int), 0, 3, 5, jm_l59)
theorem jm_ok59 : jx_okM 59 jm_i59 := ⟨by decide +kernel, rfl, by decide +kernel, ⟨by decide +kernel, by decide +kernel⟩, by decide +kernel, jx_mem (i := 1081) (by decide +kernel) rfl, jx_mem (i := 113) (by decide +kernel) rfl, fun _ => ⟨jx_mem (i := 1079) (by decide +kernel) rfl, jx_mem (i := 1080) (by decide +kernel) rfl, by decide⟩, fun h => absurd h (by decide), fun h => absurd h (by decide), by decide, by decide, by decide, by decide +kernel, by decide +kernel⟩
-- OfDifferentMinds$Ride.stepClaiming(II)Z
def jm_b60_0 : List jx_E := (0, 2, (0, 0, 0, 0), 0, []) :: (1, 2, (0, 0, 0, 0), 0, []) :: (2, 0, (1, 0, 0, 0), 0, []) :: (3, 0, (2, 0, 0, 0), 0, []) :: (4, 49, (59, 3, 5, 132), 0, []) :: (7, 49, (62, 2, 5, 135), 0, []) :: (10, 70, (0, 0, 0, 0), 0, []) :: []
def jm_l60 : jx_B := [(0, jm_b60_0)]
def jm_i60 : jx_M := (⟨"OfDifferentMinds$Ride", "stepClaiming", "(II)Z"⟩, prog_7_method_13_code, 3, (some .boolean), 0, 3, 5, jm_l60)
theorem jm_ok60 : jx_okM 60 jm_i60 := ⟨by decide +kernel, rfl, by decide +kernel, ⟨by decide +kernel, by decide +kernel⟩, by decide +kernel, jx_mem (i := 1089) (by decide +kernel) rfl, jx_mem (i := 113) (by decide +kernel) rfl, fun _ => ⟨jx_mem (i := 1087) (by decide +kernel) rfl, jx_mem (i := 1088) (by decide +kernel) rfl, by decide⟩, fun h => absurd h (by decide), fun h => absurd h (by decide), by decide, by decide, by decide, by decide +kernel, by decide +kernel⟩
-- OfDifferentMinds$Ride.step()Z
def jm_b61_0 : List jx_E := (0, 2, (0, 0, 0, 0), 0, []) :: (1, 2, (0, 0, 0, 0), 0, []) :: (2, 2, (0, 0, 0, 0), 0, []) :: (3, 33, (5, 0, 0, 9), 0, []) :: (6, 2, (0, 0, 0, 0), 0, []) :: (7, 33, (5, 7, 0, 36), 0, []) :: (10, 8, (0, 0, 0, 0), 0, []) :: (11, 38, (0, 0, 0, 0), 0, []) :: (12, 2, (0, 0, 0, 0), 0, []) :: (13, 32, (5, 8, 0, 50), 0, []) :: (16, 49, (36, 3, 3, 126), 0, []) :: (19, 2, (0, 0, 0, 0), 0, []) :: (20, 33, (5, 0, 0, 9), 0, []) :: (23, 2, (0, 0, 0, 0), 0, []) :: (24, 33, (5, 7, 0, 36), 0, []) :: (27, 8, (0, 0, 0, 0), 1, []) :: (28, 38, (0, 0, 0, 0), 0, []) :: (29, 2, (0, 0, 0, 0), 0, []) :: (30, 32, (5, 8, 0, 50), 0, []) :: (33, 49, (36, 3, 3, 126), 0, []) :: (36, 49, (58, 3, 5, 129), 0, []) :: (39, 49, (62, 2, 5, 135), 0, []) :: (42, 70, (0, 0, 0, 0), 0, []) :: []
def jm_l61 : jx_B := [(0, jm_b61_0)]
def jm_i61 : jx_M := (⟨"OfDifferentMinds$Ride", "step", "()Z"⟩, prog_7_method_14_code, 1, (some .boolean), 0, 1, 5, jm_l61)
theorem jm_ok61 : jx_okM 61 jm_i61 := ⟨by decide +kernel, rfl, by decide +kernel, ⟨by decide +kernel, by decide +kernel⟩, by decide +kernel, jx_mem (i := 739) (by decide +kernel) rfl, jx_mem (i := 113) (by decide +kernel) rfl, fun _ => ⟨jx_mem (i := 737) (by decide +kernel) rfl, jx_mem (i := 738) (by decide +kernel) rfl, by decide⟩, fun h => absurd h (by decide), fun h => absurd h (by decide), by decide, by decide, by decide, by decide +kernel, by decide +kernel⟩
-- OfDifferentMinds$Ride.goBy(I)Z
def jm_b62_25 : List jx_E := (25, 2, (0, 0, 0, 0), 0, []) :: (26, 0, (2, 0, 0, 0), 0, []) :: (27, 34, (5, 8, 0, 50), 0, []) :: (30, 2, (0, 0, 0, 0), 0, []) :: (31, 28, (0, 0, 0, 0), 0, []) :: (32, 32, (5, 10, 0, 57), 0, []) :: (35, 8, (0, 0, 0, 0), 1, []) :: (36, 14, (0, 0, 0, 0), 0, []) :: (37, 34, (5, 10, 0, 57), 0, []) :: (40, 2, (0, 0, 0, 0), 0, []) :: (41, 49, (63, 1, 5, 142), 0, []) :: (44, 8, (0, 0, 0, 0), 1, []) :: (45, 70, (0, 0, 0, 0), 0, []) :: []
def jm_b62_0 : List jx_E := (0, 2, (0, 0, 0, 0), 0, []) :: (1, 33, (5, 0, 0, 9), 0, []) :: (4, 2, (0, 0, 0, 0), 0, []) :: (5, 32, (5, 8, 0, 50), 0, []) :: (8, 0, (1, 0, 0, 0), 0, []) :: (9, 49, (35, 3, 3, 139), 0, []) :: (12, 4, (2, 0, 0, 0), 0, []) :: (13, 0, (2, 0, 0, 0), 0, []) :: (14, 8, (0, 0, 0, 0), (-1), []) :: (15, 62, (25, 0, 0, 0), 0, []) :: (18, 2, (0, 0, 0, 0), 0, []) :: (19, 8, (0, 0, 0, 0), 1, []) :: (20, 35, (5, 12, 0, 63), 0, []) :: (23, 8, (0, 0, 0, 0), 0, []) :: (24, 70, (0, 0, 0, 0), 0, []) :: []
def jm_l62 : jx_B := [(0, jm_b62_0), (25, jm_b62_25)]
def jm_i62 : jx_M := (⟨"OfDifferentMinds$Ride", "goBy", "(I)Z"⟩, prog_7_method_15_code, 3, (some .boolean), 0, 2, 5, jm_l62)
theorem jm_ok62 : jx_okM 62 jm_i62 := ⟨by decide +kernel, rfl, by decide +kernel, ⟨by decide +kernel, by decide +kernel⟩, by decide +kernel, jx_mem (i := 760) (by decide +kernel) rfl, jx_mem (i := 113) (by decide +kernel) rfl, fun _ => ⟨jx_mem (i := 759) (by decide +kernel) rfl, jx_mem (i := 18) (by decide +kernel) rfl, by decide⟩, fun h => absurd h (by decide), fun h => absurd h (by decide), by decide, by decide, by decide, by decide +kernel, by decide +kernel⟩
-- OfDifferentMinds$Ride.wear()V
def jm_b63_97 : List jx_E := (97, 71, (0, 0, 0, 0), 0, []) :: []
def jm_b63_32 : List jx_E := (32, 2, (0, 0, 0, 0), 0, []) :: (33, 33, (5, 4, 0, 27), 0, []) :: (36, 0, (1, 0, 0, 0), 0, []) :: (37, 2, (0, 0, 0, 0), 0, []) :: (38, 33, (5, 4, 0, 27), 0, []) :: (41, 0, (1, 0, 0, 0), 0, []) :: (42, 38, (0, 0, 0, 0), 0, []) :: (43, 8, (0, 0, 0, 0), 1, []) :: (44, 15, (0, 0, 0, 0), 0, []) :: (45, 8, (0, 0, 0, 0), 0, []) :: (46, 72, (310, 0, 0, 145), 0, []) :: (49, 41, (0, 0, 0, 0), 0, []) :: (50, 2, (0, 0, 0, 0), 0, []) :: (51, 33, (5, 4, 0, 27), 0, []) :: (54, 0, (1, 0, 0, 0), 0, []) :: (55, 38, (0, 0, 0, 0), 0, []) :: (56, 56, (97, 0, 0, 0), 0, []) :: (59, 2, (0, 0, 0, 0), 0, []) :: (60, 33, (5, 5, 0, 30), 0, []) :: (63, 0, (1, 0, 0, 0), 0, []) :: (64, 2, (0, 0, 0, 0), 0, []) :: (65, 33, (5, 3, 0, 23), 0, []) :: (68, 8, (0, 0, 0, 0), 1, []) :: (69, 0, (1, 0, 0, 0), 0, []) :: (70, 15, (0, 0, 0, 0), 0, []) :: (71, 38, (0, 0, 0, 0), 0, []) :: (72, 41, (0, 0, 0, 0), 0, []) :: (73, 2, (0, 0, 0, 0), 0, []) :: (74, 33, (5, 7, 0, 36), 0, []) :: (77, 0, (1, 0, 0, 0), 0, []) :: (78, 2, (0, 0, 0, 0), 0, []) :: (79, 33, (5, 6, 0, 33), 0, []) :: (82, 8, (0, 0, 0, 0), 1, []) :: (83, 0, (1, 0, 0, 0), 0, []) :: (84, 15, (0, 0, 0, 0), 0, []) :: (85, 38, (0, 0, 0, 0), 0, []) :: (86, 41, (0, 0, 0, 0), 0, []) :: (87, 2, (0, 0, 0, 0), 0, []) :: (88, 2, (0, 0, 0, 0), 0, []) :: (89, 33, (5, 3, 0, 23), 0, []) :: (92, 0, (1, 0, 0, 0), 0, []) :: (93, 38, (0, 0, 0, 0), 0, []) :: (94, 34, (5, 11, 0, 60), 0, []) :: jm_b63_97
def jm_b63_20 : List jx_E := (20, 4, (1, 0, 0, 0), 0, []) :: (21, 2, (0, 0, 0, 0), 0, []) :: (22, 33, (5, 5, 0, 30), 0, []) :: (25, 0, (1, 0, 0, 0), 0, []) :: (26, 38, (0, 0, 0, 0), 0, []) :: (27, 8, (0, 0, 0, 0), (-1), []) :: (28, 61, (32, 0, 0, 0), 0, []) :: (31, 71, (0, 0, 0, 0), 0, []) :: []
def jm_b63_19 : List jx_E := (19, 8, (0, 0, 0, 0), 1, []) :: jm_b63_20
def jm_b63_0 : List jx_E := (0, 2, (0, 0, 0, 0), 0, []) :: (1, 33, (5, 4, 0, 27), 0, []) :: (4, 8, (0, 0, 0, 0), 0, []) :: (5, 38, (0, 0, 0, 0), 0, []) :: (6, 2, (0, 0, 0, 0), 0, []) :: (7, 33, (5, 4, 0, 27), 0, []) :: (10, 8, (0, 0, 0, 0), 1, []) :: (11, 38, (0, 0, 0, 0), 0, []) :: (12, 64, (19, 0, 0, 0), 0, []) :: (15, 8, (0, 0, 0, 0), 0, []) :: (16, 54, (20, 0, 0, 0), 0, []) :: []
def jm_l63 : jx_B := [(0, jm_b63_0), (19, jm_b63_19), (20, jm_b63_20), (32, jm_b63_32), (97, jm_b63_97)]
def jm_i63 : jx_M := (⟨"OfDifferentMinds$Ride", "wear", "()V"⟩, prog_7_method_16_code, 2, none, 0, 1, 5, jm_l63)
theorem jm_ok63 : jx_okM 63 jm_i63 := ⟨by decide +kernel, rfl, by decide +kernel, ⟨by decide +kernel, by decide +kernel⟩, by decide +kernel, jx_mem (i := 768) (by decide +kernel) rfl, jx_mem (i := 113) (by decide +kernel) rfl, fun _ => ⟨jx_mem (i := 767) (by decide +kernel) rfl, jx_mem (i := 19) (by decide +kernel) rfl, by decide⟩, fun h => absurd h (by decide), fun h => absurd h (by decide), by decide, by decide, by decide, by decide +kernel, by decide +kernel⟩
-- OfDifferentMinds$Ride.go(I)V
def jm_b64_20 : List jx_E := (20, 71, (0, 0, 0, 0), 0, []) :: []
def jm_b64_2 : List jx_E := (2, 0, (2, 0, 0, 0), 0, []) :: (3, 0, (1, 0, 0, 0), 0, []) :: (4, 64, (20, 0, 0, 0), 0, []) :: (7, 2, (0, 0, 0, 0), 0, []) :: (8, 49, (61, 1, 5, 150), 0, []) :: (11, 55, (20, 0, 0, 0), 0, []) :: (14, 13, (2, 0, 0, 0), 1, []) :: (17, 54, (2, 0, 0, 0), 0, []) :: []
def jm_b64_0 : List jx_E := (0, 8, (0, 0, 0, 0), 0, []) :: (1, 4, (2, 0, 0, 0), 0, []) :: jm_b64_2
def jm_l64 : jx_B := [(0, jm_b64_0), (2, jm_b64_2), (20, jm_b64_20)]
def jm_i64 : jx_M := (⟨"OfDifferentMinds$Ride", "go", "(I)V"⟩, prog_7_method_17_code, 3, none, 0, 2, 5, jm_l64)
theorem jm_ok64 : jx_okM 64 jm_i64 := ⟨by decide +kernel, rfl, by decide +kernel, ⟨by decide +kernel, by decide +kernel⟩, by decide +kernel, jx_mem (i := 735) (by decide +kernel) rfl, jx_mem (i := 113) (by decide +kernel) rfl, fun _ => ⟨jx_mem (i := 733) (by decide +kernel) rfl, jx_mem (i := 734) (by decide +kernel) rfl, by decide⟩, fun h => absurd h (by decide), fun h => absurd h (by decide), by decide, by decide, by decide, by decide +kernel, by decide +kernel⟩
-- OfDifferentMinds$Ride.goOut()V
def jm_b65_72 : List jx_E := (72, 35, (5, 12, 0, 63), 0, []) :: (75, 71, (0, 0, 0, 0), 0, []) :: []
def jm_b65_71 : List jx_E := (71, 8, (0, 0, 0, 0), 0, []) :: jm_b65_72
def jm_b65_67 : List jx_E := (67, 8, (0, 0, 0, 0), 1, []) :: (68, 54, (72, 0, 0, 0), 0, []) :: []
def jm_b65_22 : List jx_E := (22, 2, (0, 0, 0, 0), 0, []) :: (23, 2, (0, 0, 0, 0), 0, []) :: (24, 32, (5, 12, 0, 63), 0, []) :: (27, 56, (67, 0, 0, 0), 0, []) :: (30, 2, (0, 0, 0, 0), 0, []) :: (31, 33, (5, 0, 0, 9), 0, []) :: (34, 2, (0, 0, 0, 0), 0, []) :: (35, 33, (5, 7, 0, 36), 0, []) :: (38, 8, (0, 0, 0, 0), 0, []) :: (39, 38, (0, 0, 0, 0), 0, []) :: (40, 2, (0, 0, 0, 0), 0, []) :: (41, 32, (5, 8, 0, 50), 0, []) :: (44, 49, (36, 3, 3, 126), 0, []) :: (47, 2, (0, 0, 0, 0), 0, []) :: (48, 33, (5, 0, 0, 9), 0, []) :: (51, 2, (0, 0, 0, 0), 0, []) :: (52, 33, (5, 7, 0, 36), 0, []) :: (55, 8, (0, 0, 0, 0), 1, []) :: (56, 38, (0, 0, 0, 0), 0, []) :: (57, 2, (0, 0, 0, 0), 0, []) :: (58, 32, (5, 8, 0, 50), 0, []) :: (61, 49, (36, 3, 3, 126), 0, []) :: (64, 62, (71, 0, 0, 0), 0, []) :: jm_b65_67
def jm_b65_2 : List jx_E := (2, 0, (1, 0, 0, 0), 0, []) :: (3, 10, (0, 0, 0, 0), 200, []) :: (6, 64, (22, 0, 0, 0), 0, []) :: (9, 2, (0, 0, 0, 0), 0, []) :: (10, 49, (61, 1, 5, 150), 0, []) :: (13, 55, (22, 0, 0, 0), 0, []) :: (16, 13, (1, 0, 0, 0), 1, []) :: (19, 54, (2, 0, 0, 0), 0, []) :: []
def jm_b65_0 : List jx_E := (0, 8, (0, 0, 0, 0), 0, []) :: (1, 4, (1, 0, 0, 0), 0, []) :: jm_b65_2
def jm_l65 : jx_B := [(0, jm_b65_0), (2, jm_b65_2), (22, jm_b65_22), (67, jm_b65_67), (71, jm_b65_71), (72, jm_b65_72)]
def jm_i65 : jx_M := (⟨"OfDifferentMinds$Ride", "goOut", "()V"⟩, prog_7_method_18_code, 2, none, 0, 1, 5, jm_l65)
theorem jm_ok65 : jx_okM 65 jm_i65 := ⟨by decide +kernel, rfl, by decide +kernel, ⟨by decide +kernel, by decide +kernel⟩, by decide +kernel, jx_mem (i := 920) (by decide +kernel) rfl, jx_mem (i := 113) (by decide +kernel) rfl, fun _ => ⟨jx_mem (i := 918) (by decide +kernel) rfl, jx_mem (i := 919) (by decide +kernel) rfl, by decide⟩, fun h => absurd h (by decide), fun h => absurd h (by decide), by decide, by decide, by decide, by decide +kernel, by decide +kernel⟩
-- OfDifferentMinds$Ride.comesTo(I)Z
def jm_b66_46 : List jx_E := (46, 70, (0, 0, 0, 0), 0, []) :: []
def jm_b66_45 : List jx_E := (45, 8, (0, 0, 0, 0), 0, []) :: jm_b66_46
def jm_b66_33 : List jx_E := (33, 2, (0, 0, 0, 0), 0, []) :: (34, 32, (5, 8, 0, 50), 0, []) :: (37, 0, (1, 0, 0, 0), 0, []) :: (38, 62, (45, 0, 0, 0), 0, []) :: (41, 8, (0, 0, 0, 0), 1, []) :: (42, 54, (46, 0, 0, 0), 0, []) :: []
def jm_b66_5 : List jx_E := (5, 0, (2, 0, 0, 0), 0, []) :: (6, 10, (0, 0, 0, 0), 200, []) :: (9, 64, (33, 0, 0, 0), 0, []) :: (12, 2, (0, 0, 0, 0), 0, []) :: (13, 32, (5, 8, 0, 50), 0, []) :: (16, 0, (1, 0, 0, 0), 0, []) :: (17, 61, (33, 0, 0, 0), 0, []) :: (20, 2, (0, 0, 0, 0), 0, []) :: (21, 49, (61, 1, 5, 150), 0, []) :: (24, 55, (33, 0, 0, 0), 0, []) :: (27, 13, (2, 0, 0, 0), 1, []) :: (30, 54, (5, 0, 0, 0), 0, []) :: []
def jm_b66_0 : List jx_E := (0, 2, (0, 0, 0, 0), 0, []) :: (1, 32, (5, 10, 0, 57), 0, []) :: (4, 4, (2, 0, 0, 0), 0, []) :: jm_b66_5
def jm_l66 : jx_B := [(0, jm_b66_0), (5, jm_b66_5), (33, jm_b66_33), (45, jm_b66_45), (46, jm_b66_46)]
def jm_i66 : jx_M := (⟨"OfDifferentMinds$Ride", "comesTo", "(I)Z"⟩, prog_7_method_19_code, 3, (some .boolean), 0, 2, 5, jm_l66)
theorem jm_ok66 : jx_okM 66 jm_i66 := ⟨by decide +kernel, rfl, by decide +kernel, ⟨by decide +kernel, by decide +kernel⟩, by decide +kernel, jx_mem (i := 941) (by decide +kernel) rfl, jx_mem (i := 113) (by decide +kernel) rfl, fun _ => ⟨jx_mem (i := 939) (by decide +kernel) rfl, jx_mem (i := 940) (by decide +kernel) rfl, by decide⟩, fun h => absurd h (by decide), fun h => absurd h (by decide), by decide, by decide, by decide, by decide +kernel, by decide +kernel⟩
-- OfDifferentMinds$Row.<init>()V
def jm_b67_0 : List jx_E := (0, 2, (0, 0, 0, 0), 0, []) :: (1, 52, (0, 0, 0, 3), 0, []) :: (4, 2, (0, 0, 0, 0), 0, []) :: (5, 9, (0, 0, 0, 0), 16, []) :: (7, 46, (0, 0, 0, 0), 0, []) :: (9, 37, (6, 0, 0, 11), 0, []) :: (12, 71, (0, 0, 0, 0), 0, []) :: []
def jm_l67 : jx_B := [(0, jm_b67_0)]
def jm_i67 : jx_M := (⟨"OfDifferentMinds$Row", "<init>", "()V"⟩, prog_8_method_1_code, 1, none, 1, 1, 6, jm_l67)
theorem jm_ok67 : jx_okM 67 jm_i67 := ⟨by decide +kernel, rfl, by decide +kernel, ⟨by decide +kernel, by decide +kernel⟩, by decide +kernel, jx_mem (i := 242) (by decide +kernel) rfl, jx_mem (i := 112) (by decide +kernel) rfl, fun h => absurd h (by decide), fun _ => ⟨rfl, jx_mem (i := 241) (by decide +kernel) rfl, rfl⟩, fun h => absurd h (by decide), by decide, by decide, by decide, by decide +kernel, by decide +kernel⟩
-- OfDifferentMinds$Row.clear()V
def jm_b68_0 : List jx_E := (0, 2, (0, 0, 0, 0), 0, []) :: (1, 8, (0, 0, 0, 0), 0, []) :: (2, 34, (6, 1, 0, 15), 0, []) :: (5, 71, (0, 0, 0, 0), 0, []) :: []
def jm_l68 : jx_B := [(0, jm_b68_0)]
def jm_i68 : jx_M := (⟨"OfDifferentMinds$Row", "clear", "()V"⟩, prog_8_method_2_code, 1, none, 0, 1, 6, jm_l68)
theorem jm_ok68 : jx_okM 68 jm_i68 := ⟨by decide +kernel, rfl, by decide +kernel, ⟨by decide +kernel, by decide +kernel⟩, by decide +kernel, jx_mem (i := 814) (by decide +kernel) rfl, jx_mem (i := 112) (by decide +kernel) rfl, fun _ => ⟨jx_mem (i := 812) (by decide +kernel) rfl, jx_mem (i := 813) (by decide +kernel) rfl, by decide⟩, fun h => absurd h (by decide), fun h => absurd h (by decide), by decide, by decide, by decide, by decide +kernel, by decide +kernel⟩
-- OfDifferentMinds$Row.put(I)V
def jm_b69_29 : List jx_E := (29, 71, (0, 0, 0, 0), 0, []) :: []
def jm_b69_0 : List jx_E := (0, 2, (0, 0, 0, 0), 0, []) :: (1, 32, (6, 1, 0, 15), 0, []) :: (4, 9, (0, 0, 0, 0), 16, []) :: (6, 64, (29, 0, 0, 0), 0, []) :: (9, 2, (0, 0, 0, 0), 0, []) :: (10, 33, (6, 0, 0, 11), 0, []) :: (13, 2, (0, 0, 0, 0), 0, []) :: (14, 32, (6, 1, 0, 15), 0, []) :: (17, 0, (1, 0, 0, 0), 0, []) :: (18, 41, (0, 0, 0, 0), 0, []) :: (19, 2, (0, 0, 0, 0), 0, []) :: (20, 28, (0, 0, 0, 0), 0, []) :: (21, 32, (6, 1, 0, 15), 0, []) :: (24, 8, (0, 0, 0, 0), 1, []) :: (25, 14, (0, 0, 0, 0), 0, []) :: (26, 34, (6, 1, 0, 15), 0, []) :: jm_b69_29
def jm_l69 : jx_B := [(0, jm_b69_0), (29, jm_b69_29)]
def jm_i69 : jx_M := (⟨"OfDifferentMinds$Row", "put", "(I)V"⟩, prog_8_method_3_code, 2, none, 0, 2, 6, jm_l69)
theorem jm_ok69 : jx_okM 69 jm_i69 := ⟨by decide +kernel, rfl, by decide +kernel, ⟨by decide +kernel, by decide +kernel⟩, by decide +kernel, jx_mem (i := 818) (by decide +kernel) rfl, jx_mem (i := 112) (by decide +kernel) rfl, fun _ => ⟨jx_mem (i := 816) (by decide +kernel) rfl, jx_mem (i := 817) (by decide +kernel) rfl, by decide⟩, fun h => absurd h (by decide), fun h => absurd h (by decide), by decide, by decide, by decide, by decide +kernel, by decide +kernel⟩
-- OfDifferentMinds$Row.tell(I)V
def jm_b70_0 : List jx_E := (0, 2, (0, 0, 0, 0), 0, []) :: (1, 49, (68, 1, 6, 19), 0, []) :: (4, 2, (0, 0, 0, 0), 0, []) :: (5, 0, (1, 0, 0, 0), 0, []) :: (6, 49, (69, 2, 6, 22), 0, []) :: (9, 71, (0, 0, 0, 0), 0, []) :: []
def jm_l70 : jx_B := [(0, jm_b70_0)]
def jm_i70 : jx_M := (⟨"OfDifferentMinds$Row", "tell", "(I)V"⟩, prog_8_method_4_code, 2, none, 0, 2, 6, jm_l70)
theorem jm_ok70 : jx_okM 70 jm_i70 := ⟨by decide +kernel, rfl, by decide +kernel, ⟨by decide +kernel, by decide +kernel⟩, by decide +kernel, jx_mem (i := 924) (by decide +kernel) rfl, jx_mem (i := 112) (by decide +kernel) rfl, fun _ => ⟨jx_mem (i := 922) (by decide +kernel) rfl, jx_mem (i := 923) (by decide +kernel) rfl, by decide⟩, fun h => absurd h (by decide), fun h => absurd h (by decide), by decide, by decide, by decide, by decide +kernel, by decide +kernel⟩
-- OfDifferentMinds$Row.tell(II)V
def jm_b71_0 : List jx_E := (0, 2, (0, 0, 0, 0), 0, []) :: (1, 49, (68, 1, 6, 19), 0, []) :: (4, 2, (0, 0, 0, 0), 0, []) :: (5, 0, (1, 0, 0, 0), 0, []) :: (6, 49, (69, 2, 6, 22), 0, []) :: (9, 2, (0, 0, 0, 0), 0, []) :: (10, 0, (2, 0, 0, 0), 0, []) :: (11, 49, (69, 2, 6, 22), 0, []) :: (14, 71, (0, 0, 0, 0), 0, []) :: []
def jm_l71 : jx_B := [(0, jm_b71_0)]
def jm_i71 : jx_M := (⟨"OfDifferentMinds$Row", "tell", "(II)V"⟩, prog_8_method_5_code, 3, none, 0, 3, 6, jm_l71)
theorem jm_ok71 : jx_okM 71 jm_i71 := ⟨by decide +kernel, rfl, by decide +kernel, ⟨by decide +kernel, by decide +kernel⟩, by decide +kernel, jx_mem (i := 891) (by decide +kernel) rfl, jx_mem (i := 112) (by decide +kernel) rfl, fun _ => ⟨jx_mem (i := 889) (by decide +kernel) rfl, jx_mem (i := 890) (by decide +kernel) rfl, by decide⟩, fun h => absurd h (by decide), fun h => absurd h (by decide), by decide, by decide, by decide, by decide +kernel, by decide +kernel⟩
-- OfDifferentMinds$Row.tell(III)V
def jm_b72_0 : List jx_E := (0, 2, (0, 0, 0, 0), 0, []) :: (1, 49, (68, 1, 6, 19), 0, []) :: (4, 2, (0, 0, 0, 0), 0, []) :: (5, 0, (1, 0, 0, 0), 0, []) :: (6, 49, (69, 2, 6, 22), 0, []) :: (9, 2, (0, 0, 0, 0), 0, []) :: (10, 0, (2, 0, 0, 0), 0, []) :: (11, 49, (69, 2, 6, 22), 0, []) :: (14, 2, (0, 0, 0, 0), 0, []) :: (15, 0, (3, 0, 0, 0), 0, []) :: (16, 49, (69, 2, 6, 22), 0, []) :: (19, 71, (0, 0, 0, 0), 0, []) :: []
def jm_l72 : jx_B := [(0, jm_b72_0)]
def jm_i72 : jx_M := (⟨"OfDifferentMinds$Row", "tell", "(III)V"⟩, prog_8_method_6_code, 4, none, 0, 4, 6, jm_l72)
theorem jm_ok72 : jx_okM 72 jm_i72 := ⟨by decide +kernel, rfl, by decide +kernel, ⟨by decide +kernel, by decide +kernel⟩, by decide +kernel, jx_mem (i := 810) (by decide +kernel) rfl, jx_mem (i := 112) (by decide +kernel) rfl, fun _ => ⟨jx_mem (i := 808) (by decide +kernel) rfl, jx_mem (i := 809) (by decide +kernel) rfl, by decide⟩, fun h => absurd h (by decide), fun h => absurd h (by decide), by decide, by decide, by decide, by decide +kernel, by decide +kernel⟩
-- OfDifferentMinds$Row.size()I
def jm_b73_0 : List jx_E := (0, 2, (0, 0, 0, 0), 0, []) :: (1, 32, (6, 1, 0, 15), 0, []) :: (4, 69, (0, 0, 0, 0), 0, []) :: []
def jm_l73 : jx_B := [(0, jm_b73_0)]
def jm_i73 : jx_M := (⟨"OfDifferentMinds$Row", "size", "()I"⟩, prog_8_method_7_code, 1, (some .int), 0, 1, 6, jm_l73)
theorem jm_ok73 : jx_okM 73 jm_i73 := ⟨by decide +kernel, rfl, by decide +kernel, ⟨by decide +kernel, by decide +kernel⟩, by decide +kernel, jx_mem (i := 1188) (by decide +kernel) rfl, jx_mem (i := 112) (by decide +kernel) rfl, fun _ => ⟨jx_mem (i := 1186) (by decide +kernel) rfl, jx_mem (i := 1187) (by decide +kernel) rfl, by decide⟩, fun h => absurd h (by decide), fun h => absurd h (by decide), by decide, by decide, by decide, by decide +kernel, by decide +kernel⟩
-- OfDifferentMinds$Row.at(I)I
def jm_b74_22 : List jx_E := (22, 69, (0, 0, 0, 0), 0, []) :: []
def jm_b74_21 : List jx_E := (21, 8, (0, 0, 0, 0), (-1), []) :: jm_b74_22
def jm_b74_0 : List jx_E := (0, 0, (1, 0, 0, 0), 0, []) :: (1, 57, (21, 0, 0, 0), 0, []) :: (4, 0, (1, 0, 0, 0), 0, []) :: (5, 2, (0, 0, 0, 0), 0, []) :: (6, 32, (6, 1, 0, 15), 0, []) :: (9, 64, (21, 0, 0, 0), 0, []) :: (12, 2, (0, 0, 0, 0), 0, []) :: (13, 33, (6, 0, 0, 11), 0, []) :: (16, 0, (1, 0, 0, 0), 0, []) :: (17, 38, (0, 0, 0, 0), 0, []) :: (18, 54, (22, 0, 0, 0), 0, []) :: []
def jm_l74 : jx_B := [(0, jm_b74_0), (21, jm_b74_21), (22, jm_b74_22)]
def jm_i74 : jx_M := (⟨"OfDifferentMinds$Row", "at", "(I)I"⟩, prog_8_method_8_code, 2, (some .int), 0, 2, 6, jm_l74)
theorem jm_ok74 : jx_okM 74 jm_i74 := ⟨by decide +kernel, rfl, by decide +kernel, ⟨by decide +kernel, by decide +kernel⟩, by decide +kernel, jx_mem (i := 1130) (by decide +kernel) rfl, jx_mem (i := 112) (by decide +kernel) rfl, fun _ => ⟨jx_mem (i := 1128) (by decide +kernel) rfl, jx_mem (i := 1129) (by decide +kernel) rfl, by decide⟩, fun h => absurd h (by decide), fun h => absurd h (by decide), by decide, by decide, by decide, by decide +kernel, by decide +kernel⟩
-- OfDifferentMinds$Rule.<init>()V
def jm_b75_0 : List jx_E := (0, 2, (0, 0, 0, 0), 0, []) :: (1, 52, (0, 0, 0, 3), 0, []) :: (4, 2, (0, 0, 0, 0), 0, []) :: (5, 9, (0, 0, 0, 0), 40, []) :: (7, 46, (0, 0, 0, 0), 0, []) :: (9, 37, (7, 0, 0, 9), 0, []) :: (12, 2, (0, 0, 0, 0), 0, []) :: (13, 9, (0, 0, 0, 0), 40, []) :: (15, 46, (0, 0, 0, 0), 0, []) :: (17, 37, (7, 1, 0, 15), 0, []) :: (20, 2, (0, 0, 0, 0), 0, []) :: (21, 9, (0, 0, 0, 0), 40, []) :: (23, 46, (0, 0, 0, 0), 0, []) :: (25, 37, (7, 2, 0, 18), 0, []) :: (28, 2, (0, 0, 0, 0), 0, []) :: (29, 9, (0, 0, 0, 0), 7, []) :: (31, 46, (0, 0, 0, 0), 0, []) :: (33, 37, (7, 3, 0, 21), 0, []) :: (36, 71, (0, 0, 0, 0), 0, []) :: []
def jm_l75 : jx_B := [(0, jm_b75_0)]
def jm_i75 : jx_M := (⟨"OfDifferentMinds$Rule", "<init>", "()V"⟩, prog_9_method_1_code, 1, none, 1, 1, 7, jm_l75)
theorem jm_ok75 : jx_okM 75 jm_i75 := ⟨by decide +kernel, rfl, by decide +kernel, ⟨by decide +kernel, by decide +kernel⟩, by decide +kernel, jx_mem (i := 182) (by decide +kernel) rfl, jx_mem (i := 109) (by decide +kernel) rfl, fun h => absurd h (by decide), fun _ => ⟨rfl, jx_mem (i := 181) (by decide +kernel) rfl, rfl⟩, fun h => absurd h (by decide), by decide, by decide, by decide, by decide +kernel, by decide +kernel⟩
-- OfDifferentMinds$Rule.setFacts(IIIII)V
def jm_b76_0 : List jx_E := (0, 2, (0, 0, 0, 0), 0, []) :: (1, 33, (7, 3, 0, 21), 0, []) :: (4, 8, (0, 0, 0, 0), 2, []) :: (5, 0, (1, 0, 0, 0), 0, []) :: (6, 41, (0, 0, 0, 0), 0, []) :: (7, 2, (0, 0, 0, 0), 0, []) :: (8, 33, (7, 3, 0, 21), 0, []) :: (11, 8, (0, 0, 0, 0), 3, []) :: (12, 0, (2, 0, 0, 0), 0, []) :: (13, 41, (0, 0, 0, 0), 0, []) :: (14, 2, (0, 0, 0, 0), 0, []) :: (15, 33, (7, 3, 0, 21), 0, []) :: (18, 8, (0, 0, 0, 0), 4, []) :: (19, 0, (3, 0, 0, 0), 0, []) :: (20, 41, (0, 0, 0, 0), 0, []) :: (21, 2, (0, 0, 0, 0), 0, []) :: (22, 33, (7, 3, 0, 21), 0, []) :: (25, 8, (0, 0, 0, 0), 5, []) :: (26, 1, (4, 0, 0, 0), 0, []) :: (28, 41, (0, 0, 0, 0), 0, []) :: (29, 2, (0, 0, 0, 0), 0, []) :: (30, 33, (7, 3, 0, 21), 0, []) :: (33, 9, (0, 0, 0, 0), 6, []) :: (35, 1, (5, 0, 0, 0), 0, []) :: (37, 41, (0, 0, 0, 0), 0, []) :: (38, 71, (0, 0, 0, 0), 0, []) :: []
def jm_l76 : jx_B := [(0, jm_b76_0)]
def jm_i76 : jx_M := (⟨"OfDifferentMinds$Rule", "setFacts", "(IIIII)V"⟩, prog_9_method_2_code, 6, none, 0, 6, 7, jm_l76)
theorem jm_ok76 : jx_okM 76 jm_i76 := ⟨by decide +kernel, rfl, by decide +kernel, ⟨by decide +kernel, by decide +kernel⟩, by decide +kernel, jx_mem (i := 749) (by decide +kernel) rfl, jx_mem (i := 109) (by decide +kernel) rfl, fun _ => ⟨jx_mem (i := 747) (by decide +kernel) rfl, jx_mem (i := 748) (by decide +kernel) rfl, by decide⟩, fun h => absurd h (by decide), fun h => absurd h (by decide), by decide, by decide, by decide, by decide +kernel, by decide +kernel⟩
-- OfDifferentMinds$Rule.tells(II)I
def jm_b77_245 : List jx_E := (245, 69, (0, 0, 0, 0), 0, []) :: []
def jm_b77_243 : List jx_E := (243, 1, (5, 0, 0, 0), 0, []) :: jm_b77_245
def jm_b77_221 : List jx_E := (221, 2, (0, 0, 0, 0), 0, []) :: (222, 33, (7, 2, 0, 18), 0, []) :: (225, 8, (0, 0, 0, 0), 0, []) :: (226, 38, (0, 0, 0, 0), 0, []) :: (227, 0, (3, 0, 0, 0), 0, []) :: (228, 18, (0, 0, 0, 0), 0, []) :: (229, 5, (5, 0, 0, 0), 0, []) :: (231, 1, (5, 0, 0, 0), 0, []) :: (233, 58, (243, 0, 0, 0), 0, []) :: (236, 1, (5, 0, 0, 0), 0, []) :: (238, 0, (3, 0, 0, 0), 0, []) :: (239, 14, (0, 0, 0, 0), 0, []) :: (240, 54, (245, 0, 0, 0), 0, []) :: []
def jm_b77_215 : List jx_E := (215, 13, (5, 0, 0, 0), 1, []) :: (218, 54, (56, 0, 0, 0), 0, []) :: []
def jm_b77_164 : List jx_E := (164, 1, (6, 0, 0, 0), 0, []) :: (166, 10, (0, 0, 0, 0), 2000, []) :: (169, 66, (215, 0, 0, 0), 0, []) :: (172, 1, (4, 0, 0, 0), 0, []) :: (174, 8, (0, 0, 0, 0), 1, []) :: (175, 66, (215, 0, 0, 0), 0, []) :: (178, 13, (4, 0, 0, 0), (-1), []) :: (181, 2, (0, 0, 0, 0), 0, []) :: (182, 33, (7, 2, 0, 18), 0, []) :: (185, 1, (4, 0, 0, 0), 0, []) :: (187, 8, (0, 0, 0, 0), 1, []) :: (188, 15, (0, 0, 0, 0), 0, []) :: (189, 1, (6, 0, 0, 0), 0, []) :: (191, 10, (0, 0, 0, 0), 3000, []) :: (194, 15, (0, 0, 0, 0), 0, []) :: (195, 2, (0, 0, 0, 0), 0, []) :: (196, 33, (7, 2, 0, 18), 0, []) :: (199, 1, (4, 0, 0, 0), 0, []) :: (201, 8, (0, 0, 0, 0), 1, []) :: (202, 15, (0, 0, 0, 0), 0, []) :: (203, 38, (0, 0, 0, 0), 0, []) :: (204, 2, (0, 0, 0, 0), 0, []) :: (205, 33, (7, 2, 0, 18), 0, []) :: (208, 1, (4, 0, 0, 0), 0, []) :: (210, 38, (0, 0, 0, 0), 0, []) :: (211, 50, (78, 3, 0, 28), 0, []) :: (214, 41, (0, 0, 0, 0), 0, []) :: jm_b77_215
def jm_b77_129 : List jx_E := (129, 1, (6, 0, 0, 0), 0, []) :: (131, 10, (0, 0, 0, 0), 2000, []) :: (134, 62, (164, 0, 0, 0), 0, []) :: (137, 1, (4, 0, 0, 0), 0, []) :: (139, 60, (164, 0, 0, 0), 0, []) :: (142, 2, (0, 0, 0, 0), 0, []) :: (143, 33, (7, 2, 0, 18), 0, []) :: (146, 1, (4, 0, 0, 0), 0, []) :: (148, 8, (0, 0, 0, 0), 1, []) :: (149, 15, (0, 0, 0, 0), 0, []) :: (150, 2, (0, 0, 0, 0), 0, []) :: (151, 33, (7, 2, 0, 18), 0, []) :: (154, 1, (4, 0, 0, 0), 0, []) :: (156, 8, (0, 0, 0, 0), 1, []) :: (157, 15, (0, 0, 0, 0), 0, []) :: (158, 38, (0, 0, 0, 0), 0, []) :: (159, 19, (0, 0, 0, 0), 0, []) :: (160, 41, (0, 0, 0, 0), 0, []) :: (161, 54, (215, 0, 0, 0), 0, []) :: []
def jm_b77_122 : List jx_E := (122, 41, (0, 0, 0, 0), 0, []) :: (123, 13, (4, 0, 0, 0), 1, []) :: (126, 54, (215, 0, 0, 0), 0, []) :: []
def jm_b77_108 : List jx_E := (108, 2, (0, 0, 0, 0), 0, []) :: (109, 33, (7, 3, 0, 21), 0, []) :: (112, 1, (6, 0, 0, 0), 0, []) :: (114, 10, (0, 0, 0, 0), 1000, []) :: (117, 15, (0, 0, 0, 0), 0, []) :: (118, 9, (0, 0, 0, 0), 7, []) :: (120, 18, (0, 0, 0, 0), 0, []) :: (121, 38, (0, 0, 0, 0), 0, []) :: jm_b77_122
def jm_b77_56 : List jx_E := (56, 1, (5, 0, 0, 0), 0, []) :: (58, 2, (0, 0, 0, 0), 0, []) :: (59, 32, (7, 4, 0, 24), 0, []) :: (62, 64, (221, 0, 0, 0), 0, []) :: (65, 2, (0, 0, 0, 0), 0, []) :: (66, 33, (7, 0, 0, 9), 0, []) :: (69, 1, (5, 0, 0, 0), 0, []) :: (71, 38, (0, 0, 0, 0), 0, []) :: (72, 5, (6, 0, 0, 0), 0, []) :: (74, 1, (6, 0, 0, 0), 0, []) :: (76, 10, (0, 0, 0, 0), 2000, []) :: (79, 64, (129, 0, 0, 0), 0, []) :: (82, 1, (4, 0, 0, 0), 0, []) :: (84, 9, (0, 0, 0, 0), 40, []) :: (86, 64, (129, 0, 0, 0), 0, []) :: (89, 2, (0, 0, 0, 0), 0, []) :: (90, 33, (7, 2, 0, 18), 0, []) :: (93, 1, (4, 0, 0, 0), 0, []) :: (95, 1, (6, 0, 0, 0), 0, []) :: (97, 10, (0, 0, 0, 0), 1000, []) :: (100, 64, (108, 0, 0, 0), 0, []) :: (103, 1, (6, 0, 0, 0), 0, []) :: (105, 54, (122, 0, 0, 0), 0, []) :: []
def jm_b77_51 : List jx_E := (51, 14, (0, 0, 0, 0), 0, []) :: (52, 41, (0, 0, 0, 0), 0, []) :: (53, 8, (0, 0, 0, 0), 0, []) :: (54, 5, (5, 0, 0, 0), 0, []) :: jm_b77_56
def jm_b77_50 : List jx_E := (50, 8, (0, 0, 0, 0), 0, []) :: jm_b77_51
def jm_b77_14 : List jx_E := (14, 2, (0, 0, 0, 0), 0, []) :: (15, 33, (7, 3, 0, 21), 0, []) :: (18, 8, (0, 0, 0, 0), 0, []) :: (19, 0, (1, 0, 0, 0), 0, []) :: (20, 41, (0, 0, 0, 0), 0, []) :: (21, 2, (0, 0, 0, 0), 0, []) :: (22, 33, (7, 3, 0, 21), 0, []) :: (25, 8, (0, 0, 0, 0), 1, []) :: (26, 0, (2, 0, 0, 0), 0, []) :: (27, 41, (0, 0, 0, 0), 0, []) :: (28, 8, (0, 0, 0, 0), 0, []) :: (29, 5, (4, 0, 0, 0), 0, []) :: (31, 2, (0, 0, 0, 0), 0, []) :: (32, 33, (7, 2, 0, 18), 0, []) :: (35, 8, (0, 0, 0, 0), 0, []) :: (36, 0, (3, 0, 0, 0), 0, []) :: (37, 0, (1, 0, 0, 0), 0, []) :: (38, 15, (0, 0, 0, 0), 0, []) :: (39, 0, (2, 0, 0, 0), 0, []) :: (40, 15, (0, 0, 0, 0), 0, []) :: (41, 0, (3, 0, 0, 0), 0, []) :: (42, 8, (0, 0, 0, 0), 2, []) :: (43, 62, (50, 0, 0, 0), 0, []) :: (46, 0, (1, 0, 0, 0), 0, []) :: (47, 54, (51, 0, 0, 0), 0, []) :: []
def jm_b77_0 : List jx_E := (0, 2, (0, 0, 0, 0), 0, []) :: (1, 33, (7, 3, 0, 21), 0, []) :: (4, 8, (0, 0, 0, 0), 2, []) :: (5, 38, (0, 0, 0, 0), 0, []) :: (6, 4, (3, 0, 0, 0), 0, []) :: (7, 0, (3, 0, 0, 0), 0, []) :: (8, 8, (0, 0, 0, 0), 1, []) :: (9, 64, (14, 0, 0, 0), 0, []) :: (12, 8, (0, 0, 0, 0), (-1), []) :: (13, 69, (0, 0, 0, 0), 0, []) :: []
def jm_l77 : jx_B := [(0, jm_b77_0), (14, jm_b77_14), (50, jm_b77_50), (51, jm_b77_51), (56, jm_b77_56), (108, jm_b77_108), (122, jm_b77_122), (129, jm_b77_129), (164, jm_b77_164), (215, jm_b77_215), (221, jm_b77_221), (243, jm_b77_243), (245, jm_b77_245)]
def jm_i77 : jx_M := (⟨"OfDifferentMinds$Rule", "tells", "(II)I"⟩, prog_9_method_3_code, 7, (some .int), 0, 3, 7, jm_l77)
theorem jm_ok77 : jx_okM 77 jm_i77 := ⟨by decide +kernel, rfl, by decide +kernel, ⟨by decide +kernel, by decide +kernel⟩, by decide +kernel, jx_mem (i := 753) (by decide +kernel) rfl, jx_mem (i := 109) (by decide +kernel) rfl, fun _ => ⟨jx_mem (i := 751) (by decide +kernel) rfl, jx_mem (i := 752) (by decide +kernel) rfl, by decide⟩, fun h => absurd h (by decide), fun h => absurd h (by decide), by decide, by decide, by decide, by decide +kernel, by decide +kernel⟩
-- OfDifferentMinds$Rule.joined(III)I
def jm_b78_116 : List jx_E := (116, 69, (0, 0, 0, 0), 0, []) :: []
def jm_b78_113 : List jx_E := (113, 0, (1, 0, 0, 0), 0, []) :: (114, 0, (2, 0, 0, 0), 0, []) :: (115, 17, (0, 0, 0, 0), 0, []) :: jm_b78_116
def jm_b78_105 : List jx_E := (105, 0, (2, 0, 0, 0), 0, []) :: (106, 56, (113, 0, 0, 0), 0, []) :: (109, 8, (0, 0, 0, 0), 0, []) :: (110, 54, (116, 0, 0, 0), 0, []) :: []
def jm_b78_101 : List jx_E := (101, 0, (1, 0, 0, 0), 0, []) :: (102, 0, (2, 0, 0, 0), 0, []) :: (103, 16, (0, 0, 0, 0), 0, []) :: (104, 69, (0, 0, 0, 0), 0, []) :: []
def jm_b78_97 : List jx_E := (97, 0, (1, 0, 0, 0), 0, []) :: (98, 0, (2, 0, 0, 0), 0, []) :: (99, 15, (0, 0, 0, 0), 0, []) :: (100, 69, (0, 0, 0, 0), 0, []) :: []
def jm_b78_93 : List jx_E := (93, 0, (1, 0, 0, 0), 0, []) :: (94, 0, (2, 0, 0, 0), 0, []) :: (95, 14, (0, 0, 0, 0), 0, []) :: (96, 69, (0, 0, 0, 0), 0, []) :: []
def jm_b78_92 : List jx_E := (92, 69, (0, 0, 0, 0), 0, []) :: []
def jm_b78_91 : List jx_E := (91, 8, (0, 0, 0, 0), 0, []) :: jm_b78_92
def jm_b78_82 : List jx_E := (82, 0, (1, 0, 0, 0), 0, []) :: (83, 0, (2, 0, 0, 0), 0, []) :: (84, 62, (91, 0, 0, 0), 0, []) :: (87, 8, (0, 0, 0, 0), 1, []) :: (88, 54, (92, 0, 0, 0), 0, []) :: []
def jm_b78_81 : List jx_E := (81, 69, (0, 0, 0, 0), 0, []) :: []
def jm_b78_80 : List jx_E := (80, 8, (0, 0, 0, 0), 0, []) :: jm_b78_81
def jm_b78_71 : List jx_E := (71, 0, (1, 0, 0, 0), 0, []) :: (72, 0, (2, 0, 0, 0), 0, []) :: (73, 66, (80, 0, 0, 0), 0, []) :: (76, 8, (0, 0, 0, 0), 1, []) :: (77, 54, (81, 0, 0, 0), 0, []) :: []
def jm_b78_70 : List jx_E := (70, 69, (0, 0, 0, 0), 0, []) :: []
def jm_b78_69 : List jx_E := (69, 8, (0, 0, 0, 0), 0, []) :: jm_b78_70
def jm_b78_60 : List jx_E := (60, 0, (1, 0, 0, 0), 0, []) :: (61, 0, (2, 0, 0, 0), 0, []) :: (62, 64, (69, 0, 0, 0), 0, []) :: (65, 8, (0, 0, 0, 0), 1, []) :: (66, 54, (70, 0, 0, 0), 0, []) :: []
def jm_b78_0 : List jx_E := (0, 0, (0, 0, 0, 0), 0, []) :: (1, 68, (105, 0, 0, 59), 0, [(42, 101), (43, 93), (45, 97), (60, 60), (61, 82), (62, 71)]) :: []
def jm_l78 : jx_B := [(0, jm_b78_0), (60, jm_b78_60), (69, jm_b78_69), (70, jm_b78_70), (71, jm_b78_71), (80, jm_b78_80), (81, jm_b78_81), (82, jm_b78_82), (91, jm_b78_91), (92, jm_b78_92), (93, jm_b78_93), (97, jm_b78_97), (101, jm_b78_101), (105, jm_b78_105), (113, jm_b78_113), (116, jm_b78_116)]
def jm_i78 : jx_M := (⟨"OfDifferentMinds$Rule", "joined", "(III)I"⟩, prog_9_method_4_code, 3, (some .int), 2, 3, 7, jm_l78)
theorem jm_ok78 : jx_okM 78 jm_i78 := ⟨by decide +kernel, rfl, by decide +kernel, ⟨by decide +kernel, by decide +kernel⟩, by decide +kernel, jx_mem (i := 756) (by decide +kernel) rfl, jx_mem (i := 109) (by decide +kernel) rfl, fun h => absurd h (by decide), fun h => absurd h (by decide), fun _ => jx_mem (i := 755) (by decide +kernel) rfl, by decide, by decide, by decide, by decide +kernel, by decide +kernel⟩
-- OfDifferentMinds$Rule.read(LOfDifferentMinds$Text;)I
def jm_b79_45 : List jx_E := (45, 2, (0, 0, 0, 0), 0, []) :: (46, 33, (7, 1, 0, 15), 0, []) :: (49, 8, (0, 0, 0, 0), 0, []) :: (50, 2, (0, 0, 0, 0), 0, []) :: (51, 33, (7, 0, 0, 9), 0, []) :: (54, 8, (0, 0, 0, 0), 0, []) :: (55, 9, (0, 0, 0, 0), 40, []) :: (57, 53, (0, 0, 0, 54), 0, []) :: (60, 2, (0, 0, 0, 0), 0, []) :: (61, 2, (0, 0, 0, 0), 0, []) :: (62, 32, (7, 5, 0, 32), 0, []) :: (65, 34, (7, 4, 0, 24), 0, []) :: (68, 8, (0, 0, 0, 0), (-1), []) :: (69, 69, (0, 0, 0, 0), 0, []) :: []
def jm_b79_33 : List jx_E := (33, 2, (1, 0, 0, 0), 0, []) :: (34, 49, (127, 1, 9, 51), 0, []) :: (37, 4, (2, 0, 0, 0), 0, []) :: (38, 0, (2, 0, 0, 0), 0, []) :: (39, 8, (0, 0, 0, 0), (-1), []) :: (40, 61, (45, 0, 0, 0), 0, []) :: (43, 0, (2, 0, 0, 0), 0, []) :: (44, 69, (0, 0, 0, 0), 0, []) :: []
def jm_b79_0 : List jx_E := (0, 2, (0, 0, 0, 0), 0, []) :: (1, 8, (0, 0, 0, 0), 0, []) :: (2, 34, (7, 5, 0, 32), 0, []) :: (5, 2, (1, 0, 0, 0), 0, []) :: (6, 9, (0, 0, 0, 0), 40, []) :: (8, 49, (118, 2, 9, 35), 0, []) :: (11, 2, (1, 0, 0, 0), 0, []) :: (12, 49, (113, 1, 9, 41), 0, []) :: (15, 60, (45, 0, 0, 0), 0, []) :: (18, 2, (0, 0, 0, 0), 0, []) :: (19, 2, (1, 0, 0, 0), 0, []) :: (20, 8, (0, 0, 0, 0), 0, []) :: (21, 8, (0, 0, 0, 0), 0, []) :: (22, 49, (81, 4, 7, 44), 0, []) :: (25, 56, (33, 0, 0, 0), 0, []) :: (28, 2, (1, 0, 0, 0), 0, []) :: (29, 49, (119, 1, 9, 48), 0, []) :: (32, 69, (0, 0, 0, 0), 0, []) :: []
def jm_l79 : jx_B := [(0, jm_b79_0), (33, jm_b79_33), (45, jm_b79_45)]
def jm_i79 : jx_M := (⟨"OfDifferentMinds$Rule", "read", "(LOfDifferentMinds$Text;)I"⟩, prog_9_method_5_code, 3, (some .int), 0, 2, 7, jm_l79)
theorem jm_ok79 : jx_okM 79 jm_i79 := ⟨by decide +kernel, rfl, by decide +kernel, ⟨by decide +kernel, by decide +kernel⟩, by decide +kernel, jx_mem (i := 530) (by decide +kernel) rfl, jx_mem (i := 109) (by decide +kernel) rfl, fun _ => ⟨jx_mem (i := 528) (by decide +kernel) rfl, jx_mem (i := 529) (by decide +kernel) rfl, by decide⟩, fun h => absurd h (by decide), fun h => absurd h (by decide), by decide, by decide, by decide, by decide +kernel, by decide +kernel⟩
end
section
/-! ===== methods 80 .. as entries ===== -/
-- OfDifferentMinds$Rule.write(I)V
def jm_b80_29 : List jx_E := (29, 71, (0, 0, 0, 0), 0, []) :: []
def jm_b80_0 : List jx_E := (0, 2, (0, 0, 0, 0), 0, []) :: (1, 32, (7, 5, 0, 32), 0, []) :: (4, 9, (0, 0, 0, 0), 40, []) :: (6, 64, (29, 0, 0, 0), 0, []) :: (9, 2, (0, 0, 0, 0), 0, []) :: (10, 33, (7, 1, 0, 15), 0, []) :: (13, 2, (0, 0, 0, 0), 0, []) :: (14, 32, (7, 5, 0, 32), 0, []) :: (17, 0, (1, 0, 0, 0), 0, []) :: (18, 41, (0, 0, 0, 0), 0, []) :: (19, 2, (0, 0, 0, 0), 0, []) :: (20, 28, (0, 0, 0, 0), 0, []) :: (21, 32, (7, 5, 0, 32), 0, []) :: (24, 8, (0, 0, 0, 0), 1, []) :: (25, 14, (0, 0, 0, 0), 0, []) :: (26, 34, (7, 5, 0, 32), 0, []) :: jm_b80_29
def jm_l80 : jx_B := [(0, jm_b80_0), (29, jm_b80_29)]
def jm_i80 : jx_M := (⟨"OfDifferentMinds$Rule", "write", "(I)V"⟩, prog_9_method_6_code, 2, none, 0, 2, 7, jm_l80)
theorem jm_ok80 : jx_okM 80 jm_i80 := ⟨by decide +kernel, rfl, by decide +kernel, ⟨by decide +kernel, by decide +kernel⟩, by decide +kernel, jx_mem (i := 559) (by decide +kernel) rfl, jx_mem (i := 109) (by decide +kernel) rfl, fun _ => ⟨jx_mem (i := 558) (by decide +kernel) rfl, jx_mem (i := 8) (by decide +kernel) rfl, by decide⟩, fun h => absurd h (by decide), fun h => absurd h (by decide), by decide, by decide, by decide, by decide +kernel, by decide +kernel⟩
-- OfDifferentMinds$Rule.takeJoined(LOfDifferentMinds$Text;II)Z
def jm_b81_94 : List jx_E := (94, 1, (4, 0, 0, 0), 0, []) :: (96, 70, (0, 0, 0, 0), 0, []) :: []
def jm_b81_38 : List jx_E := (38, 1, (6, 0, 0, 0), 0, []) :: (40, 1, (5, 0, 0, 0), 0, []) :: (42, 64, (94, 0, 0, 0), 0, []) :: (45, 1, (4, 0, 0, 0), 0, []) :: (47, 55, (94, 0, 0, 0), 0, []) :: (50, 2, (1, 0, 0, 0), 0, []) :: (51, 49, (120, 1, 9, 64), 0, []) :: (54, 50, (82, 1, 0, 67), 0, []) :: (57, 0, (2, 0, 0, 0), 0, []) :: (58, 62, (94, 0, 0, 0), 0, []) :: (61, 2, (1, 0, 0, 0), 0, []) :: (62, 49, (123, 1, 9, 71), 0, []) :: (65, 5, (7, 0, 0, 0), 0, []) :: (67, 2, (0, 0, 0, 0), 0, []) :: (68, 2, (1, 0, 0, 0), 0, []) :: (69, 0, (2, 0, 0, 0), 0, []) :: (70, 8, (0, 0, 0, 0), 1, []) :: (71, 14, (0, 0, 0, 0), 0, []) :: (72, 0, (3, 0, 0, 0), 0, []) :: (73, 49, (81, 4, 7, 44), 0, []) :: (76, 5, (4, 0, 0, 0), 0, []) :: (78, 2, (0, 0, 0, 0), 0, []) :: (79, 10, (0, 0, 0, 0), 3000, []) :: (82, 1, (7, 0, 0, 0), 0, []) :: (84, 14, (0, 0, 0, 0), 0, []) :: (85, 49, (80, 2, 7, 74), 0, []) :: (88, 13, (6, 0, 0, 0), 1, []) :: (91, 54, (38, 0, 0, 0), 0, []) :: []
def jm_b81_33 : List jx_E := (33, 5, (5, 0, 0, 0), 0, []) :: (35, 8, (0, 0, 0, 0), 0, []) :: (36, 5, (6, 0, 0, 0), 0, []) :: jm_b81_38
def jm_b81_31 : List jx_E := (31, 9, (0, 0, 0, 0), 40, []) :: jm_b81_33
def jm_b81_12 : List jx_E := (12, 2, (0, 0, 0, 0), 0, []) :: (13, 2, (1, 0, 0, 0), 0, []) :: (14, 0, (2, 0, 0, 0), 0, []) :: (15, 8, (0, 0, 0, 0), 1, []) :: (16, 14, (0, 0, 0, 0), 0, []) :: (17, 0, (3, 0, 0, 0), 0, []) :: (18, 49, (81, 4, 7, 44), 0, []) :: (21, 5, (4, 0, 0, 0), 0, []) :: (23, 0, (2, 0, 0, 0), 0, []) :: (24, 56, (31, 0, 0, 0), 0, []) :: (27, 8, (0, 0, 0, 0), 1, []) :: (28, 54, (33, 0, 0, 0), 0, []) :: []
def jm_b81_0 : List jx_E := (0, 0, (2, 0, 0, 0), 0, []) :: (1, 8, (0, 0, 0, 0), 2, []) :: (2, 66, (12, 0, 0, 0), 0, []) :: (5, 2, (0, 0, 0, 0), 0, []) :: (6, 2, (1, 0, 0, 0), 0, []) :: (7, 0, (3, 0, 0, 0), 0, []) :: (8, 49, (83, 3, 7, 60), 0, []) :: (11, 70, (0, 0, 0, 0), 0, []) :: []
def jm_l81 : jx_B := [(0, jm_b81_0), (12, jm_b81_12), (31, jm_b81_31), (33, jm_b81_33), (38, jm_b81_38), (94, jm_b81_94)]
def jm_i81 : jx_M := (⟨"OfDifferentMinds$Rule", "takeJoined", "(LOfDifferentMinds$Text;II)Z"⟩, prog_9_method_7_code, 8, (some .boolean), 0, 4, 7, jm_l81)
theorem jm_ok81 : jx_okM 81 jm_i81 := ⟨by decide +kernel, rfl, by decide +kernel, ⟨by decide +kernel, by decide +kernel⟩, by decide +kernel, jx_mem (i := 536) (by decide +kernel) rfl, jx_mem (i := 109) (by decide +kernel) rfl, fun _ => ⟨jx_mem (i := 535) (by decide +kernel) rfl, jx_mem (i := 4) (by decide +kernel) rfl, by decide⟩, fun h => absurd h (by decide), fun h => absurd h (by decide), by decide, by decide, by decide, by decide +kernel, by decide +kernel⟩
-- OfDifferentMinds$Rule.rankOf(I)I
def jm_b82_106 : List jx_E := (106, 8, (0, 0, 0, 0), (-1), []) :: (107, 69, (0, 0, 0, 0), 0, []) :: []
def jm_b82_104 : List jx_E := (104, 8, (0, 0, 0, 0), 2, []) :: (105, 69, (0, 0, 0, 0), 0, []) :: []
def jm_b82_102 : List jx_E := (102, 8, (0, 0, 0, 0), 1, []) :: (103, 69, (0, 0, 0, 0), 0, []) :: []
def jm_b82_100 : List jx_E := (100, 8, (0, 0, 0, 0), 0, []) :: (101, 69, (0, 0, 0, 0), 0, []) :: []
def jm_b82_0 : List jx_E := (0, 0, (0, 0, 0, 0), 0, []) :: (1, 67, (106, 0, 0, 99), 42, [(42, 104), (43, 102), (44, 106), (45, 102), (46, 106), (47, 104), (48, 106), (49, 106), (50, 106), (51, 106), (52, 106), (53, 106), (54, 106), (55, 106), (56, 106), (57, 106), (58, 106), (59, 106), (60, 100), (61, 100), (62, 100)]) :: []
def jm_l82 : jx_B := [(0, jm_b82_0), (100, jm_b82_100), (102, jm_b82_102), (104, jm_b82_104), (106, jm_b82_106)]
def jm_i82 : jx_M := (⟨"OfDifferentMinds$Rule", "rankOf", "(I)I"⟩, prog_9_method_8_code, 1, (some .int), 2, 1, 7, jm_l82)
theorem jm_ok82 : jx_okM 82 jm_i82 := ⟨by decide +kernel, rfl, by decide +kernel, ⟨by decide +kernel, by decide +kernel⟩, by decide +kernel, jx_mem (i := 565) (by decide +kernel) rfl, jx_mem (i := 109) (by decide +kernel) rfl, fun h => absurd h (by decide), fun h => absurd h (by decide), fun _ => jx_mem (i := 564) (by decide +kernel) rfl, by decide, by decide, by decide, by decide +kernel, by decide +kernel⟩
-- OfDifferentMinds$Rule.takeSigned(LOfDifferentMinds$Text;I)Z
def jm_b83_73 : List jx_E := (73, 1, (4, 0, 0, 0), 0, []) :: (75, 70, (0, 0, 0, 0), 0, []) :: []
def jm_b83_60 : List jx_E := (60, 5, (4, 0, 0, 0), 0, []) :: (62, 0, (3, 0, 0, 0), 0, []) :: (63, 55, (73, 0, 0, 0), 0, []) :: (66, 2, (0, 0, 0, 0), 0, []) :: (67, 10, (0, 0, 0, 0), 2000, []) :: (70, 49, (80, 2, 7, 74), 0, []) :: jm_b83_73
def jm_b83_55 : List jx_E := (55, 2, (0, 0, 0, 0), 0, []) :: (56, 2, (1, 0, 0, 0), 0, []) :: (57, 49, (85, 2, 7, 84), 0, []) :: jm_b83_60
def jm_b83_37 : List jx_E := (37, 2, (1, 0, 0, 0), 0, []) :: (38, 49, (120, 1, 9, 64), 0, []) :: (41, 9, (0, 0, 0, 0), 40, []) :: (43, 62, (55, 0, 0, 0), 0, []) :: (46, 2, (0, 0, 0, 0), 0, []) :: (47, 2, (1, 0, 0, 0), 0, []) :: (48, 0, (2, 0, 0, 0), 0, []) :: (49, 49, (84, 3, 7, 81), 0, []) :: (52, 54, (60, 0, 0, 0), 0, []) :: []
def jm_b83_30 : List jx_E := (30, 4, (3, 0, 0, 0), 0, []) :: (31, 13, (4, 0, 0, 0), 1, []) :: (34, 54, (5, 0, 0, 0), 0, []) :: []
def jm_b83_29 : List jx_E := (29, 8, (0, 0, 0, 0), 0, []) :: jm_b83_30
def jm_b83_5 : List jx_E := (5, 1, (4, 0, 0, 0), 0, []) :: (7, 9, (0, 0, 0, 0), 40, []) :: (9, 64, (37, 0, 0, 0), 0, []) :: (12, 2, (1, 0, 0, 0), 0, []) :: (13, 9, (0, 0, 0, 0), 45, []) :: (15, 49, (124, 2, 9, 77), 0, []) :: (18, 55, (37, 0, 0, 0), 0, []) :: (21, 0, (3, 0, 0, 0), 0, []) :: (22, 56, (29, 0, 0, 0), 0, []) :: (25, 8, (0, 0, 0, 0), 1, []) :: (26, 54, (30, 0, 0, 0), 0, []) :: []
def jm_b83_0 : List jx_E := (0, 8, (0, 0, 0, 0), 0, []) :: (1, 4, (3, 0, 0, 0), 0, []) :: (2, 8, (0, 0, 0, 0), 0, []) :: (3, 5, (4, 0, 0, 0), 0, []) :: jm_b83_5
def jm_l83 : jx_B := [(0, jm_b83_0), (5, jm_b83_5), (29, jm_b83_29), (30, jm_b83_30), (37, jm_b83_37), (55, jm_b83_55), (60, jm_b83_60), (73, jm_b83_73)]
def jm_i83 : jx_M := (⟨"OfDifferentMinds$Rule", "takeSigned", "(LOfDifferentMinds$Text;I)Z"⟩, prog_9_method_9_code, 5, (some .boolean), 0, 3, 7, jm_l83)
theorem jm_ok83 : jx_okM 83 jm_i83 := ⟨by decide +kernel, rfl, by decide +kernel, ⟨by decide +kernel, by decide +kernel⟩, by decide +kernel, jx_mem (i := 540) (by decide +kernel) rfl, jx_mem (i := 109) (by decide +kernel) rfl, fun _ => ⟨jx_mem (i := 539) (by decide +kernel) rfl, jx_mem (i := 5) (by decide +kernel) rfl, by decide⟩, fun h => absurd h (by decide), fun h => absurd h (by decide), by decide, by decide, by decide, by decide +kernel, by decide +kernel⟩
-- OfDifferentMinds$Rule.takeInner(LOfDifferentMinds$Text;I)Z
def jm_b84_38 : List jx_E := (38, 70, (0, 0, 0, 0), 0, []) :: []
def jm_b84_37 : List jx_E := (37, 8, (0, 0, 0, 0), 0, []) :: jm_b84_38
def jm_b84_7 : List jx_E := (7, 2, (1, 0, 0, 0), 0, []) :: (8, 49, (123, 1, 9, 71), 0, []) :: (11, 31, (0, 0, 0, 0), 0, []) :: (12, 2, (0, 0, 0, 0), 0, []) :: (13, 2, (1, 0, 0, 0), 0, []) :: (14, 8, (0, 0, 0, 0), 0, []) :: (15, 0, (2, 0, 0, 0), 0, []) :: (16, 8, (0, 0, 0, 0), 1, []) :: (17, 14, (0, 0, 0, 0), 0, []) :: (18, 49, (81, 4, 7, 44), 0, []) :: (21, 55, (37, 0, 0, 0), 0, []) :: (24, 2, (1, 0, 0, 0), 0, []) :: (25, 9, (0, 0, 0, 0), 41, []) :: (27, 49, (124, 2, 9, 77), 0, []) :: (30, 55, (37, 0, 0, 0), 0, []) :: (33, 8, (0, 0, 0, 0), 1, []) :: (34, 54, (38, 0, 0, 0), 0, []) :: []
def jm_b84_0 : List jx_E := (0, 0, (2, 0, 0, 0), 0, []) :: (1, 8, (0, 0, 0, 0), 4, []) :: (2, 63, (7, 0, 0, 0), 0, []) :: (5, 8, (0, 0, 0, 0), 0, []) :: (6, 70, (0, 0, 0, 0), 0, []) :: []
def jm_l84 : jx_B := [(0, jm_b84_0), (7, jm_b84_7), (37, jm_b84_37), (38, jm_b84_38)]
def jm_i84 : jx_M := (⟨"OfDifferentMinds$Rule", "takeInner", "(LOfDifferentMinds$Text;I)Z"⟩, prog_9_method_10_code, 3, (some .boolean), 0, 3, 7, jm_l84)
theorem jm_ok84 : jx_okM 84 jm_i84 := ⟨by decide +kernel, rfl, by decide +kernel, ⟨by decide +kernel, by decide +kernel⟩, by decide +kernel, jx_mem (i := 546) (by decide +kernel) rfl, jx_mem (i := 109) (by decide +kernel) rfl, fun _ => ⟨jx_mem (i := 545) (by decide +kernel) rfl, jx_mem (i := 6) (by decide +kernel) rfl, by decide⟩, fun h => absurd h (by decide), fun h => absurd h (by decide), by decide, by decide, by decide, by decide +kernel, by decide +kernel⟩
-- OfDifferentMinds$Rule.takeThing(LOfDifferentMinds$Text;)Z
def jm_b85_33 : List jx_E := (33, 2, (1, 0, 0, 0), 0, []) :: (34, 49, (123, 1, 9, 71), 0, []) :: (37, 31, (0, 0, 0, 0), 0, []) :: (38, 2, (0, 0, 0, 0), 0, []) :: (39, 10, (0, 0, 0, 0), 1000, []) :: (42, 0, (3, 0, 0, 0), 0, []) :: (43, 14, (0, 0, 0, 0), 0, []) :: (44, 49, (80, 2, 7, 74), 0, []) :: (47, 8, (0, 0, 0, 0), 1, []) :: (48, 70, (0, 0, 0, 0), 0, []) :: []
def jm_b85_18 : List jx_E := (18, 2, (1, 0, 0, 0), 0, []) :: (19, 49, (120, 1, 9, 64), 0, []) :: (22, 50, (86, 1, 0, 91), 0, []) :: (25, 4, (3, 0, 0, 0), 0, []) :: (26, 0, (3, 0, 0, 0), 0, []) :: (27, 8, (0, 0, 0, 0), (-1), []) :: (28, 62, (33, 0, 0, 0), 0, []) :: (31, 8, (0, 0, 0, 0), 0, []) :: (32, 70, (0, 0, 0, 0), 0, []) :: []
def jm_b85_0 : List jx_E := (0, 2, (1, 0, 0, 0), 0, []) :: (1, 8, (0, 0, 0, 0), 3, []) :: (2, 49, (126, 2, 9, 88), 0, []) :: (5, 4, (2, 0, 0, 0), 0, []) :: (6, 0, (2, 0, 0, 0), 0, []) :: (7, 8, (0, 0, 0, 0), (-1), []) :: (8, 61, (18, 0, 0, 0), 0, []) :: (11, 2, (0, 0, 0, 0), 0, []) :: (12, 0, (2, 0, 0, 0), 0, []) :: (13, 49, (80, 2, 7, 74), 0, []) :: (16, 8, (0, 0, 0, 0), 1, []) :: (17, 70, (0, 0, 0, 0), 0, []) :: []
def jm_l85 : jx_B := [(0, jm_b85_0), (18, jm_b85_18), (33, jm_b85_33)]
def jm_i85 : jx_M := (⟨"OfDifferentMinds$Rule", "takeThing", "(LOfDifferentMinds$Text;)Z"⟩, prog_9_method_11_code, 4, (some .boolean), 0, 2, 7, jm_l85)
theorem jm_ok85 : jx_okM 85 jm_i85 := ⟨by decide +kernel, rfl, by decide +kernel, ⟨by decide +kernel, by decide +kernel⟩, by decide +kernel, jx_mem (i := 554) (by decide +kernel) rfl, jx_mem (i := 109) (by decide +kernel) rfl, fun _ => ⟨jx_mem (i := 553) (by decide +kernel) rfl, jx_mem (i := 7) (by decide +kernel) rfl, by decide⟩, fun h => absurd h (by decide), fun h => absurd h (by decide), by decide, by decide, by decide, by decide +kernel, by decide +kernel⟩
-- OfDifferentMinds$Rule.thingOf(I)I
def jm_b86_107 : List jx_E := (107, 8, (0, 0, 0, 0), (-1), []) :: (108, 69, (0, 0, 0, 0), 0, []) :: []
def jm_b86_104 : List jx_E := (104, 9, (0, 0, 0, 0), 6, []) :: (106, 69, (0, 0, 0, 0), 0, []) :: []
def jm_b86_102 : List jx_E := (102, 8, (0, 0, 0, 0), 5, []) :: (103, 69, (0, 0, 0, 0), 0, []) :: []
def jm_b86_100 : List jx_E := (100, 8, (0, 0, 0, 0), 4, []) :: (101, 69, (0, 0, 0, 0), 0, []) :: []
def jm_b86_98 : List jx_E := (98, 8, (0, 0, 0, 0), 3, []) :: (99, 69, (0, 0, 0, 0), 0, []) :: []
def jm_b86_96 : List jx_E := (96, 8, (0, 0, 0, 0), 2, []) :: (97, 69, (0, 0, 0, 0), 0, []) :: []
def jm_b86_94 : List jx_E := (94, 8, (0, 0, 0, 0), 1, []) :: (95, 69, (0, 0, 0, 0), 0, []) :: []
def jm_b86_92 : List jx_E := (92, 8, (0, 0, 0, 0), 0, []) :: (93, 69, (0, 0, 0, 0), 0, []) :: []
def jm_b86_0 : List jx_E := (0, 0, (0, 0, 0, 0), 0, []) :: (1, 67, (107, 0, 0, 91), 97, [(97, 92), (98, 94), (99, 107), (100, 107), (101, 107), (102, 107), (103, 107), (104, 107), (105, 107), (106, 107), (107, 96), (108, 107), (109, 102), (110, 104), (111, 107), (112, 98), (113, 107), (114, 107), (115, 100)]) :: []
def jm_l86 : jx_B := [(0, jm_b86_0), (92, jm_b86_92), (94, jm_b86_94), (96, jm_b86_96), (98, jm_b86_98), (100, jm_b86_100), (102, jm_b86_102), (104, jm_b86_104), (107, jm_b86_107)]
def jm_i86 : jx_M := (⟨"OfDifferentMinds$Rule", "thingOf", "(I)I"⟩, prog_9_method_12_code, 1, (some .int), 2, 1, 7, jm_l86)
theorem jm_ok86 : jx_okM 86 jm_i86 := ⟨by decide +kernel, rfl, by decide +kernel, ⟨by decide +kernel, by decide +kernel⟩, by decide +kernel, jx_mem (i := 562) (by decide +kernel) rfl, jx_mem (i := 109) (by decide +kernel) rfl, fun h => absurd h (by decide), fun h => absurd h (by decide), fun _ => jx_mem (i := 561) (by decide +kernel) rfl, by decide, by decide, by decide, by decide +kernel, by decide +kernel⟩
-- OfDifferentMinds$Standing.<init>()V
def jm_b87_0 : List jx_E := (0, 2, (0, 0, 0, 0), 0, []) :: (1, 52, (0, 0, 0, 5), 0, []) :: (4, 2, (0, 0, 0, 0), 0, []) :: (5, 9, (0, 0, 0, 0), 28, []) :: (7, 46, (0, 0, 0, 0), 0, []) :: (9, 37, (8, 0, 0, 11), 0, []) :: (12, 2, (0, 0, 0, 0), 0, []) :: (13, 33, (8, 0, 0, 11), 0, []) :: (16, 9, (0, 0, 0, 0), 25, []) :: (18, 8, (0, 0, 0, 0), (-1), []) :: (19, 41, (0, 0, 0, 0), 0, []) :: (20, 2, (0, 0, 0, 0), 0, []) :: (21, 33, (8, 0, 0, 11), 0, []) :: (24, 9, (0, 0, 0, 0), 26, []) :: (26, 8, (0, 0, 0, 0), (-1), []) :: (27, 41, (0, 0, 0, 0), 0, []) :: (28, 71, (0, 0, 0, 0), 0, []) :: []
def jm_l87 : jx_B := [(0, jm_b87_0)]
def jm_i87 : jx_M := (⟨"OfDifferentMinds$Standing", "<init>", "()V"⟩, prog_10_method_1_code, 1, none, 1, 1, 8, jm_l87)
theorem jm_ok87 : jx_okM 87 jm_i87 := ⟨by decide +kernel, rfl, by decide +kernel, ⟨by decide +kernel, by decide +kernel⟩, by decide +kernel, jx_mem (i := 207) (by decide +kernel) rfl, jx_mem (i := 110) (by decide +kernel) rfl, fun h => absurd h (by decide), fun _ => ⟨rfl, jx_mem (i := 206) (by decide +kernel) rfl, rfl⟩, fun h => absurd h (by decide), by decide, by decide, by decide, by decide +kernel, by decide +kernel⟩
-- OfDifferentMinds$Standing.clear()V
def jm_b88_0 : List jx_E := (0, 2, (0, 0, 0, 0), 0, []) :: (1, 33, (8, 0, 0, 11), 0, []) :: (4, 9, (0, 0, 0, 0), 24, []) :: (6, 8, (0, 0, 0, 0), 0, []) :: (7, 41, (0, 0, 0, 0), 0, []) :: (8, 2, (0, 0, 0, 0), 0, []) :: (9, 8, (0, 0, 0, 0), (-1), []) :: (10, 8, (0, 0, 0, 0), (-1), []) :: (11, 49, (111, 3, 8, 15), 0, []) :: (14, 71, (0, 0, 0, 0), 0, []) :: []
def jm_l88 : jx_B := [(0, jm_b88_0)]
def jm_i88 : jx_M := (⟨"OfDifferentMinds$Standing", "clear", "()V"⟩, prog_10_method_2_code, 1, none, 0, 1, 8, jm_l88)
theorem jm_ok88 : jx_okM 88 jm_i88 := ⟨by decide +kernel, rfl, by decide +kernel, ⟨by decide +kernel, by decide +kernel⟩, by decide +kernel, jx_mem (i := 464) (by decide +kernel) rfl, jx_mem (i := 110) (by decide +kernel) rfl, fun _ => ⟨jx_mem (i := 462) (by decide +kernel) rfl, jx_mem (i := 463) (by decide +kernel) rfl, by decide⟩, fun h => absurd h (by decide), fun h => absurd h (by decide), by decide, by decide, by decide, by decide +kernel, by decide +kernel⟩
-- OfDifferentMinds$Standing.copy(LOfDifferentMinds$Standing;)V
def jm_b89_0 : List jx_E := (0, 2, (1, 0, 0, 0), 0, []) :: (1, 33, (8, 0, 0, 11), 0, []) :: (4, 8, (0, 0, 0, 0), 0, []) :: (5, 2, (0, 0, 0, 0), 0, []) :: (6, 33, (8, 0, 0, 11), 0, []) :: (9, 8, (0, 0, 0, 0), 0, []) :: (10, 9, (0, 0, 0, 0), 28, []) :: (12, 53, (0, 0, 0, 19), 0, []) :: (15, 71, (0, 0, 0, 0), 0, []) :: []
def jm_l89 : jx_B := [(0, jm_b89_0)]
def jm_i89 : jx_M := (⟨"OfDifferentMinds$Standing", "copy", "(LOfDifferentMinds$Standing;)V"⟩, prog_10_method_3_code, 2, none, 0, 2, 8, jm_l89)
theorem jm_ok89 : jx_okM 89 jm_i89 := ⟨by decide +kernel, rfl, by decide +kernel, ⟨by decide +kernel, by decide +kernel⟩, by decide +kernel, jx_mem (i := 654) (by decide +kernel) rfl, jx_mem (i := 110) (by decide +kernel) rfl, fun _ => ⟨jx_mem (i := 652) (by decide +kernel) rfl, jx_mem (i := 653) (by decide +kernel) rfl, by decide⟩, fun h => absurd h (by decide), fun h => absurd h (by decide), by decide, by decide, by decide, by decide +kernel, by decide +kernel⟩
-- OfDifferentMinds$Standing.get(II)I
def jm_b90_22 : List jx_E := (22, 69, (0, 0, 0, 0), 0, []) :: []
def jm_b90_21 : List jx_E := (21, 8, (0, 0, 0, 0), (-1), []) :: jm_b90_22
def jm_b90_0 : List jx_E := (0, 0, (2, 0, 0, 0), 0, []) :: (1, 57, (21, 0, 0, 0), 0, []) :: (4, 0, (2, 0, 0, 0), 0, []) :: (5, 9, (0, 0, 0, 0), 6, []) :: (7, 64, (21, 0, 0, 0), 0, []) :: (10, 2, (0, 0, 0, 0), 0, []) :: (11, 33, (8, 0, 0, 11), 0, []) :: (14, 0, (1, 0, 0, 0), 0, []) :: (15, 0, (2, 0, 0, 0), 0, []) :: (16, 14, (0, 0, 0, 0), 0, []) :: (17, 38, (0, 0, 0, 0), 0, []) :: (18, 54, (22, 0, 0, 0), 0, []) :: []
def jm_l90 : jx_B := [(0, jm_b90_0), (21, jm_b90_21), (22, jm_b90_22)]
def jm_i90 : jx_M := (⟨"OfDifferentMinds$Standing", "get", "(II)I"⟩, prog_10_method_4_code, 3, (some .int), 0, 3, 8, jm_l90)
theorem jm_ok90 : jx_okM 90 jm_i90 := ⟨by decide +kernel, rfl, by decide +kernel, ⟨by decide +kernel, by decide +kernel⟩, by decide +kernel, jx_mem (i := 603) (by decide +kernel) rfl, jx_mem (i := 110) (by decide +kernel) rfl, fun _ => ⟨jx_mem (i := 602) (by decide +kernel) rfl, jx_mem (i := 10) (by decide +kernel) rfl, by decide⟩, fun h => absurd h (by decide), fun h => absurd h (by decide), by decide, by decide, by decide, by decide +kernel, by decide +kernel⟩
-- OfDifferentMinds$Standing.set(III)V
def jm_b91_19 : List jx_E := (19, 71, (0, 0, 0, 0), 0, []) :: []
def jm_b91_0 : List jx_E := (0, 0, (2, 0, 0, 0), 0, []) :: (1, 57, (19, 0, 0, 0), 0, []) :: (4, 0, (2, 0, 0, 0), 0, []) :: (5, 9, (0, 0, 0, 0), 6, []) :: (7, 64, (19, 0, 0, 0), 0, []) :: (10, 2, (0, 0, 0, 0), 0, []) :: (11, 33, (8, 0, 0, 11), 0, []) :: (14, 0, (1, 0, 0, 0), 0, []) :: (15, 0, (2, 0, 0, 0), 0, []) :: (16, 14, (0, 0, 0, 0), 0, []) :: (17, 0, (3, 0, 0, 0), 0, []) :: (18, 41, (0, 0, 0, 0), 0, []) :: jm_b91_19
def jm_l91 : jx_B := [(0, jm_b91_0), (19, jm_b91_19)]
def jm_i91 : jx_M := (⟨"OfDifferentMinds$Standing", "set", "(III)V"⟩, prog_10_method_5_code, 4, none, 0, 4, 8, jm_l91)
theorem jm_ok91 : jx_okM 91 jm_i91 := ⟨by decide +kernel, rfl, by decide +kernel, ⟨by decide +kernel, by decide +kernel⟩, by decide +kernel, jx_mem (i := 518) (by decide +kernel) rfl, jx_mem (i := 110) (by decide +kernel) rfl, fun _ => ⟨jx_mem (i := 517) (by decide +kernel) rfl, jx_mem (i := 3) (by decide +kernel) rfl, by decide⟩, fun h => absurd h (by decide), fun h => absurd h (by decide), by decide, by decide, by decide, by decide +kernel, by decide +kernel⟩
-- OfDifferentMinds$Standing.admit(II)V
def jm_b92_0 : List jx_E := (0, 2, (0, 0, 0, 0), 0, []) :: (1, 8, (0, 0, 0, 0), 0, []) :: (2, 0, (1, 0, 0, 0), 0, []) :: (3, 8, (0, 0, 0, 0), 0, []) :: (4, 49, (91, 4, 8, 25), 0, []) :: (7, 2, (0, 0, 0, 0), 0, []) :: (8, 9, (0, 0, 0, 0), 6, []) :: (10, 0, (1, 0, 0, 0), 0, []) :: (11, 8, (0, 0, 0, 0), 0, []) :: (12, 49, (91, 4, 8, 25), 0, []) :: (15, 2, (0, 0, 0, 0), 0, []) :: (16, 9, (0, 0, 0, 0), 12, []) :: (18, 0, (1, 0, 0, 0), 0, []) :: (19, 8, (0, 0, 0, 0), (-1), []) :: (20, 49, (91, 4, 8, 25), 0, []) :: (23, 2, (0, 0, 0, 0), 0, []) :: (24, 9, (0, 0, 0, 0), 18, []) :: (26, 0, (1, 0, 0, 0), 0, []) :: (27, 0, (2, 0, 0, 0), 0, []) :: (28, 49, (91, 4, 8, 25), 0, []) :: (31, 71, (0, 0, 0, 0), 0, []) :: []
def jm_l92 : jx_B := [(0, jm_b92_0)]
def jm_i92 : jx_M := (⟨"OfDifferentMinds$Standing", "admit", "(II)V"⟩, prog_10_method_6_code, 3, none, 0, 3, 8, jm_l92)
theorem jm_ok92 : jx_okM 92 jm_i92 := ⟨by decide +kernel, rfl, by decide +kernel, ⟨by decide +kernel, by decide +kernel⟩, by decide +kernel, jx_mem (i := 514) (by decide +kernel) rfl, jx_mem (i := 110) (by decide +kernel) rfl, fun _ => ⟨jx_mem (i := 512) (by decide +kernel) rfl, jx_mem (i := 513) (by decide +kernel) rfl, by decide⟩, fun h => absurd h (by decide), fun h => absurd h (by decide), by decide, by decide, by decide, by decide +kernel, by decide +kernel⟩
-- OfDifferentMinds$Standing.spentOf(I)I
def jm_b93_0 : List jx_E := (0, 2, (0, 0, 0, 0), 0, []) :: (1, 8, (0, 0, 0, 0), 0, []) :: (2, 0, (1, 0, 0, 0), 0, []) :: (3, 49, (90, 3, 8, 29), 0, []) :: (6, 69, (0, 0, 0, 0), 0, []) :: []
def jm_l93 : jx_B := [(0, jm_b93_0)]
def jm_i93 : jx_M := (⟨"OfDifferentMinds$Standing", "spentOf", "(I)I"⟩, prog_10_method_7_code, 2, (some .int), 0, 2, 8, jm_l93)
theorem jm_ok93 : jx_okM 93 jm_i93 := ⟨by decide +kernel, rfl, by decide +kernel, ⟨by decide +kernel, by decide +kernel⟩, by decide +kernel, jx_mem (i := 634) (by decide +kernel) rfl, jx_mem (i := 110) (by decide +kernel) rfl, fun _ => ⟨jx_mem (i := 632) (by decide +kernel) rfl, jx_mem (i := 633) (by decide +kernel) rfl, by decide⟩, fun h => absurd h (by decide), fun h => absurd h (by decide), by decide, by decide, by decide, by decide +kernel, by decide +kernel⟩
-- OfDifferentMinds$Standing.setSpent(II)V
def jm_b94_0 : List jx_E := (0, 2, (0, 0, 0, 0), 0, []) :: (1, 8, (0, 0, 0, 0), 0, []) :: (2, 0, (1, 0, 0, 0), 0, []) :: (3, 0, (2, 0, 0, 0), 0, []) :: (4, 49, (91, 4, 8, 25), 0, []) :: (7, 71, (0, 0, 0, 0), 0, []) :: []
def jm_l94 : jx_B := [(0, jm_b94_0)]
def jm_i94 : jx_M := (⟨"OfDifferentMinds$Standing", "setSpent", "(II)V"⟩, prog_10_method_8_code, 3, none, 0, 3, 8, jm_l94)
theorem jm_ok94 : jx_okM 94 jm_i94 := ⟨by decide +kernel, rfl, by decide +kernel, ⟨by decide +kernel, by decide +kernel⟩, by decide +kernel, jx_mem (i := 642) (by decide +kernel) rfl, jx_mem (i := 110) (by decide +kernel) rfl, fun _ => ⟨jx_mem (i := 640) (by decide +kernel) rfl, jx_mem (i := 641) (by decide +kernel) rfl, by decide⟩, fun h => absurd h (by decide), fun h => absurd h (by decide), by decide, by decide, by decide, by decide +kernel, by decide +kernel⟩
-- OfDifferentMinds$Standing.placeOf(I)I
def jm_b95_0 : List jx_E := (0, 2, (0, 0, 0, 0), 0, []) :: (1, 9, (0, 0, 0, 0), 6, []) :: (3, 0, (1, 0, 0, 0), 0, []) :: (4, 49, (90, 3, 8, 29), 0, []) :: (7, 69, (0, 0, 0, 0), 0, []) :: []
def jm_l95 : jx_B := [(0, jm_b95_0)]
def jm_i95 : jx_M := (⟨"OfDifferentMinds$Standing", "placeOf", "(I)I"⟩, prog_10_method_9_code, 2, (some .int), 0, 2, 8, jm_l95)
theorem jm_ok95 : jx_okM 95 jm_i95 := ⟨by decide +kernel, rfl, by decide +kernel, ⟨by decide +kernel, by decide +kernel⟩, by decide +kernel, jx_mem (i := 675) (by decide +kernel) rfl, jx_mem (i := 110) (by decide +kernel) rfl, fun _ => ⟨jx_mem (i := 673) (by decide +kernel) rfl, jx_mem (i := 674) (by decide +kernel) rfl, by decide⟩, fun h => absurd h (by decide), fun h => absurd h (by decide), by decide, by decide, by decide, by decide +kernel, by decide +kernel⟩
-- OfDifferentMinds$Standing.setPlace(II)V
def jm_b96_0 : List jx_E := (0, 2, (0, 0, 0, 0), 0, []) :: (1, 9, (0, 0, 0, 0), 6, []) :: (3, 0, (1, 0, 0, 0), 0, []) :: (4, 0, (2, 0, 0, 0), 0, []) :: (5, 49, (91, 4, 8, 25), 0, []) :: (8, 71, (0, 0, 0, 0), 0, []) :: []
def jm_l96 : jx_B := [(0, jm_b96_0)]
def jm_i96 : jx_M := (⟨"OfDifferentMinds$Standing", "setPlace", "(II)V"⟩, prog_10_method_10_code, 3, none, 0, 3, 8, jm_l96)
theorem jm_ok96 : jx_okM 96 jm_i96 := ⟨by decide +kernel, rfl, by decide +kernel, ⟨by decide +kernel, by decide +kernel⟩, by decide +kernel, jx_mem (i := 785) (by decide +kernel) rfl, jx_mem (i := 110) (by decide +kernel) rfl, fun _ => ⟨jx_mem (i := 783) (by decide +kernel) rfl, jx_mem (i := 784) (by decide +kernel) rfl, by decide⟩, fun h => absurd h (by decide), fun h => absurd h (by decide), by decide, by decide, by decide, by decide +kernel, by decide +kernel⟩
-- OfDifferentMinds$Standing.convincerOf(I)I
def jm_b97_0 : List jx_E := (0, 2, (0, 0, 0, 0), 0, []) :: (1, 9, (0, 0, 0, 0), 12, []) :: (3, 0, (1, 0, 0, 0), 0, []) :: (4, 49, (90, 3, 8, 29), 0, []) :: (7, 69, (0, 0, 0, 0), 0, []) :: []
def jm_l97 : jx_B := [(0, jm_b97_0)]
def jm_i97 : jx_M := (⟨"OfDifferentMinds$Standing", "convincerOf", "(I)I"⟩, prog_10_method_11_code, 2, (some .int), 0, 2, 8, jm_l97)
theorem jm_ok97 : jx_okM 97 jm_i97 := ⟨by decide +kernel, rfl, by decide +kernel, ⟨by decide +kernel, by decide +kernel⟩, by decide +kernel, jx_mem (i := 599) (by decide +kernel) rfl, jx_mem (i := 110) (by decide +kernel) rfl, fun _ => ⟨jx_mem (i := 597) (by decide +kernel) rfl, jx_mem (i := 598) (by decide +kernel) rfl, by decide⟩, fun h => absurd h (by decide), fun h => absurd h (by decide), by decide, by decide, by decide, by decide +kernel, by decide +kernel⟩
-- OfDifferentMinds$Standing.setConvincer(II)V
def jm_b98_0 : List jx_E := (0, 2, (0, 0, 0, 0), 0, []) :: (1, 9, (0, 0, 0, 0), 12, []) :: (3, 0, (1, 0, 0, 0), 0, []) :: (4, 0, (2, 0, 0, 0), 0, []) :: (5, 49, (91, 4, 8, 25), 0, []) :: (8, 71, (0, 0, 0, 0), 0, []) :: []
def jm_l98 : jx_B := [(0, jm_b98_0)]
def jm_i98 : jx_M := (⟨"OfDifferentMinds$Standing", "setConvincer", "(II)V"⟩, prog_10_method_12_code, 3, none, 0, 3, 8, jm_l98)
theorem jm_ok98 : jx_okM 98 jm_i98 := ⟨by decide +kernel, rfl, by decide +kernel, ⟨by decide +kernel, by decide +kernel⟩, by decide +kernel, jx_mem (i := 790) (by decide +kernel) rfl, jx_mem (i := 110) (by decide +kernel) rfl, fun _ => ⟨jx_mem (i := 788) (by decide +kernel) rfl, jx_mem (i := 789) (by decide +kernel) rfl, by decide⟩, fun h => absurd h (by decide), fun h => absurd h (by decide), by decide, by decide, by decide, by decide +kernel, by decide +kernel⟩
-- OfDifferentMinds$Standing.mapOf(I)I
def jm_b99_0 : List jx_E := (0, 2, (0, 0, 0, 0), 0, []) :: (1, 9, (0, 0, 0, 0), 18, []) :: (3, 0, (1, 0, 0, 0), 0, []) :: (4, 49, (90, 3, 8, 29), 0, []) :: (7, 69, (0, 0, 0, 0), 0, []) :: []
def jm_l99 : jx_B := [(0, jm_b99_0)]
def jm_i99 : jx_M := (⟨"OfDifferentMinds$Standing", "mapOf", "(I)I"⟩, prog_10_method_13_code, 2, (some .int), 0, 2, 8, jm_l99)
theorem jm_ok99 : jx_okM 99 jm_i99 := ⟨by decide +kernel, rfl, by decide +kernel, ⟨by decide +kernel, by decide +kernel⟩, by decide +kernel, jx_mem (i := 607) (by decide +kernel) rfl, jx_mem (i := 110) (by decide +kernel) rfl, fun _ => ⟨jx_mem (i := 605) (by decide +kernel) rfl, jx_mem (i := 606) (by decide +kernel) rfl, by decide⟩, fun h => absurd h (by decide), fun h => absurd h (by decide), by decide, by decide, by decide, by decide +kernel, by decide +kernel⟩
-- OfDifferentMinds$Standing.guidingMap(I)I
def jm_b100_17 : List jx_E := (17, 49, (99, 2, 8, 37), 0, []) :: (20, 69, (0, 0, 0, 0), 0, []) :: []
def jm_b100_16 : List jx_E := (16, 0, (2, 0, 0, 0), 0, []) :: jm_b100_17
def jm_b100_0 : List jx_E := (0, 2, (0, 0, 0, 0), 0, []) :: (1, 0, (1, 0, 0, 0), 0, []) :: (2, 49, (97, 2, 8, 33), 0, []) :: (5, 4, (2, 0, 0, 0), 0, []) :: (6, 2, (0, 0, 0, 0), 0, []) :: (7, 0, (2, 0, 0, 0), 0, []) :: (8, 8, (0, 0, 0, 0), (-1), []) :: (9, 62, (16, 0, 0, 0), 0, []) :: (12, 0, (1, 0, 0, 0), 0, []) :: (13, 54, (17, 0, 0, 0), 0, []) :: []
def jm_l100 : jx_B := [(0, jm_b100_0), (16, jm_b100_16), (17, jm_b100_17)]
def jm_i100 : jx_M := (⟨"OfDifferentMinds$Standing", "guidingMap", "(I)I"⟩, prog_10_method_14_code, 3, (some .int), 0, 2, 8, jm_l100)
theorem jm_ok100 : jx_okM 100 jm_i100 := ⟨by decide +kernel, rfl, by decide +kernel, ⟨by decide +kernel, by decide +kernel⟩, by decide +kernel, jx_mem (i := 595) (by decide +kernel) rfl, jx_mem (i := 110) (by decide +kernel) rfl, fun _ => ⟨jx_mem (i := 593) (by decide +kernel) rfl, jx_mem (i := 594) (by decide +kernel) rfl, by decide⟩, fun h => absurd h (by decide), fun h => absurd h (by decide), by decide, by decide, by decide, by decide +kernel, by decide +kernel⟩
-- OfDifferentMinds$Standing.digit(II)I
def jm_b101_25 : List jx_E := (25, 69, (0, 0, 0, 0), 0, []) :: []
def jm_b101_24 : List jx_E := (24, 8, (0, 0, 0, 0), 0, []) :: jm_b101_25
def jm_b101_0 : List jx_E := (0, 0, (2, 0, 0, 0), 0, []) :: (1, 57, (24, 0, 0, 0), 0, []) :: (4, 0, (2, 0, 0, 0), 0, []) :: (5, 9, (0, 0, 0, 0), 10, []) :: (7, 64, (24, 0, 0, 0), 0, []) :: (10, 2, (0, 0, 0, 0), 0, []) :: (11, 0, (1, 0, 0, 0), 0, []) :: (12, 49, (99, 2, 8, 37), 0, []) :: (15, 8, (0, 0, 0, 0), 2, []) :: (16, 0, (2, 0, 0, 0), 0, []) :: (17, 16, (0, 0, 0, 0), 0, []) :: (18, 24, (0, 0, 0, 0), 0, []) :: (19, 8, (0, 0, 0, 0), 3, []) :: (20, 20, (0, 0, 0, 0), 0, []) :: (21, 54, (25, 0, 0, 0), 0, []) :: []
def jm_l101 : jx_B := [(0, jm_b101_0), (24, jm_b101_24), (25, jm_b101_25)]
def jm_i101 : jx_M := (⟨"OfDifferentMinds$Standing", "digit", "(II)I"⟩, prog_10_method_15_code, 3, (some .int), 0, 3, 8, jm_l101)
theorem jm_ok101 : jx_okM 101 jm_i101 := ⟨by decide +kernel, rfl, by decide +kernel, ⟨by decide +kernel, by decide +kernel⟩, by decide +kernel, jx_mem (i := 866) (by decide +kernel) rfl, jx_mem (i := 110) (by decide +kernel) rfl, fun _ => ⟨jx_mem (i := 864) (by decide +kernel) rfl, jx_mem (i := 865) (by decide +kernel) rfl, by decide⟩, fun h => absurd h (by decide), fun h => absurd h (by decide), by decide, by decide, by decide, by decide +kernel, by decide +kernel⟩
-- OfDifferentMinds$Standing.changeMaps(II)V
def jm_b102_0 : List jx_E := (0, 2, (0, 0, 0, 0), 0, []) :: (1, 0, (1, 0, 0, 0), 0, []) :: (2, 49, (99, 2, 8, 37), 0, []) :: (5, 4, (3, 0, 0, 0), 0, []) :: (6, 2, (0, 0, 0, 0), 0, []) :: (7, 9, (0, 0, 0, 0), 18, []) :: (9, 0, (1, 0, 0, 0), 0, []) :: (10, 2, (0, 0, 0, 0), 0, []) :: (11, 0, (2, 0, 0, 0), 0, []) :: (12, 49, (99, 2, 8, 37), 0, []) :: (15, 49, (91, 4, 8, 25), 0, []) :: (18, 2, (0, 0, 0, 0), 0, []) :: (19, 9, (0, 0, 0, 0), 18, []) :: (21, 0, (2, 0, 0, 0), 0, []) :: (22, 0, (3, 0, 0, 0), 0, []) :: (23, 49, (91, 4, 8, 25), 0, []) :: (26, 71, (0, 0, 0, 0), 0, []) :: []
def jm_l102 : jx_B := [(0, jm_b102_0)]
def jm_i102 : jx_M := (⟨"OfDifferentMinds$Standing", "changeMaps", "(II)V"⟩, prog_10_method_16_code, 4, none, 0, 3, 8, jm_l102)
theorem jm_ok102 : jx_okM 102 jm_i102 := ⟨by decide +kernel, rfl, by decide +kernel, ⟨by decide +kernel, by decide +kernel⟩, by decide +kernel, jx_mem (i := 870) (by decide +kernel) rfl, jx_mem (i := 110) (by decide +kernel) rfl, fun _ => ⟨jx_mem (i := 868) (by decide +kernel) rfl, jx_mem (i := 869) (by decide +kernel) rfl, by decide⟩, fun h => absurd h (by decide), fun h => absurd h (by decide), by decide, by decide, by decide, by decide +kernel, by decide +kernel⟩
-- OfDifferentMinds$Standing.horse()I
def jm_b103_0 : List jx_E := (0, 2, (0, 0, 0, 0), 0, []) :: (1, 33, (8, 0, 0, 11), 0, []) :: (4, 9, (0, 0, 0, 0), 24, []) :: (6, 38, (0, 0, 0, 0), 0, []) :: (7, 69, (0, 0, 0, 0), 0, []) :: []
def jm_l103 : jx_B := [(0, jm_b103_0)]
def jm_i103 : jx_M := (⟨"OfDifferentMinds$Standing", "horse", "()I"⟩, prog_10_method_17_code, 1, (some .int), 0, 1, 8, jm_l103)
theorem jm_ok103 : jx_okM 103 jm_i103 := ⟨by decide +kernel, rfl, by decide +kernel, ⟨by decide +kernel, by decide +kernel⟩, by decide +kernel, jx_mem (i := 671) (by decide +kernel) rfl, jx_mem (i := 110) (by decide +kernel) rfl, fun _ => ⟨jx_mem (i := 669) (by decide +kernel) rfl, jx_mem (i := 670) (by decide +kernel) rfl, by decide⟩, fun h => absurd h (by decide), fun h => absurd h (by decide), by decide, by decide, by decide, by decide +kernel, by decide +kernel⟩
-- OfDifferentMinds$Standing.setHorse(I)V
def jm_b104_0 : List jx_E := (0, 2, (0, 0, 0, 0), 0, []) :: (1, 33, (8, 0, 0, 11), 0, []) :: (4, 9, (0, 0, 0, 0), 24, []) :: (6, 0, (1, 0, 0, 0), 0, []) :: (7, 41, (0, 0, 0, 0), 0, []) :: (8, 71, (0, 0, 0, 0), 0, []) :: []
def jm_l104 : jx_B := [(0, jm_b104_0)]
def jm_i104 : jx_M := (⟨"OfDifferentMinds$Standing", "setHorse", "(I)V"⟩, prog_10_method_18_code, 2, none, 0, 2, 8, jm_l104)
theorem jm_ok104 : jx_okM 104 jm_i104 := ⟨by decide +kernel, rfl, by decide +kernel, ⟨by decide +kernel, by decide +kernel⟩, by decide +kernel, jx_mem (i := 777) (by decide +kernel) rfl, jx_mem (i := 110) (by decide +kernel) rfl, fun _ => ⟨jx_mem (i := 775) (by decide +kernel) rfl, jx_mem (i := 776) (by decide +kernel) rfl, by decide⟩, fun h => absurd h (by decide), fun h => absurd h (by decide), by decide, by decide, by decide, by decide +kernel, by decide +kernel⟩
-- OfDifferentMinds$Standing.first()I
def jm_b105_0 : List jx_E := (0, 2, (0, 0, 0, 0), 0, []) :: (1, 33, (8, 0, 0, 11), 0, []) :: (4, 9, (0, 0, 0, 0), 25, []) :: (6, 38, (0, 0, 0, 0), 0, []) :: (7, 69, (0, 0, 0, 0), 0, []) :: []
def jm_l105 : jx_B := [(0, jm_b105_0)]
def jm_i105 : jx_M := (⟨"OfDifferentMinds$Standing", "first", "()I"⟩, prog_10_method_19_code, 1, (some .int), 0, 1, 8, jm_l105)
theorem jm_ok105 : jx_okM 105 jm_i105 := ⟨by decide +kernel, rfl, by decide +kernel, ⟨by decide +kernel, by decide +kernel⟩, by decide +kernel, jx_mem (i := 709) (by decide +kernel) rfl, jx_mem (i := 110) (by decide +kernel) rfl, fun _ => ⟨jx_mem (i := 707) (by decide +kernel) rfl, jx_mem (i := 708) (by decide +kernel) rfl, by decide⟩, fun h => absurd h (by decide), fun h => absurd h (by decide), by decide, by decide, by decide, by decide +kernel, by decide +kernel⟩
-- OfDifferentMinds$Standing.second()I
def jm_b106_0 : List jx_E := (0, 2, (0, 0, 0, 0), 0, []) :: (1, 33, (8, 0, 0, 11), 0, []) :: (4, 9, (0, 0, 0, 0), 26, []) :: (6, 38, (0, 0, 0, 0), 0, []) :: (7, 69, (0, 0, 0, 0), 0, []) :: []
def jm_l106 : jx_B := [(0, jm_b106_0)]
def jm_i106 : jx_M := (⟨"OfDifferentMinds$Standing", "second", "()I"⟩, prog_10_method_20_code, 1, (some .int), 0, 1, 8, jm_l106)
theorem jm_ok106 : jx_okM 106 jm_i106 := ⟨by decide +kernel, rfl, by decide +kernel, ⟨by decide +kernel, by decide +kernel⟩, by decide +kernel, jx_mem (i := 713) (by decide +kernel) rfl, jx_mem (i := 110) (by decide +kernel) rfl, fun _ => ⟨jx_mem (i := 711) (by decide +kernel) rfl, jx_mem (i := 712) (by decide +kernel) rfl, by decide⟩, fun h => absurd h (by decide), fun h => absurd h (by decide), by decide, by decide, by decide, by decide +kernel, by decide +kernel⟩
-- OfDifferentMinds$Standing.steps()I
def jm_b107_0 : List jx_E := (0, 2, (0, 0, 0, 0), 0, []) :: (1, 33, (8, 0, 0, 11), 0, []) :: (4, 9, (0, 0, 0, 0), 27, []) :: (6, 38, (0, 0, 0, 0), 0, []) :: (7, 69, (0, 0, 0, 0), 0, []) :: []
def jm_l107 : jx_B := [(0, jm_b107_0)]
def jm_i107 : jx_M := (⟨"OfDifferentMinds$Standing", "steps", "()I"⟩, prog_10_method_21_code, 1, (some .int), 0, 1, 8, jm_l107)
theorem jm_ok107 : jx_okM 107 jm_i107 := ⟨by decide +kernel, rfl, by decide +kernel, ⟨by decide +kernel, by decide +kernel⟩, by decide +kernel, jx_mem (i := 731) (by decide +kernel) rfl, jx_mem (i := 110) (by decide +kernel) rfl, fun _ => ⟨jx_mem (i := 729) (by decide +kernel) rfl, jx_mem (i := 730) (by decide +kernel) rfl, by decide⟩, fun h => absurd h (by decide), fun h => absurd h (by decide), by decide, by decide, by decide, by decide +kernel, by decide +kernel⟩
-- OfDifferentMinds$Standing.setSteps(I)V
def jm_b108_0 : List jx_E := (0, 2, (0, 0, 0, 0), 0, []) :: (1, 33, (8, 0, 0, 11), 0, []) :: (4, 9, (0, 0, 0, 0), 27, []) :: (6, 0, (1, 0, 0, 0), 0, []) :: (7, 41, (0, 0, 0, 0), 0, []) :: (8, 71, (0, 0, 0, 0), 0, []) :: []
def jm_l108 : jx_B := [(0, jm_b108_0)]
def jm_i108 : jx_M := (⟨"OfDifferentMinds$Standing", "setSteps", "(I)V"⟩, prog_10_method_22_code, 2, none, 0, 2, 8, jm_l108)
theorem jm_ok108 : jx_okM 108 jm_i108 := ⟨by decide +kernel, rfl, by decide +kernel, ⟨by decide +kernel, by decide +kernel⟩, by decide +kernel, jx_mem (i := 781) (by decide +kernel) rfl, jx_mem (i := 110) (by decide +kernel) rfl, fun _ => ⟨jx_mem (i := 779) (by decide +kernel) rfl, jx_mem (i := 780) (by decide +kernel) rfl, by decide⟩, fun h => absurd h (by decide), fun h => absurd h (by decide), by decide, by decide, by decide, by decide +kernel, by decide +kernel⟩
-- OfDifferentMinds$Standing.isMounted()Z
def jm_b109_16 : List jx_E := (16, 70, (0, 0, 0, 0), 0, []) :: []
def jm_b109_15 : List jx_E := (15, 8, (0, 0, 0, 0), 0, []) :: jm_b109_16
def jm_b109_0 : List jx_E := (0, 2, (0, 0, 0, 0), 0, []) :: (1, 33, (8, 0, 0, 11), 0, []) :: (4, 9, (0, 0, 0, 0), 25, []) :: (6, 38, (0, 0, 0, 0), 0, []) :: (7, 8, (0, 0, 0, 0), (-1), []) :: (8, 61, (15, 0, 0, 0), 0, []) :: (11, 8, (0, 0, 0, 0), 1, []) :: (12, 54, (16, 0, 0, 0), 0, []) :: []
def jm_l109 : jx_B := [(0, jm_b109_0), (15, jm_b109_15), (16, jm_b109_16)]
def jm_i109 : jx_M := (⟨"OfDifferentMinds$Standing", "isMounted", "()Z"⟩, prog_10_method_23_code, 1, (some .boolean), 0, 1, 8, jm_l109)
theorem jm_ok109 : jx_okM 109 jm_i109 := ⟨by decide +kernel, rfl, by decide +kernel, ⟨by decide +kernel, by decide +kernel⟩, by decide +kernel, jx_mem (i := 667) (by decide +kernel) rfl, jx_mem (i := 110) (by decide +kernel) rfl, fun _ => ⟨jx_mem (i := 665) (by decide +kernel) rfl, jx_mem (i := 666) (by decide +kernel) rfl, by decide⟩, fun h => absurd h (by decide), fun h => absurd h (by decide), by decide, by decide, by decide, by decide +kernel, by decide +kernel⟩
-- OfDifferentMinds$Standing.isUp(I)Z
def jm_b110_32 : List jx_E := (32, 70, (0, 0, 0, 0), 0, []) :: []
def jm_b110_31 : List jx_E := (31, 8, (0, 0, 0, 0), 0, []) :: jm_b110_32
def jm_b110_27 : List jx_E := (27, 8, (0, 0, 0, 0), 1, []) :: (28, 54, (32, 0, 0, 0), 0, []) :: []
def jm_b110_0 : List jx_E := (0, 0, (1, 0, 0, 0), 0, []) :: (1, 8, (0, 0, 0, 0), (-1), []) :: (2, 61, (31, 0, 0, 0), 0, []) :: (5, 2, (0, 0, 0, 0), 0, []) :: (6, 33, (8, 0, 0, 11), 0, []) :: (9, 9, (0, 0, 0, 0), 25, []) :: (11, 38, (0, 0, 0, 0), 0, []) :: (12, 0, (1, 0, 0, 0), 0, []) :: (13, 61, (27, 0, 0, 0), 0, []) :: (16, 2, (0, 0, 0, 0), 0, []) :: (17, 33, (8, 0, 0, 11), 0, []) :: (20, 9, (0, 0, 0, 0), 26, []) :: (22, 38, (0, 0, 0, 0), 0, []) :: (23, 0, (1, 0, 0, 0), 0, []) :: (24, 62, (31, 0, 0, 0), 0, []) :: jm_b110_27
def jm_l110 : jx_B := [(0, jm_b110_0), (27, jm_b110_27), (31, jm_b110_31), (32, jm_b110_32)]
def jm_i110 : jx_M := (⟨"OfDifferentMinds$Standing", "isUp", "(I)Z"⟩, prog_10_method_24_code, 2, (some .boolean), 0, 2, 8, jm_l110)
theorem jm_ok110 : jx_okM 110 jm_i110 := ⟨by decide +kernel, rfl, by decide +kernel, ⟨by decide +kernel, by decide +kernel⟩, by decide +kernel, jx_mem (i := 830) (by decide +kernel) rfl, jx_mem (i := 110) (by decide +kernel) rfl, fun _ => ⟨jx_mem (i := 828) (by decide +kernel) rfl, jx_mem (i := 829) (by decide +kernel) rfl, by decide⟩, fun h => absurd h (by decide), fun h => absurd h (by decide), by decide, by decide, by decide, by decide +kernel, by decide +kernel⟩
-- OfDifferentMinds$Standing.seat(II)V
def jm_b111_0 : List jx_E := (0, 2, (0, 0, 0, 0), 0, []) :: (1, 33, (8, 0, 0, 11), 0, []) :: (4, 9, (0, 0, 0, 0), 25, []) :: (6, 0, (1, 0, 0, 0), 0, []) :: (7, 41, (0, 0, 0, 0), 0, []) :: (8, 2, (0, 0, 0, 0), 0, []) :: (9, 33, (8, 0, 0, 11), 0, []) :: (12, 9, (0, 0, 0, 0), 26, []) :: (14, 0, (2, 0, 0, 0), 0, []) :: (15, 41, (0, 0, 0, 0), 0, []) :: (16, 2, (0, 0, 0, 0), 0, []) :: (17, 33, (8, 0, 0, 11), 0, []) :: (20, 9, (0, 0, 0, 0), 27, []) :: (22, 8, (0, 0, 0, 0), 0, []) :: (23, 41, (0, 0, 0, 0), 0, []) :: (24, 71, (0, 0, 0, 0), 0, []) :: []
def jm_l111 : jx_B := [(0, jm_b111_0)]
def jm_i111 : jx_M := (⟨"OfDifferentMinds$Standing", "seat", "(II)V"⟩, prog_10_method_25_code, 3, none, 0, 3, 8, jm_l111)
theorem jm_ok111 : jx_okM 111 jm_i111 := ⟨by decide +kernel, rfl, by decide +kernel, ⟨by decide +kernel, by decide +kernel⟩, by decide +kernel, jx_mem (i := 468) (by decide +kernel) rfl, jx_mem (i := 110) (by decide +kernel) rfl, fun _ => ⟨jx_mem (i := 466) (by decide +kernel) rfl, jx_mem (i := 467) (by decide +kernel) rfl, by decide⟩, fun h => absurd h (by decide), fun h => absurd h (by decide), by decide, by decide, by decide, by decide +kernel, by decide +kernel⟩
-- OfDifferentMinds$Text.<init>()V
def jm_b112_0 : List jx_E := (0, 2, (0, 0, 0, 0), 0, []) :: (1, 52, (0, 0, 0, 3), 0, []) :: (4, 2, (0, 0, 0, 0), 0, []) :: (5, 9, (0, 0, 0, 0), 80, []) :: (7, 46, (0, 0, 0, 0), 0, []) :: (9, 37, (9, 0, 0, 9), 0, []) :: (12, 71, (0, 0, 0, 0), 0, []) :: []
def jm_l112 : jx_B := [(0, jm_b112_0)]
def jm_i112 : jx_M := (⟨"OfDifferentMinds$Text", "<init>", "()V"⟩, prog_11_method_1_code, 1, none, 1, 1, 9, jm_l112)
theorem jm_ok112 : jx_okM 112 jm_i112 := ⟨by decide +kernel, rfl, by decide +kernel, ⟨by decide +kernel, by decide +kernel⟩, by decide +kernel, jx_mem (i := 137) (by decide +kernel) rfl, jx_mem (i := 107) (by decide +kernel) rfl, fun h => absurd h (by decide), fun _ => ⟨rfl, jx_mem (i := 136) (by decide +kernel) rfl, rfl⟩, fun h => absurd h (by decide), by decide, by decide, by decide, by decide +kernel, by decide +kernel⟩
-- OfDifferentMinds$Text.length()I
def jm_b113_0 : List jx_E := (0, 2, (0, 0, 0, 0), 0, []) :: (1, 32, (9, 1, 0, 15), 0, []) :: (4, 69, (0, 0, 0, 0), 0, []) :: []
def jm_l113 : jx_B := [(0, jm_b113_0)]
def jm_i113 : jx_M := (⟨"OfDifferentMinds$Text", "length", "()I"⟩, prog_11_method_2_code, 1, (some .int), 0, 1, 9, jm_l113)
theorem jm_ok113 : jx_okM 113 jm_i113 := ⟨by decide +kernel, rfl, by decide +kernel, ⟨by decide +kernel, by decide +kernel⟩, by decide +kernel, jx_mem (i := 442) (by decide +kernel) rfl, jx_mem (i := 107) (by decide +kernel) rfl, fun _ => ⟨jx_mem (i := 440) (by decide +kernel) rfl, jx_mem (i := 441) (by decide +kernel) rfl, by decide⟩, fun h => absurd h (by decide), fun h => absurd h (by decide), by decide, by decide, by decide, by decide +kernel, by decide +kernel⟩
-- OfDifferentMinds$Text.at(I)I
def jm_b114_22 : List jx_E := (22, 69, (0, 0, 0, 0), 0, []) :: []
def jm_b114_21 : List jx_E := (21, 8, (0, 0, 0, 0), (-1), []) :: jm_b114_22
def jm_b114_0 : List jx_E := (0, 0, (1, 0, 0, 0), 0, []) :: (1, 57, (21, 0, 0, 0), 0, []) :: (4, 0, (1, 0, 0, 0), 0, []) :: (5, 2, (0, 0, 0, 0), 0, []) :: (6, 32, (9, 1, 0, 15), 0, []) :: (9, 64, (21, 0, 0, 0), 0, []) :: (12, 2, (0, 0, 0, 0), 0, []) :: (13, 33, (9, 0, 0, 9), 0, []) :: (16, 0, (1, 0, 0, 0), 0, []) :: (17, 38, (0, 0, 0, 0), 0, []) :: (18, 54, (22, 0, 0, 0), 0, []) :: []
def jm_l114 : jx_B := [(0, jm_b114_0), (21, jm_b114_21), (22, jm_b114_22)]
def jm_i114 : jx_M := (⟨"OfDifferentMinds$Text", "at", "(I)I"⟩, prog_11_method_3_code, 2, (some .int), 0, 2, 9, jm_l114)
theorem jm_ok114 : jx_okM 114 jm_i114 := ⟨by decide +kernel, rfl, by decide +kernel, ⟨by decide +kernel, by decide +kernel⟩, by decide +kernel, jx_mem (i := 446) (by decide +kernel) rfl, jx_mem (i := 107) (by decide +kernel) rfl, fun _ => ⟨jx_mem (i := 444) (by decide +kernel) rfl, jx_mem (i := 445) (by decide +kernel) rfl, by decide⟩, fun h => absurd h (by decide), fun h => absurd h (by decide), by decide, by decide, by decide, by decide +kernel, by decide +kernel⟩
-- OfDifferentMinds$Text.add(I)I
def jm_b115_52 : List jx_E := (52, 2, (0, 0, 0, 0), 0, []) :: (53, 32, (9, 1, 0, 15), 0, []) :: (56, 69, (0, 0, 0, 0), 0, []) :: []
def jm_b115_16 : List jx_E := (16, 0, (2, 0, 0, 0), 0, []) :: (17, 57, (52, 0, 0, 0), 0, []) :: (20, 2, (0, 0, 0, 0), 0, []) :: (21, 33, (9, 0, 0, 9), 0, []) :: (24, 2, (0, 0, 0, 0), 0, []) :: (25, 32, (9, 1, 0, 15), 0, []) :: (28, 0, (1, 0, 0, 0), 0, []) :: (29, 0, (2, 0, 0, 0), 0, []) :: (30, 25, (0, 0, 0, 0), 0, []) :: (31, 10, (0, 0, 0, 0), 255, []) :: (34, 20, (0, 0, 0, 0), 0, []) :: (35, 41, (0, 0, 0, 0), 0, []) :: (36, 2, (0, 0, 0, 0), 0, []) :: (37, 28, (0, 0, 0, 0), 0, []) :: (38, 32, (9, 1, 0, 15), 0, []) :: (41, 8, (0, 0, 0, 0), 1, []) :: (42, 14, (0, 0, 0, 0), 0, []) :: (43, 34, (9, 1, 0, 15), 0, []) :: (46, 13, (2, 0, 0, 0), (-8), []) :: (49, 54, (16, 0, 0, 0), 0, []) :: []
def jm_b115_13 : List jx_E := (13, 9, (0, 0, 0, 0), 24, []) :: (15, 4, (2, 0, 0, 0), 0, []) :: jm_b115_16
def jm_b115_0 : List jx_E := (0, 2, (0, 0, 0, 0), 0, []) :: (1, 32, (9, 1, 0, 15), 0, []) :: (4, 8, (0, 0, 0, 0), 4, []) :: (5, 14, (0, 0, 0, 0), 0, []) :: (6, 9, (0, 0, 0, 0), 80, []) :: (8, 66, (13, 0, 0, 0), 0, []) :: (11, 8, (0, 0, 0, 0), (-1), []) :: (12, 69, (0, 0, 0, 0), 0, []) :: []
def jm_l115 : jx_B := [(0, jm_b115_0), (13, jm_b115_13), (16, jm_b115_16), (52, jm_b115_52)]
def jm_i115 : jx_M := (⟨"OfDifferentMinds$Text", "add", "(I)I"⟩, prog_11_method_4_code, 3, (some .int), 0, 2, 9, jm_l115)
theorem jm_ok115 : jx_okM 115 jm_i115 := ⟨by decide +kernel, rfl, by decide +kernel, ⟨by decide +kernel, by decide +kernel⟩, by decide +kernel, jx_mem (i := 385) (by decide +kernel) rfl, jx_mem (i := 107) (by decide +kernel) rfl, fun _ => ⟨jx_mem (i := 383) (by decide +kernel) rfl, jx_mem (i := 384) (by decide +kernel) rfl, by decide⟩, fun h => absurd h (by decide), fun h => absurd h (by decide), by decide, by decide, by decide, by decide +kernel, by decide +kernel⟩
-- OfDifferentMinds$Text.cut(I)Z
def jm_b116_14 : List jx_E := (14, 2, (0, 0, 0, 0), 0, []) :: (15, 0, (1, 0, 0, 0), 0, []) :: (16, 34, (9, 1, 0, 15), 0, []) :: (19, 8, (0, 0, 0, 0), 1, []) :: (20, 70, (0, 0, 0, 0), 0, []) :: []
def jm_b116_12 : List jx_E := (12, 8, (0, 0, 0, 0), 0, []) :: (13, 70, (0, 0, 0, 0), 0, []) :: []
def jm_b116_0 : List jx_E := (0, 0, (1, 0, 0, 0), 0, []) :: (1, 57, (12, 0, 0, 0), 0, []) :: (4, 0, (1, 0, 0, 0), 0, []) :: (5, 2, (0, 0, 0, 0), 0, []) :: (6, 32, (9, 1, 0, 15), 0, []) :: (9, 66, (14, 0, 0, 0), 0, []) :: jm_b116_12
def jm_l116 : jx_B := [(0, jm_b116_0), (12, jm_b116_12), (14, jm_b116_14)]
def jm_i116 : jx_M := (⟨"OfDifferentMinds$Text", "cut", "(I)Z"⟩, prog_11_method_5_code, 2, (some .boolean), 0, 2, 9, jm_l116)
theorem jm_ok116 : jx_okM 116 jm_i116 := ⟨by decide +kernel, rfl, by decide +kernel, ⟨by decide +kernel, by decide +kernel⟩, by decide +kernel, jx_mem (i := 393) (by decide +kernel) rfl, jx_mem (i := 107) (by decide +kernel) rfl, fun _ => ⟨jx_mem (i := 391) (by decide +kernel) rfl, jx_mem (i := 392) (by decide +kernel) rfl, by decide⟩, fun h => absurd h (by decide), fun h => absurd h (by decide), by decide, by decide, by decide, by decide +kernel, by decide +kernel⟩
-- OfDifferentMinds$Text.clear()V
def jm_b117_0 : List jx_E := (0, 2, (0, 0, 0, 0), 0, []) :: (1, 8, (0, 0, 0, 0), 0, []) :: (2, 34, (9, 1, 0, 15), 0, []) :: (5, 71, (0, 0, 0, 0), 0, []) :: []
def jm_l117 : jx_B := [(0, jm_b117_0)]
def jm_i117 : jx_M := (⟨"OfDifferentMinds$Text", "clear", "()V"⟩, prog_11_method_6_code, 1, none, 0, 1, 9, jm_l117)
theorem jm_ok117 : jx_okM 117 jm_i117 := ⟨by decide +kernel, rfl, by decide +kernel, ⟨by decide +kernel, by decide +kernel⟩, by decide +kernel, jx_mem (i := 476) (by decide +kernel) rfl, jx_mem (i := 107) (by decide +kernel) rfl, fun _ => ⟨jx_mem (i := 474) (by decide +kernel) rfl, jx_mem (i := 475) (by decide +kernel) rfl, by decide⟩, fun h => absurd h (by decide), fun h => absurd h (by decide), by decide, by decide, by decide, by decide +kernel, by decide +kernel⟩
-- OfDifferentMinds$Text.open(I)V
def jm_b118_0 : List jx_E := (0, 2, (0, 0, 0, 0), 0, []) :: (1, 0, (1, 0, 0, 0), 0, []) :: (2, 34, (9, 2, 0, 19), 0, []) :: (5, 2, (0, 0, 0, 0), 0, []) :: (6, 8, (0, 0, 0, 0), 0, []) :: (7, 34, (9, 3, 0, 22), 0, []) :: (10, 71, (0, 0, 0, 0), 0, []) :: []
def jm_l118 : jx_B := [(0, jm_b118_0)]
def jm_i118 : jx_M := (⟨"OfDifferentMinds$Text", "open", "(I)V"⟩, prog_11_method_7_code, 2, none, 0, 2, 9, jm_l118)
theorem jm_ok118 : jx_okM 118 jm_i118 := ⟨by decide +kernel, rfl, by decide +kernel, ⟨by decide +kernel, by decide +kernel⟩, by decide +kernel, jx_mem (i := 407) (by decide +kernel) rfl, jx_mem (i := 107) (by decide +kernel) rfl, fun _ => ⟨jx_mem (i := 405) (by decide +kernel) rfl, jx_mem (i := 406) (by decide +kernel) rfl, by decide⟩, fun h => absurd h (by decide), fun h => absurd h (by decide), by decide, by decide, by decide, by decide +kernel, by decide +kernel⟩
-- OfDifferentMinds$Text.position()I
def jm_b119_0 : List jx_E := (0, 2, (0, 0, 0, 0), 0, []) :: (1, 32, (9, 3, 0, 22), 0, []) :: (4, 69, (0, 0, 0, 0), 0, []) :: []
def jm_l119 : jx_B := [(0, jm_b119_0)]
def jm_i119 : jx_M := (⟨"OfDifferentMinds$Text", "position", "()I"⟩, prog_11_method_8_code, 1, (some .int), 0, 1, 9, jm_l119)
theorem jm_ok119 : jx_okM 119 jm_i119 := ⟨by decide +kernel, rfl, by decide +kernel, ⟨by decide +kernel, by decide +kernel⟩, by decide +kernel, jx_mem (i := 426) (by decide +kernel) rfl, jx_mem (i := 107) (by decide +kernel) rfl, fun _ => ⟨jx_mem (i := 424) (by decide +kernel) rfl, jx_mem (i := 425) (by decide +kernel) rfl, by decide⟩, fun h => absurd h (by decide), fun h => absurd h (by decide), by decide, by decide, by decide, by decide +kernel, by decide +kernel⟩
end
section
/-! ===== methods 120 .. as entries ===== -/
-- OfDifferentMinds$Text.peek()I
def jm_b120_35 : List jx_E := (35, 69, (0, 0, 0, 0), 0, []) :: []
def jm_b120_34 : List jx_E := (34, 8, (0, 0, 0, 0), (-1), []) :: jm_b120_35
def jm_b120_0 : List jx_E := (0, 2, (0, 0, 0, 0), 0, []) :: (1, 32, (9, 3, 0, 22), 0, []) :: (4, 2, (0, 0, 0, 0), 0, []) :: (5, 32, (9, 2, 0, 19), 0, []) :: (8, 64, (34, 0, 0, 0), 0, []) :: (11, 2, (0, 0, 0, 0), 0, []) :: (12, 32, (9, 3, 0, 22), 0, []) :: (15, 2, (0, 0, 0, 0), 0, []) :: (16, 32, (9, 1, 0, 15), 0, []) :: (19, 64, (34, 0, 0, 0), 0, []) :: (22, 2, (0, 0, 0, 0), 0, []) :: (23, 33, (9, 0, 0, 9), 0, []) :: (26, 2, (0, 0, 0, 0), 0, []) :: (27, 32, (9, 3, 0, 22), 0, []) :: (30, 38, (0, 0, 0, 0), 0, []) :: (31, 54, (35, 0, 0, 0), 0, []) :: []
def jm_l120 : jx_B := [(0, jm_b120_0), (34, jm_b120_34), (35, jm_b120_35)]
def jm_i120 : jx_M := (⟨"OfDifferentMinds$Text", "peek", "()I"⟩, prog_11_method_9_code, 1, (some .int), 0, 1, 9, jm_l120)
theorem jm_ok120 : jx_okM 120 jm_i120 := ⟨by decide +kernel, rfl, by decide +kernel, ⟨by decide +kernel, by decide +kernel⟩, by decide +kernel, jx_mem (i := 418) (by decide +kernel) rfl, jx_mem (i := 107) (by decide +kernel) rfl, fun _ => ⟨jx_mem (i := 416) (by decide +kernel) rfl, jx_mem (i := 417) (by decide +kernel) rfl, by decide⟩, fun h => absurd h (by decide), fun h => absurd h (by decide), by decide, by decide, by decide, by decide +kernel, by decide +kernel⟩
-- OfDifferentMinds$Text.isOver()Z
def jm_b121_13 : List jx_E := (13, 70, (0, 0, 0, 0), 0, []) :: []
def jm_b121_12 : List jx_E := (12, 8, (0, 0, 0, 0), 0, []) :: jm_b121_13
def jm_b121_0 : List jx_E := (0, 2, (0, 0, 0, 0), 0, []) :: (1, 49, (120, 1, 9, 25), 0, []) :: (4, 8, (0, 0, 0, 0), (-1), []) :: (5, 62, (12, 0, 0, 0), 0, []) :: (8, 8, (0, 0, 0, 0), 1, []) :: (9, 54, (13, 0, 0, 0), 0, []) :: []
def jm_l121 : jx_B := [(0, jm_b121_0), (12, jm_b121_12), (13, jm_b121_13)]
def jm_i121 : jx_M := (⟨"OfDifferentMinds$Text", "isOver", "()Z"⟩, prog_11_method_10_code, 1, (some .boolean), 0, 1, 9, jm_l121)
theorem jm_ok121 : jx_okM 121 jm_i121 := ⟨by decide +kernel, rfl, by decide +kernel, ⟨by decide +kernel, by decide +kernel⟩, by decide +kernel, jx_mem (i := 434) (by decide +kernel) rfl, jx_mem (i := 107) (by decide +kernel) rfl, fun _ => ⟨jx_mem (i := 432) (by decide +kernel) rfl, jx_mem (i := 433) (by decide +kernel) rfl, by decide⟩, fun h => absurd h (by decide), fun h => absurd h (by decide), by decide, by decide, by decide, by decide +kernel, by decide +kernel⟩
-- OfDifferentMinds$Text.isCutShort()Z
def jm_b122_27 : List jx_E := (27, 70, (0, 0, 0, 0), 0, []) :: []
def jm_b122_26 : List jx_E := (26, 8, (0, 0, 0, 0), 0, []) :: jm_b122_27
def jm_b122_0 : List jx_E := (0, 2, (0, 0, 0, 0), 0, []) :: (1, 32, (9, 3, 0, 22), 0, []) :: (4, 2, (0, 0, 0, 0), 0, []) :: (5, 32, (9, 2, 0, 19), 0, []) :: (8, 63, (26, 0, 0, 0), 0, []) :: (11, 2, (0, 0, 0, 0), 0, []) :: (12, 32, (9, 1, 0, 15), 0, []) :: (15, 2, (0, 0, 0, 0), 0, []) :: (16, 32, (9, 2, 0, 19), 0, []) :: (19, 66, (26, 0, 0, 0), 0, []) :: (22, 8, (0, 0, 0, 0), 1, []) :: (23, 54, (27, 0, 0, 0), 0, []) :: []
def jm_l122 : jx_B := [(0, jm_b122_0), (26, jm_b122_26), (27, jm_b122_27)]
def jm_i122 : jx_M := (⟨"OfDifferentMinds$Text", "isCutShort", "()Z"⟩, prog_11_method_11_code, 1, (some .boolean), 0, 1, 9, jm_l122)
theorem jm_ok122 : jx_okM 122 jm_i122 := ⟨by decide +kernel, rfl, by decide +kernel, ⟨by decide +kernel, by decide +kernel⟩, by decide +kernel, jx_mem (i := 438) (by decide +kernel) rfl, jx_mem (i := 107) (by decide +kernel) rfl, fun _ => ⟨jx_mem (i := 436) (by decide +kernel) rfl, jx_mem (i := 437) (by decide +kernel) rfl, by decide⟩, fun h => absurd h (by decide), fun h => absurd h (by decide), by decide, by decide, by decide, by decide +kernel, by decide +kernel⟩
-- OfDifferentMinds$Text.next()I
def jm_b123_20 : List jx_E := (20, 0, (1, 0, 0, 0), 0, []) :: (21, 69, (0, 0, 0, 0), 0, []) :: []
def jm_b123_0 : List jx_E := (0, 2, (0, 0, 0, 0), 0, []) :: (1, 49, (120, 1, 9, 25), 0, []) :: (4, 4, (1, 0, 0, 0), 0, []) :: (5, 0, (1, 0, 0, 0), 0, []) :: (6, 8, (0, 0, 0, 0), (-1), []) :: (7, 61, (20, 0, 0, 0), 0, []) :: (10, 2, (0, 0, 0, 0), 0, []) :: (11, 28, (0, 0, 0, 0), 0, []) :: (12, 32, (9, 3, 0, 22), 0, []) :: (15, 8, (0, 0, 0, 0), 1, []) :: (16, 14, (0, 0, 0, 0), 0, []) :: (17, 34, (9, 3, 0, 22), 0, []) :: jm_b123_20
def jm_l123 : jx_B := [(0, jm_b123_0), (20, jm_b123_20)]
def jm_i123 : jx_M := (⟨"OfDifferentMinds$Text", "next", "()I"⟩, prog_11_method_12_code, 2, (some .int), 0, 1, 9, jm_l123)
theorem jm_ok123 : jx_okM 123 jm_i123 := ⟨by decide +kernel, rfl, by decide +kernel, ⟨by decide +kernel, by decide +kernel⟩, by decide +kernel, jx_mem (i := 550) (by decide +kernel) rfl, jx_mem (i := 107) (by decide +kernel) rfl, fun _ => ⟨jx_mem (i := 548) (by decide +kernel) rfl, jx_mem (i := 549) (by decide +kernel) rfl, by decide⟩, fun h => absurd h (by decide), fun h => absurd h (by decide), by decide, by decide, by decide, by decide +kernel, by decide +kernel⟩
-- OfDifferentMinds$Text.take(I)Z
def jm_b124_28 : List jx_E := (28, 0, (2, 0, 0, 0), 0, []) :: (29, 70, (0, 0, 0, 0), 0, []) :: []
def jm_b124_13 : List jx_E := (13, 4, (2, 0, 0, 0), 0, []) :: (14, 0, (2, 0, 0, 0), 0, []) :: (15, 55, (28, 0, 0, 0), 0, []) :: (18, 2, (0, 0, 0, 0), 0, []) :: (19, 28, (0, 0, 0, 0), 0, []) :: (20, 32, (9, 3, 0, 22), 0, []) :: (23, 8, (0, 0, 0, 0), 1, []) :: (24, 14, (0, 0, 0, 0), 0, []) :: (25, 34, (9, 3, 0, 22), 0, []) :: jm_b124_28
def jm_b124_12 : List jx_E := (12, 8, (0, 0, 0, 0), 0, []) :: jm_b124_13
def jm_b124_0 : List jx_E := (0, 2, (0, 0, 0, 0), 0, []) :: (1, 49, (120, 1, 9, 25), 0, []) :: (4, 0, (1, 0, 0, 0), 0, []) :: (5, 62, (12, 0, 0, 0), 0, []) :: (8, 8, (0, 0, 0, 0), 1, []) :: (9, 54, (13, 0, 0, 0), 0, []) :: []
def jm_l124 : jx_B := [(0, jm_b124_0), (12, jm_b124_12), (13, jm_b124_13), (28, jm_b124_28)]
def jm_i124 : jx_M := (⟨"OfDifferentMinds$Text", "take", "(I)Z"⟩, prog_11_method_13_code, 3, (some .boolean), 0, 2, 9, jm_l124)
theorem jm_ok124 : jx_okM 124 jm_i124 := ⟨by decide +kernel, rfl, by decide +kernel, ⟨by decide +kernel, by decide +kernel⟩, by decide +kernel, jx_mem (i := 414) (by decide +kernel) rfl, jx_mem (i := 107) (by decide +kernel) rfl, fun _ => ⟨jx_mem (i := 412) (by decide +kernel) rfl, jx_mem (i := 413) (by decide +kernel) rfl, by decide⟩, fun h => absurd h (by decide), fun h => absurd h (by decide), by decide, by decide, by decide, by decide +kernel, by decide +kernel⟩
-- OfDifferentMinds$Text.takeOf(II)Z
def jm_b125_37 : List jx_E := (37, 1, (4, 0, 0, 0), 0, []) :: (39, 70, (0, 0, 0, 0), 0, []) :: []
def jm_b125_20 : List jx_E := (20, 5, (4, 0, 0, 0), 0, []) :: (22, 1, (4, 0, 0, 0), 0, []) :: (24, 55, (37, 0, 0, 0), 0, []) :: (27, 2, (0, 0, 0, 0), 0, []) :: (28, 28, (0, 0, 0, 0), 0, []) :: (29, 32, (9, 3, 0, 22), 0, []) :: (32, 8, (0, 0, 0, 0), 1, []) :: (33, 14, (0, 0, 0, 0), 0, []) :: (34, 34, (9, 3, 0, 22), 0, []) :: jm_b125_37
def jm_b125_19 : List jx_E := (19, 8, (0, 0, 0, 0), 0, []) :: jm_b125_20
def jm_b125_0 : List jx_E := (0, 2, (0, 0, 0, 0), 0, []) :: (1, 49, (120, 1, 9, 25), 0, []) :: (4, 4, (3, 0, 0, 0), 0, []) :: (5, 0, (3, 0, 0, 0), 0, []) :: (6, 0, (1, 0, 0, 0), 0, []) :: (7, 63, (19, 0, 0, 0), 0, []) :: (10, 0, (3, 0, 0, 0), 0, []) :: (11, 0, (2, 0, 0, 0), 0, []) :: (12, 65, (19, 0, 0, 0), 0, []) :: (15, 8, (0, 0, 0, 0), 1, []) :: (16, 54, (20, 0, 0, 0), 0, []) :: []
def jm_l125 : jx_B := [(0, jm_b125_0), (19, jm_b125_19), (20, jm_b125_20), (37, jm_b125_37)]
def jm_i125 : jx_M := (⟨"OfDifferentMinds$Text", "takeOf", "(II)Z"⟩, prog_11_method_14_code, 5, (some .boolean), 0, 3, 9, jm_l125)
theorem jm_ok125 : jx_okM 125 jm_i125 := ⟨by decide +kernel, rfl, by decide +kernel, ⟨by decide +kernel, by decide +kernel⟩, by decide +kernel, jx_mem (i := 422) (by decide +kernel) rfl, jx_mem (i := 107) (by decide +kernel) rfl, fun _ => ⟨jx_mem (i := 420) (by decide +kernel) rfl, jx_mem (i := 421) (by decide +kernel) rfl, by decide⟩, fun h => absurd h (by decide), fun h => absurd h (by decide), by decide, by decide, by decide, by decide +kernel, by decide +kernel⟩
-- OfDifferentMinds$Text.number(I)I
def jm_b126_67 : List jx_E := (67, 0, (2, 0, 0, 0), 0, []) :: (68, 69, (0, 0, 0, 0), 0, []) :: []
def jm_b126_44 : List jx_E := (44, 1, (4, 0, 0, 0), 0, []) :: (46, 14, (0, 0, 0, 0), 0, []) :: (47, 9, (0, 0, 0, 0), 48, []) :: (49, 15, (0, 0, 0, 0), 0, []) :: (50, 4, (2, 0, 0, 0), 0, []) :: (51, 2, (0, 0, 0, 0), 0, []) :: (52, 28, (0, 0, 0, 0), 0, []) :: (53, 32, (9, 3, 0, 22), 0, []) :: (56, 8, (0, 0, 0, 0), 1, []) :: (57, 14, (0, 0, 0, 0), 0, []) :: (58, 34, (9, 3, 0, 22), 0, []) :: (61, 13, (3, 0, 0, 0), 1, []) :: (64, 54, (4, 0, 0, 0), 0, []) :: []
def jm_b126_40 : List jx_E := (40, 0, (2, 0, 0, 0), 0, []) :: (41, 9, (0, 0, 0, 0), 10, []) :: (43, 16, (0, 0, 0, 0), 0, []) :: jm_b126_44
def jm_b126_31 : List jx_E := (31, 0, (2, 0, 0, 0), 0, []) :: (32, 8, (0, 0, 0, 0), (-1), []) :: (33, 62, (40, 0, 0, 0), 0, []) :: (36, 8, (0, 0, 0, 0), 0, []) :: (37, 54, (44, 0, 0, 0), 0, []) :: []
def jm_b126_29 : List jx_E := (29, 0, (2, 0, 0, 0), 0, []) :: (30, 69, (0, 0, 0, 0), 0, []) :: []
def jm_b126_4 : List jx_E := (4, 0, (3, 0, 0, 0), 0, []) :: (5, 0, (1, 0, 0, 0), 0, []) :: (6, 64, (67, 0, 0, 0), 0, []) :: (9, 2, (0, 0, 0, 0), 0, []) :: (10, 49, (120, 1, 9, 25), 0, []) :: (13, 5, (4, 0, 0, 0), 0, []) :: (15, 1, (4, 0, 0, 0), 0, []) :: (17, 9, (0, 0, 0, 0), 48, []) :: (19, 63, (29, 0, 0, 0), 0, []) :: (22, 1, (4, 0, 0, 0), 0, []) :: (24, 9, (0, 0, 0, 0), 57, []) :: (26, 66, (31, 0, 0, 0), 0, []) :: jm_b126_29
def jm_b126_0 : List jx_E := (0, 8, (0, 0, 0, 0), (-1), []) :: (1, 4, (2, 0, 0, 0), 0, []) :: (2, 8, (0, 0, 0, 0), 0, []) :: (3, 4, (3, 0, 0, 0), 0, []) :: jm_b126_4
def jm_l126 : jx_B := [(0, jm_b126_0), (4, jm_b126_4), (29, jm_b126_29), (31, jm_b126_31), (40, jm_b126_40), (44, jm_b126_44), (67, jm_b126_67)]
def jm_i126 : jx_M := (⟨"OfDifferentMinds$Text", "number", "(I)I"⟩, prog_11_method_15_code, 5, (some .int), 0, 2, 9, jm_l126)
theorem jm_ok126 : jx_okM 126 jm_i126 := ⟨by decide +kernel, rfl, by decide +kernel, ⟨by decide +kernel, by decide +kernel⟩, by decide +kernel, jx_mem (i := 499) (by decide +kernel) rfl, jx_mem (i := 107) (by decide +kernel) rfl, fun _ => ⟨jx_mem (i := 497) (by decide +kernel) rfl, jx_mem (i := 498) (by decide +kernel) rfl, by decide⟩, fun h => absurd h (by decide), fun h => absurd h (by decide), by decide, by decide, by decide, by decide +kernel, by decide +kernel⟩
-- OfDifferentMinds$Text.rest()I
def jm_b127_22 : List jx_E := (22, 69, (0, 0, 0, 0), 0, []) :: []
def jm_b127_18 : List jx_E := (18, 2, (0, 0, 0, 0), 0, []) :: (19, 32, (9, 3, 0, 22), 0, []) :: jm_b127_22
def jm_b127_0 : List jx_E := (0, 2, (0, 0, 0, 0), 0, []) :: (1, 49, (121, 1, 9, 29), 0, []) :: (4, 55, (18, 0, 0, 0), 0, []) :: (7, 2, (0, 0, 0, 0), 0, []) :: (8, 49, (122, 1, 9, 33), 0, []) :: (11, 56, (18, 0, 0, 0), 0, []) :: (14, 8, (0, 0, 0, 0), (-1), []) :: (15, 54, (22, 0, 0, 0), 0, []) :: []
def jm_l127 : jx_B := [(0, jm_b127_0), (18, jm_b127_18), (22, jm_b127_22)]
def jm_i127 : jx_M := (⟨"OfDifferentMinds$Text", "rest", "()I"⟩, prog_11_method_16_code, 1, (some .int), 0, 1, 9, jm_l127)
theorem jm_ok127 : jx_okM 127 jm_i127 := ⟨by decide +kernel, rfl, by decide +kernel, ⟨by decide +kernel, by decide +kernel⟩, by decide +kernel, jx_mem (i := 430) (by decide +kernel) rfl, jx_mem (i := 107) (by decide +kernel) rfl, fun _ => ⟨jx_mem (i := 428) (by decide +kernel) rfl, jx_mem (i := 429) (by decide +kernel) rfl, by decide⟩, fun h => absurd h (by decide), fun h => absurd h (by decide), by decide, by decide, by decide, by decide +kernel, by decide +kernel⟩
-- OfDifferentMinds.<init>()V
def jm_b128_0 : List jx_E := (0, 2, (0, 0, 0, 0), 0, []) :: (1, 52, (0, 0, 0, 1), 0, []) :: (4, 2, (0, 0, 0, 0), 0, []) :: (5, 48, (9, 0, 0, 7), 0, []) :: (8, 28, (0, 0, 0, 0), 0, []) :: (9, 51, (112, 1, 0, 9), 0, []) :: (12, 37, (10, 0, 0, 10), 0, []) :: (15, 2, (0, 0, 0, 0), 0, []) :: (16, 48, (3, 0, 0, 16), 0, []) :: (19, 28, (0, 0, 0, 0), 0, []) :: (20, 51, (26, 1, 0, 18), 0, []) :: (23, 37, (10, 1, 0, 19), 0, []) :: (26, 2, (0, 0, 0, 0), 0, []) :: (27, 48, (7, 0, 0, 23), 0, []) :: (30, 28, (0, 0, 0, 0), 0, []) :: (31, 51, (75, 1, 0, 25), 0, []) :: (34, 37, (10, 2, 0, 26), 0, []) :: (37, 2, (0, 0, 0, 0), 0, []) :: (38, 48, (8, 0, 0, 30), 0, []) :: (41, 28, (0, 0, 0, 0), 0, []) :: (42, 51, (87, 1, 0, 32), 0, []) :: (45, 37, (10, 3, 0, 33), 0, []) :: (48, 2, (0, 0, 0, 0), 0, []) :: (49, 48, (2, 0, 0, 37), 0, []) :: (52, 28, (0, 0, 0, 0), 0, []) :: (53, 51, (18, 1, 0, 39), 0, []) :: (56, 37, (10, 4, 0, 40), 0, []) :: (59, 2, (0, 0, 0, 0), 0, []) :: (60, 48, (6, 0, 0, 44), 0, []) :: (63, 28, (0, 0, 0, 0), 0, []) :: (64, 51, (67, 1, 0, 46), 0, []) :: (67, 37, (10, 5, 0, 47), 0, []) :: (70, 2, (0, 0, 0, 0), 0, []) :: (71, 48, (5, 0, 0, 51), 0, []) :: (74, 28, (0, 0, 0, 0), 0, []) :: (75, 2, (0, 0, 0, 0), 0, []) :: (76, 33, (10, 1, 0, 19), 0, []) :: (79, 2, (0, 0, 0, 0), 0, []) :: (80, 33, (10, 2, 0, 26), 0, []) :: (83, 2, (0, 0, 0, 0), 0, []) :: (84, 33, (10, 3, 0, 33), 0, []) :: (87, 51, (48, 4, 0, 53), 0, []) :: (90, 37, (10, 6, 0, 56), 0, []) :: (93, 2, (0, 0, 0, 0), 0, []) :: (94, 48, (0, 0, 0, 60), 0, []) :: (97, 28, (0, 0, 0, 0), 0, []) :: (98, 2, (0, 0, 0, 0), 0, []) :: (99, 33, (10, 1, 0, 19), 0, []) :: (102, 2, (0, 0, 0, 0), 0, []) :: (103, 33, (10, 6, 0, 56), 0, []) :: (106, 51, (0, 3, 0, 62), 0, []) :: (109, 37, (10, 7, 0, 65), 0, []) :: (112, 2, (0, 0, 0, 0), 0, []) :: (113, 48, (4, 0, 0, 69), 0, []) :: (116, 28, (0, 0, 0, 0), 0, []) :: (117, 51, (43, 1, 0, 71), 0, []) :: (120, 37, (10, 8, 0, 72), 0, []) :: (123, 2, (0, 0, 0, 0), 0, []) :: (124, 9, (0, 0, 0, 0), 20, []) :: (126, 46, (0, 0, 0, 0), 0, []) :: (128, 37, (10, 9, 0, 76), 0, []) :: (131, 2, (0, 0, 0, 0), 0, []) :: (132, 9, (0, 0, 0, 0), 6, []) :: (134, 46, (0, 0, 0, 0), 0, []) :: (136, 37, (10, 10, 0, 80), 0, []) :: (139, 2, (0, 0, 0, 0), 0, []) :: (140, 9, (0, 0, 0, 0), 10, []) :: (142, 46, (0, 0, 0, 0), 0, []) :: (144, 37, (10, 11, 0, 83), 0, []) :: (147, 71, (0, 0, 0, 0), 0, []) :: []
def jm_l128 : jx_B := [(0, jm_b128_0)]
def jm_i128 : jx_M := (⟨"OfDifferentMinds", "<init>", "()V"⟩, prog_1_method_1_code, 1, none, 1, 1, 10, jm_l128)
theorem jm_ok128 : jx_okM 128 jm_i128 := ⟨by decide +kernel, rfl, by decide +kernel, ⟨by decide +kernel, by decide +kernel⟩, by decide +kernel, jx_mem (i := 129) (by decide +kernel) rfl, jx_mem (i := 106) (by decide +kernel) rfl, fun h => absurd h (by decide), fun _ => ⟨rfl, jx_mem (i := 128) (by decide +kernel) rfl, rfl⟩, fun h => absurd h (by decide), by decide, by decide, by decide, by decide +kernel, by decide +kernel⟩
-- OfDifferentMinds.sign(I)I
def jm_b129_0 : List jx_E := (0, 2, (0, 0, 0, 0), 0, []) :: (1, 33, (10, 0, 0, 10), 0, []) :: (4, 0, (1, 0, 0, 0), 0, []) :: (5, 49, (115, 2, 9, 86), 0, []) :: (8, 69, (0, 0, 0, 0), 0, []) :: []
def jm_l129 : jx_B := [(0, jm_b129_0)]
def jm_i129 : jx_M := (⟨"OfDifferentMinds", "sign", "(I)I"⟩, prog_1_method_2_code, 2, (some .int), 0, 2, 10, jm_l129)
theorem jm_ok129 : jx_okM 129 jm_i129 := ⟨by decide +kernel, rfl, by decide +kernel, ⟨by decide +kernel, by decide +kernel⟩, by decide +kernel, jx_mem (i := 381) (by decide +kernel) rfl, jx_mem (i := 106) (by decide +kernel) rfl, fun _ => ⟨jx_mem (i := 379) (by decide +kernel) rfl, jx_mem (i := 380) (by decide +kernel) rfl, by decide⟩, fun h => absurd h (by decide), fun h => absurd h (by decide), by decide, by decide, by decide, by decide +kernel, by decide +kernel⟩
-- OfDifferentMinds.end(I)Z
def jm_b130_0 : List jx_E := (0, 2, (0, 0, 0, 0), 0, []) :: (1, 33, (10, 0, 0, 10), 0, []) :: (4, 0, (1, 0, 0, 0), 0, []) :: (5, 49, (116, 2, 9, 90), 0, []) :: (8, 70, (0, 0, 0, 0), 0, []) :: []
def jm_l130 : jx_B := [(0, jm_b130_0)]
def jm_i130 : jx_M := (⟨"OfDifferentMinds", "end", "(I)Z"⟩, prog_1_method_3_code, 2, (some .boolean), 0, 2, 10, jm_l130)
theorem jm_ok130 : jx_okM 130 jm_i130 := ⟨by decide +kernel, rfl, by decide +kernel, ⟨by decide +kernel, by decide +kernel⟩, by decide +kernel, jx_mem (i := 389) (by decide +kernel) rfl, jx_mem (i := 106) (by decide +kernel) rfl, fun _ => ⟨jx_mem (i := 387) (by decide +kernel) rfl, jx_mem (i := 388) (by decide +kernel) rfl, by decide⟩, fun h => absurd h (by decide), fun h => absurd h (by decide), by decide, by decide, by decide, by decide +kernel, by decide +kernel⟩
-- OfDifferentMinds.roads()I
def jm_b131_68 : List jx_E := (68, 69, (0, 0, 0, 0), 0, []) :: []
def jm_b131_65 : List jx_E := (65, 8, (0, 0, 0, 0), (-1), []) :: (66, 0, (1, 0, 0, 0), 0, []) :: (67, 15, (0, 0, 0, 0), 0, []) :: jm_b131_68
def jm_b131_43 : List jx_E := (43, 2, (0, 0, 0, 0), 0, []) :: (44, 33, (10, 0, 0, 10), 0, []) :: (47, 49, (117, 1, 9, 114), 0, []) :: (50, 0, (1, 0, 0, 0), 0, []) :: (51, 8, (0, 0, 0, 0), (-1), []) :: (52, 62, (65, 0, 0, 0), 0, []) :: (55, 2, (0, 0, 0, 0), 0, []) :: (56, 33, (10, 1, 0, 19), 0, []) :: (59, 49, (27, 1, 3, 115), 0, []) :: (62, 54, (68, 0, 0, 0), 0, []) :: []
def jm_b131_0 : List jx_E := (0, 2, (0, 0, 0, 0), 0, []) :: (1, 33, (10, 0, 0, 10), 0, []) :: (4, 50, (10, 1, 0, 94), 0, []) :: (7, 4, (1, 0, 0, 0), 0, []) :: (8, 0, (1, 0, 0, 0), 0, []) :: (9, 8, (0, 0, 0, 0), (-1), []) :: (10, 62, (43, 0, 0, 0), 0, []) :: (13, 2, (0, 0, 0, 0), 0, []) :: (14, 33, (10, 1, 0, 19), 0, []) :: (17, 2, (0, 0, 0, 0), 0, []) :: (18, 33, (10, 0, 0, 10), 0, []) :: (21, 49, (40, 2, 3, 100), 0, []) :: (24, 2, (0, 0, 0, 0), 0, []) :: (25, 33, (10, 3, 0, 33), 0, []) :: (28, 49, (88, 1, 8, 104), 0, []) :: (31, 2, (0, 0, 0, 0), 0, []) :: (32, 33, (10, 4, 0, 40), 0, []) :: (35, 49, (20, 1, 2, 107), 0, []) :: (38, 2, (0, 0, 0, 0), 0, []) :: (39, 8, (0, 0, 0, 0), 0, []) :: (40, 34, (10, 12, 0, 110), 0, []) :: jm_b131_43
def jm_l131 : jx_B := [(0, jm_b131_0), (43, jm_b131_43), (65, jm_b131_65), (68, jm_b131_68)]
def jm_i131 : jx_M := (⟨"OfDifferentMinds", "roads", "()I"⟩, prog_1_method_4_code, 2, (some .int), 0, 1, 10, jm_l131)
theorem jm_ok131 : jx_okM 131 jm_i131 := ⟨by decide +kernel, rfl, by decide +kernel, ⟨by decide +kernel, by decide +kernel⟩, by decide +kernel, jx_mem (i := 397) (by decide +kernel) rfl, jx_mem (i := 106) (by decide +kernel) rfl, fun _ => ⟨jx_mem (i := 395) (by decide +kernel) rfl, jx_mem (i := 396) (by decide +kernel) rfl, by decide⟩, fun h => absurd h (by decide), fun h => absurd h (by decide), by decide, by decide, by decide, by decide +kernel, by decide +kernel⟩
-- OfDifferentMinds.riders()I
def jm_b132_70 : List jx_E := (70, 69, (0, 0, 0, 0), 0, []) :: []
def jm_b132_67 : List jx_E := (67, 8, (0, 0, 0, 0), (-1), []) :: (68, 0, (1, 0, 0, 0), 0, []) :: (69, 15, (0, 0, 0, 0), 0, []) :: jm_b132_70
def jm_b132_50 : List jx_E := (50, 4, (2, 0, 0, 0), 0, []) :: (51, 2, (0, 0, 0, 0), 0, []) :: (52, 33, (10, 0, 0, 10), 0, []) :: (55, 49, (117, 1, 9, 114), 0, []) :: (58, 0, (1, 0, 0, 0), 0, []) :: (59, 8, (0, 0, 0, 0), (-1), []) :: (60, 62, (67, 0, 0, 0), 0, []) :: (63, 0, (2, 0, 0, 0), 0, []) :: (64, 54, (70, 0, 0, 0), 0, []) :: []
def jm_b132_49 : List jx_E := (49, 8, (0, 0, 0, 0), 0, []) :: jm_b132_50
def jm_b132_12 : List jx_E := (12, 2, (0, 0, 0, 0), 0, []) :: (13, 33, (10, 0, 0, 10), 0, []) :: (16, 2, (0, 0, 0, 0), 0, []) :: (17, 33, (10, 1, 0, 19), 0, []) :: (20, 49, (27, 1, 3, 115), 0, []) :: (23, 9, (0, 0, 0, 0), 6, []) :: (25, 2, (0, 0, 0, 0), 0, []) :: (26, 33, (10, 1, 0, 19), 0, []) :: (29, 49, (28, 1, 3, 122), 0, []) :: (32, 15, (0, 0, 0, 0), 0, []) :: (33, 50, (13, 3, 0, 125), 0, []) :: (36, 4, (1, 0, 0, 0), 0, []) :: (37, 0, (1, 0, 0, 0), 0, []) :: (38, 8, (0, 0, 0, 0), (-1), []) :: (39, 62, (49, 0, 0, 0), 0, []) :: (42, 2, (0, 0, 0, 0), 0, []) :: (43, 49, (133, 1, 10, 129), 0, []) :: (46, 54, (50, 0, 0, 0), 0, []) :: []
def jm_b132_0 : List jx_E := (0, 2, (0, 0, 0, 0), 0, []) :: (1, 33, (10, 0, 0, 10), 0, []) :: (4, 49, (113, 1, 9, 119), 0, []) :: (7, 56, (12, 0, 0, 0), 0, []) :: (10, 8, (0, 0, 0, 0), 0, []) :: (11, 69, (0, 0, 0, 0), 0, []) :: []
def jm_l132 : jx_B := [(0, jm_b132_0), (12, jm_b132_12), (49, jm_b132_49), (50, jm_b132_50), (67, jm_b132_67), (70, jm_b132_70)]
def jm_i132 : jx_M := (⟨"OfDifferentMinds", "riders", "()I"⟩, prog_1_method_5_code, 3, (some .int), 0, 1, 10, jm_l132)
theorem jm_ok132 : jx_okM 132 jm_i132 := ⟨by decide +kernel, rfl, by decide +kernel, ⟨by decide +kernel, by decide +kernel⟩, by decide +kernel, jx_mem (i := 484) (by decide +kernel) rfl, jx_mem (i := 106) (by decide +kernel) rfl, fun _ => ⟨jx_mem (i := 482) (by decide +kernel) rfl, jx_mem (i := 483) (by decide +kernel) rfl, by decide⟩, fun h => absurd h (by decide), fun h => absurd h (by decide), by decide, by decide, by decide, by decide +kernel, by decide +kernel⟩
-- OfDifferentMinds.admitAll()I
def jm_b133_137 : List jx_E := (137, 2, (0, 0, 0, 0), 0, []) :: (138, 33, (10, 4, 0, 40), 0, []) :: (141, 49, (20, 1, 2, 107), 0, []) :: (144, 0, (1, 0, 0, 0), 0, []) :: (145, 69, (0, 0, 0, 0), 0, []) :: []
def jm_b133_94 : List jx_E := (94, 2, (0, 0, 0, 0), 0, []) :: (95, 33, (10, 0, 0, 10), 0, []) :: (98, 9, (0, 0, 0, 0), 59, []) :: (100, 49, (124, 2, 9, 143), 0, []) :: (103, 31, (0, 0, 0, 0), 0, []) :: (104, 2, (0, 0, 0, 0), 0, []) :: (105, 33, (10, 3, 0, 33), 0, []) :: (108, 2, (0, 0, 0, 0), 0, []) :: (109, 33, (10, 1, 0, 19), 0, []) :: (112, 49, (28, 1, 3, 122), 0, []) :: (115, 1, (4, 0, 0, 0), 0, []) :: (117, 49, (92, 3, 8, 152), 0, []) :: (120, 2, (0, 0, 0, 0), 0, []) :: (121, 33, (10, 1, 0, 19), 0, []) :: (124, 0, (3, 0, 0, 0), 0, []) :: (125, 49, (39, 2, 3, 156), 0, []) :: (128, 13, (1, 0, 0, 0), 1, []) :: (131, 13, (2, 0, 0, 0), 1, []) :: (134, 54, (13, 0, 0, 0), 0, []) :: []
def jm_b133_54 : List jx_E := (54, 1, (5, 0, 0, 0), 0, []) :: (56, 2, (0, 0, 0, 0), 0, []) :: (57, 33, (10, 1, 0, 19), 0, []) :: (60, 49, (27, 1, 3, 115), 0, []) :: (63, 64, (94, 0, 0, 0), 0, []) :: (66, 1, (4, 0, 0, 0), 0, []) :: (68, 8, (0, 0, 0, 0), 0, []) :: (69, 2, (0, 0, 0, 0), 0, []) :: (70, 33, (10, 0, 0, 10), 0, []) :: (73, 8, (0, 0, 0, 0), 1, []) :: (74, 49, (126, 2, 9, 140), 0, []) :: (77, 72, (310, 0, 0, 146), 0, []) :: (80, 8, (0, 0, 0, 0), 2, []) :: (81, 1, (5, 0, 0, 0), 0, []) :: (83, 16, (0, 0, 0, 0), 0, []) :: (84, 23, (0, 0, 0, 0), 0, []) :: (85, 21, (0, 0, 0, 0), 0, []) :: (86, 5, (4, 0, 0, 0), 0, []) :: (88, 13, (5, 0, 0, 0), 1, []) :: (91, 54, (54, 0, 0, 0), 0, []) :: []
def jm_b133_13 : List jx_E := (13, 0, (2, 0, 0, 0), 0, []) :: (14, 9, (0, 0, 0, 0), 6, []) :: (16, 64, (137, 0, 0, 0), 0, []) :: (19, 2, (0, 0, 0, 0), 0, []) :: (20, 33, (10, 0, 0, 10), 0, []) :: (23, 49, (121, 1, 9, 136), 0, []) :: (26, 56, (137, 0, 0, 0), 0, []) :: (29, 2, (0, 0, 0, 0), 0, []) :: (30, 33, (10, 0, 0, 10), 0, []) :: (33, 8, (0, 0, 0, 0), 2, []) :: (34, 49, (126, 2, 9, 140), 0, []) :: (37, 4, (3, 0, 0, 0), 0, []) :: (38, 2, (0, 0, 0, 0), 0, []) :: (39, 33, (10, 0, 0, 10), 0, []) :: (42, 9, (0, 0, 0, 0), 58, []) :: (44, 49, (124, 2, 9, 143), 0, []) :: (47, 31, (0, 0, 0, 0), 0, []) :: (48, 8, (0, 0, 0, 0), 0, []) :: (49, 5, (4, 0, 0, 0), 0, []) :: (51, 8, (0, 0, 0, 0), 0, []) :: (52, 5, (5, 0, 0, 0), 0, []) :: jm_b133_54
def jm_b133_0 : List jx_E := (0, 8, (0, 0, 0, 0), 0, []) :: (1, 4, (1, 0, 0, 0), 0, []) :: (2, 2, (0, 0, 0, 0), 0, []) :: (3, 33, (10, 0, 0, 10), 0, []) :: (6, 9, (0, 0, 0, 0), 76, []) :: (8, 49, (118, 2, 9, 132), 0, []) :: (11, 8, (0, 0, 0, 0), 0, []) :: (12, 4, (2, 0, 0, 0), 0, []) :: jm_b133_13
def jm_l133 : jx_B := [(0, jm_b133_0), (13, jm_b133_13), (54, jm_b133_54), (94, jm_b133_94), (137, jm_b133_137)]
def jm_i133 : jx_M := (⟨"OfDifferentMinds", "admitAll", "()I"⟩, prog_1_method_6_code, 6, (some .int), 0, 1, 10, jm_l133)
theorem jm_ok133 : jx_okM 133 jm_i133 := ⟨by decide +kernel, rfl, by decide +kernel, ⟨by decide +kernel, by decide +kernel⟩, by decide +kernel, jx_mem (i := 503) (by decide +kernel) rfl, jx_mem (i := 106) (by decide +kernel) rfl, fun _ => ⟨jx_mem (i := 502) (by decide +kernel) rfl, jx_mem (i := 2) (by decide +kernel) rfl, by decide⟩, fun h => absurd h (by decide), fun h => absurd h (by decide), by decide, by decide, by decide, by decide +kernel, by decide +kernel⟩
-- OfDifferentMinds.rule()I
def jm_b134_31 : List jx_E := (31, 69, (0, 0, 0, 0), 0, []) :: []
def jm_b134_28 : List jx_E := (28, 8, (0, 0, 0, 0), (-1), []) :: (29, 0, (1, 0, 0, 0), 0, []) :: (30, 15, (0, 0, 0, 0), 0, []) :: jm_b134_31
def jm_b134_0 : List jx_E := (0, 2, (0, 0, 0, 0), 0, []) :: (1, 33, (10, 2, 0, 26), 0, []) :: (4, 2, (0, 0, 0, 0), 0, []) :: (5, 33, (10, 0, 0, 10), 0, []) :: (8, 49, (79, 2, 7, 158), 0, []) :: (11, 4, (1, 0, 0, 0), 0, []) :: (12, 2, (0, 0, 0, 0), 0, []) :: (13, 33, (10, 0, 0, 10), 0, []) :: (16, 49, (117, 1, 9, 114), 0, []) :: (19, 0, (1, 0, 0, 0), 0, []) :: (20, 8, (0, 0, 0, 0), (-1), []) :: (21, 62, (28, 0, 0, 0), 0, []) :: (24, 8, (0, 0, 0, 0), 0, []) :: (25, 54, (31, 0, 0, 0), 0, []) :: []
def jm_l134 : jx_B := [(0, jm_b134_0), (28, jm_b134_28), (31, jm_b134_31)]
def jm_i134 : jx_M := (⟨"OfDifferentMinds", "rule", "()I"⟩, prog_1_method_7_code, 2, (some .int), 0, 1, 10, jm_l134)
theorem jm_ok134 : jx_okM 134 jm_i134 := ⟨by decide +kernel, rfl, by decide +kernel, ⟨by decide +kernel, by decide +kernel⟩, by decide +kernel, jx_mem (i := 526) (by decide +kernel) rfl, jx_mem (i := 106) (by decide +kernel) rfl, fun _ => ⟨jx_mem (i := 524) (by decide +kernel) rfl, jx_mem (i := 525) (by decide +kernel) rfl, by decide⟩, fun h => absurd h (by decide), fun h => absurd h (by decide), by decide, by decide, by decide, by decide +kernel, by decide +kernel⟩
-- OfDifferentMinds.place(II)I
def jm_l135 : jx_B := []
def jm_i135 : jx_M := (⟨"OfDifferentMinds", "place", "(II)I"⟩, prog_1_method_8_code, 3, (some .int), 0, 3, 10, jm_l135)
theorem jm_ok135 : jx_okM 135 jm_i135 := ⟨by decide +kernel, rfl, by decide +kernel, ⟨by decide +kernel, by decide +kernel⟩, by decide +kernel, jx_mem (i := 1196) (by decide +kernel) rfl, jx_mem (i := 106) (by decide +kernel) rfl, fun _ => ⟨jx_mem (i := 1194) (by decide +kernel) rfl, jx_mem (i := 1195) (by decide +kernel) rfl, by decide⟩, fun h => absurd h (by decide), fun h => absurd h (by decide), by decide, by decide, by decide, by decide +kernel, by decide +kernel⟩
-- OfDifferentMinds.ridersAt(I)I
def jm_b136_39 : List jx_E := (39, 0, (2, 0, 0, 0), 0, []) :: (40, 69, (0, 0, 0, 0), 0, []) :: []
def jm_b136_33 : List jx_E := (33, 13, (3, 0, 0, 0), 1, []) :: (36, 54, (4, 0, 0, 0), 0, []) :: []
def jm_b136_4 : List jx_E := (4, 0, (3, 0, 0, 0), 0, []) :: (5, 2, (0, 0, 0, 0), 0, []) :: (6, 33, (10, 1, 0, 19), 0, []) :: (9, 49, (28, 1, 3, 122), 0, []) :: (12, 64, (39, 0, 0, 0), 0, []) :: (15, 2, (0, 0, 0, 0), 0, []) :: (16, 33, (10, 3, 0, 33), 0, []) :: (19, 0, (3, 0, 0, 0), 0, []) :: (20, 49, (95, 2, 8, 183), 0, []) :: (23, 0, (1, 0, 0, 0), 0, []) :: (24, 62, (33, 0, 0, 0), 0, []) :: (27, 0, (2, 0, 0, 0), 0, []) :: (28, 8, (0, 0, 0, 0), 1, []) :: (29, 0, (3, 0, 0, 0), 0, []) :: (30, 23, (0, 0, 0, 0), 0, []) :: (31, 21, (0, 0, 0, 0), 0, []) :: (32, 4, (2, 0, 0, 0), 0, []) :: jm_b136_33
def jm_b136_0 : List jx_E := (0, 8, (0, 0, 0, 0), 0, []) :: (1, 4, (2, 0, 0, 0), 0, []) :: (2, 8, (0, 0, 0, 0), 0, []) :: (3, 4, (3, 0, 0, 0), 0, []) :: jm_b136_4
def jm_l136 : jx_B := [(0, jm_b136_0), (4, jm_b136_4), (33, jm_b136_33), (39, jm_b136_39)]
def jm_i136 : jx_M := (⟨"OfDifferentMinds", "ridersAt", "(I)I"⟩, prog_1_method_9_code, 4, (some .int), 0, 2, 10, jm_l136)
theorem jm_ok136 : jx_okM 136 jm_i136 := ⟨by decide +kernel, rfl, by decide +kernel, ⟨by decide +kernel, by decide +kernel⟩, by decide +kernel, jx_mem (i := 1266) (by decide +kernel) rfl, jx_mem (i := 106) (by decide +kernel) rfl, fun _ => ⟨jx_mem (i := 1265) (by decide +kernel) rfl, jx_mem (i := 44) (by decide +kernel) rfl, by decide⟩, fun h => absurd h (by decide), fun h => absurd h (by decide), by decide, by decide, by decide, by decide +kernel, by decide +kernel⟩
-- OfDifferentMinds.rider(II)I
def jm_l137 : jx_B := []
def jm_i137 : jx_M := (⟨"OfDifferentMinds", "rider", "(II)I"⟩, prog_1_method_10_code, 3, (some .int), 0, 3, 10, jm_l137)
theorem jm_ok137 : jx_okM 137 jm_i137 := ⟨by decide +kernel, rfl, by decide +kernel, ⟨by decide +kernel, by decide +kernel⟩, by decide +kernel, jx_mem (i := 1273) (by decide +kernel) rfl, jx_mem (i := 106) (by decide +kernel) rfl, fun _ => ⟨jx_mem (i := 1271) (by decide +kernel) rfl, jx_mem (i := 1272) (by decide +kernel) rfl, by decide⟩, fun h => absurd h (by decide), fun h => absurd h (by decide), by decide, by decide, by decide, by decide +kernel, by decide +kernel⟩
-- OfDifferentMinds.viewAt(II)I
def jm_b138_0 : List jx_E := (0, 2, (0, 0, 0, 0), 0, []) :: (1, 33, (10, 1, 0, 19), 0, []) :: (4, 2, (0, 0, 0, 0), 0, []) :: (5, 33, (10, 3, 0, 33), 0, []) :: (8, 0, (1, 0, 0, 0), 0, []) :: (9, 49, (100, 2, 8, 206), 0, []) :: (12, 0, (2, 0, 0, 0), 0, []) :: (13, 49, (36, 3, 3, 209), 0, []) :: (16, 69, (0, 0, 0, 0), 0, []) :: []
def jm_l138 : jx_B := [(0, jm_b138_0)]
def jm_i138 : jx_M := (⟨"OfDifferentMinds", "viewAt", "(II)I"⟩, prog_1_method_11_code, 3, (some .int), 0, 3, 10, jm_l138)
theorem jm_ok138 : jx_okM 138 jm_i138 := ⟨by decide +kernel, rfl, by decide +kernel, ⟨by decide +kernel, by decide +kernel⟩, by decide +kernel, jx_mem (i := 591) (by decide +kernel) rfl, jx_mem (i := 106) (by decide +kernel) rfl, fun _ => ⟨jx_mem (i := 590) (by decide +kernel) rfl, jx_mem (i := 9) (by decide +kernel) rfl, by decide⟩, fun h => absurd h (by decide), fun h => absurd h (by decide), by decide, by decide, by decide, by decide +kernel, by decide +kernel⟩
-- OfDifferentMinds.view(II)I
def jm_b139_46 : List jx_E := (46, 69, (0, 0, 0, 0), 0, []) :: []
def jm_b139_40 : List jx_E := (40, 2, (0, 0, 0, 0), 0, []) :: (41, 0, (1, 0, 0, 0), 0, []) :: (42, 0, (2, 0, 0, 0), 0, []) :: (43, 49, (138, 3, 10, 200), 0, []) :: jm_b139_46
def jm_b139_24 : List jx_E := (24, 2, (0, 0, 0, 0), 0, []) :: (25, 33, (10, 1, 0, 19), 0, []) :: (28, 0, (2, 0, 0, 0), 0, []) :: (29, 49, (33, 2, 3, 171), 0, []) :: (32, 56, (40, 0, 0, 0), 0, []) :: (35, 9, (0, 0, 0, 0), (-2), []) :: (37, 54, (46, 0, 0, 0), 0, []) :: []
def jm_b139_22 : List jx_E := (22, 8, (0, 0, 0, 0), (-1), []) :: (23, 69, (0, 0, 0, 0), 0, []) :: []
def jm_b139_0 : List jx_E := (0, 2, (0, 0, 0, 0), 0, []) :: (1, 33, (10, 1, 0, 19), 0, []) :: (4, 0, (1, 0, 0, 0), 0, []) :: (5, 49, (31, 2, 3, 186), 0, []) :: (8, 55, (22, 0, 0, 0), 0, []) :: (11, 2, (0, 0, 0, 0), 0, []) :: (12, 33, (10, 1, 0, 19), 0, []) :: (15, 0, (2, 0, 0, 0), 0, []) :: (16, 49, (30, 2, 3, 161), 0, []) :: (19, 56, (24, 0, 0, 0), 0, []) :: jm_b139_22
def jm_l139 : jx_B := [(0, jm_b139_0), (22, jm_b139_22), (24, jm_b139_24), (40, jm_b139_40), (46, jm_b139_46)]
def jm_i139 : jx_M := (⟨"OfDifferentMinds", "view", "(II)I"⟩, prog_1_method_12_code, 3, (some .int), 0, 3, 10, jm_l139)
theorem jm_ok139 : jx_okM 139 jm_i139 := ⟨by decide +kernel, rfl, by decide +kernel, ⟨by decide +kernel, by decide +kernel⟩, by decide +kernel, jx_mem (i := 574) (by decide +kernel) rfl, jx_mem (i := 106) (by decide +kernel) rfl, fun _ => ⟨jx_mem (i := 572) (by decide +kernel) rfl, jx_mem (i := 573) (by decide +kernel) rfl, by decide⟩, fun h => absurd h (by decide), fun h => absurd h (by decide), by decide, by decide, by decide, by decide +kernel, by decide +kernel⟩
-- OfDifferentMinds.sheet(IIII)I
def jm_b140_123 : List jx_E := (123, 69, (0, 0, 0, 0), 0, []) :: []
def jm_b140_121 : List jx_E := (121, 1, (6, 0, 0, 0), 0, []) :: jm_b140_123
def jm_b140_107 : List jx_E := (107, 2, (0, 0, 0, 0), 0, []) :: (108, 49, (142, 1, 10, 218), 0, []) :: (111, 0, (1, 0, 0, 0), 0, []) :: (112, 8, (0, 0, 0, 0), 3, []) :: (113, 62, (121, 0, 0, 0), 0, []) :: (116, 9, (0, 0, 0, 0), (-3), []) :: (118, 54, (123, 0, 0, 0), 0, []) :: []
def jm_b140_81 : List jx_E := (81, 5, (8, 0, 0, 0), 0, []) :: (83, 2, (0, 0, 0, 0), 0, []) :: (84, 33, (10, 1, 0, 19), 0, []) :: (87, 1, (7, 0, 0, 0), 0, []) :: (89, 1, (8, 0, 0, 0), 0, []) :: (91, 49, (38, 3, 3, 215), 0, []) :: (94, 1, (6, 0, 0, 0), 0, []) :: (96, 1, (8, 0, 0, 0), 0, []) :: (98, 14, (0, 0, 0, 0), 0, []) :: (99, 5, (6, 0, 0, 0), 0, []) :: (101, 13, (7, 0, 0, 0), 1, []) :: (104, 54, (47, 0, 0, 0), 0, []) :: []
def jm_b140_80 : List jx_E := (80, 8, (0, 0, 0, 0), 1, []) :: jm_b140_81
def jm_b140_47 : List jx_E := (47, 1, (7, 0, 0, 0), 0, []) :: (49, 2, (0, 0, 0, 0), 0, []) :: (50, 33, (10, 1, 0, 19), 0, []) :: (53, 49, (28, 1, 3, 122), 0, []) :: (56, 64, (107, 0, 0, 0), 0, []) :: (59, 1, (7, 0, 0, 0), 0, []) :: (61, 1, (5, 0, 0, 0), 0, []) :: (63, 64, (80, 0, 0, 0), 0, []) :: (66, 0, (1, 0, 0, 0), 0, []) :: (67, 0, (3, 0, 0, 0), 0, []) :: (68, 1, (7, 0, 0, 0), 0, []) :: (70, 1, (4, 0, 0, 0), 0, []) :: (72, 16, (0, 0, 0, 0), 0, []) :: (73, 14, (0, 0, 0, 0), 0, []) :: (74, 50, (141, 2, 0, 212), 0, []) :: (77, 54, (81, 0, 0, 0), 0, []) :: []
def jm_b140_39 : List jx_E := (39, 5, (5, 0, 0, 0), 0, []) :: (41, 8, (0, 0, 0, 0), 0, []) :: (42, 5, (6, 0, 0, 0), 0, []) :: (44, 8, (0, 0, 0, 0), 0, []) :: (45, 5, (7, 0, 0, 0), 0, []) :: jm_b140_47
def jm_b140_38 : List jx_E := (38, 0, (2, 0, 0, 0), 0, []) :: jm_b140_39
def jm_b140_29 : List jx_E := (29, 0, (1, 0, 0, 0), 0, []) :: (30, 8, (0, 0, 0, 0), 3, []) :: (31, 62, (38, 0, 0, 0), 0, []) :: (34, 8, (0, 0, 0, 0), 0, []) :: (35, 54, (39, 0, 0, 0), 0, []) :: []
def jm_b140_17 : List jx_E := (17, 0, (1, 0, 0, 0), 0, []) :: (18, 8, (0, 0, 0, 0), 3, []) :: (19, 61, (29, 0, 0, 0), 0, []) :: (22, 0, (2, 0, 0, 0), 0, []) :: (23, 58, (29, 0, 0, 0), 0, []) :: (26, 9, (0, 0, 0, 0), (-2), []) :: (28, 69, (0, 0, 0, 0), 0, []) :: []
def jm_b140_15 : List jx_E := (15, 8, (0, 0, 0, 0), (-1), []) :: (16, 69, (0, 0, 0, 0), 0, []) :: []
def jm_b140_0 : List jx_E := (0, 0, (1, 0, 0, 0), 0, []) :: (1, 57, (15, 0, 0, 0), 0, []) :: (4, 0, (1, 0, 0, 0), 0, []) :: (5, 8, (0, 0, 0, 0), 3, []) :: (6, 65, (15, 0, 0, 0), 0, []) :: (9, 0, (2, 0, 0, 0), 0, []) :: (10, 9, (0, 0, 0, 0), 6, []) :: (12, 66, (17, 0, 0, 0), 0, []) :: jm_b140_15
def jm_l140 : jx_B := [(0, jm_b140_0), (15, jm_b140_15), (17, jm_b140_17), (29, jm_b140_29), (38, jm_b140_38), (39, jm_b140_39), (47, jm_b140_47), (80, jm_b140_80), (81, jm_b140_81), (107, jm_b140_107), (121, jm_b140_121), (123, jm_b140_123)]
def jm_i140 : jx_M := (⟨"OfDifferentMinds", "sheet", "(IIII)I"⟩, prog_1_method_13_code, 9, (some .int), 0, 5, 10, jm_l140)
theorem jm_ok140 : jx_okM 140 jm_i140 := ⟨by decide +kernel, rfl, by decide +kernel, ⟨by decide +kernel, by decide +kernel⟩, by decide +kernel, jx_mem (i := 615) (by decide +kernel) rfl, jx_mem (i := 106) (by decide +kernel) rfl, fun _ => ⟨jx_mem (i := 613) (by decide +kernel) rfl, jx_mem (i := 614) (by decide +kernel) rfl, by decide⟩, fun h => absurd h (by decide), fun h => absurd h (by decide), by decide, by decide, by decide, by decide +kernel, by decide +kernel⟩
-- OfDifferentMinds.entryMind(II)I
def jm_b141_20 : List jx_E := (20, 8, (0, 0, 0, 0), 1, []) :: (21, 9, (0, 0, 0, 0), 99, []) :: (23, 0, (2, 0, 0, 0), 0, []) :: (24, 73, (311, 0, 0, 221), 0, []) :: (27, 72, (310, 0, 0, 146), 0, []) :: (30, 69, (0, 0, 0, 0), 0, []) :: []
def jm_b141_12 : List jx_E := (12, 0, (0, 0, 0, 0), 0, []) :: (13, 8, (0, 0, 0, 0), 1, []) :: (14, 62, (20, 0, 0, 0), 0, []) :: (17, 0, (1, 0, 0, 0), 0, []) :: (18, 27, (0, 0, 0, 0), 0, []) :: (19, 4, (2, 0, 0, 0), 0, []) :: jm_b141_20
def jm_b141_0 : List jx_E := (0, 0, (1, 0, 0, 0), 0, []) :: (1, 4, (2, 0, 0, 0), 0, []) :: (2, 0, (0, 0, 0, 0), 0, []) :: (3, 56, (12, 0, 0, 0), 0, []) :: (6, 0, (1, 0, 0, 0), 0, []) :: (7, 26, (0, 0, 0, 0), 0, []) :: (8, 4, (2, 0, 0, 0), 0, []) :: (9, 54, (20, 0, 0, 0), 0, []) :: []
def jm_l141 : jx_B := [(0, jm_b141_0), (12, jm_b141_12), (20, jm_b141_20)]
def jm_i141 : jx_M := (⟨"OfDifferentMinds", "entryMind", "(II)I"⟩, prog_1_method_14_code, 3, (some .int), 2, 2, 10, jm_l141)
theorem jm_ok141 : jx_okM 141 jm_i141 := ⟨by decide +kernel, rfl, by decide +kernel, ⟨by decide +kernel, by decide +kernel⟩, by decide +kernel, jx_mem (i := 618) (by decide +kernel) rfl, jx_mem (i := 106) (by decide +kernel) rfl, fun h => absurd h (by decide), fun h => absurd h (by decide), fun _ => jx_mem (i := 617) (by decide +kernel) rfl, by decide, by decide, by decide, by decide +kernel, by decide +kernel⟩
-- OfDifferentMinds.limitSpent()V
def jm_b142_46 : List jx_E := (46, 71, (0, 0, 0, 0), 0, []) :: []
def jm_b142_2 : List jx_E := (2, 0, (1, 0, 0, 0), 0, []) :: (3, 2, (0, 0, 0, 0), 0, []) :: (4, 33, (10, 1, 0, 19), 0, []) :: (7, 49, (28, 1, 3, 122), 0, []) :: (10, 64, (46, 0, 0, 0), 0, []) :: (13, 2, (0, 0, 0, 0), 0, []) :: (14, 33, (10, 3, 0, 33), 0, []) :: (17, 0, (1, 0, 0, 0), 0, []) :: (18, 2, (0, 0, 0, 0), 0, []) :: (19, 33, (10, 3, 0, 33), 0, []) :: (22, 0, (1, 0, 0, 0), 0, []) :: (23, 49, (93, 2, 8, 194), 0, []) :: (26, 2, (0, 0, 0, 0), 0, []) :: (27, 33, (10, 1, 0, 19), 0, []) :: (30, 0, (1, 0, 0, 0), 0, []) :: (31, 49, (37, 2, 3, 191), 0, []) :: (34, 73, (311, 0, 0, 221), 0, []) :: (37, 49, (94, 3, 8, 224), 0, []) :: (40, 13, (1, 0, 0, 0), 1, []) :: (43, 54, (2, 0, 0, 0), 0, []) :: []
def jm_b142_0 : List jx_E := (0, 8, (0, 0, 0, 0), 0, []) :: (1, 4, (1, 0, 0, 0), 0, []) :: jm_b142_2
def jm_l142 : jx_B := [(0, jm_b142_0), (2, jm_b142_2), (46, jm_b142_46)]
def jm_i142 : jx_M := (⟨"OfDifferentMinds", "limitSpent", "()V"⟩, prog_1_method_15_code, 2, none, 0, 1, 10, jm_l142)
theorem jm_ok142 : jx_okM 142 jm_i142 := ⟨by decide +kernel, rfl, by decide +kernel, ⟨by decide +kernel, by decide +kernel⟩, by decide +kernel, jx_mem (i := 630) (by decide +kernel) rfl, jx_mem (i := 106) (by decide +kernel) rfl, fun _ => ⟨jx_mem (i := 629) (by decide +kernel) rfl, jx_mem (i := 11) (by decide +kernel) rfl, by decide⟩, fun h => absurd h (by decide), fun h => absurd h (by decide), by decide, by decide, by decide, by decide +kernel, by decide +kernel⟩
-- OfDifferentMinds.mount(II)I
def jm_b143_0 : List jx_E := (0, 2, (0, 0, 0, 0), 0, []) :: (1, 33, (10, 4, 0, 40), 0, []) :: (4, 2, (0, 0, 0, 0), 0, []) :: (5, 33, (10, 3, 0, 33), 0, []) :: (8, 49, (21, 2, 2, 227), 0, []) :: (11, 2, (0, 0, 0, 0), 0, []) :: (12, 2, (0, 0, 0, 0), 0, []) :: (13, 0, (1, 0, 0, 0), 0, []) :: (14, 0, (2, 0, 0, 0), 0, []) :: (15, 49, (152, 3, 10, 231), 0, []) :: (18, 49, (150, 2, 10, 234), 0, []) :: (21, 69, (0, 0, 0, 0), 0, []) :: []
def jm_l143 : jx_B := [(0, jm_b143_0)]
def jm_i143 : jx_M := (⟨"OfDifferentMinds", "mount", "(II)I"⟩, prog_1_method_16_code, 3, (some .int), 0, 3, 10, jm_l143)
theorem jm_ok143 : jx_okM 143 jm_i143 := ⟨by decide +kernel, rfl, by decide +kernel, ⟨by decide +kernel, by decide +kernel⟩, by decide +kernel, jx_mem (i := 646) (by decide +kernel) rfl, jx_mem (i := 106) (by decide +kernel) rfl, fun _ => ⟨jx_mem (i := 644) (by decide +kernel) rfl, jx_mem (i := 645) (by decide +kernel) rfl, by decide⟩, fun h => absurd h (by decide), fun h => absurd h (by decide), by decide, by decide, by decide, by decide +kernel, by decide +kernel⟩
-- OfDifferentMinds.dismount()I
def jm_b144_0 : List jx_E := (0, 2, (0, 0, 0, 0), 0, []) :: (1, 33, (10, 4, 0, 40), 0, []) :: (4, 2, (0, 0, 0, 0), 0, []) :: (5, 33, (10, 3, 0, 33), 0, []) :: (8, 49, (21, 2, 2, 227), 0, []) :: (11, 2, (0, 0, 0, 0), 0, []) :: (12, 2, (0, 0, 0, 0), 0, []) :: (13, 49, (153, 1, 10, 237), 0, []) :: (16, 49, (150, 2, 10, 234), 0, []) :: (19, 69, (0, 0, 0, 0), 0, []) :: []
def jm_l144 : jx_B := [(0, jm_b144_0)]
def jm_i144 : jx_M := (⟨"OfDifferentMinds", "dismount", "()I"⟩, prog_1_method_17_code, 1, (some .int), 0, 1, 10, jm_l144)
theorem jm_ok144 : jx_okM 144 jm_i144 := ⟨by decide +kernel, rfl, by decide +kernel, ⟨by decide +kernel, by decide +kernel⟩, by decide +kernel, jx_mem (i := 689) (by decide +kernel) rfl, jx_mem (i := 106) (by decide +kernel) rfl, fun _ => ⟨jx_mem (i := 687) (by decide +kernel) rfl, jx_mem (i := 688) (by decide +kernel) rfl, by decide⟩, fun h => absurd h (by decide), fun h => absurd h (by decide), by decide, by decide, by decide, by decide +kernel, by decide +kernel⟩
-- OfDifferentMinds.ride(I)I
def jm_b145_68 : List jx_E := (68, 0, (2, 0, 0, 0), 0, []) :: (69, 69, (0, 0, 0, 0), 0, []) :: []
def jm_b145_58 : List jx_E := (58, 2, (0, 0, 0, 0), 0, []) :: (59, 33, (10, 6, 0, 56), 0, []) :: (62, 49, (55, 1, 5, 252), 0, []) :: (65, 49, (72, 4, 6, 255), 0, []) :: jm_b145_68
def jm_b145_57 : List jx_E := (57, 8, (0, 0, 0, 0), 0, []) :: jm_b145_58
def jm_b145_28 : List jx_E := (28, 0, (2, 0, 0, 0), 0, []) :: (29, 57, (68, 0, 0, 0), 0, []) :: (32, 2, (0, 0, 0, 0), 0, []) :: (33, 33, (10, 5, 0, 47), 0, []) :: (36, 2, (0, 0, 0, 0), 0, []) :: (37, 33, (10, 6, 0, 56), 0, []) :: (40, 49, (53, 1, 5, 246), 0, []) :: (43, 2, (0, 0, 0, 0), 0, []) :: (44, 33, (10, 6, 0, 56), 0, []) :: (47, 49, (56, 1, 5, 249), 0, []) :: (50, 55, (57, 0, 0, 0), 0, []) :: (53, 8, (0, 0, 0, 0), 1, []) :: (54, 54, (58, 0, 0, 0), 0, []) :: []
def jm_b145_0 : List jx_E := (0, 2, (0, 0, 0, 0), 0, []) :: (1, 33, (10, 4, 0, 40), 0, []) :: (4, 2, (0, 0, 0, 0), 0, []) :: (5, 33, (10, 3, 0, 33), 0, []) :: (8, 49, (21, 2, 2, 227), 0, []) :: (11, 2, (0, 0, 0, 0), 0, []) :: (12, 0, (1, 0, 0, 0), 0, []) :: (13, 49, (154, 2, 10, 240), 0, []) :: (16, 4, (2, 0, 0, 0), 0, []) :: (17, 0, (2, 0, 0, 0), 0, []) :: (18, 60, (28, 0, 0, 0), 0, []) :: (21, 2, (0, 0, 0, 0), 0, []) :: (22, 33, (10, 4, 0, 40), 0, []) :: (25, 49, (22, 1, 2, 243), 0, []) :: jm_b145_28
def jm_l145 : jx_B := [(0, jm_b145_0), (28, jm_b145_28), (57, jm_b145_57), (58, jm_b145_58), (68, jm_b145_68)]
def jm_i145 : jx_M := (⟨"OfDifferentMinds", "ride", "(I)I"⟩, prog_1_method_18_code, 3, (some .int), 0, 2, 10, jm_l145)
theorem jm_ok145 : jx_okM 145 jm_i145 := ⟨by decide +kernel, rfl, by decide +kernel, ⟨by decide +kernel, by decide +kernel⟩, by decide +kernel, jx_mem (i := 697) (by decide +kernel) rfl, jx_mem (i := 106) (by decide +kernel) rfl, fun _ => ⟨jx_mem (i := 695) (by decide +kernel) rfl, jx_mem (i := 696) (by decide +kernel) rfl, by decide⟩, fun h => absurd h (by decide), fun h => absurd h (by decide), by decide, by decide, by decide, by decide +kernel, by decide +kernel⟩
-- OfDifferentMinds.walk(II)I
def jm_b146_0 : List jx_E := (0, 2, (0, 0, 0, 0), 0, []) :: (1, 33, (10, 4, 0, 40), 0, []) :: (4, 2, (0, 0, 0, 0), 0, []) :: (5, 33, (10, 3, 0, 33), 0, []) :: (8, 49, (21, 2, 2, 227), 0, []) :: (11, 2, (0, 0, 0, 0), 0, []) :: (12, 2, (0, 0, 0, 0), 0, []) :: (13, 0, (1, 0, 0, 0), 0, []) :: (14, 0, (2, 0, 0, 0), 0, []) :: (15, 49, (155, 3, 10, 259), 0, []) :: (18, 49, (150, 2, 10, 234), 0, []) :: (21, 69, (0, 0, 0, 0), 0, []) :: []
def jm_l146 : jx_B := [(0, jm_b146_0)]
def jm_i146 : jx_M := (⟨"OfDifferentMinds", "walk", "(II)I"⟩, prog_1_method_19_code, 3, (some .int), 0, 3, 10, jm_l146)
theorem jm_ok146 : jx_okM 146 jm_i146 := ⟨by decide +kernel, rfl, by decide +kernel, ⟨by decide +kernel, by decide +kernel⟩, by decide +kernel, jx_mem (i := 822) (by decide +kernel) rfl, jx_mem (i := 106) (by decide +kernel) rfl, fun _ => ⟨jx_mem (i := 820) (by decide +kernel) rfl, jx_mem (i := 821) (by decide +kernel) rfl, by decide⟩, fun h => absurd h (by decide), fun h => absurd h (by decide), by decide, by decide, by decide, by decide +kernel, by decide +kernel⟩
-- OfDifferentMinds.lead(II)I
def jm_b147_0 : List jx_E := (0, 2, (0, 0, 0, 0), 0, []) :: (1, 33, (10, 4, 0, 40), 0, []) :: (4, 2, (0, 0, 0, 0), 0, []) :: (5, 33, (10, 3, 0, 33), 0, []) :: (8, 49, (21, 2, 2, 227), 0, []) :: (11, 2, (0, 0, 0, 0), 0, []) :: (12, 2, (0, 0, 0, 0), 0, []) :: (13, 0, (1, 0, 0, 0), 0, []) :: (14, 0, (2, 0, 0, 0), 0, []) :: (15, 49, (156, 3, 10, 262), 0, []) :: (18, 49, (150, 2, 10, 234), 0, []) :: (21, 69, (0, 0, 0, 0), 0, []) :: []
def jm_l147 : jx_B := [(0, jm_b147_0)]
def jm_i147 : jx_M := (⟨"OfDifferentMinds", "lead", "(II)I"⟩, prog_1_method_20_code, 3, (some .int), 0, 3, 10, jm_l147)
theorem jm_ok147 : jx_okM 147 jm_i147 := ⟨by decide +kernel, rfl, by decide +kernel, ⟨by decide +kernel, by decide +kernel⟩, by decide +kernel, jx_mem (i := 836) (by decide +kernel) rfl, jx_mem (i := 106) (by decide +kernel) rfl, fun _ => ⟨jx_mem (i := 834) (by decide +kernel) rfl, jx_mem (i := 835) (by decide +kernel) rfl, by decide⟩, fun h => absurd h (by decide), fun h => absurd h (by decide), by decide, by decide, by decide, by decide +kernel, by decide +kernel⟩
-- OfDifferentMinds.rest(I)I
def jm_b148_0 : List jx_E := (0, 2, (0, 0, 0, 0), 0, []) :: (1, 33, (10, 4, 0, 40), 0, []) :: (4, 2, (0, 0, 0, 0), 0, []) :: (5, 33, (10, 3, 0, 33), 0, []) :: (8, 49, (21, 2, 2, 227), 0, []) :: (11, 2, (0, 0, 0, 0), 0, []) :: (12, 2, (0, 0, 0, 0), 0, []) :: (13, 0, (1, 0, 0, 0), 0, []) :: (14, 49, (157, 2, 10, 265), 0, []) :: (17, 49, (150, 2, 10, 234), 0, []) :: (20, 69, (0, 0, 0, 0), 0, []) :: []
def jm_l148 : jx_B := [(0, jm_b148_0)]
def jm_i148 : jx_M := (⟨"OfDifferentMinds", "rest", "(I)I"⟩, prog_1_method_21_code, 2, (some .int), 0, 2, 10, jm_l148)
theorem jm_ok148 : jx_okM 148 jm_i148 := ⟨by decide +kernel, rfl, by decide +kernel, ⟨by decide +kernel, by decide +kernel⟩, by decide +kernel, jx_mem (i := 845) (by decide +kernel) rfl, jx_mem (i := 106) (by decide +kernel) rfl, fun _ => ⟨jx_mem (i := 843) (by decide +kernel) rfl, jx_mem (i := 844) (by decide +kernel) rfl, by decide⟩, fun h => absurd h (by decide), fun h => absurd h (by decide), by decide, by decide, by decide, by decide +kernel, by decide +kernel⟩
-- OfDifferentMinds.deal(II)I
def jm_b149_0 : List jx_E := (0, 2, (0, 0, 0, 0), 0, []) :: (1, 33, (10, 4, 0, 40), 0, []) :: (4, 2, (0, 0, 0, 0), 0, []) :: (5, 33, (10, 3, 0, 33), 0, []) :: (8, 49, (21, 2, 2, 227), 0, []) :: (11, 2, (0, 0, 0, 0), 0, []) :: (12, 2, (0, 0, 0, 0), 0, []) :: (13, 0, (1, 0, 0, 0), 0, []) :: (14, 0, (2, 0, 0, 0), 0, []) :: (15, 49, (158, 3, 10, 268), 0, []) :: (18, 49, (150, 2, 10, 234), 0, []) :: (21, 69, (0, 0, 0, 0), 0, []) :: []
def jm_l149 : jx_B := [(0, jm_b149_0)]
def jm_i149 : jx_M := (⟨"OfDifferentMinds", "deal", "(II)I"⟩, prog_1_method_22_code, 3, (some .int), 0, 3, 10, jm_l149)
theorem jm_ok149 : jx_okM 149 jm_i149 := ⟨by decide +kernel, rfl, by decide +kernel, ⟨by decide +kernel, by decide +kernel⟩, by decide +kernel, jx_mem (i := 858) (by decide +kernel) rfl, jx_mem (i := 106) (by decide +kernel) rfl, fun _ => ⟨jx_mem (i := 856) (by decide +kernel) rfl, jx_mem (i := 857) (by decide +kernel) rfl, by decide⟩, fun h => absurd h (by decide), fun h => absurd h (by decide), by decide, by decide, by decide, by decide +kernel, by decide +kernel⟩
-- OfDifferentMinds.noted(I)I
def jm_b150_11 : List jx_E := (11, 0, (1, 0, 0, 0), 0, []) :: (12, 69, (0, 0, 0, 0), 0, []) :: []
def jm_b150_0 : List jx_E := (0, 0, (1, 0, 0, 0), 0, []) :: (1, 57, (11, 0, 0, 0), 0, []) :: (4, 2, (0, 0, 0, 0), 0, []) :: (5, 33, (10, 4, 0, 40), 0, []) :: (8, 49, (22, 1, 2, 243), 0, []) :: jm_b150_11
def jm_l150 : jx_B := [(0, jm_b150_0), (11, jm_b150_11)]
def jm_i150 : jx_M := (⟨"OfDifferentMinds", "noted", "(I)I"⟩, prog_1_method_23_code, 2, (some .int), 0, 2, 10, jm_l150)
theorem jm_ok150 : jx_okM 150 jm_i150 := ⟨by decide +kernel, rfl, by decide +kernel, ⟨by decide +kernel, by decide +kernel⟩, by decide +kernel, jx_mem (i := 680) (by decide +kernel) rfl, jx_mem (i := 106) (by decide +kernel) rfl, fun _ => ⟨jx_mem (i := 679) (by decide +kernel) rfl, jx_mem (i := 14) (by decide +kernel) rfl, by decide⟩, fun h => absurd h (by decide), fun h => absurd h (by decide), by decide, by decide, by decide, by decide +kernel, by decide +kernel⟩
-- OfDifferentMinds.areTwo(II)Z
def jm_b151_32 : List jx_E := (32, 70, (0, 0, 0, 0), 0, []) :: []
def jm_b151_31 : List jx_E := (31, 8, (0, 0, 0, 0), 0, []) :: jm_b151_32
def jm_b151_0 : List jx_E := (0, 2, (0, 0, 0, 0), 0, []) :: (1, 33, (10, 1, 0, 19), 0, []) :: (4, 0, (1, 0, 0, 0), 0, []) :: (5, 49, (31, 2, 3, 186), 0, []) :: (8, 55, (31, 0, 0, 0), 0, []) :: (11, 2, (0, 0, 0, 0), 0, []) :: (12, 33, (10, 1, 0, 19), 0, []) :: (15, 0, (2, 0, 0, 0), 0, []) :: (16, 49, (31, 2, 3, 186), 0, []) :: (19, 55, (31, 0, 0, 0), 0, []) :: (22, 0, (1, 0, 0, 0), 0, []) :: (23, 0, (2, 0, 0, 0), 0, []) :: (24, 61, (31, 0, 0, 0), 0, []) :: (27, 8, (0, 0, 0, 0), 1, []) :: (28, 54, (32, 0, 0, 0), 0, []) :: []
def jm_l151 : jx_B := [(0, jm_b151_0), (31, jm_b151_31), (32, jm_b151_32)]
def jm_i151 : jx_M := (⟨"OfDifferentMinds", "areTwo", "(II)Z"⟩, prog_1_method_24_code, 3, (some .boolean), 0, 3, 10, jm_l151)
theorem jm_ok151 : jx_okM 151 jm_i151 := ⟨by decide +kernel, rfl, by decide +kernel, ⟨by decide +kernel, by decide +kernel⟩, by decide +kernel, jx_mem (i := 663) (by decide +kernel) rfl, jx_mem (i := 106) (by decide +kernel) rfl, fun _ => ⟨jx_mem (i := 662) (by decide +kernel) rfl, jx_mem (i := 13) (by decide +kernel) rfl, by decide⟩, fun h => absurd h (by decide), fun h => absurd h (by decide), by decide, by decide, by decide, by decide +kernel, by decide +kernel⟩
-- OfDifferentMinds.getOn(II)I
def jm_b152_88 : List jx_E := (88, 69, (0, 0, 0, 0), 0, []) :: []
def jm_b152_87 : List jx_E := (87, 8, (0, 0, 0, 0), 0, []) :: jm_b152_88
def jm_b152_59 : List jx_E := (59, 2, (0, 0, 0, 0), 0, []) :: (60, 33, (10, 3, 0, 33), 0, []) :: (63, 0, (1, 0, 0, 0), 0, []) :: (64, 0, (2, 0, 0, 0), 0, []) :: (65, 49, (111, 3, 8, 281), 0, []) :: (68, 2, (0, 0, 0, 0), 0, []) :: (69, 0, (1, 0, 0, 0), 0, []) :: (70, 0, (3, 0, 0, 0), 0, []) :: (71, 49, (138, 3, 10, 200), 0, []) :: (74, 2, (0, 0, 0, 0), 0, []) :: (75, 0, (2, 0, 0, 0), 0, []) :: (76, 0, (3, 0, 0, 0), 0, []) :: (77, 49, (138, 3, 10, 200), 0, []) :: (80, 61, (87, 0, 0, 0), 0, []) :: (83, 8, (0, 0, 0, 0), 1, []) :: (84, 54, (88, 0, 0, 0), 0, []) :: []
def jm_b152_56 : List jx_E := (56, 9, (0, 0, 0, 0), (-3), []) :: (58, 69, (0, 0, 0, 0), 0, []) :: []
def jm_b152_24 : List jx_E := (24, 2, (0, 0, 0, 0), 0, []) :: (25, 33, (10, 3, 0, 33), 0, []) :: (28, 49, (103, 1, 8, 278), 0, []) :: (31, 4, (3, 0, 0, 0), 0, []) :: (32, 2, (0, 0, 0, 0), 0, []) :: (33, 33, (10, 3, 0, 33), 0, []) :: (36, 0, (1, 0, 0, 0), 0, []) :: (37, 49, (95, 2, 8, 183), 0, []) :: (40, 0, (3, 0, 0, 0), 0, []) :: (41, 62, (56, 0, 0, 0), 0, []) :: (44, 2, (0, 0, 0, 0), 0, []) :: (45, 33, (10, 3, 0, 33), 0, []) :: (48, 0, (2, 0, 0, 0), 0, []) :: (49, 49, (95, 2, 8, 183), 0, []) :: (52, 0, (3, 0, 0, 0), 0, []) :: (53, 61, (59, 0, 0, 0), 0, []) :: jm_b152_56
def jm_b152_11 : List jx_E := (11, 2, (0, 0, 0, 0), 0, []) :: (12, 33, (10, 3, 0, 33), 0, []) :: (15, 49, (109, 1, 8, 275), 0, []) :: (18, 55, (24, 0, 0, 0), 0, []) :: (21, 9, (0, 0, 0, 0), (-2), []) :: (23, 69, (0, 0, 0, 0), 0, []) :: []
def jm_b152_0 : List jx_E := (0, 2, (0, 0, 0, 0), 0, []) :: (1, 0, (1, 0, 0, 0), 0, []) :: (2, 0, (2, 0, 0, 0), 0, []) :: (3, 49, (151, 3, 10, 271), 0, []) :: (6, 56, (11, 0, 0, 0), 0, []) :: (9, 8, (0, 0, 0, 0), (-1), []) :: (10, 69, (0, 0, 0, 0), 0, []) :: []
def jm_l152 : jx_B := [(0, jm_b152_0), (11, jm_b152_11), (24, jm_b152_24), (56, jm_b152_56), (59, jm_b152_59), (87, jm_b152_87), (88, jm_b152_88)]
def jm_i152 : jx_M := (⟨"OfDifferentMinds", "getOn", "(II)I"⟩, prog_1_method_25_code, 4, (some .int), 0, 3, 10, jm_l152)
theorem jm_ok152 : jx_okM 152 jm_i152 := ⟨by decide +kernel, rfl, by decide +kernel, ⟨by decide +kernel, by decide +kernel⟩, by decide +kernel, jx_mem (i := 659) (by decide +kernel) rfl, jx_mem (i := 106) (by decide +kernel) rfl, fun _ => ⟨jx_mem (i := 658) (by decide +kernel) rfl, jx_mem (i := 12) (by decide +kernel) rfl, by decide⟩, fun h => absurd h (by decide), fun h => absurd h (by decide), by decide, by decide, by decide, by decide +kernel, by decide +kernel⟩
-- OfDifferentMinds.getOff()I
def jm_b153_13 : List jx_E := (13, 2, (0, 0, 0, 0), 0, []) :: (14, 33, (10, 3, 0, 33), 0, []) :: (17, 8, (0, 0, 0, 0), (-1), []) :: (18, 8, (0, 0, 0, 0), (-1), []) :: (19, 49, (111, 3, 8, 281), 0, []) :: (22, 2, (0, 0, 0, 0), 0, []) :: (23, 33, (10, 3, 0, 33), 0, []) :: (26, 49, (103, 1, 8, 278), 0, []) :: (29, 69, (0, 0, 0, 0), 0, []) :: []
def jm_b153_0 : List jx_E := (0, 2, (0, 0, 0, 0), 0, []) :: (1, 33, (10, 3, 0, 33), 0, []) :: (4, 49, (109, 1, 8, 275), 0, []) :: (7, 56, (13, 0, 0, 0), 0, []) :: (10, 9, (0, 0, 0, 0), (-2), []) :: (12, 69, (0, 0, 0, 0), 0, []) :: []
def jm_l153 : jx_B := [(0, jm_b153_0), (13, jm_b153_13)]
def jm_i153 : jx_M := (⟨"OfDifferentMinds", "getOff", "()I"⟩, prog_1_method_26_code, 1, (some .int), 0, 1, 10, jm_l153)
theorem jm_ok153 : jx_okM 153 jm_i153 := ⟨by decide +kernel, rfl, by decide +kernel, ⟨by decide +kernel, by decide +kernel⟩, by decide +kernel, jx_mem (i := 693) (by decide +kernel) rfl, jx_mem (i := 106) (by decide +kernel) rfl, fun _ => ⟨jx_mem (i := 692) (by decide +kernel) rfl, jx_mem (i := 15) (by decide +kernel) rfl, by decide⟩, fun h => absurd h (by decide), fun h => absurd h (by decide), by decide, by decide, by decide, by decide +kernel, by decide +kernel⟩
-- OfDifferentMinds.goOn(I)I
def jm_b154_25 : List jx_E := (25, 2, (0, 0, 0, 0), 0, []) :: (26, 33, (10, 6, 0, 56), 0, []) :: (29, 49, (51, 1, 5, 284), 0, []) :: (32, 2, (0, 0, 0, 0), 0, []) :: (33, 33, (10, 6, 0, 56), 0, []) :: (36, 0, (1, 0, 0, 0), 0, []) :: (37, 49, (64, 2, 5, 287), 0, []) :: (40, 2, (0, 0, 0, 0), 0, []) :: (41, 33, (10, 6, 0, 56), 0, []) :: (44, 49, (52, 1, 5, 290), 0, []) :: (47, 2, (0, 0, 0, 0), 0, []) :: (48, 33, (10, 6, 0, 56), 0, []) :: (51, 49, (54, 1, 5, 293), 0, []) :: (54, 69, (0, 0, 0, 0), 0, []) :: []
def jm_b154_12 : List jx_E := (12, 2, (0, 0, 0, 0), 0, []) :: (13, 33, (10, 3, 0, 33), 0, []) :: (16, 49, (109, 1, 8, 275), 0, []) :: (19, 56, (25, 0, 0, 0), 0, []) :: (22, 9, (0, 0, 0, 0), (-2), []) :: (24, 69, (0, 0, 0, 0), 0, []) :: []
def jm_b154_10 : List jx_E := (10, 8, (0, 0, 0, 0), (-1), []) :: (11, 69, (0, 0, 0, 0), 0, []) :: []
def jm_b154_0 : List jx_E := (0, 0, (1, 0, 0, 0), 0, []) :: (1, 57, (10, 0, 0, 0), 0, []) :: (4, 0, (1, 0, 0, 0), 0, []) :: (5, 9, (0, 0, 0, 0), 99, []) :: (7, 66, (12, 0, 0, 0), 0, []) :: jm_b154_10
def jm_l154 : jx_B := [(0, jm_b154_0), (10, jm_b154_10), (12, jm_b154_12), (25, jm_b154_25)]
def jm_i154 : jx_M := (⟨"OfDifferentMinds", "goOn", "(I)I"⟩, prog_1_method_27_code, 2, (some .int), 0, 2, 10, jm_l154)
theorem jm_ok154 : jx_okM 154 jm_i154 := ⟨by decide +kernel, rfl, by decide +kernel, ⟨by decide +kernel, by decide +kernel⟩, by decide +kernel, jx_mem (i := 701) (by decide +kernel) rfl, jx_mem (i := 106) (by decide +kernel) rfl, fun _ => ⟨jx_mem (i := 700) (by decide +kernel) rfl, jx_mem (i := 16) (by decide +kernel) rfl, by decide⟩, fun h => absurd h (by decide), fun h => absurd h (by decide), by decide, by decide, by decide, by decide +kernel, by decide +kernel⟩
-- OfDifferentMinds.goAfoot(II)I
def jm_b155_52 : List jx_E := (52, 2, (0, 0, 0, 0), 0, []) :: (53, 33, (10, 3, 0, 33), 0, []) :: (56, 0, (1, 0, 0, 0), 0, []) :: (57, 0, (3, 0, 0, 0), 0, []) :: (58, 49, (96, 3, 8, 296), 0, []) :: (61, 0, (3, 0, 0, 0), 0, []) :: (62, 69, (0, 0, 0, 0), 0, []) :: []
def jm_b155_27 : List jx_E := (27, 2, (0, 0, 0, 0), 0, []) :: (28, 33, (10, 1, 0, 19), 0, []) :: (31, 2, (0, 0, 0, 0), 0, []) :: (32, 33, (10, 3, 0, 33), 0, []) :: (35, 0, (1, 0, 0, 0), 0, []) :: (36, 49, (95, 2, 8, 183), 0, []) :: (39, 0, (2, 0, 0, 0), 0, []) :: (40, 49, (35, 3, 3, 180), 0, []) :: (43, 4, (3, 0, 0, 0), 0, []) :: (44, 0, (3, 0, 0, 0), 0, []) :: (45, 8, (0, 0, 0, 0), (-1), []) :: (46, 62, (52, 0, 0, 0), 0, []) :: (49, 9, (0, 0, 0, 0), (-3), []) :: (51, 69, (0, 0, 0, 0), 0, []) :: []
def jm_b155_13 : List jx_E := (13, 2, (0, 0, 0, 0), 0, []) :: (14, 33, (10, 3, 0, 33), 0, []) :: (17, 0, (1, 0, 0, 0), 0, []) :: (18, 49, (110, 2, 8, 203), 0, []) :: (21, 55, (27, 0, 0, 0), 0, []) :: (24, 9, (0, 0, 0, 0), (-2), []) :: (26, 69, (0, 0, 0, 0), 0, []) :: []
def jm_b155_0 : List jx_E := (0, 2, (0, 0, 0, 0), 0, []) :: (1, 33, (10, 1, 0, 19), 0, []) :: (4, 0, (1, 0, 0, 0), 0, []) :: (5, 49, (31, 2, 3, 186), 0, []) :: (8, 56, (13, 0, 0, 0), 0, []) :: (11, 8, (0, 0, 0, 0), (-1), []) :: (12, 69, (0, 0, 0, 0), 0, []) :: []
def jm_l155 : jx_B := [(0, jm_b155_0), (13, jm_b155_13), (27, jm_b155_27), (52, jm_b155_52)]
def jm_i155 : jx_M := (⟨"OfDifferentMinds", "goAfoot", "(II)I"⟩, prog_1_method_28_code, 4, (some .int), 0, 3, 10, jm_l155)
theorem jm_ok155 : jx_okM 155 jm_i155 := ⟨by decide +kernel, rfl, by decide +kernel, ⟨by decide +kernel, by decide +kernel⟩, by decide +kernel, jx_mem (i := 826) (by decide +kernel) rfl, jx_mem (i := 106) (by decide +kernel) rfl, fun _ => ⟨jx_mem (i := 825) (by decide +kernel) rfl, jx_mem (i := 20) (by decide +kernel) rfl, by decide⟩, fun h => absurd h (by decide), fun h => absurd h (by decide), by decide, by decide, by decide, by decide +kernel, by decide +kernel⟩
-- OfDifferentMinds.goLeading(II)I
def jm_b156_71 : List jx_E := (71, 2, (0, 0, 0, 0), 0, []) :: (72, 33, (10, 3, 0, 33), 0, []) :: (75, 0, (1, 0, 0, 0), 0, []) :: (76, 0, (3, 0, 0, 0), 0, []) :: (77, 49, (96, 3, 8, 296), 0, []) :: (80, 2, (0, 0, 0, 0), 0, []) :: (81, 33, (10, 3, 0, 33), 0, []) :: (84, 0, (3, 0, 0, 0), 0, []) :: (85, 49, (104, 2, 8, 299), 0, []) :: (88, 0, (3, 0, 0, 0), 0, []) :: (89, 69, (0, 0, 0, 0), 0, []) :: []
def jm_b156_50 : List jx_E := (50, 2, (0, 0, 0, 0), 0, []) :: (51, 33, (10, 3, 0, 33), 0, []) :: (54, 0, (1, 0, 0, 0), 0, []) :: (55, 49, (95, 2, 8, 183), 0, []) :: (58, 2, (0, 0, 0, 0), 0, []) :: (59, 33, (10, 3, 0, 33), 0, []) :: (62, 49, (103, 1, 8, 278), 0, []) :: (65, 61, (71, 0, 0, 0), 0, []) :: (68, 9, (0, 0, 0, 0), (-4), []) :: (70, 69, (0, 0, 0, 0), 0, []) :: []
def jm_b156_26 : List jx_E := (26, 2, (0, 0, 0, 0), 0, []) :: (27, 33, (10, 1, 0, 19), 0, []) :: (30, 2, (0, 0, 0, 0), 0, []) :: (31, 33, (10, 3, 0, 33), 0, []) :: (34, 49, (103, 1, 8, 278), 0, []) :: (37, 0, (2, 0, 0, 0), 0, []) :: (38, 49, (35, 3, 3, 180), 0, []) :: (41, 4, (3, 0, 0, 0), 0, []) :: (42, 0, (3, 0, 0, 0), 0, []) :: (43, 8, (0, 0, 0, 0), (-1), []) :: (44, 62, (50, 0, 0, 0), 0, []) :: (47, 9, (0, 0, 0, 0), (-3), []) :: (49, 69, (0, 0, 0, 0), 0, []) :: []
def jm_b156_13 : List jx_E := (13, 2, (0, 0, 0, 0), 0, []) :: (14, 33, (10, 3, 0, 33), 0, []) :: (17, 49, (109, 1, 8, 275), 0, []) :: (20, 55, (26, 0, 0, 0), 0, []) :: (23, 9, (0, 0, 0, 0), (-2), []) :: (25, 69, (0, 0, 0, 0), 0, []) :: []
def jm_b156_0 : List jx_E := (0, 2, (0, 0, 0, 0), 0, []) :: (1, 33, (10, 1, 0, 19), 0, []) :: (4, 0, (1, 0, 0, 0), 0, []) :: (5, 49, (31, 2, 3, 186), 0, []) :: (8, 56, (13, 0, 0, 0), 0, []) :: (11, 8, (0, 0, 0, 0), (-1), []) :: (12, 69, (0, 0, 0, 0), 0, []) :: []
def jm_l156 : jx_B := [(0, jm_b156_0), (13, jm_b156_13), (26, jm_b156_26), (50, jm_b156_50), (71, jm_b156_71)]
def jm_i156 : jx_M := (⟨"OfDifferentMinds", "goLeading", "(II)I"⟩, prog_1_method_29_code, 4, (some .int), 0, 3, 10, jm_l156)
theorem jm_ok156 : jx_okM 156 jm_i156 := ⟨by decide +kernel, rfl, by decide +kernel, ⟨by decide +kernel, by decide +kernel⟩, by decide +kernel, jx_mem (i := 840) (by decide +kernel) rfl, jx_mem (i := 106) (by decide +kernel) rfl, fun _ => ⟨jx_mem (i := 839) (by decide +kernel) rfl, jx_mem (i := 21) (by decide +kernel) rfl, by decide⟩, fun h => absurd h (by decide), fun h => absurd h (by decide), by decide, by decide, by decide, by decide +kernel, by decide +kernel⟩
-- OfDifferentMinds.sleep(I)I
def jm_b157_45 : List jx_E := (45, 2, (0, 0, 0, 0), 0, []) :: (46, 33, (10, 3, 0, 33), 0, []) :: (49, 0, (1, 0, 0, 0), 0, []) :: (50, 49, (93, 2, 8, 194), 0, []) :: (53, 4, (2, 0, 0, 0), 0, []) :: (54, 2, (0, 0, 0, 0), 0, []) :: (55, 33, (10, 3, 0, 33), 0, []) :: (58, 0, (1, 0, 0, 0), 0, []) :: (59, 8, (0, 0, 0, 0), 0, []) :: (60, 49, (94, 3, 8, 224), 0, []) :: (63, 2, (0, 0, 0, 0), 0, []) :: (64, 33, (10, 3, 0, 33), 0, []) :: (67, 0, (1, 0, 0, 0), 0, []) :: (68, 8, (0, 0, 0, 0), (-1), []) :: (69, 49, (98, 3, 8, 302), 0, []) :: (72, 0, (2, 0, 0, 0), 0, []) :: (73, 69, (0, 0, 0, 0), 0, []) :: []
def jm_b157_42 : List jx_E := (42, 9, (0, 0, 0, 0), (-2), []) :: (44, 69, (0, 0, 0, 0), 0, []) :: []
def jm_b157_13 : List jx_E := (13, 2, (0, 0, 0, 0), 0, []) :: (14, 33, (10, 3, 0, 33), 0, []) :: (17, 0, (1, 0, 0, 0), 0, []) :: (18, 49, (110, 2, 8, 203), 0, []) :: (21, 56, (42, 0, 0, 0), 0, []) :: (24, 2, (0, 0, 0, 0), 0, []) :: (25, 33, (10, 1, 0, 19), 0, []) :: (28, 2, (0, 0, 0, 0), 0, []) :: (29, 33, (10, 3, 0, 33), 0, []) :: (32, 0, (1, 0, 0, 0), 0, []) :: (33, 49, (95, 2, 8, 183), 0, []) :: (36, 49, (34, 2, 3, 174), 0, []) :: (39, 56, (45, 0, 0, 0), 0, []) :: jm_b157_42
def jm_b157_0 : List jx_E := (0, 2, (0, 0, 0, 0), 0, []) :: (1, 33, (10, 1, 0, 19), 0, []) :: (4, 0, (1, 0, 0, 0), 0, []) :: (5, 49, (31, 2, 3, 186), 0, []) :: (8, 56, (13, 0, 0, 0), 0, []) :: (11, 8, (0, 0, 0, 0), (-1), []) :: (12, 69, (0, 0, 0, 0), 0, []) :: []
def jm_l157 : jx_B := [(0, jm_b157_0), (13, jm_b157_13), (42, jm_b157_42), (45, jm_b157_45)]
def jm_i157 : jx_M := (⟨"OfDifferentMinds", "sleep", "(I)I"⟩, prog_1_method_30_code, 3, (some .int), 0, 2, 10, jm_l157)
theorem jm_ok157 : jx_okM 157 jm_i157 := ⟨by decide +kernel, rfl, by decide +kernel, ⟨by decide +kernel, by decide +kernel⟩, by decide +kernel, jx_mem (i := 849) (by decide +kernel) rfl, jx_mem (i := 106) (by decide +kernel) rfl, fun _ => ⟨jx_mem (i := 848) (by decide +kernel) rfl, jx_mem (i := 22) (by decide +kernel) rfl, by decide⟩, fun h => absurd h (by decide), fun h => absurd h (by decide), by decide, by decide, by decide, by decide +kernel, by decide +kernel⟩
-- OfDifferentMinds.changeMaps(II)I
def jm_b158_125 : List jx_E := (125, 2, (0, 0, 0, 0), 0, []) :: (126, 33, (10, 3, 0, 33), 0, []) :: (129, 0, (1, 0, 0, 0), 0, []) :: (130, 0, (2, 0, 0, 0), 0, []) :: (131, 49, (102, 3, 8, 308), 0, []) :: (134, 1, (4, 0, 0, 0), 0, []) :: (136, 69, (0, 0, 0, 0), 0, []) :: []
def jm_b158_116 : List jx_E := (116, 14, (0, 0, 0, 0), 0, []) :: (117, 5, (4, 0, 0, 0), 0, []) :: (119, 13, (5, 0, 0, 0), 1, []) :: (122, 54, (74, 0, 0, 0), 0, []) :: []
def jm_b158_115 : List jx_E := (115, 8, (0, 0, 0, 0), 0, []) :: jm_b158_116
def jm_b158_74 : List jx_E := (74, 1, (5, 0, 0, 0), 0, []) :: (76, 2, (0, 0, 0, 0), 0, []) :: (77, 33, (10, 1, 0, 19), 0, []) :: (80, 49, (27, 1, 3, 115), 0, []) :: (83, 64, (125, 0, 0, 0), 0, []) :: (86, 1, (4, 0, 0, 0), 0, []) :: (88, 2, (0, 0, 0, 0), 0, []) :: (89, 33, (10, 3, 0, 33), 0, []) :: (92, 0, (1, 0, 0, 0), 0, []) :: (93, 1, (5, 0, 0, 0), 0, []) :: (95, 49, (101, 3, 8, 305), 0, []) :: (98, 2, (0, 0, 0, 0), 0, []) :: (99, 33, (10, 3, 0, 33), 0, []) :: (102, 0, (2, 0, 0, 0), 0, []) :: (103, 1, (5, 0, 0, 0), 0, []) :: (105, 49, (101, 3, 8, 305), 0, []) :: (108, 61, (115, 0, 0, 0), 0, []) :: (111, 8, (0, 0, 0, 0), 1, []) :: (112, 54, (116, 0, 0, 0), 0, []) :: []
def jm_b158_68 : List jx_E := (68, 8, (0, 0, 0, 0), 0, []) :: (69, 5, (4, 0, 0, 0), 0, []) :: (71, 8, (0, 0, 0, 0), 0, []) :: (72, 5, (5, 0, 0, 0), 0, []) :: jm_b158_74
def jm_b158_65 : List jx_E := (65, 9, (0, 0, 0, 0), (-2), []) :: (67, 69, (0, 0, 0, 0), 0, []) :: []
def jm_b158_11 : List jx_E := (11, 2, (0, 0, 0, 0), 0, []) :: (12, 33, (10, 3, 0, 33), 0, []) :: (15, 0, (1, 0, 0, 0), 0, []) :: (16, 49, (95, 2, 8, 183), 0, []) :: (19, 4, (3, 0, 0, 0), 0, []) :: (20, 2, (0, 0, 0, 0), 0, []) :: (21, 33, (10, 3, 0, 33), 0, []) :: (24, 0, (2, 0, 0, 0), 0, []) :: (25, 49, (95, 2, 8, 183), 0, []) :: (28, 0, (3, 0, 0, 0), 0, []) :: (29, 62, (65, 0, 0, 0), 0, []) :: (32, 2, (0, 0, 0, 0), 0, []) :: (33, 33, (10, 1, 0, 19), 0, []) :: (36, 0, (3, 0, 0, 0), 0, []) :: (37, 49, (34, 2, 3, 174), 0, []) :: (40, 55, (65, 0, 0, 0), 0, []) :: (43, 2, (0, 0, 0, 0), 0, []) :: (44, 33, (10, 3, 0, 33), 0, []) :: (47, 0, (1, 0, 0, 0), 0, []) :: (48, 49, (110, 2, 8, 203), 0, []) :: (51, 56, (65, 0, 0, 0), 0, []) :: (54, 2, (0, 0, 0, 0), 0, []) :: (55, 33, (10, 3, 0, 33), 0, []) :: (58, 0, (2, 0, 0, 0), 0, []) :: (59, 49, (110, 2, 8, 203), 0, []) :: (62, 55, (68, 0, 0, 0), 0, []) :: jm_b158_65
def jm_b158_0 : List jx_E := (0, 2, (0, 0, 0, 0), 0, []) :: (1, 0, (1, 0, 0, 0), 0, []) :: (2, 0, (2, 0, 0, 0), 0, []) :: (3, 49, (151, 3, 10, 271), 0, []) :: (6, 56, (11, 0, 0, 0), 0, []) :: (9, 8, (0, 0, 0, 0), (-1), []) :: (10, 69, (0, 0, 0, 0), 0, []) :: []
def jm_l158 : jx_B := [(0, jm_b158_0), (11, jm_b158_11), (65, jm_b158_65), (68, jm_b158_68), (74, jm_b158_74), (115, jm_b158_115), (116, jm_b158_116), (125, jm_b158_125)]
def jm_i158 : jx_M := (⟨"OfDifferentMinds", "changeMaps", "(II)I"⟩, prog_1_method_31_code, 6, (some .int), 0, 3, 10, jm_l158)
theorem jm_ok158 : jx_okM 158 jm_i158 := ⟨by decide +kernel, rfl, by decide +kernel, ⟨by decide +kernel, by decide +kernel⟩, by decide +kernel, jx_mem (i := 862) (by decide +kernel) rfl, jx_mem (i := 106) (by decide +kernel) rfl, fun _ => ⟨jx_mem (i := 861) (by decide +kernel) rfl, jx_mem (i := 23) (by decide +kernel) rfl, by decide⟩, fun h => absurd h (by decide), fun h => absurd h (by decide), by decide, by decide, by decide, by decide +kernel, by decide +kernel⟩
-- OfDifferentMinds.journey()I
def jm_b159_222 : List jx_E := (222, 0, (3, 0, 0, 0), 0, []) :: (223, 49, (71, 3, 6, 320), 0, []) :: (226, 0, (2, 0, 0, 0), 0, []) :: (227, 69, (0, 0, 0, 0), 0, []) :: []
def jm_b159_221 : List jx_E := (221, 8, (0, 0, 0, 0), 0, []) :: jm_b159_222
def jm_b159_201 : List jx_E := (201, 2, (0, 0, 0, 0), 0, []) :: (202, 33, (10, 0, 0, 10), 0, []) :: (205, 49, (117, 1, 9, 114), 0, []) :: (208, 2, (0, 0, 0, 0), 0, []) :: (209, 33, (10, 5, 0, 47), 0, []) :: (212, 1, (4, 0, 0, 0), 0, []) :: (214, 55, (221, 0, 0, 0), 0, []) :: (217, 8, (0, 0, 0, 0), 1, []) :: (218, 54, (222, 0, 0, 0), 0, []) :: []
def jm_b159_190 : List jx_E := (190, 0, (2, 0, 0, 0), 0, []) :: (191, 60, (201, 0, 0, 0), 0, []) :: (194, 2, (0, 0, 0, 0), 0, []) :: (195, 33, (10, 4, 0, 40), 0, []) :: (198, 49, (22, 1, 2, 243), 0, []) :: jm_b159_201
def jm_b159_182 : List jx_E := (182, 14, (0, 0, 0, 0), 0, []) :: (183, 4, (3, 0, 0, 0), 0, []) :: (184, 13, (5, 0, 0, 0), 1, []) :: (187, 54, (54, 0, 0, 0), 0, []) :: []
def jm_b159_180 : List jx_E := (180, 1, (9, 0, 0, 0), 0, []) :: jm_b159_182
def jm_b159_176 : List jx_E := (176, 8, (0, 0, 0, 0), 0, []) :: (177, 54, (182, 0, 0, 0), 0, []) :: []
def jm_b159_161 : List jx_E := (161, 14, (0, 0, 0, 0), 0, []) :: (162, 4, (2, 0, 0, 0), 0, []) :: (163, 0, (3, 0, 0, 0), 0, []) :: (164, 1, (4, 0, 0, 0), 0, []) :: (166, 56, (176, 0, 0, 0), 0, []) :: (169, 1, (6, 0, 0, 0), 0, []) :: (171, 9, (0, 0, 0, 0), 114, []) :: (173, 61, (180, 0, 0, 0), 0, []) :: jm_b159_176
def jm_b159_160 : List jx_E := (160, 8, (0, 0, 0, 0), 1, []) :: jm_b159_161
def jm_b159_148 : List jx_E := (148, 5, (4, 0, 0, 0), 0, []) :: (150, 0, (2, 0, 0, 0), 0, []) :: (151, 1, (4, 0, 0, 0), 0, []) :: (153, 55, (160, 0, 0, 0), 0, []) :: (156, 8, (0, 0, 0, 0), 0, []) :: (157, 54, (161, 0, 0, 0), 0, []) :: []
def jm_b159_147 : List jx_E := (147, 8, (0, 0, 0, 0), 0, []) :: jm_b159_148
def jm_b159_101 : List jx_E := (101, 49, (126, 2, 9, 140), 0, []) :: (104, 5, (7, 0, 0, 0), 0, []) :: (106, 2, (0, 0, 0, 0), 0, []) :: (107, 33, (10, 0, 0, 10), 0, []) :: (110, 8, (0, 0, 0, 0), 1, []) :: (111, 49, (126, 2, 9, 140), 0, []) :: (114, 5, (8, 0, 0, 0), 0, []) :: (116, 2, (0, 0, 0, 0), 0, []) :: (117, 33, (10, 0, 0, 10), 0, []) :: (120, 9, (0, 0, 0, 0), 59, []) :: (122, 49, (124, 2, 9, 143), 0, []) :: (125, 31, (0, 0, 0, 0), 0, []) :: (126, 2, (0, 0, 0, 0), 0, []) :: (127, 1, (6, 0, 0, 0), 0, []) :: (129, 1, (7, 0, 0, 0), 0, []) :: (131, 1, (8, 0, 0, 0), 0, []) :: (133, 49, (160, 4, 10, 316), 0, []) :: (136, 5, (9, 0, 0, 0), 0, []) :: (138, 1, (9, 0, 0, 0), 0, []) :: (140, 58, (147, 0, 0, 0), 0, []) :: (143, 8, (0, 0, 0, 0), 1, []) :: (144, 54, (148, 0, 0, 0), 0, []) :: []
def jm_b159_100 : List jx_E := (100, 8, (0, 0, 0, 0), 1, []) :: jm_b159_101
def jm_b159_54 : List jx_E := (54, 1, (5, 0, 0, 0), 0, []) :: (56, 9, (0, 0, 0, 0), 60, []) :: (58, 64, (190, 0, 0, 0), 0, []) :: (61, 1, (4, 0, 0, 0), 0, []) :: (63, 56, (190, 0, 0, 0), 0, []) :: (66, 2, (0, 0, 0, 0), 0, []) :: (67, 33, (10, 0, 0, 10), 0, []) :: (70, 49, (121, 1, 9, 136), 0, []) :: (73, 56, (190, 0, 0, 0), 0, []) :: (76, 2, (0, 0, 0, 0), 0, []) :: (77, 33, (10, 0, 0, 10), 0, []) :: (80, 49, (123, 1, 9, 313), 0, []) :: (83, 5, (6, 0, 0, 0), 0, []) :: (85, 2, (0, 0, 0, 0), 0, []) :: (86, 33, (10, 0, 0, 10), 0, []) :: (89, 1, (6, 0, 0, 0), 0, []) :: (91, 9, (0, 0, 0, 0), 114, []) :: (93, 62, (100, 0, 0, 0), 0, []) :: (96, 8, (0, 0, 0, 0), 2, []) :: (97, 54, (101, 0, 0, 0), 0, []) :: []
def jm_b159_24 : List jx_E := (24, 2, (0, 0, 0, 0), 0, []) :: (25, 33, (10, 4, 0, 40), 0, []) :: (28, 2, (0, 0, 0, 0), 0, []) :: (29, 33, (10, 3, 0, 33), 0, []) :: (32, 49, (21, 2, 2, 227), 0, []) :: (35, 2, (0, 0, 0, 0), 0, []) :: (36, 33, (10, 0, 0, 10), 0, []) :: (39, 9, (0, 0, 0, 0), 60, []) :: (41, 49, (118, 2, 9, 132), 0, []) :: (44, 8, (0, 0, 0, 0), 0, []) :: (45, 4, (2, 0, 0, 0), 0, []) :: (46, 8, (0, 0, 0, 0), 0, []) :: (47, 4, (3, 0, 0, 0), 0, []) :: (48, 8, (0, 0, 0, 0), 0, []) :: (49, 5, (4, 0, 0, 0), 0, []) :: (51, 8, (0, 0, 0, 0), 0, []) :: (52, 5, (5, 0, 0, 0), 0, []) :: jm_b159_54
def jm_b159_0 : List jx_E := (0, 2, (0, 0, 0, 0), 0, []) :: (1, 33, (10, 0, 0, 10), 0, []) :: (4, 50, (15, 1, 0, 310), 0, []) :: (7, 4, (1, 0, 0, 0), 0, []) :: (8, 0, (1, 0, 0, 0), 0, []) :: (9, 8, (0, 0, 0, 0), (-1), []) :: (10, 61, (24, 0, 0, 0), 0, []) :: (13, 2, (0, 0, 0, 0), 0, []) :: (14, 33, (10, 0, 0, 10), 0, []) :: (17, 49, (117, 1, 9, 114), 0, []) :: (20, 8, (0, 0, 0, 0), (-1), []) :: (21, 0, (1, 0, 0, 0), 0, []) :: (22, 15, (0, 0, 0, 0), 0, []) :: (23, 69, (0, 0, 0, 0), 0, []) :: []
def jm_l159 : jx_B := [(0, jm_b159_0), (24, jm_b159_24), (54, jm_b159_54), (100, jm_b159_100), (101, jm_b159_101), (147, jm_b159_147), (148, jm_b159_148), (160, jm_b159_160), (161, jm_b159_161), (176, jm_b159_176), (180, jm_b159_180), (182, jm_b159_182), (190, jm_b159_190), (201, jm_b159_201), (221, jm_b159_221), (222, jm_b159_222)]
def jm_i159 : jx_M := (⟨"OfDifferentMinds", "journey", "()I"⟩, prog_1_method_32_code, 10, (some .int), 0, 1, 10, jm_l159)
theorem jm_ok159 : jx_okM 159 jm_i159 := ⟨by decide +kernel, rfl, by decide +kernel, ⟨by decide +kernel, by decide +kernel⟩, by decide +kernel, jx_mem (i := 874) (by decide +kernel) rfl, jx_mem (i := 106) (by decide +kernel) rfl, fun _ => ⟨jx_mem (i := 872) (by decide +kernel) rfl, jx_mem (i := 873) (by decide +kernel) rfl, by decide⟩, fun h => absurd h (by decide), fun h => absurd h (by decide), by decide, by decide, by decide, by decide +kernel, by decide +kernel⟩
end
section
/-! ===== methods 160 .. as entries ===== -/
-- OfDifferentMinds.act(III)I
def jm_b160_153 : List jx_E := (153, 8, (0, 0, 0, 0), (-1), []) :: (154, 69, (0, 0, 0, 0), 0, []) :: []
def jm_b160_146 : List jx_E := (146, 2, (0, 0, 0, 0), 0, []) :: (147, 0, (2, 0, 0, 0), 0, []) :: (148, 0, (3, 0, 0, 0), 0, []) :: (149, 49, (158, 3, 10, 268), 0, []) :: (152, 69, (0, 0, 0, 0), 0, []) :: []
def jm_b160_140 : List jx_E := (140, 2, (0, 0, 0, 0), 0, []) :: (141, 0, (2, 0, 0, 0), 0, []) :: (142, 49, (157, 2, 10, 265), 0, []) :: (145, 69, (0, 0, 0, 0), 0, []) :: []
def jm_b160_133 : List jx_E := (133, 2, (0, 0, 0, 0), 0, []) :: (134, 0, (2, 0, 0, 0), 0, []) :: (135, 0, (3, 0, 0, 0), 0, []) :: (136, 49, (156, 3, 10, 262), 0, []) :: (139, 69, (0, 0, 0, 0), 0, []) :: []
def jm_b160_126 : List jx_E := (126, 2, (0, 0, 0, 0), 0, []) :: (127, 0, (2, 0, 0, 0), 0, []) :: (128, 0, (3, 0, 0, 0), 0, []) :: (129, 49, (155, 3, 10, 259), 0, []) :: (132, 69, (0, 0, 0, 0), 0, []) :: []
def jm_b160_120 : List jx_E := (120, 2, (0, 0, 0, 0), 0, []) :: (121, 0, (2, 0, 0, 0), 0, []) :: (122, 49, (154, 2, 10, 240), 0, []) :: (125, 69, (0, 0, 0, 0), 0, []) :: []
def jm_b160_115 : List jx_E := (115, 2, (0, 0, 0, 0), 0, []) :: (116, 49, (153, 1, 10, 237), 0, []) :: (119, 69, (0, 0, 0, 0), 0, []) :: []
def jm_b160_108 : List jx_E := (108, 2, (0, 0, 0, 0), 0, []) :: (109, 0, (2, 0, 0, 0), 0, []) :: (110, 0, (3, 0, 0, 0), 0, []) :: (111, 49, (152, 3, 10, 231), 0, []) :: (114, 69, (0, 0, 0, 0), 0, []) :: []
def jm_b160_0 : List jx_E := (0, 0, (1, 0, 0, 0), 0, []) :: (1, 67, (153, 0, 0, 107), 100, [(100, 115), (101, 153), (102, 153), (103, 153), (104, 153), (105, 153), (106, 153), (107, 153), (108, 133), (109, 108), (110, 153), (111, 153), (112, 153), (113, 153), (114, 120), (115, 153), (116, 153), (117, 153), (118, 153), (119, 126), (120, 146), (121, 153), (122, 140)]) :: []
def jm_l160 : jx_B := [(0, jm_b160_0), (108, jm_b160_108), (115, jm_b160_115), (120, jm_b160_120), (126, jm_b160_126), (133, jm_b160_133), (140, jm_b160_140), (146, jm_b160_146), (153, jm_b160_153)]
def jm_i160 : jx_M := (⟨"OfDifferentMinds", "act", "(III)I"⟩, prog_1_method_33_code, 4, (some .int), 0, 4, 10, jm_l160)
theorem jm_ok160 : jx_okM 160 jm_i160 := ⟨by decide +kernel, rfl, by decide +kernel, ⟨by decide +kernel, by decide +kernel⟩, by decide +kernel, jx_mem (i := 887) (by decide +kernel) rfl, jx_mem (i := 106) (by decide +kernel) rfl, fun _ => ⟨jx_mem (i := 886) (by decide +kernel) rfl, jx_mem (i := 24) (by decide +kernel) rfl, by decide⟩, fun h => absurd h (by decide), fun h => absurd h (by decide), by decide, by decide, by decide, by decide +kernel, by decide +kernel⟩
-- OfDifferentMinds.undo()I
def jm_b161_16 : List jx_E := (16, 2, (0, 0, 0, 0), 0, []) :: (17, 49, (142, 1, 10, 218), 0, []) :: (20, 2, (0, 0, 0, 0), 0, []) :: (21, 33, (10, 4, 0, 40), 0, []) :: (24, 49, (19, 1, 2, 326), 0, []) :: (27, 69, (0, 0, 0, 0), 0, []) :: []
def jm_b161_0 : List jx_E := (0, 2, (0, 0, 0, 0), 0, []) :: (1, 33, (10, 4, 0, 40), 0, []) :: (4, 2, (0, 0, 0, 0), 0, []) :: (5, 33, (10, 3, 0, 33), 0, []) :: (8, 49, (23, 2, 2, 322), 0, []) :: (11, 56, (16, 0, 0, 0), 0, []) :: (14, 8, (0, 0, 0, 0), (-1), []) :: (15, 69, (0, 0, 0, 0), 0, []) :: []
def jm_l161 : jx_B := [(0, jm_b161_0), (16, jm_b161_16)]
def jm_i161 : jx_M := (⟨"OfDifferentMinds", "undo", "()I"⟩, prog_1_method_34_code, 1, (some .int), 0, 1, 10, jm_l161)
theorem jm_ok161 : jx_okM 161 jm_i161 := ⟨by decide +kernel, rfl, by decide +kernel, ⟨by decide +kernel, by decide +kernel⟩, by decide +kernel, jx_mem (i := 895) (by decide +kernel) rfl, jx_mem (i := 106) (by decide +kernel) rfl, fun _ => ⟨jx_mem (i := 893) (by decide +kernel) rfl, jx_mem (i := 894) (by decide +kernel) rfl, by decide⟩, fun h => absurd h (by decide), fun h => absurd h (by decide), by decide, by decide, by decide, by decide +kernel, by decide +kernel⟩
-- OfDifferentMinds.where(I)I
def jm_b162_81 : List jx_E := (81, 49, (71, 3, 6, 320), 0, []) :: (84, 2, (0, 0, 0, 0), 0, []) :: (85, 33, (10, 6, 0, 56), 0, []) :: (88, 49, (53, 1, 5, 246), 0, []) :: (91, 69, (0, 0, 0, 0), 0, []) :: []
def jm_b162_80 : List jx_E := (80, 8, (0, 0, 0, 0), 0, []) :: jm_b162_81
def jm_b162_40 : List jx_E := (40, 2, (0, 0, 0, 0), 0, []) :: (41, 33, (10, 6, 0, 56), 0, []) :: (44, 49, (51, 1, 5, 284), 0, []) :: (47, 2, (0, 0, 0, 0), 0, []) :: (48, 33, (10, 6, 0, 56), 0, []) :: (51, 0, (1, 0, 0, 0), 0, []) :: (52, 49, (64, 2, 5, 287), 0, []) :: (55, 2, (0, 0, 0, 0), 0, []) :: (56, 33, (10, 5, 0, 47), 0, []) :: (59, 2, (0, 0, 0, 0), 0, []) :: (60, 33, (10, 6, 0, 56), 0, []) :: (63, 49, (54, 1, 5, 293), 0, []) :: (66, 2, (0, 0, 0, 0), 0, []) :: (67, 33, (10, 6, 0, 56), 0, []) :: (70, 49, (56, 1, 5, 249), 0, []) :: (73, 55, (80, 0, 0, 0), 0, []) :: (76, 8, (0, 0, 0, 0), 1, []) :: (77, 54, (81, 0, 0, 0), 0, []) :: []
def jm_b162_13 : List jx_E := (13, 2, (0, 0, 0, 0), 0, []) :: (14, 33, (10, 3, 0, 33), 0, []) :: (17, 49, (109, 1, 8, 275), 0, []) :: (20, 56, (40, 0, 0, 0), 0, []) :: (23, 2, (0, 0, 0, 0), 0, []) :: (24, 33, (10, 5, 0, 47), 0, []) :: (27, 8, (0, 0, 0, 0), 0, []) :: (28, 8, (0, 0, 0, 0), 1, []) :: (29, 49, (71, 3, 6, 320), 0, []) :: (32, 2, (0, 0, 0, 0), 0, []) :: (33, 33, (10, 3, 0, 33), 0, []) :: (36, 49, (103, 1, 8, 278), 0, []) :: (39, 69, (0, 0, 0, 0), 0, []) :: []
def jm_b162_11 : List jx_E := (11, 8, (0, 0, 0, 0), (-1), []) :: (12, 69, (0, 0, 0, 0), 0, []) :: []
def jm_b162_0 : List jx_E := (0, 0, (1, 0, 0, 0), 0, []) :: (1, 57, (11, 0, 0, 0), 0, []) :: (4, 0, (1, 0, 0, 0), 0, []) :: (5, 10, (0, 0, 0, 0), 200, []) :: (8, 66, (13, 0, 0, 0), 0, []) :: jm_b162_11
def jm_l162 : jx_B := [(0, jm_b162_0), (11, jm_b162_11), (13, jm_b162_13), (40, jm_b162_40), (80, jm_b162_80), (81, jm_b162_81)]
def jm_i162 : jx_M := (⟨"OfDifferentMinds", "where", "(I)I"⟩, prog_1_method_35_code, 2, (some .int), 0, 2, 10, jm_l162)
theorem jm_ok162 : jx_okM 162 jm_i162 := ⟨by decide +kernel, rfl, by decide +kernel, ⟨by decide +kernel, by decide +kernel⟩, by decide +kernel, jx_mem (i := 907) (by decide +kernel) rfl, jx_mem (i := 106) (by decide +kernel) rfl, fun _ => ⟨jx_mem (i := 905) (by decide +kernel) rfl, jx_mem (i := 906) (by decide +kernel) rfl, by decide⟩, fun h => absurd h (by decide), fun h => absurd h (by decide), by decide, by decide, by decide, by decide +kernel, by decide +kernel⟩
-- OfDifferentMinds.canRide(III)Z
def jm_b163_25 : List jx_E := (25, 70, (0, 0, 0, 0), 0, []) :: []
def jm_b163_24 : List jx_E := (24, 8, (0, 0, 0, 0), 0, []) :: jm_b163_25
def jm_b163_0 : List jx_E := (0, 2, (0, 0, 0, 0), 0, []) :: (1, 0, (1, 0, 0, 0), 0, []) :: (2, 0, (2, 0, 0, 0), 0, []) :: (3, 49, (151, 3, 10, 271), 0, []) :: (6, 55, (24, 0, 0, 0), 0, []) :: (9, 2, (0, 0, 0, 0), 0, []) :: (10, 33, (10, 1, 0, 19), 0, []) :: (13, 0, (3, 0, 0, 0), 0, []) :: (14, 49, (30, 2, 3, 161), 0, []) :: (17, 55, (24, 0, 0, 0), 0, []) :: (20, 8, (0, 0, 0, 0), 1, []) :: (21, 54, (25, 0, 0, 0), 0, []) :: []
def jm_l163 : jx_B := [(0, jm_b163_0), (24, jm_b163_24), (25, jm_b163_25)]
def jm_i163 : jx_M := (⟨"OfDifferentMinds", "canRide", "(III)Z"⟩, prog_1_method_36_code, 4, (some .boolean), 0, 4, 10, jm_l163)
theorem jm_ok163 : jx_okM 163 jm_i163 := ⟨by decide +kernel, rfl, by decide +kernel, ⟨by decide +kernel, by decide +kernel⟩, by decide +kernel, jx_mem (i := 915) (by decide +kernel) rfl, jx_mem (i := 106) (by decide +kernel) rfl, fun _ => ⟨jx_mem (i := 914) (by decide +kernel) rfl, jx_mem (i := 25) (by decide +kernel) rfl, by decide⟩, fun h => absurd h (by decide), fun h => absurd h (by decide), by decide, by decide, by decide, by decide +kernel, by decide +kernel⟩
-- OfDifferentMinds.stops(III)I
def jm_b164_89 : List jx_E := (89, 2, (0, 0, 0, 0), 0, []) :: (90, 33, (10, 6, 0, 56), 0, []) :: (93, 49, (55, 1, 5, 252), 0, []) :: (96, 49, (72, 4, 6, 255), 0, []) :: (99, 2, (0, 0, 0, 0), 0, []) :: (100, 33, (10, 6, 0, 56), 0, []) :: (103, 49, (54, 1, 5, 293), 0, []) :: (106, 69, (0, 0, 0, 0), 0, []) :: []
def jm_b164_88 : List jx_E := (88, 8, (0, 0, 0, 0), 1, []) :: jm_b164_89
def jm_b164_56 : List jx_E := (56, 2, (0, 0, 0, 0), 0, []) :: (57, 33, (10, 5, 0, 47), 0, []) :: (60, 2, (0, 0, 0, 0), 0, []) :: (61, 33, (10, 6, 0, 56), 0, []) :: (64, 49, (53, 1, 5, 246), 0, []) :: (67, 2, (0, 0, 0, 0), 0, []) :: (68, 33, (10, 1, 0, 19), 0, []) :: (71, 2, (0, 0, 0, 0), 0, []) :: (72, 33, (10, 6, 0, 56), 0, []) :: (75, 49, (53, 1, 5, 246), 0, []) :: (78, 49, (33, 2, 3, 171), 0, []) :: (81, 56, (88, 0, 0, 0), 0, []) :: (84, 8, (0, 0, 0, 0), 0, []) :: (85, 54, (89, 0, 0, 0), 0, []) :: []
def jm_b164_12 : List jx_E := (12, 2, (0, 0, 0, 0), 0, []) :: (13, 33, (10, 6, 0, 56), 0, []) :: (16, 0, (1, 0, 0, 0), 0, []) :: (17, 0, (2, 0, 0, 0), 0, []) :: (18, 0, (3, 0, 0, 0), 0, []) :: (19, 49, (50, 4, 5, 333), 0, []) :: (22, 2, (0, 0, 0, 0), 0, []) :: (23, 33, (10, 6, 0, 56), 0, []) :: (26, 49, (65, 1, 5, 336), 0, []) :: (29, 2, (0, 0, 0, 0), 0, []) :: (30, 33, (10, 6, 0, 56), 0, []) :: (33, 49, (56, 1, 5, 249), 0, []) :: (36, 56, (56, 0, 0, 0), 0, []) :: (39, 2, (0, 0, 0, 0), 0, []) :: (40, 33, (10, 5, 0, 47), 0, []) :: (43, 2, (0, 0, 0, 0), 0, []) :: (44, 33, (10, 6, 0, 56), 0, []) :: (47, 49, (53, 1, 5, 246), 0, []) :: (50, 49, (70, 2, 6, 339), 0, []) :: (53, 9, (0, 0, 0, 0), (-2), []) :: (55, 69, (0, 0, 0, 0), 0, []) :: []
def jm_b164_0 : List jx_E := (0, 2, (0, 0, 0, 0), 0, []) :: (1, 0, (1, 0, 0, 0), 0, []) :: (2, 0, (2, 0, 0, 0), 0, []) :: (3, 0, (3, 0, 0, 0), 0, []) :: (4, 49, (163, 4, 10, 329), 0, []) :: (7, 56, (12, 0, 0, 0), 0, []) :: (10, 8, (0, 0, 0, 0), (-1), []) :: (11, 69, (0, 0, 0, 0), 0, []) :: []
def jm_l164 : jx_B := [(0, jm_b164_0), (12, jm_b164_12), (56, jm_b164_56), (88, jm_b164_88), (89, jm_b164_89)]
def jm_i164 : jx_M := (⟨"OfDifferentMinds", "stops", "(III)I"⟩, prog_1_method_37_code, 4, (some .int), 0, 4, 10, jm_l164)
theorem jm_ok164 : jx_okM 164 jm_i164 := ⟨by decide +kernel, rfl, by decide +kernel, ⟨by decide +kernel, by decide +kernel⟩, by decide +kernel, jx_mem (i := 911) (by decide +kernel) rfl, jx_mem (i := 106) (by decide +kernel) rfl, fun _ => ⟨jx_mem (i := 909) (by decide +kernel) rfl, jx_mem (i := 910) (by decide +kernel) rfl, by decide⟩, fun h => absurd h (by decide), fun h => absurd h (by decide), by decide, by decide, by decide, by decide +kernel, by decide +kernel⟩
-- OfDifferentMinds.trail(III)I
def jm_b165_113 : List jx_E := (113, 2, (0, 0, 0, 0), 0, []) :: (114, 49, (166, 1, 10, 344), 0, []) :: (117, 69, (0, 0, 0, 0), 0, []) :: []
def jm_b165_107 : List jx_E := (107, 13, (4, 0, 0, 0), 1, []) :: (110, 54, (56, 0, 0, 0), 0, []) :: []
def jm_b165_56 : List jx_E := (56, 1, (4, 0, 0, 0), 0, []) :: (58, 10, (0, 0, 0, 0), 200, []) :: (61, 64, (113, 0, 0, 0), 0, []) :: (64, 2, (0, 0, 0, 0), 0, []) :: (65, 33, (10, 6, 0, 56), 0, []) :: (68, 49, (61, 1, 5, 341), 0, []) :: (71, 55, (113, 0, 0, 0), 0, []) :: (74, 2, (0, 0, 0, 0), 0, []) :: (75, 33, (10, 1, 0, 19), 0, []) :: (78, 2, (0, 0, 0, 0), 0, []) :: (79, 33, (10, 6, 0, 56), 0, []) :: (82, 49, (53, 1, 5, 246), 0, []) :: (85, 49, (30, 2, 3, 161), 0, []) :: (88, 55, (107, 0, 0, 0), 0, []) :: (91, 2, (0, 0, 0, 0), 0, []) :: (92, 33, (10, 11, 0, 83), 0, []) :: (95, 2, (0, 0, 0, 0), 0, []) :: (96, 33, (10, 6, 0, 56), 0, []) :: (99, 49, (53, 1, 5, 246), 0, []) :: (102, 29, (0, 0, 0, 0), 0, []) :: (103, 38, (0, 0, 0, 0), 0, []) :: (104, 8, (0, 0, 0, 0), 1, []) :: (105, 14, (0, 0, 0, 0), 0, []) :: (106, 41, (0, 0, 0, 0), 0, []) :: jm_b165_107
def jm_b165_36 : List jx_E := (36, 2, (0, 0, 0, 0), 0, []) :: (37, 33, (10, 6, 0, 56), 0, []) :: (40, 0, (1, 0, 0, 0), 0, []) :: (41, 0, (2, 0, 0, 0), 0, []) :: (42, 0, (3, 0, 0, 0), 0, []) :: (43, 49, (50, 4, 5, 333), 0, []) :: (46, 2, (0, 0, 0, 0), 0, []) :: (47, 33, (10, 11, 0, 83), 0, []) :: (50, 0, (3, 0, 0, 0), 0, []) :: (51, 8, (0, 0, 0, 0), 1, []) :: (52, 41, (0, 0, 0, 0), 0, []) :: (53, 8, (0, 0, 0, 0), 0, []) :: (54, 5, (4, 0, 0, 0), 0, []) :: jm_b165_56
def jm_b165_15 : List jx_E := (15, 1, (4, 0, 0, 0), 0, []) :: (17, 9, (0, 0, 0, 0), 10, []) :: (19, 64, (36, 0, 0, 0), 0, []) :: (22, 2, (0, 0, 0, 0), 0, []) :: (23, 33, (10, 11, 0, 83), 0, []) :: (26, 1, (4, 0, 0, 0), 0, []) :: (28, 8, (0, 0, 0, 0), 0, []) :: (29, 41, (0, 0, 0, 0), 0, []) :: (30, 13, (4, 0, 0, 0), 1, []) :: (33, 54, (15, 0, 0, 0), 0, []) :: []
def jm_b165_12 : List jx_E := (12, 8, (0, 0, 0, 0), 0, []) :: (13, 5, (4, 0, 0, 0), 0, []) :: jm_b165_15
def jm_b165_0 : List jx_E := (0, 2, (0, 0, 0, 0), 0, []) :: (1, 0, (1, 0, 0, 0), 0, []) :: (2, 0, (2, 0, 0, 0), 0, []) :: (3, 0, (3, 0, 0, 0), 0, []) :: (4, 49, (163, 4, 10, 329), 0, []) :: (7, 56, (12, 0, 0, 0), 0, []) :: (10, 8, (0, 0, 0, 0), (-1), []) :: (11, 69, (0, 0, 0, 0), 0, []) :: []
def jm_l165 : jx_B := [(0, jm_b165_0), (12, jm_b165_12), (15, jm_b165_15), (36, jm_b165_36), (56, jm_b165_56), (107, jm_b165_107), (113, jm_b165_113)]
def jm_i165 : jx_M := (⟨"OfDifferentMinds", "trail", "(III)I"⟩, prog_1_method_38_code, 5, (some .int), 0, 4, 10, jm_l165)
theorem jm_ok165 : jx_okM 165 jm_i165 := ⟨by decide +kernel, rfl, by decide +kernel, ⟨by decide +kernel, by decide +kernel⟩, by decide +kernel, jx_mem (i := 928) (by decide +kernel) rfl, jx_mem (i := 106) (by decide +kernel) rfl, fun _ => ⟨jx_mem (i := 926) (by decide +kernel) rfl, jx_mem (i := 927) (by decide +kernel) rfl, by decide⟩, fun h => absurd h (by decide), fun h => absurd h (by decide), by decide, by decide, by decide, by decide +kernel, by decide +kernel⟩
-- OfDifferentMinds.tellVisits()I
def jm_b166_70 : List jx_E := (70, 2, (0, 0, 0, 0), 0, []) :: (71, 33, (10, 5, 0, 47), 0, []) :: (74, 2, (0, 0, 0, 0), 0, []) :: (75, 33, (10, 6, 0, 56), 0, []) :: (78, 49, (54, 1, 5, 293), 0, []) :: (81, 0, (2, 0, 0, 0), 0, []) :: (82, 0, (3, 0, 0, 0), 0, []) :: (83, 49, (72, 4, 6, 255), 0, []) :: (86, 0, (1, 0, 0, 0), 0, []) :: (87, 69, (0, 0, 0, 0), 0, []) :: []
def jm_b166_64 : List jx_E := (64, 13, (4, 0, 0, 0), 1, []) :: (67, 54, (9, 0, 0, 0), 0, []) :: []
def jm_b166_40 : List jx_E := (40, 21, (0, 0, 0, 0), 0, []) :: (41, 4, (1, 0, 0, 0), 0, []) :: (42, 2, (0, 0, 0, 0), 0, []) :: (43, 33, (10, 11, 0, 83), 0, []) :: (46, 1, (4, 0, 0, 0), 0, []) :: (48, 38, (0, 0, 0, 0), 0, []) :: (49, 0, (2, 0, 0, 0), 0, []) :: (50, 66, (64, 0, 0, 0), 0, []) :: (53, 2, (0, 0, 0, 0), 0, []) :: (54, 33, (10, 11, 0, 83), 0, []) :: (57, 1, (4, 0, 0, 0), 0, []) :: (59, 38, (0, 0, 0, 0), 0, []) :: (60, 4, (2, 0, 0, 0), 0, []) :: (61, 1, (4, 0, 0, 0), 0, []) :: (63, 4, (3, 0, 0, 0), 0, []) :: jm_b166_64
def jm_b166_39 : List jx_E := (39, 8, (0, 0, 0, 0), 0, []) :: jm_b166_40
def jm_b166_9 : List jx_E := (9, 1, (4, 0, 0, 0), 0, []) :: (11, 2, (0, 0, 0, 0), 0, []) :: (12, 33, (10, 1, 0, 19), 0, []) :: (15, 49, (27, 1, 3, 115), 0, []) :: (18, 64, (70, 0, 0, 0), 0, []) :: (21, 0, (1, 0, 0, 0), 0, []) :: (22, 2, (0, 0, 0, 0), 0, []) :: (23, 33, (10, 11, 0, 83), 0, []) :: (26, 1, (4, 0, 0, 0), 0, []) :: (28, 38, (0, 0, 0, 0), 0, []) :: (29, 60, (39, 0, 0, 0), 0, []) :: (32, 8, (0, 0, 0, 0), 1, []) :: (33, 1, (4, 0, 0, 0), 0, []) :: (35, 23, (0, 0, 0, 0), 0, []) :: (36, 54, (40, 0, 0, 0), 0, []) :: []
def jm_b166_0 : List jx_E := (0, 8, (0, 0, 0, 0), 0, []) :: (1, 4, (1, 0, 0, 0), 0, []) :: (2, 8, (0, 0, 0, 0), 0, []) :: (3, 4, (2, 0, 0, 0), 0, []) :: (4, 8, (0, 0, 0, 0), (-1), []) :: (5, 4, (3, 0, 0, 0), 0, []) :: (6, 8, (0, 0, 0, 0), 0, []) :: (7, 5, (4, 0, 0, 0), 0, []) :: jm_b166_9
def jm_l166 : jx_B := [(0, jm_b166_0), (9, jm_b166_9), (39, jm_b166_39), (40, jm_b166_40), (64, jm_b166_64), (70, jm_b166_70)]
def jm_i166 : jx_M := (⟨"OfDifferentMinds", "tellVisits", "()I"⟩, prog_1_method_39_code, 5, (some .int), 0, 1, 10, jm_l166)
theorem jm_ok166 : jx_okM 166 jm_i166 := ⟨by decide +kernel, rfl, by decide +kernel, ⟨by decide +kernel, by decide +kernel⟩, by decide +kernel, jx_mem (i := 933) (by decide +kernel) rfl, jx_mem (i := 106) (by decide +kernel) rfl, fun _ => ⟨jx_mem (i := 932) (by decide +kernel) rfl, jx_mem (i := 26) (by decide +kernel) rfl, by decide⟩, fun h => absurd h (by decide), fun h => absurd h (by decide), by decide, by decide, by decide, by decide +kernel, by decide +kernel⟩
-- OfDifferentMinds.reaches(IIII)I
def jm_b167_58 : List jx_E := (58, 69, (0, 0, 0, 0), 0, []) :: []
def jm_b167_56 : List jx_E := (56, 9, (0, 0, 0, 0), (-2), []) :: jm_b167_58
def jm_b167_24 : List jx_E := (24, 2, (0, 0, 0, 0), 0, []) :: (25, 33, (10, 6, 0, 56), 0, []) :: (28, 0, (1, 0, 0, 0), 0, []) :: (29, 0, (2, 0, 0, 0), 0, []) :: (30, 0, (3, 0, 0, 0), 0, []) :: (31, 49, (50, 4, 5, 333), 0, []) :: (34, 2, (0, 0, 0, 0), 0, []) :: (35, 33, (10, 6, 0, 56), 0, []) :: (38, 1, (4, 0, 0, 0), 0, []) :: (40, 49, (66, 2, 5, 347), 0, []) :: (43, 55, (56, 0, 0, 0), 0, []) :: (46, 2, (0, 0, 0, 0), 0, []) :: (47, 33, (10, 6, 0, 56), 0, []) :: (50, 49, (54, 1, 5, 293), 0, []) :: (53, 54, (58, 0, 0, 0), 0, []) :: []
def jm_b167_22 : List jx_E := (22, 8, (0, 0, 0, 0), (-1), []) :: (23, 69, (0, 0, 0, 0), 0, []) :: []
def jm_b167_0 : List jx_E := (0, 2, (0, 0, 0, 0), 0, []) :: (1, 0, (1, 0, 0, 0), 0, []) :: (2, 0, (2, 0, 0, 0), 0, []) :: (3, 0, (3, 0, 0, 0), 0, []) :: (4, 49, (163, 4, 10, 329), 0, []) :: (7, 55, (22, 0, 0, 0), 0, []) :: (10, 2, (0, 0, 0, 0), 0, []) :: (11, 33, (10, 1, 0, 19), 0, []) :: (14, 1, (4, 0, 0, 0), 0, []) :: (16, 49, (30, 2, 3, 161), 0, []) :: (19, 56, (24, 0, 0, 0), 0, []) :: jm_b167_22
def jm_l167 : jx_B := [(0, jm_b167_0), (22, jm_b167_22), (24, jm_b167_24), (56, jm_b167_56), (58, jm_b167_58)]
def jm_i167 : jx_M := (⟨"OfDifferentMinds", "reaches", "(IIII)I"⟩, prog_1_method_40_code, 5, (some .int), 0, 5, 10, jm_l167)
theorem jm_ok167 : jx_okM 167 jm_i167 := ⟨by decide +kernel, rfl, by decide +kernel, ⟨by decide +kernel, by decide +kernel⟩, by decide +kernel, jx_mem (i := 937) (by decide +kernel) rfl, jx_mem (i := 106) (by decide +kernel) rfl, fun _ => ⟨jx_mem (i := 935) (by decide +kernel) rfl, jx_mem (i := 936) (by decide +kernel) rfl, by decide⟩, fun h => absurd h (by decide), fun h => absurd h (by decide), by decide, by decide, by decide, by decide +kernel, by decide +kernel⟩
-- OfDifferentMinds.pairs(II)I
def jm_b168_137 : List jx_E := (137, 0, (3, 0, 0, 0), 0, []) :: (138, 69, (0, 0, 0, 0), 0, []) :: []
def jm_b168_131 : List jx_E := (131, 13, (5, 0, 0, 0), 1, []) :: (134, 54, (41, 0, 0, 0), 0, []) :: []
def jm_b168_125 : List jx_E := (125, 13, (6, 0, 0, 0), 1, []) :: (128, 54, (56, 0, 0, 0), 0, []) :: []
def jm_b168_56 : List jx_E := (56, 1, (6, 0, 0, 0), 0, []) :: (58, 2, (0, 0, 0, 0), 0, []) :: (59, 33, (10, 1, 0, 19), 0, []) :: (62, 49, (28, 1, 3, 122), 0, []) :: (65, 64, (131, 0, 0, 0), 0, []) :: (68, 1, (5, 0, 0, 0), 0, []) :: (70, 1, (6, 0, 0, 0), 0, []) :: (72, 61, (125, 0, 0, 0), 0, []) :: (75, 2, (0, 0, 0, 0), 0, []) :: (76, 1, (5, 0, 0, 0), 0, []) :: (78, 1, (6, 0, 0, 0), 0, []) :: (80, 0, (1, 0, 0, 0), 0, []) :: (81, 0, (2, 0, 0, 0), 0, []) :: (82, 49, (169, 5, 10, 351), 0, []) :: (85, 55, (125, 0, 0, 0), 0, []) :: (88, 13, (3, 0, 0, 0), 1, []) :: (91, 2, (0, 0, 0, 0), 0, []) :: (92, 33, (10, 6, 0, 56), 0, []) :: (95, 49, (54, 1, 5, 293), 0, []) :: (98, 1, (4, 0, 0, 0), 0, []) :: (100, 64, (125, 0, 0, 0), 0, []) :: (103, 2, (0, 0, 0, 0), 0, []) :: (104, 33, (10, 6, 0, 56), 0, []) :: (107, 49, (54, 1, 5, 293), 0, []) :: (110, 5, (4, 0, 0, 0), 0, []) :: (112, 2, (0, 0, 0, 0), 0, []) :: (113, 33, (10, 5, 0, 47), 0, []) :: (116, 1, (5, 0, 0, 0), 0, []) :: (118, 1, (6, 0, 0, 0), 0, []) :: (120, 1, (4, 0, 0, 0), 0, []) :: (122, 49, (72, 4, 6, 255), 0, []) :: jm_b168_125
def jm_b168_41 : List jx_E := (41, 1, (5, 0, 0, 0), 0, []) :: (43, 2, (0, 0, 0, 0), 0, []) :: (44, 33, (10, 1, 0, 19), 0, []) :: (47, 49, (28, 1, 3, 122), 0, []) :: (50, 64, (137, 0, 0, 0), 0, []) :: (53, 8, (0, 0, 0, 0), 0, []) :: (54, 5, (6, 0, 0, 0), 0, []) :: jm_b168_56
def jm_b168_24 : List jx_E := (24, 8, (0, 0, 0, 0), 0, []) :: (25, 4, (3, 0, 0, 0), 0, []) :: (26, 10, (0, 0, 0, 0), 201, []) :: (29, 5, (4, 0, 0, 0), 0, []) :: (31, 2, (0, 0, 0, 0), 0, []) :: (32, 33, (10, 5, 0, 47), 0, []) :: (35, 49, (68, 1, 6, 350), 0, []) :: (38, 8, (0, 0, 0, 0), 0, []) :: (39, 5, (5, 0, 0, 0), 0, []) :: jm_b168_41
def jm_b168_22 : List jx_E := (22, 8, (0, 0, 0, 0), (-1), []) :: (23, 69, (0, 0, 0, 0), 0, []) :: []
def jm_b168_0 : List jx_E := (0, 2, (0, 0, 0, 0), 0, []) :: (1, 33, (10, 1, 0, 19), 0, []) :: (4, 0, (1, 0, 0, 0), 0, []) :: (5, 49, (30, 2, 3, 161), 0, []) :: (8, 55, (22, 0, 0, 0), 0, []) :: (11, 2, (0, 0, 0, 0), 0, []) :: (12, 33, (10, 1, 0, 19), 0, []) :: (15, 0, (2, 0, 0, 0), 0, []) :: (16, 49, (30, 2, 3, 161), 0, []) :: (19, 56, (24, 0, 0, 0), 0, []) :: jm_b168_22
def jm_l168 : jx_B := [(0, jm_b168_0), (22, jm_b168_22), (24, jm_b168_24), (41, jm_b168_41), (56, jm_b168_56), (125, jm_b168_125), (131, jm_b168_131), (137, jm_b168_137)]
def jm_i168 : jx_M := (⟨"OfDifferentMinds", "pairs", "(II)I"⟩, prog_1_method_41_code, 7, (some .int), 0, 3, 10, jm_l168)
theorem jm_ok168 : jx_okM 168 jm_i168 := ⟨by decide +kernel, rfl, by decide +kernel, ⟨by decide +kernel, by decide +kernel⟩, by decide +kernel, jx_mem (i := 945) (by decide +kernel) rfl, jx_mem (i := 106) (by decide +kernel) rfl, fun _ => ⟨jx_mem (i := 943) (by decide +kernel) rfl, jx_mem (i := 944) (by decide +kernel) rfl, by decide⟩, fun h => absurd h (by decide), fun h => absurd h (by decide), by decide, by decide, by decide, by decide +kernel, by decide +kernel⟩
-- OfDifferentMinds.stopsAt(IIII)Z
def jm_b169_44 : List jx_E := (44, 70, (0, 0, 0, 0), 0, []) :: []
def jm_b169_43 : List jx_E := (43, 8, (0, 0, 0, 0), 0, []) :: jm_b169_44
def jm_b169_0 : List jx_E := (0, 2, (0, 0, 0, 0), 0, []) :: (1, 33, (10, 6, 0, 56), 0, []) :: (4, 0, (1, 0, 0, 0), 0, []) :: (5, 0, (2, 0, 0, 0), 0, []) :: (6, 0, (3, 0, 0, 0), 0, []) :: (7, 49, (50, 4, 5, 333), 0, []) :: (10, 2, (0, 0, 0, 0), 0, []) :: (11, 33, (10, 6, 0, 56), 0, []) :: (14, 49, (65, 1, 5, 336), 0, []) :: (17, 2, (0, 0, 0, 0), 0, []) :: (18, 33, (10, 6, 0, 56), 0, []) :: (21, 49, (56, 1, 5, 249), 0, []) :: (24, 55, (43, 0, 0, 0), 0, []) :: (27, 2, (0, 0, 0, 0), 0, []) :: (28, 33, (10, 6, 0, 56), 0, []) :: (31, 49, (53, 1, 5, 246), 0, []) :: (34, 1, (4, 0, 0, 0), 0, []) :: (36, 62, (43, 0, 0, 0), 0, []) :: (39, 8, (0, 0, 0, 0), 1, []) :: (40, 54, (44, 0, 0, 0), 0, []) :: []
def jm_l169 : jx_B := [(0, jm_b169_0), (43, jm_b169_43), (44, jm_b169_44)]
def jm_i169 : jx_M := (⟨"OfDifferentMinds", "stopsAt", "(IIII)Z"⟩, prog_1_method_42_code, 5, (some .boolean), 0, 5, 10, jm_l169)
theorem jm_ok169 : jx_okM 169 jm_i169 := ⟨by decide +kernel, rfl, by decide +kernel, ⟨by decide +kernel, by decide +kernel⟩, by decide +kernel, jx_mem (i := 950) (by decide +kernel) rfl, jx_mem (i := 106) (by decide +kernel) rfl, fun _ => ⟨jx_mem (i := 949) (by decide +kernel) rfl, jx_mem (i := 27) (by decide +kernel) rfl, by decide⟩, fun h => absurd h (by decide), fun h => absurd h (by decide), by decide, by decide, by decide, by decide +kernel, by decide +kernel⟩
-- OfDifferentMinds.changes(II)I
def jm_b170_52 : List jx_E := (52, 2, (0, 0, 0, 0), 0, []) :: (53, 33, (10, 7, 0, 65), 0, []) :: (56, 0, (1, 0, 0, 0), 0, []) :: (57, 2, (0, 0, 0, 0), 0, []) :: (58, 33, (10, 5, 0, 47), 0, []) :: (61, 49, (7, 3, 0, 362), 0, []) :: (64, 0, (3, 0, 0, 0), 0, []) :: (65, 69, (0, 0, 0, 0), 0, []) :: []
def jm_b170_24 : List jx_E := (24, 2, (0, 0, 0, 0), 0, []) :: (25, 33, (10, 7, 0, 65), 0, []) :: (28, 0, (1, 0, 0, 0), 0, []) :: (29, 49, (1, 2, 0, 355), 0, []) :: (32, 31, (0, 0, 0, 0), 0, []) :: (33, 2, (0, 0, 0, 0), 0, []) :: (34, 33, (10, 7, 0, 65), 0, []) :: (37, 0, (1, 0, 0, 0), 0, []) :: (38, 0, (2, 0, 0, 0), 0, []) :: (39, 8, (0, 0, 0, 0), 0, []) :: (40, 49, (5, 4, 0, 358), 0, []) :: (43, 4, (3, 0, 0, 0), 0, []) :: (44, 0, (3, 0, 0, 0), 0, []) :: (45, 8, (0, 0, 0, 0), (-1), []) :: (46, 62, (52, 0, 0, 0), 0, []) :: (49, 9, (0, 0, 0, 0), (-2), []) :: (51, 69, (0, 0, 0, 0), 0, []) :: []
def jm_b170_22 : List jx_E := (22, 8, (0, 0, 0, 0), (-1), []) :: (23, 69, (0, 0, 0, 0), 0, []) :: []
def jm_b170_0 : List jx_E := (0, 2, (0, 0, 0, 0), 0, []) :: (1, 33, (10, 1, 0, 19), 0, []) :: (4, 0, (1, 0, 0, 0), 0, []) :: (5, 49, (30, 2, 3, 161), 0, []) :: (8, 55, (22, 0, 0, 0), 0, []) :: (11, 2, (0, 0, 0, 0), 0, []) :: (12, 33, (10, 1, 0, 19), 0, []) :: (15, 0, (2, 0, 0, 0), 0, []) :: (16, 49, (30, 2, 3, 161), 0, []) :: (19, 56, (24, 0, 0, 0), 0, []) :: jm_b170_22
def jm_l170 : jx_B := [(0, jm_b170_0), (22, jm_b170_22), (24, jm_b170_24), (52, jm_b170_52)]
def jm_i170 : jx_M := (⟨"OfDifferentMinds", "changes", "(II)I"⟩, prog_1_method_43_code, 4, (some .int), 0, 3, 10, jm_l170)
theorem jm_ok170 : jx_okM 170 jm_i170 := ⟨by decide +kernel, rfl, by decide +kernel, ⟨by decide +kernel, by decide +kernel⟩, by decide +kernel, jx_mem (i := 954) (by decide +kernel) rfl, jx_mem (i := 106) (by decide +kernel) rfl, fun _ => ⟨jx_mem (i := 952) (by decide +kernel) rfl, jx_mem (i := 953) (by decide +kernel) rfl, by decide⟩, fun h => absurd h (by decide), fun h => absurd h (by decide), by decide, by decide, by decide, by decide +kernel, by decide +kernel⟩
-- OfDifferentMinds.stations(I)I
def jm_b171_13 : List jx_E := (13, 2, (0, 0, 0, 0), 0, []) :: (14, 33, (10, 7, 0, 65), 0, []) :: (17, 0, (1, 0, 0, 0), 0, []) :: (18, 49, (1, 2, 0, 355), 0, []) :: (21, 4, (2, 0, 0, 0), 0, []) :: (22, 2, (0, 0, 0, 0), 0, []) :: (23, 33, (10, 5, 0, 47), 0, []) :: (26, 0, (2, 0, 0, 0), 0, []) :: (27, 2, (0, 0, 0, 0), 0, []) :: (28, 33, (10, 1, 0, 19), 0, []) :: (31, 49, (29, 1, 3, 366), 0, []) :: (34, 8, (0, 0, 0, 0), (-1), []) :: (35, 22, (0, 0, 0, 0), 0, []) :: (36, 20, (0, 0, 0, 0), 0, []) :: (37, 49, (70, 2, 6, 339), 0, []) :: (40, 0, (2, 0, 0, 0), 0, []) :: (41, 69, (0, 0, 0, 0), 0, []) :: []
def jm_b171_0 : List jx_E := (0, 2, (0, 0, 0, 0), 0, []) :: (1, 33, (10, 1, 0, 19), 0, []) :: (4, 0, (1, 0, 0, 0), 0, []) :: (5, 49, (30, 2, 3, 161), 0, []) :: (8, 56, (13, 0, 0, 0), 0, []) :: (11, 8, (0, 0, 0, 0), (-1), []) :: (12, 69, (0, 0, 0, 0), 0, []) :: []
def jm_l171 : jx_B := [(0, jm_b171_0), (13, jm_b171_13)]
def jm_i171 : jx_M := (⟨"OfDifferentMinds", "stations", "(I)I"⟩, prog_1_method_44_code, 3, (some .int), 0, 2, 10, jm_l171)
theorem jm_ok171 : jx_okM 171 jm_i171 := ⟨by decide +kernel, rfl, by decide +kernel, ⟨by decide +kernel, by decide +kernel⟩, by decide +kernel, jx_mem (i := 1006) (by decide +kernel) rfl, jx_mem (i := 106) (by decide +kernel) rfl, fun _ => ⟨jx_mem (i := 1004) (by decide +kernel) rfl, jx_mem (i := 1005) (by decide +kernel) rfl, by decide⟩, fun h => absurd h (by decide), fun h => absurd h (by decide), by decide, by decide, by decide, by decide +kernel, by decide +kernel⟩
-- OfDifferentMinds.foot(II)I
def jm_b172_43 : List jx_E := (43, 2, (0, 0, 0, 0), 0, []) :: (44, 33, (10, 7, 0, 65), 0, []) :: (47, 0, (1, 0, 0, 0), 0, []) :: (48, 2, (0, 0, 0, 0), 0, []) :: (49, 33, (10, 5, 0, 47), 0, []) :: (52, 49, (9, 3, 0, 369), 0, []) :: (55, 0, (3, 0, 0, 0), 0, []) :: (56, 69, (0, 0, 0, 0), 0, []) :: []
def jm_b172_24 : List jx_E := (24, 2, (0, 0, 0, 0), 0, []) :: (25, 33, (10, 7, 0, 65), 0, []) :: (28, 0, (1, 0, 0, 0), 0, []) :: (29, 0, (2, 0, 0, 0), 0, []) :: (30, 8, (0, 0, 0, 0), 1, []) :: (31, 49, (5, 4, 0, 358), 0, []) :: (34, 4, (3, 0, 0, 0), 0, []) :: (35, 0, (3, 0, 0, 0), 0, []) :: (36, 8, (0, 0, 0, 0), (-1), []) :: (37, 62, (43, 0, 0, 0), 0, []) :: (40, 9, (0, 0, 0, 0), (-2), []) :: (42, 69, (0, 0, 0, 0), 0, []) :: []
def jm_b172_22 : List jx_E := (22, 8, (0, 0, 0, 0), (-1), []) :: (23, 69, (0, 0, 0, 0), 0, []) :: []
def jm_b172_0 : List jx_E := (0, 2, (0, 0, 0, 0), 0, []) :: (1, 33, (10, 1, 0, 19), 0, []) :: (4, 0, (1, 0, 0, 0), 0, []) :: (5, 49, (30, 2, 3, 161), 0, []) :: (8, 55, (22, 0, 0, 0), 0, []) :: (11, 2, (0, 0, 0, 0), 0, []) :: (12, 33, (10, 1, 0, 19), 0, []) :: (15, 0, (2, 0, 0, 0), 0, []) :: (16, 49, (30, 2, 3, 161), 0, []) :: (19, 56, (24, 0, 0, 0), 0, []) :: jm_b172_22
def jm_l172 : jx_B := [(0, jm_b172_0), (22, jm_b172_22), (24, jm_b172_24), (43, jm_b172_43)]
def jm_i172 : jx_M := (⟨"OfDifferentMinds", "foot", "(II)I"⟩, prog_1_method_45_code, 4, (some .int), 0, 3, 10, jm_l172)
theorem jm_ok172 : jx_okM 172 jm_i172 := ⟨by decide +kernel, rfl, by decide +kernel, ⟨by decide +kernel, by decide +kernel⟩, by decide +kernel, jx_mem (i := 1011) (by decide +kernel) rfl, jx_mem (i := 106) (by decide +kernel) rfl, fun _ => ⟨jx_mem (i := 1009) (by decide +kernel) rfl, jx_mem (i := 1010) (by decide +kernel) rfl, by decide⟩, fun h => absurd h (by decide), fun h => absurd h (by decide), by decide, by decide, by decide, by decide +kernel, by decide +kernel⟩
-- OfDifferentMinds.stepsOf(III)I
def jm_b173_0 : List jx_E := (0, 2, (0, 0, 0, 0), 0, []) :: (1, 33, (10, 6, 0, 56), 0, []) :: (4, 0, (1, 0, 0, 0), 0, []) :: (5, 0, (2, 0, 0, 0), 0, []) :: (6, 0, (3, 0, 0, 0), 0, []) :: (7, 49, (50, 4, 5, 333), 0, []) :: (10, 2, (0, 0, 0, 0), 0, []) :: (11, 33, (10, 6, 0, 56), 0, []) :: (14, 10, (0, 0, 0, 0), 200, []) :: (17, 49, (64, 2, 5, 287), 0, []) :: (20, 2, (0, 0, 0, 0), 0, []) :: (21, 33, (10, 6, 0, 56), 0, []) :: (24, 49, (54, 1, 5, 293), 0, []) :: (27, 69, (0, 0, 0, 0), 0, []) :: []
def jm_l173 : jx_B := [(0, jm_b173_0)]
def jm_i173 : jx_M := (⟨"OfDifferentMinds", "stepsOf", "(III)I"⟩, prog_1_method_46_code, 4, (some .int), 0, 4, 10, jm_l173)
theorem jm_ok173 : jx_okM 173 jm_i173 := ⟨by decide +kernel, rfl, by decide +kernel, ⟨by decide +kernel, by decide +kernel⟩, by decide +kernel, jx_mem (i := 1023) (by decide +kernel) rfl, jx_mem (i := 106) (by decide +kernel) rfl, fun _ => ⟨jx_mem (i := 1022) (by decide +kernel) rfl, jx_mem (i := 33) (by decide +kernel) rfl, by decide⟩, fun h => absurd h (by decide), fun h => absurd h (by decide), by decide, by decide, by decide, by decide +kernel, by decide +kernel⟩
-- OfDifferentMinds.record(I)I
def jm_b174_143 : List jx_E := (143, 2, (0, 0, 0, 0), 0, []) :: (144, 33, (10, 5, 0, 47), 0, []) :: (147, 0, (3, 0, 0, 0), 0, []) :: (148, 1, (4, 0, 0, 0), 0, []) :: (150, 1, (5, 0, 0, 0), 0, []) :: (152, 49, (72, 4, 6, 255), 0, []) :: (155, 0, (2, 0, 0, 0), 0, []) :: (156, 69, (0, 0, 0, 0), 0, []) :: []
def jm_b174_137 : List jx_E := (137, 13, (6, 0, 0, 0), 1, []) :: (140, 54, (40, 0, 0, 0), 0, []) :: []
def jm_b174_128 : List jx_E := (128, 14, (0, 0, 0, 0), 0, []) :: (129, 5, (5, 0, 0, 0), 0, []) :: (131, 13, (7, 0, 0, 0), 1, []) :: (134, 54, (55, 0, 0, 0), 0, []) :: []
def jm_b174_127 : List jx_E := (127, 8, (0, 0, 0, 0), 0, []) :: jm_b174_128
def jm_b174_108 : List jx_E := (108, 1, (5, 0, 0, 0), 0, []) :: (110, 1, (6, 0, 0, 0), 0, []) :: (112, 1, (7, 0, 0, 0), 0, []) :: (114, 61, (127, 0, 0, 0), 0, []) :: (117, 1, (8, 0, 0, 0), 0, []) :: (119, 0, (2, 0, 0, 0), 0, []) :: (120, 62, (127, 0, 0, 0), 0, []) :: (123, 8, (0, 0, 0, 0), 1, []) :: (124, 54, (128, 0, 0, 0), 0, []) :: []
def jm_b174_87 : List jx_E := (87, 5, (8, 0, 0, 0), 0, []) :: (89, 1, (8, 0, 0, 0), 0, []) :: (91, 0, (2, 0, 0, 0), 0, []) :: (92, 66, (108, 0, 0, 0), 0, []) :: (95, 1, (8, 0, 0, 0), 0, []) :: (97, 4, (2, 0, 0, 0), 0, []) :: (98, 1, (6, 0, 0, 0), 0, []) :: (100, 4, (3, 0, 0, 0), 0, []) :: (101, 1, (7, 0, 0, 0), 0, []) :: (103, 5, (4, 0, 0, 0), 0, []) :: (105, 8, (0, 0, 0, 0), 0, []) :: (106, 5, (5, 0, 0, 0), 0, []) :: jm_b174_108
def jm_b174_78 : List jx_E := (78, 2, (0, 0, 0, 0), 0, []) :: (79, 1, (6, 0, 0, 0), 0, []) :: (81, 1, (7, 0, 0, 0), 0, []) :: (83, 0, (1, 0, 0, 0), 0, []) :: (84, 49, (173, 4, 10, 372), 0, []) :: jm_b174_87
def jm_b174_55 : List jx_E := (55, 1, (7, 0, 0, 0), 0, []) :: (57, 2, (0, 0, 0, 0), 0, []) :: (58, 33, (10, 1, 0, 19), 0, []) :: (61, 49, (28, 1, 3, 122), 0, []) :: (64, 64, (137, 0, 0, 0), 0, []) :: (67, 1, (6, 0, 0, 0), 0, []) :: (69, 1, (7, 0, 0, 0), 0, []) :: (71, 62, (78, 0, 0, 0), 0, []) :: (74, 8, (0, 0, 0, 0), (-1), []) :: (75, 54, (87, 0, 0, 0), 0, []) :: []
def jm_b174_40 : List jx_E := (40, 1, (6, 0, 0, 0), 0, []) :: (42, 2, (0, 0, 0, 0), 0, []) :: (43, 33, (10, 1, 0, 19), 0, []) :: (46, 49, (28, 1, 3, 122), 0, []) :: (49, 64, (143, 0, 0, 0), 0, []) :: (52, 8, (0, 0, 0, 0), 0, []) :: (53, 5, (7, 0, 0, 0), 0, []) :: jm_b174_55
def jm_b174_27 : List jx_E := (27, 8, (0, 0, 0, 0), (-1), []) :: (28, 4, (2, 0, 0, 0), 0, []) :: (29, 8, (0, 0, 0, 0), (-1), []) :: (30, 4, (3, 0, 0, 0), 0, []) :: (31, 8, (0, 0, 0, 0), (-1), []) :: (32, 5, (4, 0, 0, 0), 0, []) :: (34, 8, (0, 0, 0, 0), 0, []) :: (35, 5, (5, 0, 0, 0), 0, []) :: (37, 8, (0, 0, 0, 0), 0, []) :: (38, 5, (6, 0, 0, 0), 0, []) :: jm_b174_40
def jm_b174_13 : List jx_E := (13, 2, (0, 0, 0, 0), 0, []) :: (14, 33, (10, 1, 0, 19), 0, []) :: (17, 49, (28, 1, 3, 122), 0, []) :: (20, 8, (0, 0, 0, 0), 2, []) :: (21, 64, (27, 0, 0, 0), 0, []) :: (24, 9, (0, 0, 0, 0), (-2), []) :: (26, 69, (0, 0, 0, 0), 0, []) :: []
def jm_b174_0 : List jx_E := (0, 2, (0, 0, 0, 0), 0, []) :: (1, 33, (10, 1, 0, 19), 0, []) :: (4, 0, (1, 0, 0, 0), 0, []) :: (5, 49, (30, 2, 3, 161), 0, []) :: (8, 56, (13, 0, 0, 0), 0, []) :: (11, 8, (0, 0, 0, 0), (-1), []) :: (12, 69, (0, 0, 0, 0), 0, []) :: []
def jm_l174 : jx_B := [(0, jm_b174_0), (13, jm_b174_13), (27, jm_b174_27), (40, jm_b174_40), (55, jm_b174_55), (78, jm_b174_78), (87, jm_b174_87), (108, jm_b174_108), (127, jm_b174_127), (128, jm_b174_128), (137, jm_b174_137), (143, jm_b174_143)]
def jm_i174 : jx_M := (⟨"OfDifferentMinds", "record", "(I)I"⟩, prog_1_method_47_code, 9, (some .int), 0, 2, 10, jm_l174)
theorem jm_ok174 : jx_okM 174 jm_i174 := ⟨by decide +kernel, rfl, by decide +kernel, ⟨by decide +kernel, by decide +kernel⟩, by decide +kernel, jx_mem (i := 1019) (by decide +kernel) rfl, jx_mem (i := 106) (by decide +kernel) rfl, fun _ => ⟨jx_mem (i := 1017) (by decide +kernel) rfl, jx_mem (i := 1018) (by decide +kernel) rfl, by decide⟩, fun h => absurd h (by decide), fun h => absurd h (by decide), by decide, by decide, by decide, by decide +kernel, by decide +kernel⟩
-- OfDifferentMinds.matches(II)I
def jm_b175_113 : List jx_E := (113, 2, (0, 0, 0, 0), 0, []) :: (114, 33, (10, 8, 0, 72), 0, []) :: (117, 0, (1, 0, 0, 0), 0, []) :: (118, 49, (45, 2, 4, 381), 0, []) :: (121, 4, (3, 0, 0, 0), 0, []) :: (122, 2, (0, 0, 0, 0), 0, []) :: (123, 33, (10, 8, 0, 72), 0, []) :: (126, 2, (0, 0, 0, 0), 0, []) :: (127, 33, (10, 1, 0, 19), 0, []) :: (130, 49, (28, 1, 3, 122), 0, []) :: (133, 2, (0, 0, 0, 0), 0, []) :: (134, 33, (10, 5, 0, 47), 0, []) :: (137, 49, (47, 3, 4, 384), 0, []) :: (140, 0, (3, 0, 0, 0), 0, []) :: (141, 69, (0, 0, 0, 0), 0, []) :: []
def jm_b175_107 : List jx_E := (107, 13, (3, 0, 0, 0), 1, []) :: (110, 54, (26, 0, 0, 0), 0, []) :: []
def jm_b175_98 : List jx_E := (98, 49, (44, 4, 4, 378), 0, []) :: (101, 13, (4, 0, 0, 0), 1, []) :: (104, 54, (42, 0, 0, 0), 0, []) :: []
def jm_b175_97 : List jx_E := (97, 8, (0, 0, 0, 0), 0, []) :: jm_b175_98
def jm_b175_72 : List jx_E := (72, 5, (5, 0, 0, 0), 0, []) :: (74, 2, (0, 0, 0, 0), 0, []) :: (75, 33, (10, 8, 0, 72), 0, []) :: (78, 0, (3, 0, 0, 0), 0, []) :: (79, 1, (4, 0, 0, 0), 0, []) :: (81, 1, (5, 0, 0, 0), 0, []) :: (83, 55, (97, 0, 0, 0), 0, []) :: (86, 2, (0, 0, 0, 0), 0, []) :: (87, 0, (3, 0, 0, 0), 0, []) :: (88, 1, (4, 0, 0, 0), 0, []) :: (90, 0, (2, 0, 0, 0), 0, []) :: (91, 49, (173, 4, 10, 372), 0, []) :: (94, 54, (98, 0, 0, 0), 0, []) :: []
def jm_b175_71 : List jx_E := (71, 8, (0, 0, 0, 0), 0, []) :: jm_b175_72
def jm_b175_42 : List jx_E := (42, 1, (4, 0, 0, 0), 0, []) :: (44, 2, (0, 0, 0, 0), 0, []) :: (45, 33, (10, 1, 0, 19), 0, []) :: (48, 49, (28, 1, 3, 122), 0, []) :: (51, 64, (107, 0, 0, 0), 0, []) :: (54, 0, (1, 0, 0, 0), 0, []) :: (55, 0, (3, 0, 0, 0), 0, []) :: (56, 24, (0, 0, 0, 0), 0, []) :: (57, 0, (1, 0, 0, 0), 0, []) :: (58, 1, (4, 0, 0, 0), 0, []) :: (60, 24, (0, 0, 0, 0), 0, []) :: (61, 20, (0, 0, 0, 0), 0, []) :: (62, 8, (0, 0, 0, 0), 1, []) :: (63, 20, (0, 0, 0, 0), 0, []) :: (64, 55, (71, 0, 0, 0), 0, []) :: (67, 8, (0, 0, 0, 0), 1, []) :: (68, 54, (72, 0, 0, 0), 0, []) :: []
def jm_b175_26 : List jx_E := (26, 0, (3, 0, 0, 0), 0, []) :: (27, 2, (0, 0, 0, 0), 0, []) :: (28, 33, (10, 1, 0, 19), 0, []) :: (31, 49, (28, 1, 3, 122), 0, []) :: (34, 64, (113, 0, 0, 0), 0, []) :: (37, 0, (3, 0, 0, 0), 0, []) :: (38, 8, (0, 0, 0, 0), 1, []) :: (39, 14, (0, 0, 0, 0), 0, []) :: (40, 5, (4, 0, 0, 0), 0, []) :: jm_b175_42
def jm_b175_24 : List jx_E := (24, 8, (0, 0, 0, 0), 0, []) :: (25, 4, (3, 0, 0, 0), 0, []) :: jm_b175_26
def jm_b175_22 : List jx_E := (22, 8, (0, 0, 0, 0), (-1), []) :: (23, 69, (0, 0, 0, 0), 0, []) :: []
def jm_b175_0 : List jx_E := (0, 2, (0, 0, 0, 0), 0, []) :: (1, 33, (10, 1, 0, 19), 0, []) :: (4, 0, (1, 0, 0, 0), 0, []) :: (5, 49, (32, 2, 3, 375), 0, []) :: (8, 55, (22, 0, 0, 0), 0, []) :: (11, 2, (0, 0, 0, 0), 0, []) :: (12, 33, (10, 1, 0, 19), 0, []) :: (15, 0, (2, 0, 0, 0), 0, []) :: (16, 49, (30, 2, 3, 161), 0, []) :: (19, 56, (24, 0, 0, 0), 0, []) :: jm_b175_22
def jm_l175 : jx_B := [(0, jm_b175_0), (22, jm_b175_22), (24, jm_b175_24), (26, jm_b175_26), (42, jm_b175_42), (71, jm_b175_71), (72, jm_b175_72), (97, jm_b175_97), (98, jm_b175_98), (107, jm_b175_107), (113, jm_b175_113)]
def jm_i175 : jx_M := (⟨"OfDifferentMinds", "matches", "(II)I"⟩, prog_1_method_48_code, 6, (some .int), 0, 3, 10, jm_l175)
theorem jm_ok175 : jx_okM 175 jm_i175 := ⟨by decide +kernel, rfl, by decide +kernel, ⟨by decide +kernel, by decide +kernel⟩, by decide +kernel, jx_mem (i := 1027) (by decide +kernel) rfl, jx_mem (i := 106) (by decide +kernel) rfl, fun _ => ⟨jx_mem (i := 1025) (by decide +kernel) rfl, jx_mem (i := 1026) (by decide +kernel) rfl, by decide⟩, fun h => absurd h (by decide), fun h => absurd h (by decide), by decide, by decide, by decide, by decide +kernel, by decide +kernel⟩
-- OfDifferentMinds.partner(II)I
def jm_b176_92 : List jx_E := (92, 2, (0, 0, 0, 0), 0, []) :: (93, 33, (10, 5, 0, 47), 0, []) :: (96, 0, (3, 0, 0, 0), 0, []) :: (97, 49, (70, 2, 6, 339), 0, []) :: (100, 1, (4, 0, 0, 0), 0, []) :: (102, 69, (0, 0, 0, 0), 0, []) :: []
def jm_b176_83 : List jx_E := (83, 1, (4, 0, 0, 0), 0, []) :: (85, 8, (0, 0, 0, 0), (-1), []) :: (86, 62, (92, 0, 0, 0), 0, []) :: (89, 9, (0, 0, 0, 0), (-2), []) :: (91, 69, (0, 0, 0, 0), 0, []) :: []
def jm_b176_77 : List jx_E := (77, 13, (5, 0, 0, 0), 1, []) :: (80, 54, (32, 0, 0, 0), 0, []) :: []
def jm_b176_62 : List jx_E := (62, 5, (6, 0, 0, 0), 0, []) :: (64, 1, (6, 0, 0, 0), 0, []) :: (66, 0, (3, 0, 0, 0), 0, []) :: (67, 66, (77, 0, 0, 0), 0, []) :: (70, 1, (6, 0, 0, 0), 0, []) :: (72, 4, (3, 0, 0, 0), 0, []) :: (73, 1, (5, 0, 0, 0), 0, []) :: (75, 5, (4, 0, 0, 0), 0, []) :: jm_b176_77
def jm_b176_54 : List jx_E := (54, 2, (0, 0, 0, 0), 0, []) :: (55, 0, (1, 0, 0, 0), 0, []) :: (56, 1, (5, 0, 0, 0), 0, []) :: (58, 0, (2, 0, 0, 0), 0, []) :: (59, 49, (173, 4, 10, 372), 0, []) :: jm_b176_62
def jm_b176_32 : List jx_E := (32, 1, (5, 0, 0, 0), 0, []) :: (34, 2, (0, 0, 0, 0), 0, []) :: (35, 33, (10, 1, 0, 19), 0, []) :: (38, 49, (28, 1, 3, 122), 0, []) :: (41, 64, (83, 0, 0, 0), 0, []) :: (44, 1, (5, 0, 0, 0), 0, []) :: (46, 0, (1, 0, 0, 0), 0, []) :: (47, 62, (54, 0, 0, 0), 0, []) :: (50, 8, (0, 0, 0, 0), (-1), []) :: (51, 54, (62, 0, 0, 0), 0, []) :: []
def jm_b176_24 : List jx_E := (24, 8, (0, 0, 0, 0), (-1), []) :: (25, 4, (3, 0, 0, 0), 0, []) :: (26, 8, (0, 0, 0, 0), (-1), []) :: (27, 5, (4, 0, 0, 0), 0, []) :: (29, 8, (0, 0, 0, 0), 0, []) :: (30, 5, (5, 0, 0, 0), 0, []) :: jm_b176_32
def jm_b176_22 : List jx_E := (22, 8, (0, 0, 0, 0), (-1), []) :: (23, 69, (0, 0, 0, 0), 0, []) :: []
def jm_b176_0 : List jx_E := (0, 2, (0, 0, 0, 0), 0, []) :: (1, 33, (10, 1, 0, 19), 0, []) :: (4, 0, (1, 0, 0, 0), 0, []) :: (5, 49, (31, 2, 3, 186), 0, []) :: (8, 55, (22, 0, 0, 0), 0, []) :: (11, 2, (0, 0, 0, 0), 0, []) :: (12, 33, (10, 1, 0, 19), 0, []) :: (15, 0, (2, 0, 0, 0), 0, []) :: (16, 49, (30, 2, 3, 161), 0, []) :: (19, 56, (24, 0, 0, 0), 0, []) :: jm_b176_22
def jm_l176 : jx_B := [(0, jm_b176_0), (22, jm_b176_22), (24, jm_b176_24), (32, jm_b176_32), (54, jm_b176_54), (62, jm_b176_62), (77, jm_b176_77), (83, jm_b176_83), (92, jm_b176_92)]
def jm_i176 : jx_M := (⟨"OfDifferentMinds", "partner", "(II)I"⟩, prog_1_method_49_code, 7, (some .int), 0, 3, 10, jm_l176)
theorem jm_ok176 : jx_okM 176 jm_i176 := ⟨by decide +kernel, rfl, by decide +kernel, ⟨by decide +kernel, by decide +kernel⟩, by decide +kernel, jx_mem (i := 1060) (by decide +kernel) rfl, jx_mem (i := 106) (by decide +kernel) rfl, fun _ => ⟨jx_mem (i := 1058) (by decide +kernel) rfl, jx_mem (i := 1059) (by decide +kernel) rfl, by decide⟩, fun h => absurd h (by decide), fun h => absurd h (by decide), by decide, by decide, by decide, by decide +kernel, by decide +kernel⟩
-- OfDifferentMinds.agree(II)I
def jm_b177_58 : List jx_E := (58, 2, (0, 0, 0, 0), 0, []) :: (59, 33, (10, 5, 0, 47), 0, []) :: (62, 0, (3, 0, 0, 0), 0, []) :: (63, 50, (309, 1, 0, 386), 0, []) :: (66, 49, (70, 2, 6, 339), 0, []) :: (69, 0, (3, 0, 0, 0), 0, []) :: (70, 69, (0, 0, 0, 0), 0, []) :: []
def jm_b177_52 : List jx_E := (52, 13, (4, 0, 0, 0), 1, []) :: (55, 54, (16, 0, 0, 0), 0, []) :: []
def jm_b177_16 : List jx_E := (16, 1, (4, 0, 0, 0), 0, []) :: (18, 2, (0, 0, 0, 0), 0, []) :: (19, 33, (10, 1, 0, 19), 0, []) :: (22, 49, (27, 1, 3, 115), 0, []) :: (25, 64, (58, 0, 0, 0), 0, []) :: (28, 2, (0, 0, 0, 0), 0, []) :: (29, 0, (1, 0, 0, 0), 0, []) :: (30, 1, (4, 0, 0, 0), 0, []) :: (32, 49, (138, 3, 10, 200), 0, []) :: (35, 2, (0, 0, 0, 0), 0, []) :: (36, 0, (2, 0, 0, 0), 0, []) :: (37, 1, (4, 0, 0, 0), 0, []) :: (39, 49, (138, 3, 10, 200), 0, []) :: (42, 62, (52, 0, 0, 0), 0, []) :: (45, 0, (3, 0, 0, 0), 0, []) :: (46, 8, (0, 0, 0, 0), 1, []) :: (47, 1, (4, 0, 0, 0), 0, []) :: (49, 23, (0, 0, 0, 0), 0, []) :: (50, 21, (0, 0, 0, 0), 0, []) :: (51, 4, (3, 0, 0, 0), 0, []) :: jm_b177_52
def jm_b177_11 : List jx_E := (11, 8, (0, 0, 0, 0), 0, []) :: (12, 4, (3, 0, 0, 0), 0, []) :: (13, 8, (0, 0, 0, 0), 0, []) :: (14, 5, (4, 0, 0, 0), 0, []) :: jm_b177_16
def jm_b177_0 : List jx_E := (0, 2, (0, 0, 0, 0), 0, []) :: (1, 0, (1, 0, 0, 0), 0, []) :: (2, 0, (2, 0, 0, 0), 0, []) :: (3, 49, (151, 3, 10, 271), 0, []) :: (6, 56, (11, 0, 0, 0), 0, []) :: (9, 8, (0, 0, 0, 0), (-1), []) :: (10, 69, (0, 0, 0, 0), 0, []) :: []
def jm_l177 : jx_B := [(0, jm_b177_0), (11, jm_b177_11), (16, jm_b177_16), (52, jm_b177_52), (58, jm_b177_58)]
def jm_i177 : jx_M := (⟨"OfDifferentMinds", "agree", "(II)I"⟩, prog_1_method_50_code, 5, (some .int), 0, 3, 10, jm_l177)
theorem jm_ok177 : jx_okM 177 jm_i177 := ⟨by decide +kernel, rfl, by decide +kernel, ⟨by decide +kernel, by decide +kernel⟩, by decide +kernel, jx_mem (i := 1064) (by decide +kernel) rfl, jx_mem (i := 106) (by decide +kernel) rfl, fun _ => ⟨jx_mem (i := 1062) (by decide +kernel) rfl, jx_mem (i := 1063) (by decide +kernel) rfl, by decide⟩, fun h => absurd h (by decide), fun h => absurd h (by decide), by decide, by decide, by decide, by decide +kernel, by decide +kernel⟩
-- OfDifferentMinds.convinces(III)I
def jm_b178_74 : List jx_E := (74, 2, (0, 0, 0, 0), 0, []) :: (75, 33, (10, 5, 0, 47), 0, []) :: (78, 2, (0, 0, 0, 0), 0, []) :: (79, 33, (10, 6, 0, 56), 0, []) :: (82, 49, (54, 1, 5, 293), 0, []) :: (85, 2, (0, 0, 0, 0), 0, []) :: (86, 33, (10, 6, 0, 56), 0, []) :: (89, 2, (0, 0, 0, 0), 0, []) :: (90, 33, (10, 6, 0, 56), 0, []) :: (93, 49, (55, 1, 5, 252), 0, []) :: (96, 49, (57, 2, 5, 391), 0, []) :: (99, 49, (71, 3, 6, 320), 0, []) :: (102, 2, (0, 0, 0, 0), 0, []) :: (103, 33, (10, 6, 0, 56), 0, []) :: (106, 49, (55, 1, 5, 252), 0, []) :: (109, 69, (0, 0, 0, 0), 0, []) :: []
def jm_b178_60 : List jx_E := (60, 2, (0, 0, 0, 0), 0, []) :: (61, 33, (10, 6, 0, 56), 0, []) :: (64, 49, (55, 1, 5, 252), 0, []) :: (67, 8, (0, 0, 0, 0), (-1), []) :: (68, 62, (74, 0, 0, 0), 0, []) :: (71, 9, (0, 0, 0, 0), (-2), []) :: (73, 69, (0, 0, 0, 0), 0, []) :: []
def jm_b178_25 : List jx_E := (25, 1, (4, 0, 0, 0), 0, []) :: (27, 10, (0, 0, 0, 0), 200, []) :: (30, 64, (60, 0, 0, 0), 0, []) :: (33, 2, (0, 0, 0, 0), 0, []) :: (34, 33, (10, 6, 0, 56), 0, []) :: (37, 49, (55, 1, 5, 252), 0, []) :: (40, 8, (0, 0, 0, 0), (-1), []) :: (41, 62, (60, 0, 0, 0), 0, []) :: (44, 2, (0, 0, 0, 0), 0, []) :: (45, 33, (10, 6, 0, 56), 0, []) :: (48, 49, (61, 1, 5, 341), 0, []) :: (51, 55, (60, 0, 0, 0), 0, []) :: (54, 13, (4, 0, 0, 0), 1, []) :: (57, 54, (25, 0, 0, 0), 0, []) :: []
def jm_b178_12 : List jx_E := (12, 2, (0, 0, 0, 0), 0, []) :: (13, 33, (10, 6, 0, 56), 0, []) :: (16, 0, (1, 0, 0, 0), 0, []) :: (17, 0, (2, 0, 0, 0), 0, []) :: (18, 0, (3, 0, 0, 0), 0, []) :: (19, 49, (50, 4, 5, 333), 0, []) :: (22, 8, (0, 0, 0, 0), 0, []) :: (23, 5, (4, 0, 0, 0), 0, []) :: jm_b178_25
def jm_b178_0 : List jx_E := (0, 2, (0, 0, 0, 0), 0, []) :: (1, 0, (1, 0, 0, 0), 0, []) :: (2, 0, (2, 0, 0, 0), 0, []) :: (3, 0, (3, 0, 0, 0), 0, []) :: (4, 49, (163, 4, 10, 329), 0, []) :: (7, 56, (12, 0, 0, 0), 0, []) :: (10, 8, (0, 0, 0, 0), (-1), []) :: (11, 69, (0, 0, 0, 0), 0, []) :: []
def jm_l178 : jx_B := [(0, jm_b178_0), (12, jm_b178_12), (25, jm_b178_25), (60, jm_b178_60), (74, jm_b178_74)]
def jm_i178 : jx_M := (⟨"OfDifferentMinds", "convinces", "(III)I"⟩, prog_1_method_51_code, 5, (some .int), 0, 4, 10, jm_l178)
theorem jm_ok178 : jx_okM 178 jm_i178 := ⟨by decide +kernel, rfl, by decide +kernel, ⟨by decide +kernel, by decide +kernel⟩, by decide +kernel, jx_mem (i := 1069) (by decide +kernel) rfl, jx_mem (i := 106) (by decide +kernel) rfl, fun _ => ⟨jx_mem (i := 1067) (by decide +kernel) rfl, jx_mem (i := 1068) (by decide +kernel) rfl, by decide⟩, fun h => absurd h (by decide), fun h => absurd h (by decide), by decide, by decide, by decide, by decide +kernel, by decide +kernel⟩
-- OfDifferentMinds.claim(II)I
def jm_b179_96 : List jx_E := (96, 1, (4, 0, 0, 0), 0, []) :: (98, 69, (0, 0, 0, 0), 0, []) :: []
def jm_b179_90 : List jx_E := (90, 13, (5, 0, 0, 0), 1, []) :: (93, 54, (61, 0, 0, 0), 0, []) :: []
def jm_b179_61 : List jx_E := (61, 1, (5, 0, 0, 0), 0, []) :: (63, 0, (3, 0, 0, 0), 0, []) :: (64, 64, (96, 0, 0, 0), 0, []) :: (67, 2, (0, 0, 0, 0), 0, []) :: (68, 33, (10, 6, 0, 56), 0, []) :: (71, 0, (1, 0, 0, 0), 0, []) :: (72, 1, (5, 0, 0, 0), 0, []) :: (74, 49, (59, 3, 5, 394), 0, []) :: (77, 0, (2, 0, 0, 0), 0, []) :: (78, 62, (90, 0, 0, 0), 0, []) :: (81, 1, (4, 0, 0, 0), 0, []) :: (83, 8, (0, 0, 0, 0), 1, []) :: (84, 1, (5, 0, 0, 0), 0, []) :: (86, 23, (0, 0, 0, 0), 0, []) :: (87, 21, (0, 0, 0, 0), 0, []) :: (88, 5, (4, 0, 0, 0), 0, []) :: jm_b179_90
def jm_b179_48 : List jx_E := (48, 8, (0, 0, 0, 0), 0, []) :: (49, 5, (4, 0, 0, 0), 0, []) :: (51, 2, (0, 0, 0, 0), 0, []) :: (52, 33, (10, 6, 0, 56), 0, []) :: (55, 49, (51, 1, 5, 284), 0, []) :: (58, 8, (0, 0, 0, 0), 0, []) :: (59, 5, (5, 0, 0, 0), 0, []) :: jm_b179_61
def jm_b179_45 : List jx_E := (45, 9, (0, 0, 0, 0), (-2), []) :: (47, 69, (0, 0, 0, 0), 0, []) :: []
def jm_b179_11 : List jx_E := (11, 2, (0, 0, 0, 0), 0, []) :: (12, 33, (10, 1, 0, 19), 0, []) :: (15, 2, (0, 0, 0, 0), 0, []) :: (16, 33, (10, 3, 0, 33), 0, []) :: (19, 49, (103, 1, 8, 278), 0, []) :: (22, 49, (33, 2, 3, 171), 0, []) :: (25, 4, (3, 0, 0, 0), 0, []) :: (26, 2, (0, 0, 0, 0), 0, []) :: (27, 33, (10, 3, 0, 33), 0, []) :: (30, 49, (109, 1, 8, 275), 0, []) :: (33, 55, (45, 0, 0, 0), 0, []) :: (36, 0, (2, 0, 0, 0), 0, []) :: (37, 57, (45, 0, 0, 0), 0, []) :: (40, 0, (2, 0, 0, 0), 0, []) :: (41, 0, (3, 0, 0, 0), 0, []) :: (42, 63, (48, 0, 0, 0), 0, []) :: jm_b179_45
def jm_b179_9 : List jx_E := (9, 8, (0, 0, 0, 0), (-1), []) :: (10, 69, (0, 0, 0, 0), 0, []) :: []
def jm_b179_0 : List jx_E := (0, 0, (1, 0, 0, 0), 0, []) :: (1, 57, (9, 0, 0, 0), 0, []) :: (4, 0, (1, 0, 0, 0), 0, []) :: (5, 8, (0, 0, 0, 0), 1, []) :: (6, 66, (11, 0, 0, 0), 0, []) :: jm_b179_9
def jm_l179 : jx_B := [(0, jm_b179_0), (9, jm_b179_9), (11, jm_b179_11), (45, jm_b179_45), (48, jm_b179_48), (61, jm_b179_61), (90, jm_b179_90), (96, jm_b179_96)]
def jm_i179 : jx_M := (⟨"OfDifferentMinds", "claim", "(II)I"⟩, prog_1_method_52_code, 6, (some .int), 0, 3, 10, jm_l179)
theorem jm_ok179 : jx_okM 179 jm_i179 := ⟨by decide +kernel, rfl, by decide +kernel, ⟨by decide +kernel, by decide +kernel⟩, by decide +kernel, jx_mem (i := 1077) (by decide +kernel) rfl, jx_mem (i := 106) (by decide +kernel) rfl, fun _ => ⟨jx_mem (i := 1075) (by decide +kernel) rfl, jx_mem (i := 1076) (by decide +kernel) rfl, by decide⟩, fun h => absurd h (by decide), fun h => absurd h (by decide), by decide, by decide, by decide, by decide +kernel, by decide +kernel⟩
-- OfDifferentMinds.lie(II)I
def jm_b180_152 : List jx_E := (152, 1, (4, 0, 0, 0), 0, []) :: (154, 69, (0, 0, 0, 0), 0, []) :: []
def jm_b180_137 : List jx_E := (137, 1, (4, 0, 0, 0), 0, []) :: (139, 9, (0, 0, 0, 0), (-2), []) :: (141, 61, (152, 0, 0, 0), 0, []) :: (144, 2, (0, 0, 0, 0), 0, []) :: (145, 33, (10, 5, 0, 47), 0, []) :: (148, 0, (3, 0, 0, 0), 0, []) :: (149, 49, (70, 2, 6, 339), 0, []) :: jm_b180_152
def jm_b180_131 : List jx_E := (131, 13, (5, 0, 0, 0), 1, []) :: (134, 54, (46, 0, 0, 0), 0, []) :: []
def jm_b180_101 : List jx_E := (101, 5, (6, 0, 0, 0), 0, []) :: (103, 1, (6, 0, 0, 0), 0, []) :: (105, 55, (131, 0, 0, 0), 0, []) :: (108, 2, (0, 0, 0, 0), 0, []) :: (109, 33, (10, 6, 0, 56), 0, []) :: (112, 49, (54, 1, 5, 293), 0, []) :: (115, 0, (3, 0, 0, 0), 0, []) :: (116, 64, (131, 0, 0, 0), 0, []) :: (119, 2, (0, 0, 0, 0), 0, []) :: (120, 33, (10, 6, 0, 56), 0, []) :: (123, 49, (54, 1, 5, 293), 0, []) :: (126, 4, (3, 0, 0, 0), 0, []) :: (127, 1, (5, 0, 0, 0), 0, []) :: (129, 5, (4, 0, 0, 0), 0, []) :: jm_b180_131
def jm_b180_100 : List jx_E := (100, 8, (0, 0, 0, 0), 0, []) :: jm_b180_101
def jm_b180_46 : List jx_E := (46, 1, (5, 0, 0, 0), 0, []) :: (48, 2, (0, 0, 0, 0), 0, []) :: (49, 33, (10, 1, 0, 19), 0, []) :: (52, 2, (0, 0, 0, 0), 0, []) :: (53, 33, (10, 3, 0, 33), 0, []) :: (56, 49, (103, 1, 8, 278), 0, []) :: (59, 49, (33, 2, 3, 171), 0, []) :: (62, 64, (137, 0, 0, 0), 0, []) :: (65, 2, (0, 0, 0, 0), 0, []) :: (66, 33, (10, 6, 0, 56), 0, []) :: (69, 49, (51, 1, 5, 284), 0, []) :: (72, 2, (0, 0, 0, 0), 0, []) :: (73, 33, (10, 6, 0, 56), 0, []) :: (76, 0, (1, 0, 0, 0), 0, []) :: (77, 1, (5, 0, 0, 0), 0, []) :: (79, 49, (60, 3, 5, 397), 0, []) :: (82, 55, (100, 0, 0, 0), 0, []) :: (85, 2, (0, 0, 0, 0), 0, []) :: (86, 33, (10, 6, 0, 56), 0, []) :: (89, 0, (2, 0, 0, 0), 0, []) :: (90, 49, (66, 2, 5, 347), 0, []) :: (93, 55, (100, 0, 0, 0), 0, []) :: (96, 8, (0, 0, 0, 0), 1, []) :: (97, 54, (101, 0, 0, 0), 0, []) :: []
def jm_b180_35 : List jx_E := (35, 10, (0, 0, 0, 0), 201, []) :: (38, 4, (3, 0, 0, 0), 0, []) :: (39, 9, (0, 0, 0, 0), (-2), []) :: (41, 5, (4, 0, 0, 0), 0, []) :: (43, 8, (0, 0, 0, 0), 0, []) :: (44, 5, (5, 0, 0, 0), 0, []) :: jm_b180_46
def jm_b180_22 : List jx_E := (22, 2, (0, 0, 0, 0), 0, []) :: (23, 33, (10, 3, 0, 33), 0, []) :: (26, 49, (109, 1, 8, 275), 0, []) :: (29, 56, (35, 0, 0, 0), 0, []) :: (32, 9, (0, 0, 0, 0), (-2), []) :: (34, 69, (0, 0, 0, 0), 0, []) :: []
def jm_b180_20 : List jx_E := (20, 8, (0, 0, 0, 0), (-1), []) :: (21, 69, (0, 0, 0, 0), 0, []) :: []
def jm_b180_0 : List jx_E := (0, 0, (1, 0, 0, 0), 0, []) :: (1, 57, (20, 0, 0, 0), 0, []) :: (4, 0, (1, 0, 0, 0), 0, []) :: (5, 8, (0, 0, 0, 0), 1, []) :: (6, 65, (20, 0, 0, 0), 0, []) :: (9, 2, (0, 0, 0, 0), 0, []) :: (10, 33, (10, 1, 0, 19), 0, []) :: (13, 0, (2, 0, 0, 0), 0, []) :: (14, 49, (30, 2, 3, 161), 0, []) :: (17, 56, (22, 0, 0, 0), 0, []) :: jm_b180_20
def jm_l180 : jx_B := [(0, jm_b180_0), (20, jm_b180_20), (22, jm_b180_22), (35, jm_b180_35), (46, jm_b180_46), (100, jm_b180_100), (101, jm_b180_101), (131, jm_b180_131), (137, jm_b180_137), (152, jm_b180_152)]
def jm_i180 : jx_M := (⟨"OfDifferentMinds", "lie", "(II)I"⟩, prog_1_method_53_code, 7, (some .int), 0, 3, 10, jm_l180)
theorem jm_ok180 : jx_okM 180 jm_i180 := ⟨by decide +kernel, rfl, by decide +kernel, ⟨by decide +kernel, by decide +kernel⟩, by decide +kernel, jx_mem (i := 1085) (by decide +kernel) rfl, jx_mem (i := 106) (by decide +kernel) rfl, fun _ => ⟨jx_mem (i := 1083) (by decide +kernel) rfl, jx_mem (i := 1084) (by decide +kernel) rfl, by decide⟩, fun h => absurd h (by decide), fun h => absurd h (by decide), by decide, by decide, by decide, by decide +kernel, by decide +kernel⟩
-- OfDifferentMinds.prints()I
def jm_b181_91 : List jx_E := (91, 69, (0, 0, 0, 0), 0, []) :: []
def jm_b181_88 : List jx_E := (88, 8, (0, 0, 0, 0), (-1), []) :: (89, 0, (1, 0, 0, 0), 0, []) :: (90, 15, (0, 0, 0, 0), 0, []) :: jm_b181_91
def jm_b181_69 : List jx_E := (69, 2, (0, 0, 0, 0), 0, []) :: (70, 33, (10, 0, 0, 10), 0, []) :: (73, 49, (117, 1, 9, 114), 0, []) :: (76, 0, (1, 0, 0, 0), 0, []) :: (77, 8, (0, 0, 0, 0), (-1), []) :: (78, 62, (88, 0, 0, 0), 0, []) :: (81, 2, (0, 0, 0, 0), 0, []) :: (82, 32, (10, 12, 0, 110), 0, []) :: (85, 54, (91, 0, 0, 0), 0, []) :: []
def jm_b181_38 : List jx_E := (38, 0, (2, 0, 0, 0), 0, []) :: (39, 2, (0, 0, 0, 0), 0, []) :: (40, 32, (10, 12, 0, 110), 0, []) :: (43, 64, (69, 0, 0, 0), 0, []) :: (46, 2, (0, 0, 0, 0), 0, []) :: (47, 33, (10, 9, 0, 76), 0, []) :: (50, 0, (2, 0, 0, 0), 0, []) :: (51, 2, (0, 0, 0, 0), 0, []) :: (52, 33, (10, 0, 0, 10), 0, []) :: (55, 0, (2, 0, 0, 0), 0, []) :: (56, 49, (114, 2, 9, 404), 0, []) :: (59, 9, (0, 0, 0, 0), 97, []) :: (61, 15, (0, 0, 0, 0), 0, []) :: (62, 41, (0, 0, 0, 0), 0, []) :: (63, 13, (2, 0, 0, 0), 1, []) :: (66, 54, (38, 0, 0, 0), 0, []) :: []
def jm_b181_0 : List jx_E := (0, 2, (0, 0, 0, 0), 0, []) :: (1, 33, (10, 0, 0, 10), 0, []) :: (4, 2, (0, 0, 0, 0), 0, []) :: (5, 33, (10, 1, 0, 19), 0, []) :: (8, 49, (27, 1, 3, 115), 0, []) :: (11, 50, (17, 2, 0, 400), 0, []) :: (14, 4, (1, 0, 0, 0), 0, []) :: (15, 0, (1, 0, 0, 0), 0, []) :: (16, 8, (0, 0, 0, 0), (-1), []) :: (17, 62, (69, 0, 0, 0), 0, []) :: (20, 2, (0, 0, 0, 0), 0, []) :: (21, 2, (0, 0, 0, 0), 0, []) :: (22, 33, (10, 0, 0, 10), 0, []) :: (25, 49, (113, 1, 9, 119), 0, []) :: (28, 9, (0, 0, 0, 0), 20, []) :: (30, 73, (311, 0, 0, 221), 0, []) :: (33, 34, (10, 12, 0, 110), 0, []) :: (36, 8, (0, 0, 0, 0), 0, []) :: (37, 4, (2, 0, 0, 0), 0, []) :: jm_b181_38
def jm_l181 : jx_B := [(0, jm_b181_0), (38, jm_b181_38), (69, jm_b181_69), (88, jm_b181_88), (91, jm_b181_91)]
def jm_i181 : jx_M := (⟨"OfDifferentMinds", "prints", "()I"⟩, prog_1_method_54_code, 3, (some .int), 0, 1, 10, jm_l181)
theorem jm_ok181 : jx_okM 181 jm_i181 := ⟨by decide +kernel, rfl, by decide +kernel, ⟨by decide +kernel, by decide +kernel⟩, by decide +kernel, jx_mem (i := 1094) (by decide +kernel) rfl, jx_mem (i := 106) (by decide +kernel) rfl, fun _ => ⟨jx_mem (i := 1092) (by decide +kernel) rfl, jx_mem (i := 1093) (by decide +kernel) rfl, by decide⟩, fun h => absurd h (by decide), fun h => absurd h (by decide), by decide, by decide, by decide, by decide +kernel, by decide +kernel⟩
-- OfDifferentMinds.fits()I
def jm_b182_87 : List jx_E := (87, 0, (1, 0, 0, 0), 0, []) :: (88, 69, (0, 0, 0, 0), 0, []) :: []
def jm_b182_81 : List jx_E := (81, 13, (2, 0, 0, 0), 1, []) :: (84, 54, (21, 0, 0, 0), 0, []) :: []
def jm_b182_75 : List jx_E := (75, 13, (3, 0, 0, 0), 1, []) :: (78, 54, (34, 0, 0, 0), 0, []) :: []
def jm_b182_72 : List jx_E := (72, 13, (1, 0, 0, 0), 1, []) :: jm_b182_75
def jm_b182_34 : List jx_E := (34, 0, (3, 0, 0, 0), 0, []) :: (35, 2, (0, 0, 0, 0), 0, []) :: (36, 33, (10, 1, 0, 19), 0, []) :: (39, 49, (28, 1, 3, 122), 0, []) :: (42, 64, (81, 0, 0, 0), 0, []) :: (45, 0, (2, 0, 0, 0), 0, []) :: (46, 0, (3, 0, 0, 0), 0, []) :: (47, 61, (75, 0, 0, 0), 0, []) :: (50, 2, (0, 0, 0, 0), 0, []) :: (51, 0, (2, 0, 0, 0), 0, []) :: (52, 0, (3, 0, 0, 0), 0, []) :: (53, 49, (183, 3, 10, 407), 0, []) :: (56, 55, (75, 0, 0, 0), 0, []) :: (59, 0, (1, 0, 0, 0), 0, []) :: (60, 56, (72, 0, 0, 0), 0, []) :: (63, 2, (0, 0, 0, 0), 0, []) :: (64, 33, (10, 5, 0, 47), 0, []) :: (67, 0, (2, 0, 0, 0), 0, []) :: (68, 0, (3, 0, 0, 0), 0, []) :: (69, 49, (71, 3, 6, 320), 0, []) :: jm_b182_72
def jm_b182_21 : List jx_E := (21, 0, (2, 0, 0, 0), 0, []) :: (22, 2, (0, 0, 0, 0), 0, []) :: (23, 33, (10, 1, 0, 19), 0, []) :: (26, 49, (28, 1, 3, 122), 0, []) :: (29, 64, (87, 0, 0, 0), 0, []) :: (32, 8, (0, 0, 0, 0), 0, []) :: (33, 4, (3, 0, 0, 0), 0, []) :: jm_b182_34
def jm_b182_10 : List jx_E := (10, 8, (0, 0, 0, 0), 0, []) :: (11, 4, (1, 0, 0, 0), 0, []) :: (12, 2, (0, 0, 0, 0), 0, []) :: (13, 33, (10, 5, 0, 47), 0, []) :: (16, 49, (68, 1, 6, 350), 0, []) :: (19, 8, (0, 0, 0, 0), 0, []) :: (20, 4, (2, 0, 0, 0), 0, []) :: jm_b182_21
def jm_b182_0 : List jx_E := (0, 2, (0, 0, 0, 0), 0, []) :: (1, 32, (10, 12, 0, 110), 0, []) :: (4, 56, (10, 0, 0, 0), 0, []) :: (7, 9, (0, 0, 0, 0), (-2), []) :: (9, 69, (0, 0, 0, 0), 0, []) :: []
def jm_l182 : jx_B := [(0, jm_b182_0), (10, jm_b182_10), (21, jm_b182_21), (34, jm_b182_34), (72, jm_b182_72), (75, jm_b182_75), (81, jm_b182_81), (87, jm_b182_87)]
def jm_i182 : jx_M := (⟨"OfDifferentMinds", "fits", "()I"⟩, prog_1_method_55_code, 4, (some .int), 0, 1, 10, jm_l182)
theorem jm_ok182 : jx_okM 182 jm_i182 := ⟨by decide +kernel, rfl, by decide +kernel, ⟨by decide +kernel, by decide +kernel⟩, by decide +kernel, jx_mem (i := 1102) (by decide +kernel) rfl, jx_mem (i := 106) (by decide +kernel) rfl, fun _ => ⟨jx_mem (i := 1100) (by decide +kernel) rfl, jx_mem (i := 1101) (by decide +kernel) rfl, by decide⟩, fun h => absurd h (by decide), fun h => absurd h (by decide), by decide, by decide, by decide, by decide +kernel, by decide +kernel⟩
-- OfDifferentMinds.leavesPrints(II)Z
def jm_b183_59 : List jx_E := (59, 8, (0, 0, 0, 0), 1, []) :: (60, 70, (0, 0, 0, 0), 0, []) :: []
def jm_b183_53 : List jx_E := (53, 13, (3, 0, 0, 0), 1, []) :: (56, 54, (17, 0, 0, 0), 0, []) :: []
def jm_b183_51 : List jx_E := (51, 8, (0, 0, 0, 0), 0, []) :: (52, 70, (0, 0, 0, 0), 0, []) :: []
def jm_b183_17 : List jx_E := (17, 0, (3, 0, 0, 0), 0, []) :: (18, 2, (0, 0, 0, 0), 0, []) :: (19, 32, (10, 12, 0, 110), 0, []) :: (22, 64, (59, 0, 0, 0), 0, []) :: (25, 2, (0, 0, 0, 0), 0, []) :: (26, 33, (10, 6, 0, 56), 0, []) :: (29, 49, (61, 1, 5, 341), 0, []) :: (32, 55, (51, 0, 0, 0), 0, []) :: (35, 2, (0, 0, 0, 0), 0, []) :: (36, 33, (10, 6, 0, 56), 0, []) :: (39, 49, (53, 1, 5, 246), 0, []) :: (42, 2, (0, 0, 0, 0), 0, []) :: (43, 33, (10, 9, 0, 76), 0, []) :: (46, 0, (3, 0, 0, 0), 0, []) :: (47, 38, (0, 0, 0, 0), 0, []) :: (48, 61, (53, 0, 0, 0), 0, []) :: jm_b183_51
def jm_b183_0 : List jx_E := (0, 2, (0, 0, 0, 0), 0, []) :: (1, 33, (10, 6, 0, 56), 0, []) :: (4, 0, (1, 0, 0, 0), 0, []) :: (5, 0, (2, 0, 0, 0), 0, []) :: (6, 2, (0, 0, 0, 0), 0, []) :: (7, 33, (10, 9, 0, 76), 0, []) :: (10, 8, (0, 0, 0, 0), 0, []) :: (11, 38, (0, 0, 0, 0), 0, []) :: (12, 49, (50, 4, 5, 333), 0, []) :: (15, 8, (0, 0, 0, 0), 1, []) :: (16, 4, (3, 0, 0, 0), 0, []) :: jm_b183_17
def jm_l183 : jx_B := [(0, jm_b183_0), (17, jm_b183_17), (51, jm_b183_51), (53, jm_b183_53), (59, jm_b183_59)]
def jm_i183 : jx_M := (⟨"OfDifferentMinds", "leavesPrints", "(II)Z"⟩, prog_1_method_56_code, 4, (some .boolean), 0, 3, 10, jm_l183)
theorem jm_ok183 : jx_okM 183 jm_i183 := ⟨by decide +kernel, rfl, by decide +kernel, ⟨by decide +kernel, by decide +kernel⟩, by decide +kernel, jx_mem (i := 1106) (by decide +kernel) rfl, jx_mem (i := 106) (by decide +kernel) rfl, fun _ => ⟨jx_mem (i := 1105) (by decide +kernel) rfl, jx_mem (i := 35) (by decide +kernel) rfl, by decide⟩, fun h => absurd h (by decide), fun h => absurd h (by decide), by decide, by decide, by decide, by decide +kernel, by decide +kernel⟩
-- OfDifferentMinds.views()I
def jm_b184_78 : List jx_E := (78, 0, (1, 0, 0, 0), 0, []) :: (79, 69, (0, 0, 0, 0), 0, []) :: []
def jm_b184_72 : List jx_E := (72, 13, (2, 0, 0, 0), 1, []) :: (75, 54, (21, 0, 0, 0), 0, []) :: []
def jm_b184_21 : List jx_E := (21, 0, (2, 0, 0, 0), 0, []) :: (22, 8, (0, 0, 0, 0), 1, []) :: (23, 14, (0, 0, 0, 0), 0, []) :: (24, 2, (0, 0, 0, 0), 0, []) :: (25, 32, (10, 12, 0, 110), 0, []) :: (28, 64, (78, 0, 0, 0), 0, []) :: (31, 2, (0, 0, 0, 0), 0, []) :: (32, 0, (2, 0, 0, 0), 0, []) :: (33, 2, (0, 0, 0, 0), 0, []) :: (34, 33, (10, 9, 0, 76), 0, []) :: (37, 0, (2, 0, 0, 0), 0, []) :: (38, 38, (0, 0, 0, 0), 0, []) :: (39, 2, (0, 0, 0, 0), 0, []) :: (40, 33, (10, 9, 0, 76), 0, []) :: (43, 0, (2, 0, 0, 0), 0, []) :: (44, 8, (0, 0, 0, 0), 1, []) :: (45, 14, (0, 0, 0, 0), 0, []) :: (46, 38, (0, 0, 0, 0), 0, []) :: (47, 49, (185, 4, 10, 410), 0, []) :: (50, 4, (3, 0, 0, 0), 0, []) :: (51, 0, (3, 0, 0, 0), 0, []) :: (52, 60, (72, 0, 0, 0), 0, []) :: (55, 13, (1, 0, 0, 0), 1, []) :: (58, 0, (1, 0, 0, 0), 0, []) :: (59, 9, (0, 0, 0, 0), 15, []) :: (61, 65, (72, 0, 0, 0), 0, []) :: (64, 2, (0, 0, 0, 0), 0, []) :: (65, 33, (10, 5, 0, 47), 0, []) :: (68, 0, (3, 0, 0, 0), 0, []) :: (69, 49, (69, 2, 6, 413), 0, []) :: jm_b184_72
def jm_b184_10 : List jx_E := (10, 8, (0, 0, 0, 0), 0, []) :: (11, 4, (1, 0, 0, 0), 0, []) :: (12, 2, (0, 0, 0, 0), 0, []) :: (13, 33, (10, 5, 0, 47), 0, []) :: (16, 49, (68, 1, 6, 350), 0, []) :: (19, 8, (0, 0, 0, 0), 0, []) :: (20, 4, (2, 0, 0, 0), 0, []) :: jm_b184_21
def jm_b184_0 : List jx_E := (0, 2, (0, 0, 0, 0), 0, []) :: (1, 32, (10, 12, 0, 110), 0, []) :: (4, 56, (10, 0, 0, 0), 0, []) :: (7, 9, (0, 0, 0, 0), (-2), []) :: (9, 69, (0, 0, 0, 0), 0, []) :: []
def jm_l184 : jx_B := [(0, jm_b184_0), (10, jm_b184_10), (21, jm_b184_21), (72, jm_b184_72), (78, jm_b184_78)]
def jm_i184 : jx_M := (⟨"OfDifferentMinds", "views", "()I"⟩, prog_1_method_57_code, 4, (some .int), 0, 1, 10, jm_l184)
theorem jm_ok184 : jx_okM 184 jm_i184 := ⟨by decide +kernel, rfl, by decide +kernel, ⟨by decide +kernel, by decide +kernel⟩, by decide +kernel, jx_mem (i := 1110) (by decide +kernel) rfl, jx_mem (i := 106) (by decide +kernel) rfl, fun _ => ⟨jx_mem (i := 1108) (by decide +kernel) rfl, jx_mem (i := 1109) (by decide +kernel) rfl, by decide⟩, fun h => absurd h (by decide), fun h => absurd h (by decide), by decide, by decide, by decide, by decide +kernel, by decide +kernel⟩
-- OfDifferentMinds.viewsBetween(III)I
def jm_b185_93 : List jx_E := (93, 1, (5, 0, 0, 0), 0, []) :: (95, 69, (0, 0, 0, 0), 0, []) :: []
def jm_b185_87 : List jx_E := (87, 13, (6, 0, 0, 0), 1, []) :: (90, 54, (31, 0, 0, 0), 0, []) :: []
def jm_b185_81 : List jx_E := (81, 13, (7, 0, 0, 0), 1, []) :: (84, 54, (41, 0, 0, 0), 0, []) :: []
def jm_b185_41 : List jx_E := (41, 1, (7, 0, 0, 0), 0, []) :: (43, 1, (4, 0, 0, 0), 0, []) :: (45, 64, (87, 0, 0, 0), 0, []) :: (48, 1, (6, 0, 0, 0), 0, []) :: (50, 1, (7, 0, 0, 0), 0, []) :: (52, 61, (81, 0, 0, 0), 0, []) :: (55, 2, (0, 0, 0, 0), 0, []) :: (56, 33, (10, 1, 0, 19), 0, []) :: (59, 0, (2, 0, 0, 0), 0, []) :: (60, 2, (0, 0, 0, 0), 0, []) :: (61, 33, (10, 2, 0, 26), 0, []) :: (64, 1, (6, 0, 0, 0), 0, []) :: (66, 1, (7, 0, 0, 0), 0, []) :: (68, 49, (77, 3, 7, 420), 0, []) :: (71, 49, (35, 3, 3, 180), 0, []) :: (74, 0, (3, 0, 0, 0), 0, []) :: (75, 62, (81, 0, 0, 0), 0, []) :: (78, 13, (5, 0, 0, 0), 1, []) :: jm_b185_81
def jm_b185_31 : List jx_E := (31, 1, (6, 0, 0, 0), 0, []) :: (33, 1, (4, 0, 0, 0), 0, []) :: (35, 64, (93, 0, 0, 0), 0, []) :: (38, 8, (0, 0, 0, 0), 0, []) :: (39, 5, (7, 0, 0, 0), 0, []) :: jm_b185_41
def jm_b185_0 : List jx_E := (0, 2, (0, 0, 0, 0), 0, []) :: (1, 33, (10, 1, 0, 19), 0, []) :: (4, 0, (2, 0, 0, 0), 0, []) :: (5, 49, (33, 2, 3, 171), 0, []) :: (8, 5, (4, 0, 0, 0), 0, []) :: (10, 8, (0, 0, 0, 0), 0, []) :: (11, 5, (5, 0, 0, 0), 0, []) :: (13, 2, (0, 0, 0, 0), 0, []) :: (14, 33, (10, 2, 0, 26), 0, []) :: (17, 1, (4, 0, 0, 0), 0, []) :: (19, 0, (2, 0, 0, 0), 0, []) :: (20, 0, (1, 0, 0, 0), 0, []) :: (21, 9, (0, 0, 0, 0), 9, []) :: (23, 9, (0, 0, 0, 0), 9, []) :: (25, 49, (76, 6, 7, 416), 0, []) :: (28, 8, (0, 0, 0, 0), 0, []) :: (29, 5, (6, 0, 0, 0), 0, []) :: jm_b185_31
def jm_l185 : jx_B := [(0, jm_b185_0), (31, jm_b185_31), (41, jm_b185_41), (81, jm_b185_81), (87, jm_b185_87), (93, jm_b185_93)]
def jm_i185 : jx_M := (⟨"OfDifferentMinds", "viewsBetween", "(III)I"⟩, prog_1_method_58_code, 8, (some .int), 0, 4, 10, jm_l185)
theorem jm_ok185 : jx_okM 185 jm_i185 := ⟨by decide +kernel, rfl, by decide +kernel, ⟨by decide +kernel, by decide +kernel⟩, by decide +kernel, jx_mem (i := 1114) (by decide +kernel) rfl, jx_mem (i := 106) (by decide +kernel) rfl, fun _ => ⟨jx_mem (i := 1113) (by decide +kernel) rfl, jx_mem (i := 36) (by decide +kernel) rfl, by decide⟩, fun h => absurd h (by decide), fun h => absurd h (by decide), by decide, by decide, by decide, by decide +kernel, by decide +kernel⟩
-- OfDifferentMinds.editions(I)I
def jm_b186_90 : List jx_E := (90, 0, (2, 0, 0, 0), 0, []) :: (91, 69, (0, 0, 0, 0), 0, []) :: []
def jm_b186_84 : List jx_E := (84, 13, (3, 0, 0, 0), 1, []) :: (87, 54, (24, 0, 0, 0), 0, []) :: []
def jm_b186_82 : List jx_E := (82, 14, (0, 0, 0, 0), 0, []) :: (83, 4, (2, 0, 0, 0), 0, []) :: jm_b186_84
def jm_b186_81 : List jx_E := (81, 8, (0, 0, 0, 0), 0, []) :: jm_b186_82
def jm_b186_67 : List jx_E := (67, 49, (69, 2, 6, 413), 0, []) :: (70, 0, (2, 0, 0, 0), 0, []) :: (71, 1, (4, 0, 0, 0), 0, []) :: (73, 8, (0, 0, 0, 0), (-1), []) :: (74, 62, (81, 0, 0, 0), 0, []) :: (77, 8, (0, 0, 0, 0), 1, []) :: (78, 54, (82, 0, 0, 0), 0, []) :: []
def jm_b186_65 : List jx_E := (65, 1, (4, 0, 0, 0), 0, []) :: jm_b186_67
def jm_b186_24 : List jx_E := (24, 0, (3, 0, 0, 0), 0, []) :: (25, 2, (0, 0, 0, 0), 0, []) :: (26, 33, (10, 1, 0, 19), 0, []) :: (29, 49, (28, 1, 3, 122), 0, []) :: (32, 64, (90, 0, 0, 0), 0, []) :: (35, 0, (1, 0, 0, 0), 0, []) :: (36, 0, (3, 0, 0, 0), 0, []) :: (37, 24, (0, 0, 0, 0), 0, []) :: (38, 8, (0, 0, 0, 0), 1, []) :: (39, 20, (0, 0, 0, 0), 0, []) :: (40, 55, (84, 0, 0, 0), 0, []) :: (43, 2, (0, 0, 0, 0), 0, []) :: (44, 0, (1, 0, 0, 0), 0, []) :: (45, 0, (3, 0, 0, 0), 0, []) :: (46, 49, (187, 3, 10, 423), 0, []) :: (49, 5, (4, 0, 0, 0), 0, []) :: (51, 2, (0, 0, 0, 0), 0, []) :: (52, 33, (10, 5, 0, 47), 0, []) :: (55, 1, (4, 0, 0, 0), 0, []) :: (57, 8, (0, 0, 0, 0), (-1), []) :: (58, 62, (65, 0, 0, 0), 0, []) :: (61, 0, (2, 0, 0, 0), 0, []) :: (62, 54, (67, 0, 0, 0), 0, []) :: []
def jm_b186_13 : List jx_E := (13, 8, (0, 0, 0, 0), 0, []) :: (14, 4, (2, 0, 0, 0), 0, []) :: (15, 2, (0, 0, 0, 0), 0, []) :: (16, 33, (10, 5, 0, 47), 0, []) :: (19, 49, (68, 1, 6, 350), 0, []) :: (22, 8, (0, 0, 0, 0), 0, []) :: (23, 4, (3, 0, 0, 0), 0, []) :: jm_b186_24
def jm_b186_0 : List jx_E := (0, 2, (0, 0, 0, 0), 0, []) :: (1, 33, (10, 1, 0, 19), 0, []) :: (4, 0, (1, 0, 0, 0), 0, []) :: (5, 49, (32, 2, 3, 375), 0, []) :: (8, 56, (13, 0, 0, 0), 0, []) :: (11, 8, (0, 0, 0, 0), (-1), []) :: (12, 69, (0, 0, 0, 0), 0, []) :: []
def jm_l186 : jx_B := [(0, jm_b186_0), (13, jm_b186_13), (24, jm_b186_24), (65, jm_b186_65), (67, jm_b186_67), (81, jm_b186_81), (82, jm_b186_82), (84, jm_b186_84), (90, jm_b186_90)]
def jm_i186 : jx_M := (⟨"OfDifferentMinds", "editions", "(I)I"⟩, prog_1_method_59_code, 5, (some .int), 0, 2, 10, jm_l186)
theorem jm_ok186 : jx_okM 186 jm_i186 := ⟨by decide +kernel, rfl, by decide +kernel, ⟨by decide +kernel, by decide +kernel⟩, by decide +kernel, jx_mem (i := 1121) (by decide +kernel) rfl, jx_mem (i := 106) (by decide +kernel) rfl, fun _ => ⟨jx_mem (i := 1119) (by decide +kernel) rfl, jx_mem (i := 1120) (by decide +kernel) rfl, by decide⟩, fun h => absurd h (by decide), fun h => absurd h (by decide), by decide, by decide, by decide, by decide +kernel, by decide +kernel⟩
-- OfDifferentMinds.editionSeen(II)I
def jm_b187_58 : List jx_E := (58, 8, (0, 0, 0, 0), (-1), []) :: (59, 69, (0, 0, 0, 0), 0, []) :: []
def jm_b187_52 : List jx_E := (52, 13, (4, 0, 0, 0), 1, []) :: (55, 54, (5, 0, 0, 0), 0, []) :: []
def jm_b187_49 : List jx_E := (49, 13, (3, 0, 0, 0), 1, []) :: jm_b187_52
def jm_b187_5 : List jx_E := (5, 1, (4, 0, 0, 0), 0, []) :: (7, 0, (2, 0, 0, 0), 0, []) :: (8, 64, (58, 0, 0, 0), 0, []) :: (11, 0, (1, 0, 0, 0), 0, []) :: (12, 1, (4, 0, 0, 0), 0, []) :: (14, 24, (0, 0, 0, 0), 0, []) :: (15, 8, (0, 0, 0, 0), 1, []) :: (16, 20, (0, 0, 0, 0), 0, []) :: (17, 55, (52, 0, 0, 0), 0, []) :: (20, 2, (0, 0, 0, 0), 0, []) :: (21, 33, (10, 3, 0, 33), 0, []) :: (24, 1, (4, 0, 0, 0), 0, []) :: (26, 49, (99, 2, 8, 426), 0, []) :: (29, 2, (0, 0, 0, 0), 0, []) :: (30, 33, (10, 3, 0, 33), 0, []) :: (33, 0, (2, 0, 0, 0), 0, []) :: (34, 49, (99, 2, 8, 426), 0, []) :: (37, 62, (49, 0, 0, 0), 0, []) :: (40, 2, (0, 0, 0, 0), 0, []) :: (41, 33, (10, 5, 0, 47), 0, []) :: (44, 0, (3, 0, 0, 0), 0, []) :: (45, 49, (74, 2, 6, 429), 0, []) :: (48, 69, (0, 0, 0, 0), 0, []) :: []
def jm_b187_0 : List jx_E := (0, 8, (0, 0, 0, 0), 0, []) :: (1, 4, (3, 0, 0, 0), 0, []) :: (2, 8, (0, 0, 0, 0), 0, []) :: (3, 5, (4, 0, 0, 0), 0, []) :: jm_b187_5
def jm_l187 : jx_B := [(0, jm_b187_0), (5, jm_b187_5), (49, jm_b187_49), (52, jm_b187_52), (58, jm_b187_58)]
def jm_i187 : jx_M := (⟨"OfDifferentMinds", "editionSeen", "(II)I"⟩, prog_1_method_60_code, 5, (some .int), 0, 3, 10, jm_l187)
theorem jm_ok187 : jx_okM 187 jm_i187 := ⟨by decide +kernel, rfl, by decide +kernel, ⟨by decide +kernel, by decide +kernel⟩, by decide +kernel, jx_mem (i := 1125) (by decide +kernel) rfl, jx_mem (i := 106) (by decide +kernel) rfl, fun _ => ⟨jx_mem (i := 1124) (by decide +kernel) rfl, jx_mem (i := 37) (by decide +kernel) rfl, by decide⟩, fun h => absurd h (by decide), fun h => absurd h (by decide), by decide, by decide, by decide, by decide +kernel, by decide +kernel⟩
-- OfDifferentMinds.kinds(II)I
def jm_b188_92 : List jx_E := (92, 2, (0, 0, 0, 0), 0, []) :: (93, 33, (10, 5, 0, 47), 0, []) :: (96, 1, (5, 0, 0, 0), 0, []) :: (98, 1, (4, 0, 0, 0), 0, []) :: (100, 49, (71, 3, 6, 320), 0, []) :: (103, 0, (3, 0, 0, 0), 0, []) :: (104, 69, (0, 0, 0, 0), 0, []) :: []
def jm_b188_86 : List jx_E := (86, 13, (6, 0, 0, 0), 1, []) :: (89, 54, (35, 0, 0, 0), 0, []) :: []
def jm_b188_69 : List jx_E := (69, 14, (0, 0, 0, 0), 0, []) :: (70, 4, (3, 0, 0, 0), 0, []) :: (71, 1, (7, 0, 0, 0), 0, []) :: (73, 1, (4, 0, 0, 0), 0, []) :: (75, 66, (86, 0, 0, 0), 0, []) :: (78, 1, (7, 0, 0, 0), 0, []) :: (80, 5, (4, 0, 0, 0), 0, []) :: (82, 1, (6, 0, 0, 0), 0, []) :: (84, 5, (5, 0, 0, 0), 0, []) :: jm_b188_86
def jm_b188_68 : List jx_E := (68, 8, (0, 0, 0, 0), 0, []) :: jm_b188_69
def jm_b188_35 : List jx_E := (35, 1, (6, 0, 0, 0), 0, []) :: (37, 2, (0, 0, 0, 0), 0, []) :: (38, 33, (10, 1, 0, 19), 0, []) :: (41, 0, (2, 0, 0, 0), 0, []) :: (42, 49, (33, 2, 3, 171), 0, []) :: (45, 64, (92, 0, 0, 0), 0, []) :: (48, 2, (0, 0, 0, 0), 0, []) :: (49, 1, (6, 0, 0, 0), 0, []) :: (51, 0, (1, 0, 0, 0), 0, []) :: (52, 0, (2, 0, 0, 0), 0, []) :: (53, 49, (189, 4, 10, 430), 0, []) :: (56, 5, (7, 0, 0, 0), 0, []) :: (58, 0, (3, 0, 0, 0), 0, []) :: (59, 1, (7, 0, 0, 0), 0, []) :: (61, 60, (68, 0, 0, 0), 0, []) :: (64, 8, (0, 0, 0, 0), 1, []) :: (65, 54, (69, 0, 0, 0), 0, []) :: []
def jm_b188_24 : List jx_E := (24, 8, (0, 0, 0, 0), 0, []) :: (25, 4, (3, 0, 0, 0), 0, []) :: (26, 8, (0, 0, 0, 0), 0, []) :: (27, 5, (4, 0, 0, 0), 0, []) :: (29, 8, (0, 0, 0, 0), (-1), []) :: (30, 5, (5, 0, 0, 0), 0, []) :: (32, 8, (0, 0, 0, 0), 0, []) :: (33, 5, (6, 0, 0, 0), 0, []) :: jm_b188_35
def jm_b188_22 : List jx_E := (22, 8, (0, 0, 0, 0), (-1), []) :: (23, 69, (0, 0, 0, 0), 0, []) :: []
def jm_b188_0 : List jx_E := (0, 2, (0, 0, 0, 0), 0, []) :: (1, 33, (10, 1, 0, 19), 0, []) :: (4, 0, (1, 0, 0, 0), 0, []) :: (5, 49, (32, 2, 3, 375), 0, []) :: (8, 55, (22, 0, 0, 0), 0, []) :: (11, 2, (0, 0, 0, 0), 0, []) :: (12, 33, (10, 1, 0, 19), 0, []) :: (15, 0, (2, 0, 0, 0), 0, []) :: (16, 49, (30, 2, 3, 161), 0, []) :: (19, 56, (24, 0, 0, 0), 0, []) :: jm_b188_22
def jm_l188 : jx_B := [(0, jm_b188_0), (22, jm_b188_22), (24, jm_b188_24), (35, jm_b188_35), (68, jm_b188_68), (69, jm_b188_69), (86, jm_b188_86), (92, jm_b188_92)]
def jm_i188 : jx_M := (⟨"OfDifferentMinds", "kinds", "(II)I"⟩, prog_1_method_61_code, 8, (some .int), 0, 3, 10, jm_l188)
theorem jm_ok188 : jx_okM 188 jm_i188 := ⟨by decide +kernel, rfl, by decide +kernel, ⟨by decide +kernel, by decide +kernel⟩, by decide +kernel, jx_mem (i := 1134) (by decide +kernel) rfl, jx_mem (i := 106) (by decide +kernel) rfl, fun _ => ⟨jx_mem (i := 1132) (by decide +kernel) rfl, jx_mem (i := 1133) (by decide +kernel) rfl, by decide⟩, fun h => absurd h (by decide), fun h => absurd h (by decide), by decide, by decide, by decide, by decide +kernel, by decide +kernel⟩
-- OfDifferentMinds.holdersOf(III)I
def jm_b189_47 : List jx_E := (47, 1, (4, 0, 0, 0), 0, []) :: (49, 69, (0, 0, 0, 0), 0, []) :: []
def jm_b189_41 : List jx_E := (41, 13, (5, 0, 0, 0), 1, []) :: (44, 54, (6, 0, 0, 0), 0, []) :: []
def jm_b189_6 : List jx_E := (6, 1, (5, 0, 0, 0), 0, []) :: (8, 2, (0, 0, 0, 0), 0, []) :: (9, 33, (10, 1, 0, 19), 0, []) :: (12, 49, (28, 1, 3, 122), 0, []) :: (15, 64, (47, 0, 0, 0), 0, []) :: (18, 0, (2, 0, 0, 0), 0, []) :: (19, 1, (5, 0, 0, 0), 0, []) :: (21, 24, (0, 0, 0, 0), 0, []) :: (22, 8, (0, 0, 0, 0), 1, []) :: (23, 20, (0, 0, 0, 0), 0, []) :: (24, 55, (41, 0, 0, 0), 0, []) :: (27, 2, (0, 0, 0, 0), 0, []) :: (28, 1, (5, 0, 0, 0), 0, []) :: (30, 0, (3, 0, 0, 0), 0, []) :: (31, 49, (138, 3, 10, 200), 0, []) :: (34, 0, (1, 0, 0, 0), 0, []) :: (35, 62, (41, 0, 0, 0), 0, []) :: (38, 13, (4, 0, 0, 0), 1, []) :: jm_b189_41
def jm_b189_0 : List jx_E := (0, 8, (0, 0, 0, 0), 0, []) :: (1, 5, (4, 0, 0, 0), 0, []) :: (3, 8, (0, 0, 0, 0), 0, []) :: (4, 5, (5, 0, 0, 0), 0, []) :: jm_b189_6
def jm_l189 : jx_B := [(0, jm_b189_0), (6, jm_b189_6), (41, jm_b189_41), (47, jm_b189_47)]
def jm_i189 : jx_M := (⟨"OfDifferentMinds", "holdersOf", "(III)I"⟩, prog_1_method_62_code, 6, (some .int), 0, 4, 10, jm_l189)
theorem jm_ok189 : jx_okM 189 jm_i189 := ⟨by decide +kernel, rfl, by decide +kernel, ⟨by decide +kernel, by decide +kernel⟩, by decide +kernel, jx_mem (i := 1138) (by decide +kernel) rfl, jx_mem (i := 106) (by decide +kernel) rfl, fun _ => ⟨jx_mem (i := 1137) (by decide +kernel) rfl, jx_mem (i := 38) (by decide +kernel) rfl, by decide⟩, fun h => absurd h (by decide), fun h => absurd h (by decide), by decide, by decide, by decide, by decide +kernel, by decide +kernel⟩
-- OfDifferentMinds.county(II)I
def jm_b190_119 : List jx_E := (119, 2, (0, 0, 0, 0), 0, []) :: (120, 33, (10, 5, 0, 47), 0, []) :: (123, 0, (3, 0, 0, 0), 0, []) :: (124, 2, (0, 0, 0, 0), 0, []) :: (125, 49, (193, 1, 10, 439), 0, []) :: (128, 1, (5, 0, 0, 0), 0, []) :: (130, 49, (72, 4, 6, 255), 0, []) :: (133, 1, (4, 0, 0, 0), 0, []) :: (135, 69, (0, 0, 0, 0), 0, []) :: []
def jm_b190_110 : List jx_E := (110, 14, (0, 0, 0, 0), 0, []) :: (111, 5, (5, 0, 0, 0), 0, []) :: (113, 13, (6, 0, 0, 0), 1, []) :: (116, 54, (70, 0, 0, 0), 0, []) :: []
def jm_b190_109 : List jx_E := (109, 8, (0, 0, 0, 0), 0, []) :: jm_b190_110
def jm_b190_70 : List jx_E := (70, 1, (6, 0, 0, 0), 0, []) :: (72, 0, (2, 0, 0, 0), 0, []) :: (73, 64, (119, 0, 0, 0), 0, []) :: (76, 2, (0, 0, 0, 0), 0, []) :: (77, 0, (3, 0, 0, 0), 0, []) :: (78, 49, (191, 2, 10, 436), 0, []) :: (81, 5, (7, 0, 0, 0), 0, []) :: (83, 2, (0, 0, 0, 0), 0, []) :: (84, 33, (10, 6, 0, 56), 0, []) :: (87, 49, (53, 1, 5, 246), 0, []) :: (90, 4, (3, 0, 0, 0), 0, []) :: (91, 1, (4, 0, 0, 0), 0, []) :: (93, 1, (7, 0, 0, 0), 0, []) :: (95, 14, (0, 0, 0, 0), 0, []) :: (96, 5, (4, 0, 0, 0), 0, []) :: (98, 1, (5, 0, 0, 0), 0, []) :: (100, 1, (7, 0, 0, 0), 0, []) :: (102, 56, (109, 0, 0, 0), 0, []) :: (105, 8, (0, 0, 0, 0), 1, []) :: (106, 54, (110, 0, 0, 0), 0, []) :: []
def jm_b190_48 : List jx_E := (48, 2, (0, 0, 0, 0), 0, []) :: (49, 0, (1, 0, 0, 0), 0, []) :: (50, 34, (10, 13, 0, 433), 0, []) :: (53, 2, (0, 0, 0, 0), 0, []) :: (54, 33, (10, 3, 0, 33), 0, []) :: (57, 49, (103, 1, 8, 278), 0, []) :: (60, 4, (3, 0, 0, 0), 0, []) :: (61, 8, (0, 0, 0, 0), 0, []) :: (62, 5, (4, 0, 0, 0), 0, []) :: (64, 8, (0, 0, 0, 0), 0, []) :: (65, 5, (5, 0, 0, 0), 0, []) :: (67, 8, (0, 0, 0, 0), 0, []) :: (68, 5, (6, 0, 0, 0), 0, []) :: jm_b190_70
def jm_b190_29 : List jx_E := (29, 0, (3, 0, 0, 0), 0, []) :: (30, 9, (0, 0, 0, 0), 6, []) :: (32, 64, (48, 0, 0, 0), 0, []) :: (35, 2, (0, 0, 0, 0), 0, []) :: (36, 33, (10, 10, 0, 80), 0, []) :: (39, 0, (3, 0, 0, 0), 0, []) :: (40, 8, (0, 0, 0, 0), 0, []) :: (41, 41, (0, 0, 0, 0), 0, []) :: (42, 13, (3, 0, 0, 0), 1, []) :: (45, 54, (29, 0, 0, 0), 0, []) :: []
def jm_b190_27 : List jx_E := (27, 8, (0, 0, 0, 0), 0, []) :: (28, 4, (3, 0, 0, 0), 0, []) :: jm_b190_29
def jm_b190_13 : List jx_E := (13, 2, (0, 0, 0, 0), 0, []) :: (14, 33, (10, 1, 0, 19), 0, []) :: (17, 49, (28, 1, 3, 122), 0, []) :: (20, 8, (0, 0, 0, 0), 2, []) :: (21, 64, (27, 0, 0, 0), 0, []) :: (24, 9, (0, 0, 0, 0), (-2), []) :: (26, 69, (0, 0, 0, 0), 0, []) :: []
def jm_b190_11 : List jx_E := (11, 8, (0, 0, 0, 0), (-1), []) :: (12, 69, (0, 0, 0, 0), 0, []) :: []
def jm_b190_0 : List jx_E := (0, 0, (2, 0, 0, 0), 0, []) :: (1, 8, (0, 0, 0, 0), 1, []) :: (2, 63, (11, 0, 0, 0), 0, []) :: (5, 0, (2, 0, 0, 0), 0, []) :: (6, 9, (0, 0, 0, 0), 60, []) :: (8, 66, (13, 0, 0, 0), 0, []) :: jm_b190_11
def jm_l190 : jx_B := [(0, jm_b190_0), (11, jm_b190_11), (13, jm_b190_13), (27, jm_b190_27), (29, jm_b190_29), (48, jm_b190_48), (70, jm_b190_70), (109, jm_b190_109), (110, jm_b190_110), (119, jm_b190_119)]
def jm_i190 : jx_M := (⟨"OfDifferentMinds", "county", "(II)I"⟩, prog_1_method_63_code, 8, (some .int), 0, 3, 10, jm_l190)
theorem jm_ok190 : jx_okM 190 jm_i190 := ⟨by decide +kernel, rfl, by decide +kernel, ⟨by decide +kernel, by decide +kernel⟩, by decide +kernel, jx_mem (i := 1142) (by decide +kernel) rfl, jx_mem (i := 106) (by decide +kernel) rfl, fun _ => ⟨jx_mem (i := 1140) (by decide +kernel) rfl, jx_mem (i := 1141) (by decide +kernel) rfl, by decide⟩, fun h => absurd h (by decide), fun h => absurd h (by decide), by decide, by decide, by decide, by decide +kernel, by decide +kernel⟩
-- OfDifferentMinds.rideInCounty(I)I
def jm_b191_50 : List jx_E := (50, 2, (0, 0, 0, 0), 0, []) :: (51, 33, (10, 6, 0, 56), 0, []) :: (54, 0, (2, 0, 0, 0), 0, []) :: (55, 0, (3, 0, 0, 0), 0, []) :: (56, 0, (1, 0, 0, 0), 0, []) :: (57, 49, (49, 4, 5, 445), 0, []) :: (60, 2, (0, 0, 0, 0), 0, []) :: (61, 33, (10, 6, 0, 56), 0, []) :: (64, 9, (0, 0, 0, 0), 20, []) :: (66, 49, (64, 2, 5, 287), 0, []) :: (69, 2, (0, 0, 0, 0), 0, []) :: (70, 33, (10, 6, 0, 56), 0, []) :: (73, 49, (54, 1, 5, 293), 0, []) :: (76, 5, (4, 0, 0, 0), 0, []) :: (78, 2, (0, 0, 0, 0), 0, []) :: (79, 33, (10, 10, 0, 80), 0, []) :: (82, 0, (2, 0, 0, 0), 0, []) :: (83, 2, (0, 0, 0, 0), 0, []) :: (84, 33, (10, 10, 0, 80), 0, []) :: (87, 0, (2, 0, 0, 0), 0, []) :: (88, 38, (0, 0, 0, 0), 0, []) :: (89, 1, (4, 0, 0, 0), 0, []) :: (91, 14, (0, 0, 0, 0), 0, []) :: (92, 41, (0, 0, 0, 0), 0, []) :: (93, 2, (0, 0, 0, 0), 0, []) :: (94, 33, (10, 10, 0, 80), 0, []) :: (97, 0, (3, 0, 0, 0), 0, []) :: (98, 2, (0, 0, 0, 0), 0, []) :: (99, 33, (10, 10, 0, 80), 0, []) :: (102, 0, (3, 0, 0, 0), 0, []) :: (103, 38, (0, 0, 0, 0), 0, []) :: (104, 1, (4, 0, 0, 0), 0, []) :: (106, 14, (0, 0, 0, 0), 0, []) :: (107, 41, (0, 0, 0, 0), 0, []) :: (108, 1, (4, 0, 0, 0), 0, []) :: (110, 69, (0, 0, 0, 0), 0, []) :: []
def jm_b191_49 : List jx_E := (49, 4, (3, 0, 0, 0), 0, []) :: jm_b191_50
def jm_b191_48 : List jx_E := (48, 8, (0, 0, 0, 0), 0, []) :: jm_b191_49
def jm_b191_0 : List jx_E := (0, 2, (0, 0, 0, 0), 0, []) :: (1, 2, (0, 0, 0, 0), 0, []) :: (2, 33, (10, 1, 0, 19), 0, []) :: (5, 49, (28, 1, 3, 122), 0, []) :: (8, 49, (192, 2, 10, 442), 0, []) :: (11, 4, (2, 0, 0, 0), 0, []) :: (12, 2, (0, 0, 0, 0), 0, []) :: (13, 2, (0, 0, 0, 0), 0, []) :: (14, 33, (10, 1, 0, 19), 0, []) :: (17, 49, (28, 1, 3, 122), 0, []) :: (20, 49, (192, 2, 10, 442), 0, []) :: (23, 4, (3, 0, 0, 0), 0, []) :: (24, 0, (3, 0, 0, 0), 0, []) :: (25, 0, (2, 0, 0, 0), 0, []) :: (26, 62, (50, 0, 0, 0), 0, []) :: (29, 0, (2, 0, 0, 0), 0, []) :: (30, 8, (0, 0, 0, 0), 1, []) :: (31, 14, (0, 0, 0, 0), 0, []) :: (32, 2, (0, 0, 0, 0), 0, []) :: (33, 33, (10, 1, 0, 19), 0, []) :: (36, 49, (28, 1, 3, 122), 0, []) :: (39, 64, (48, 0, 0, 0), 0, []) :: (42, 0, (2, 0, 0, 0), 0, []) :: (43, 8, (0, 0, 0, 0), 1, []) :: (44, 14, (0, 0, 0, 0), 0, []) :: (45, 54, (49, 0, 0, 0), 0, []) :: []
def jm_l191 : jx_B := [(0, jm_b191_0), (48, jm_b191_48), (49, jm_b191_49), (50, jm_b191_50)]
def jm_i191 : jx_M := (⟨"OfDifferentMinds", "rideInCounty", "(I)I"⟩, prog_1_method_64_code, 5, (some .int), 0, 2, 10, jm_l191)
theorem jm_ok191 : jx_okM 191 jm_i191 := ⟨by decide +kernel, rfl, by decide +kernel, ⟨by decide +kernel, by decide +kernel⟩, by decide +kernel, jx_mem (i := 1146) (by decide +kernel) rfl, jx_mem (i := 106) (by decide +kernel) rfl, fun _ => ⟨jx_mem (i := 1145) (by decide +kernel) rfl, jx_mem (i := 39) (by decide +kernel) rfl, by decide⟩, fun h => absurd h (by decide), fun h => absurd h (by decide), by decide, by decide, by decide, by decide +kernel, by decide +kernel⟩
-- OfDifferentMinds.draw(I)I
def jm_b192_33 : List jx_E := (33, 69, (0, 0, 0, 0), 0, []) :: []
def jm_b192_32 : List jx_E := (32, 8, (0, 0, 0, 0), 0, []) :: jm_b192_33
def jm_b192_0 : List jx_E := (0, 2, (0, 0, 0, 0), 0, []) :: (1, 2, (0, 0, 0, 0), 0, []) :: (2, 32, (10, 13, 0, 433), 0, []) :: (5, 12, (0, 0, 0, 448), 1103515245, []) :: (8, 16, (0, 0, 0, 0), 0, []) :: (9, 10, (0, 0, 0, 0), 12345, []) :: (12, 14, (0, 0, 0, 0), 0, []) :: (13, 34, (10, 13, 0, 433), 0, []) :: (16, 0, (1, 0, 0, 0), 0, []) :: (17, 60, (32, 0, 0, 0), 0, []) :: (20, 2, (0, 0, 0, 0), 0, []) :: (21, 32, (10, 13, 0, 433), 0, []) :: (24, 9, (0, 0, 0, 0), 16, []) :: (26, 25, (0, 0, 0, 0), 0, []) :: (27, 0, (1, 0, 0, 0), 0, []) :: (28, 18, (0, 0, 0, 0), 0, []) :: (29, 54, (33, 0, 0, 0), 0, []) :: []
def jm_l192 : jx_B := [(0, jm_b192_0), (32, jm_b192_32), (33, jm_b192_33)]
def jm_i192 : jx_M := (⟨"OfDifferentMinds", "draw", "(I)I"⟩, prog_1_method_65_code, 2, (some .int), 0, 2, 10, jm_l192)
theorem jm_ok192 : jx_okM 192 jm_i192 := ⟨by decide +kernel, rfl, by decide +kernel, ⟨by decide +kernel, by decide +kernel⟩, by decide +kernel, jx_mem (i := 1150) (by decide +kernel) rfl, jx_mem (i := 106) (by decide +kernel) rfl, fun _ => ⟨jx_mem (i := 1149) (by decide +kernel) rfl, jx_mem (i := 40) (by decide +kernel) rfl, by decide⟩, fun h => absurd h (by decide), fun h => absurd h (by decide), by decide, by decide, by decide, by decide +kernel, by decide +kernel⟩
-- OfDifferentMinds.farthestRidden()I
def jm_b193_42 : List jx_E := (42, 0, (1, 0, 0, 0), 0, []) :: (43, 69, (0, 0, 0, 0), 0, []) :: []
def jm_b193_36 : List jx_E := (36, 13, (3, 0, 0, 0), 1, []) :: (39, 54, (6, 0, 0, 0), 0, []) :: []
def jm_b193_6 : List jx_E := (6, 0, (3, 0, 0, 0), 0, []) :: (7, 2, (0, 0, 0, 0), 0, []) :: (8, 33, (10, 1, 0, 19), 0, []) :: (11, 49, (28, 1, 3, 122), 0, []) :: (14, 64, (42, 0, 0, 0), 0, []) :: (17, 2, (0, 0, 0, 0), 0, []) :: (18, 33, (10, 10, 0, 80), 0, []) :: (21, 0, (3, 0, 0, 0), 0, []) :: (22, 38, (0, 0, 0, 0), 0, []) :: (23, 0, (2, 0, 0, 0), 0, []) :: (24, 66, (36, 0, 0, 0), 0, []) :: (27, 2, (0, 0, 0, 0), 0, []) :: (28, 33, (10, 10, 0, 80), 0, []) :: (31, 0, (3, 0, 0, 0), 0, []) :: (32, 38, (0, 0, 0, 0), 0, []) :: (33, 4, (2, 0, 0, 0), 0, []) :: (34, 0, (3, 0, 0, 0), 0, []) :: (35, 4, (1, 0, 0, 0), 0, []) :: jm_b193_36
def jm_b193_0 : List jx_E := (0, 8, (0, 0, 0, 0), (-1), []) :: (1, 4, (1, 0, 0, 0), 0, []) :: (2, 8, (0, 0, 0, 0), 0, []) :: (3, 4, (2, 0, 0, 0), 0, []) :: (4, 8, (0, 0, 0, 0), 0, []) :: (5, 4, (3, 0, 0, 0), 0, []) :: jm_b193_6
def jm_l193 : jx_B := [(0, jm_b193_0), (6, jm_b193_6), (36, jm_b193_36), (42, jm_b193_42)]
def jm_i193 : jx_M := (⟨"OfDifferentMinds", "farthestRidden", "()I"⟩, prog_1_method_66_code, 4, (some .int), 0, 1, 10, jm_l193)
theorem jm_ok193 : jx_okM 193 jm_i193 := ⟨by decide +kernel, rfl, by decide +kernel, ⟨by decide +kernel, by decide +kernel⟩, by decide +kernel, jx_mem (i := 1156) (by decide +kernel) rfl, jx_mem (i := 106) (by decide +kernel) rfl, fun _ => ⟨jx_mem (i := 1155) (by decide +kernel) rfl, jx_mem (i := 41) (by decide +kernel) rfl, by decide⟩, fun h => absurd h (by decide), fun h => absurd h (by decide), by decide, by decide, by decide, by decide +kernel, by decide +kernel⟩
-- OfDifferentMinds.keep(I)Z
def jm_b194_0 : List jx_E := (0, 2, (0, 0, 0, 0), 0, []) :: (1, 33, (10, 4, 0, 40), 0, []) :: (4, 0, (1, 0, 0, 0), 0, []) :: (5, 2, (0, 0, 0, 0), 0, []) :: (6, 33, (10, 3, 0, 33), 0, []) :: (9, 49, (24, 3, 2, 449), 0, []) :: (12, 70, (0, 0, 0, 0), 0, []) :: []
def jm_l194 : jx_B := [(0, jm_b194_0)]
def jm_i194 : jx_M := (⟨"OfDifferentMinds", "keep", "(I)Z"⟩, prog_1_method_67_code, 2, (some .boolean), 0, 2, 10, jm_l194)
theorem jm_ok194 : jx_okM 194 jm_i194 := ⟨by decide +kernel, rfl, by decide +kernel, ⟨by decide +kernel, by decide +kernel⟩, by decide +kernel, jx_mem (i := 1160) (by decide +kernel) rfl, jx_mem (i := 106) (by decide +kernel) rfl, fun _ => ⟨jx_mem (i := 1158) (by decide +kernel) rfl, jx_mem (i := 1159) (by decide +kernel) rfl, by decide⟩, fun h => absurd h (by decide), fun h => absurd h (by decide), by decide, by decide, by decide, by decide +kernel, by decide +kernel⟩
-- OfDifferentMinds.again(I)Z
def jm_b195_17 : List jx_E := (17, 2, (0, 0, 0, 0), 0, []) :: (18, 49, (142, 1, 10, 218), 0, []) :: (21, 8, (0, 0, 0, 0), 1, []) :: (22, 70, (0, 0, 0, 0), 0, []) :: []
def jm_b195_0 : List jx_E := (0, 2, (0, 0, 0, 0), 0, []) :: (1, 33, (10, 4, 0, 40), 0, []) :: (4, 0, (1, 0, 0, 0), 0, []) :: (5, 2, (0, 0, 0, 0), 0, []) :: (6, 33, (10, 3, 0, 33), 0, []) :: (9, 49, (25, 3, 2, 453), 0, []) :: (12, 56, (17, 0, 0, 0), 0, []) :: (15, 8, (0, 0, 0, 0), 0, []) :: (16, 70, (0, 0, 0, 0), 0, []) :: []
def jm_l195 : jx_B := [(0, jm_b195_0), (17, jm_b195_17)]
def jm_i195 : jx_M := (⟨"OfDifferentMinds", "again", "(I)Z"⟩, prog_1_method_68_code, 2, (some .boolean), 0, 2, 10, jm_l195)
theorem jm_ok195 : jx_okM 195 jm_i195 := ⟨by decide +kernel, rfl, by decide +kernel, ⟨by decide +kernel, by decide +kernel⟩, by decide +kernel, jx_mem (i := 1168) (by decide +kernel) rfl, jx_mem (i := 106) (by decide +kernel) rfl, fun _ => ⟨jx_mem (i := 1166) (by decide +kernel) rfl, jx_mem (i := 1167) (by decide +kernel) rfl, by decide⟩, fun h => absurd h (by decide), fun h => absurd h (by decide), by decide, by decide, by decide, by decide +kernel, by decide +kernel⟩
-- OfDifferentMinds.count(I)I
def jm_b196_154 : List jx_E := (154, 9, (0, 0, 0, 0), (-100), []) :: (156, 69, (0, 0, 0, 0), 0, []) :: []
def jm_b196_146 : List jx_E := (146, 2, (0, 0, 0, 0), 0, []) :: (147, 33, (10, 0, 0, 10), 0, []) :: (150, 49, (113, 1, 9, 119), 0, []) :: (153, 69, (0, 0, 0, 0), 0, []) :: []
def jm_b196_138 : List jx_E := (138, 2, (0, 0, 0, 0), 0, []) :: (139, 33, (10, 5, 0, 47), 0, []) :: (142, 49, (73, 1, 6, 468), 0, []) :: (145, 69, (0, 0, 0, 0), 0, []) :: []
def jm_b196_130 : List jx_E := (130, 2, (0, 0, 0, 0), 0, []) :: (131, 33, (10, 4, 0, 40), 0, []) :: (134, 49, (19, 1, 2, 326), 0, []) :: (137, 69, (0, 0, 0, 0), 0, []) :: []
def jm_b196_125 : List jx_E := (125, 2, (0, 0, 0, 0), 0, []) :: (126, 32, (10, 12, 0, 110), 0, []) :: (129, 69, (0, 0, 0, 0), 0, []) :: []
def jm_b196_117 : List jx_E := (117, 2, (0, 0, 0, 0), 0, []) :: (118, 33, (10, 1, 0, 19), 0, []) :: (121, 49, (29, 1, 3, 366), 0, []) :: (124, 69, (0, 0, 0, 0), 0, []) :: []
def jm_b196_112 : List jx_E := (112, 2, (0, 0, 0, 0), 0, []) :: (113, 49, (197, 1, 10, 465), 0, []) :: (116, 69, (0, 0, 0, 0), 0, []) :: []
def jm_b196_104 : List jx_E := (104, 2, (0, 0, 0, 0), 0, []) :: (105, 33, (10, 3, 0, 33), 0, []) :: (108, 49, (107, 1, 8, 462), 0, []) :: (111, 69, (0, 0, 0, 0), 0, []) :: []
def jm_b196_96 : List jx_E := (96, 2, (0, 0, 0, 0), 0, []) :: (97, 33, (10, 3, 0, 33), 0, []) :: (100, 49, (106, 1, 8, 459), 0, []) :: (103, 69, (0, 0, 0, 0), 0, []) :: []
def jm_b196_88 : List jx_E := (88, 2, (0, 0, 0, 0), 0, []) :: (89, 33, (10, 3, 0, 33), 0, []) :: (92, 49, (105, 1, 8, 456), 0, []) :: (95, 69, (0, 0, 0, 0), 0, []) :: []
def jm_b196_80 : List jx_E := (80, 2, (0, 0, 0, 0), 0, []) :: (81, 33, (10, 3, 0, 33), 0, []) :: (84, 49, (103, 1, 8, 278), 0, []) :: (87, 69, (0, 0, 0, 0), 0, []) :: []
def jm_b196_72 : List jx_E := (72, 2, (0, 0, 0, 0), 0, []) :: (73, 33, (10, 1, 0, 19), 0, []) :: (76, 49, (28, 1, 3, 122), 0, []) :: (79, 69, (0, 0, 0, 0), 0, []) :: []
def jm_b196_64 : List jx_E := (64, 2, (0, 0, 0, 0), 0, []) :: (65, 33, (10, 1, 0, 19), 0, []) :: (68, 49, (27, 1, 3, 115), 0, []) :: (71, 69, (0, 0, 0, 0), 0, []) :: []
def jm_b196_0 : List jx_E := (0, 0, (1, 0, 0, 0), 0, []) :: (1, 67, (154, 0, 0, 63), 0, [(0, 64), (1, 72), (2, 80), (3, 88), (4, 96), (5, 104), (6, 112), (7, 117), (8, 125), (9, 130), (10, 138), (11, 146)]) :: []
def jm_l196 : jx_B := [(0, jm_b196_0), (64, jm_b196_64), (72, jm_b196_72), (80, jm_b196_80), (88, jm_b196_88), (96, jm_b196_96), (104, jm_b196_104), (112, jm_b196_112), (117, jm_b196_117), (125, jm_b196_125), (130, jm_b196_130), (138, jm_b196_138), (146, jm_b196_146), (154, jm_b196_154)]
def jm_i196 : jx_M := (⟨"OfDifferentMinds", "count", "(I)I"⟩, prog_1_method_69_code, 2, (some .int), 0, 2, 10, jm_l196)
theorem jm_ok196 : jx_okM 196 jm_i196 := ⟨by decide +kernel, rfl, by decide +kernel, ⟨by decide +kernel, by decide +kernel⟩, by decide +kernel, jx_mem (i := 1176) (by decide +kernel) rfl, jx_mem (i := 106) (by decide +kernel) rfl, fun _ => ⟨jx_mem (i := 1174) (by decide +kernel) rfl, jx_mem (i := 1175) (by decide +kernel) rfl, by decide⟩, fun h => absurd h (by decide), fun h => absurd h (by decide), by decide, by decide, by decide, by decide +kernel, by decide +kernel⟩
-- OfDifferentMinds.convincedOnes()I
def jm_b197_39 : List jx_E := (39, 0, (1, 0, 0, 0), 0, []) :: (40, 69, (0, 0, 0, 0), 0, []) :: []
def jm_b197_33 : List jx_E := (33, 13, (2, 0, 0, 0), 1, []) :: (36, 54, (4, 0, 0, 0), 0, []) :: []
def jm_b197_4 : List jx_E := (4, 0, (2, 0, 0, 0), 0, []) :: (5, 2, (0, 0, 0, 0), 0, []) :: (6, 33, (10, 1, 0, 19), 0, []) :: (9, 49, (28, 1, 3, 122), 0, []) :: (12, 64, (39, 0, 0, 0), 0, []) :: (15, 2, (0, 0, 0, 0), 0, []) :: (16, 33, (10, 3, 0, 33), 0, []) :: (19, 0, (2, 0, 0, 0), 0, []) :: (20, 49, (97, 2, 8, 197), 0, []) :: (23, 8, (0, 0, 0, 0), (-1), []) :: (24, 61, (33, 0, 0, 0), 0, []) :: (27, 0, (1, 0, 0, 0), 0, []) :: (28, 8, (0, 0, 0, 0), 1, []) :: (29, 0, (2, 0, 0, 0), 0, []) :: (30, 23, (0, 0, 0, 0), 0, []) :: (31, 21, (0, 0, 0, 0), 0, []) :: (32, 4, (1, 0, 0, 0), 0, []) :: jm_b197_33
def jm_b197_0 : List jx_E := (0, 8, (0, 0, 0, 0), 0, []) :: (1, 4, (1, 0, 0, 0), 0, []) :: (2, 8, (0, 0, 0, 0), 0, []) :: (3, 4, (2, 0, 0, 0), 0, []) :: jm_b197_4
def jm_l197 : jx_B := [(0, jm_b197_0), (4, jm_b197_4), (33, jm_b197_33), (39, jm_b197_39)]
def jm_i197 : jx_M := (⟨"OfDifferentMinds", "convincedOnes", "()I"⟩, prog_1_method_70_code, 3, (some .int), 0, 1, 10, jm_l197)
theorem jm_ok197 : jx_okM 197 jm_i197 := ⟨by decide +kernel, rfl, by decide +kernel, ⟨by decide +kernel, by decide +kernel⟩, by decide +kernel, jx_mem (i := 1183) (by decide +kernel) rfl, jx_mem (i := 106) (by decide +kernel) rfl, fun _ => ⟨jx_mem (i := 1182) (by decide +kernel) rfl, jx_mem (i := 42) (by decide +kernel) rfl, by decide⟩, fun h => absurd h (by decide), fun h => absurd h (by decide), by decide, by decide, by decide, by decide +kernel, by decide +kernel⟩
-- OfDifferentMinds.row(I)I
def jm_l198 : jx_B := []
def jm_i198 : jx_M := (⟨"OfDifferentMinds", "row", "(I)I"⟩, prog_1_method_71_code, 2, (some .int), 0, 2, 10, jm_l198)
theorem jm_ok198 : jx_okM 198 jm_i198 := ⟨by decide +kernel, rfl, by decide +kernel, ⟨by decide +kernel, by decide +kernel⟩, by decide +kernel, jx_mem (i := 1281) (by decide +kernel) rfl, jx_mem (i := 106) (by decide +kernel) rfl, fun _ => ⟨jx_mem (i := 1279) (by decide +kernel) rfl, jx_mem (i := 1280) (by decide +kernel) rfl, by decide⟩, fun h => absurd h (by decide), fun h => absurd h (by decide), by decide, by decide, by decide, by decide +kernel, by decide +kernel⟩
-- OfDifferentMindsModel.<init>()V
def jm_b199_0 : List jx_E := (0, 2, (0, 0, 0, 0), 0, []) :: (1, 52, (0, 0, 0, 3), 0, []) :: (4, 2, (0, 0, 0, 0), 0, []) :: (5, 9, (0, 0, 0, 0), 28, []) :: (7, 46, (0, 0, 0, 0), 0, []) :: (9, 37, (11, 0, 0, 9), 0, []) :: (12, 2, (0, 0, 0, 0), 0, []) :: (13, 9, (0, 0, 0, 0), 10, []) :: (15, 46, (0, 0, 0, 0), 0, []) :: (17, 37, (11, 2, 0, 13), 0, []) :: (20, 2, (0, 0, 0, 0), 0, []) :: (21, 9, (0, 0, 0, 0), 30, []) :: (23, 46, (0, 0, 0, 0), 0, []) :: (25, 37, (11, 3, 0, 16), 0, []) :: (28, 2, (0, 0, 0, 0), 0, []) :: (29, 9, (0, 0, 0, 0), 6, []) :: (31, 46, (0, 0, 0, 0), 0, []) :: (33, 37, (11, 6, 0, 19), 0, []) :: (36, 2, (0, 0, 0, 0), 0, []) :: (37, 9, (0, 0, 0, 0), 60, []) :: (39, 46, (0, 0, 0, 0), 0, []) :: (41, 37, (11, 7, 0, 22), 0, []) :: (44, 2, (0, 0, 0, 0), 0, []) :: (45, 9, (0, 0, 0, 0), 80, []) :: (47, 46, (1, 0, 0, 0), 0, []) :: (49, 37, (11, 8, 0, 25), 0, []) :: (52, 2, (0, 0, 0, 0), 0, []) :: (53, 9, (0, 0, 0, 0), 40, []) :: (55, 46, (0, 0, 0, 0), 0, []) :: (57, 37, (11, 10, 0, 29), 0, []) :: (60, 2, (0, 0, 0, 0), 0, []) :: (61, 9, (0, 0, 0, 0), 10, []) :: (63, 46, (0, 0, 0, 0), 0, []) :: (65, 37, (11, 18, 0, 32), 0, []) :: (68, 2, (0, 0, 0, 0), 0, []) :: (69, 9, (0, 0, 0, 0), 30, []) :: (71, 46, (0, 0, 0, 0), 0, []) :: (73, 37, (11, 19, 0, 35), 0, []) :: (76, 2, (0, 0, 0, 0), 0, []) :: (77, 9, (0, 0, 0, 0), 30, []) :: (79, 46, (0, 0, 0, 0), 0, []) :: (81, 37, (11, 20, 0, 38), 0, []) :: (84, 2, (0, 0, 0, 0), 0, []) :: (85, 9, (0, 0, 0, 0), 66, []) :: (87, 46, (0, 0, 0, 0), 0, []) :: (89, 37, (11, 22, 0, 41), 0, []) :: (92, 2, (0, 0, 0, 0), 0, []) :: (93, 9, (0, 0, 0, 0), 40, []) :: (95, 46, (1, 0, 0, 0), 0, []) :: (97, 37, (11, 23, 0, 44), 0, []) :: (100, 2, (0, 0, 0, 0), 0, []) :: (101, 9, (0, 0, 0, 0), 7, []) :: (103, 46, (0, 0, 0, 0), 0, []) :: (105, 37, (11, 26, 0, 47), 0, []) :: (108, 2, (0, 0, 0, 0), 0, []) :: (109, 10, (0, 0, 0, 0), 336, []) :: (112, 46, (0, 0, 0, 0), 0, []) :: (114, 37, (11, 28, 0, 50), 0, []) :: (117, 2, (0, 0, 0, 0), 0, []) :: (118, 9, (0, 0, 0, 0), 28, []) :: (120, 46, (0, 0, 0, 0), 0, []) :: (122, 37, (11, 30, 0, 53), 0, []) :: (125, 2, (0, 0, 0, 0), 0, []) :: (126, 10, (0, 0, 0, 0), 240, []) :: (129, 46, (0, 0, 0, 0), 0, []) :: (131, 37, (11, 32, 0, 56), 0, []) :: (134, 2, (0, 0, 0, 0), 0, []) :: (135, 9, (0, 0, 0, 0), 28, []) :: (137, 46, (0, 0, 0, 0), 0, []) :: (139, 37, (11, 34, 0, 59), 0, []) :: (142, 2, (0, 0, 0, 0), 0, []) :: (143, 9, (0, 0, 0, 0), 10, []) :: (145, 46, (0, 0, 0, 0), 0, []) :: (147, 37, (11, 35, 0, 62), 0, []) :: (150, 2, (0, 0, 0, 0), 0, []) :: (151, 10, (0, 0, 0, 0), 360, []) :: (154, 46, (0, 0, 0, 0), 0, []) :: (156, 37, (11, 37, 0, 65), 0, []) :: (159, 2, (0, 0, 0, 0), 0, []) :: (160, 9, (0, 0, 0, 0), 10, []) :: (162, 46, (0, 0, 0, 0), 0, []) :: (164, 37, (11, 38, 0, 68), 0, []) :: (167, 2, (0, 0, 0, 0), 0, []) :: (168, 9, (0, 0, 0, 0), 6, []) :: (170, 46, (0, 0, 0, 0), 0, []) :: (172, 37, (11, 39, 0, 71), 0, []) :: (175, 2, (0, 0, 0, 0), 0, []) :: (176, 9, (0, 0, 0, 0), 6, []) :: (178, 46, (0, 0, 0, 0), 0, []) :: (180, 37, (11, 40, 0, 74), 0, []) :: (183, 2, (0, 0, 0, 0), 0, []) :: (184, 9, (0, 0, 0, 0), 20, []) :: (186, 46, (0, 0, 0, 0), 0, []) :: (188, 37, (11, 42, 0, 77), 0, []) :: (191, 2, (0, 0, 0, 0), 0, []) :: (192, 9, (0, 0, 0, 0), 6, []) :: (194, 46, (0, 0, 0, 0), 0, []) :: (196, 37, (11, 44, 0, 80), 0, []) :: (199, 2, (0, 0, 0, 0), 0, []) :: (200, 8, (0, 0, 0, 0), 3, []) :: (201, 46, (0, 0, 0, 0), 0, []) :: (203, 37, (11, 45, 0, 83), 0, []) :: (206, 2, (0, 0, 0, 0), 0, []) :: (207, 9, (0, 0, 0, 0), 6, []) :: (209, 46, (0, 0, 0, 0), 0, []) :: (211, 37, (11, 47, 0, 86), 0, []) :: (214, 2, (0, 0, 0, 0), 0, []) :: (215, 9, (0, 0, 0, 0), 56, []) :: (217, 46, (0, 0, 0, 0), 0, []) :: (219, 37, (11, 49, 0, 89), 0, []) :: (222, 2, (0, 0, 0, 0), 0, []) :: (223, 8, (0, 0, 0, 0), 2, []) :: (224, 46, (2, 0, 0, 0), 0, []) :: (226, 37, (11, 50, 0, 92), 0, []) :: (229, 2, (0, 0, 0, 0), 0, []) :: (230, 8, (0, 0, 0, 0), 2, []) :: (231, 46, (0, 0, 0, 0), 0, []) :: (233, 37, (11, 51, 0, 96), 0, []) :: (236, 2, (0, 0, 0, 0), 0, []) :: (237, 49, (200, 1, 11, 99), 0, []) :: (240, 71, (0, 0, 0, 0), 0, []) :: []
def jm_l199 : jx_B := [(0, jm_b199_0)]
def jm_i199 : jx_M := (⟨"OfDifferentMindsModel", "<init>", "()V"⟩, prog_13_method_1_code, 1, none, 1, 1, 11, jm_l199)
theorem jm_ok199 : jx_okM 199 jm_i199 := ⟨by decide +kernel, rfl, by decide +kernel, ⟨by decide +kernel, by decide +kernel⟩, by decide +kernel, jx_mem (i := 1287) (by decide +kernel) rfl, jx_mem (i := 116) (by decide +kernel) rfl, fun h => absurd h (by decide), fun _ => ⟨rfl, jx_mem (i := 1286) (by decide +kernel) rfl, rfl⟩, fun h => absurd h (by decide), by decide, by decide, by decide, by decide +kernel, by decide +kernel⟩
end
section
/-! ===== methods 200 .. as entries ===== -/
-- OfDifferentMindsModel.empty()V
def jm_b200_0 : List jx_E := (0, 2, (0, 0, 0, 0), 0, []) :: (1, 33, (11, 0, 0, 9), 0, []) :: (4, 8, (0, 0, 0, 0), 0, []) :: (5, 8, (0, 0, 0, 0), 0, []) :: (6, 41, (0, 0, 0, 0), 0, []) :: (7, 2, (0, 0, 0, 0), 0, []) :: (8, 33, (11, 0, 0, 9), 0, []) :: (11, 8, (0, 0, 0, 0), 1, []) :: (12, 8, (0, 0, 0, 0), (-1), []) :: (13, 41, (0, 0, 0, 0), 0, []) :: (14, 2, (0, 0, 0, 0), 0, []) :: (15, 33, (11, 0, 0, 9), 0, []) :: (18, 8, (0, 0, 0, 0), 2, []) :: (19, 8, (0, 0, 0, 0), (-1), []) :: (20, 41, (0, 0, 0, 0), 0, []) :: (21, 2, (0, 0, 0, 0), 0, []) :: (22, 33, (11, 0, 0, 9), 0, []) :: (25, 8, (0, 0, 0, 0), 3, []) :: (26, 8, (0, 0, 0, 0), 0, []) :: (27, 41, (0, 0, 0, 0), 0, []) :: (28, 71, (0, 0, 0, 0), 0, []) :: []
def jm_l200 : jx_B := [(0, jm_b200_0)]
def jm_i200 : jx_M := (⟨"OfDifferentMindsModel", "empty", "()V"⟩, prog_13_method_2_code, 1, none, 0, 1, 11, jm_l200)
theorem jm_ok200 : jx_okM 200 jm_i200 := ⟨by decide +kernel, rfl, by decide +kernel, ⟨by decide +kernel, by decide +kernel⟩, by decide +kernel, jx_mem (i := 1292) (by decide +kernel) rfl, jx_mem (i := 116) (by decide +kernel) rfl, fun _ => ⟨jx_mem (i := 1291) (by decide +kernel) rfl, jx_mem (i := 45) (by decide +kernel) rfl, by decide⟩, fun h => absurd h (by decide), fun h => absurd h (by decide), by decide, by decide, by decide, by decide +kernel, by decide +kernel⟩
-- OfDifferentMindsModel.thrown()I
def jm_b201_0 : List jx_E := (0, 2, (0, 0, 0, 0), 0, []) :: (1, 32, (11, 12, 0, 102), 0, []) :: (4, 69, (0, 0, 0, 0), 0, []) :: []
def jm_l201 : jx_B := [(0, jm_b201_0)]
def jm_i201 : jx_M := (⟨"OfDifferentMindsModel", "thrown", "()I"⟩, prog_13_method_3_code, 1, (some .int), 0, 1, 11, jm_l201)
theorem jm_ok201 : jx_okM 201 jm_i201 := ⟨by decide +kernel, rfl, by decide +kernel, ⟨by decide +kernel, by decide +kernel⟩, by decide +kernel, jx_mem (i := 1454) (by decide +kernel) rfl, jx_mem (i := 116) (by decide +kernel) rfl, fun _ => ⟨jx_mem (i := 1452) (by decide +kernel) rfl, jx_mem (i := 1453) (by decide +kernel) rfl, by decide⟩, fun h => absurd h (by decide), fun h => absurd h (by decide), by decide, by decide, by decide, by decide +kernel, by decide +kernel⟩
-- OfDifferentMindsModel.in(III)Z
def jm_b202_15 : List jx_E := (15, 70, (0, 0, 0, 0), 0, []) :: []
def jm_b202_14 : List jx_E := (14, 8, (0, 0, 0, 0), 0, []) :: jm_b202_15
def jm_b202_0 : List jx_E := (0, 0, (0, 0, 0, 0), 0, []) :: (1, 0, (1, 0, 0, 0), 0, []) :: (2, 63, (14, 0, 0, 0), 0, []) :: (5, 0, (0, 0, 0, 0), 0, []) :: (6, 0, (2, 0, 0, 0), 0, []) :: (7, 65, (14, 0, 0, 0), 0, []) :: (10, 8, (0, 0, 0, 0), 1, []) :: (11, 54, (15, 0, 0, 0), 0, []) :: []
def jm_l202 : jx_B := [(0, jm_b202_0), (14, jm_b202_14), (15, jm_b202_15)]
def jm_i202 : jx_M := (⟨"OfDifferentMindsModel", "in", "(III)Z"⟩, prog_13_method_4_code, 3, (some .boolean), 2, 3, 11, jm_l202)
theorem jm_ok202 : jx_okM 202 jm_i202 := ⟨by decide +kernel, rfl, by decide +kernel, ⟨by decide +kernel, by decide +kernel⟩, by decide +kernel, jx_mem (i := 1465) (by decide +kernel) rfl, jx_mem (i := 116) (by decide +kernel) rfl, fun h => absurd h (by decide), fun h => absurd h (by decide), fun _ => jx_mem (i := 1464) (by decide +kernel) rfl, by decide, by decide, by decide, by decide +kernel, by decide +kernel⟩
-- OfDifferentMindsModel.has(II)Z
def jm_b203_14 : List jx_E := (14, 70, (0, 0, 0, 0), 0, []) :: []
def jm_b203_13 : List jx_E := (13, 8, (0, 0, 0, 0), 0, []) :: jm_b203_14
def jm_b203_0 : List jx_E := (0, 0, (0, 0, 0, 0), 0, []) :: (1, 0, (1, 0, 0, 0), 0, []) :: (2, 24, (0, 0, 0, 0), 0, []) :: (3, 8, (0, 0, 0, 0), 1, []) :: (4, 20, (0, 0, 0, 0), 0, []) :: (5, 8, (0, 0, 0, 0), 1, []) :: (6, 62, (13, 0, 0, 0), 0, []) :: (9, 8, (0, 0, 0, 0), 1, []) :: (10, 54, (14, 0, 0, 0), 0, []) :: []
def jm_l203 : jx_B := [(0, jm_b203_0), (13, jm_b203_13), (14, jm_b203_14)]
def jm_i203 : jx_M := (⟨"OfDifferentMindsModel", "has", "(II)Z"⟩, prog_13_method_5_code, 2, (some .boolean), 2, 2, 11, jm_l203)
theorem jm_ok203 : jx_okM 203 jm_i203 := ⟨by decide +kernel, rfl, by decide +kernel, ⟨by decide +kernel, by decide +kernel⟩, by decide +kernel, jx_mem (i := 1683) (by decide +kernel) rfl, jx_mem (i := 116) (by decide +kernel) rfl, fun h => absurd h (by decide), fun h => absurd h (by decide), fun _ => jx_mem (i := 1682) (by decide +kernel) rfl, by decide, by decide, by decide, by decide +kernel, by decide +kernel⟩
-- OfDifferentMindsModel.lost()I
def jm_b204_0 : List jx_E := (0, 2, (0, 0, 0, 0), 0, []) :: (1, 8, (0, 0, 0, 0), 1, []) :: (2, 34, (11, 12, 0, 102), 0, []) :: (5, 8, (0, 0, 0, 0), 0, []) :: (6, 69, (0, 0, 0, 0), 0, []) :: []
def jm_l204 : jx_B := [(0, jm_b204_0)]
def jm_i204 : jx_M := (⟨"OfDifferentMindsModel", "lost", "()I"⟩, prog_13_method_6_code, 1, (some .int), 0, 1, 11, jm_l204)
theorem jm_ok204 : jx_okM 204 jm_i204 := ⟨by decide +kernel, rfl, by decide +kernel, ⟨by decide +kernel, by decide +kernel⟩, by decide +kernel, jx_mem (i := 1548) (by decide +kernel) rfl, jx_mem (i := 116) (by decide +kernel) rfl, fun _ => ⟨jx_mem (i := 1547) (by decide +kernel) rfl, jx_mem (i := 61) (by decide +kernel) rfl, by decide⟩, fun h => absurd h (by decide), fun h => absurd h (by decide), by decide, by decide, by decide, by decide +kernel, by decide +kernel⟩
-- OfDifferentMindsModel.tell(I)V
def jm_b205_0 : List jx_E := (0, 2, (0, 0, 0, 0), 0, []) :: (1, 33, (11, 10, 0, 29), 0, []) :: (4, 2, (0, 0, 0, 0), 0, []) :: (5, 32, (11, 11, 0, 106), 0, []) :: (8, 0, (1, 0, 0, 0), 0, []) :: (9, 41, (0, 0, 0, 0), 0, []) :: (10, 2, (0, 0, 0, 0), 0, []) :: (11, 28, (0, 0, 0, 0), 0, []) :: (12, 32, (11, 11, 0, 106), 0, []) :: (15, 8, (0, 0, 0, 0), 1, []) :: (16, 14, (0, 0, 0, 0), 0, []) :: (17, 34, (11, 11, 0, 106), 0, []) :: (20, 71, (0, 0, 0, 0), 0, []) :: []
def jm_l205 : jx_B := [(0, jm_b205_0)]
def jm_i205 : jx_M := (⟨"OfDifferentMindsModel", "tell", "(I)V"⟩, prog_13_method_7_code, 2, none, 0, 2, 11, jm_l205)
theorem jm_ok205 : jx_okM 205 jm_i205 := ⟨by decide +kernel, rfl, by decide +kernel, ⟨by decide +kernel, by decide +kernel⟩, by decide +kernel, jx_mem (i := 1640) (by decide +kernel) rfl, jx_mem (i := 116) (by decide +kernel) rfl, fun _ => ⟨jx_mem (i := 1639) (by decide +kernel) rfl, jx_mem (i := 76) (by decide +kernel) rfl, by decide⟩, fun h => absurd h (by decide), fun h => absurd h (by decide), by decide, by decide, by decide, by decide +kernel, by decide +kernel⟩
-- OfDifferentMindsModel.isPlace(I)Z
def jm_b206_0 : List jx_E := (0, 0, (1, 0, 0, 0), 0, []) :: (1, 8, (0, 0, 0, 0), 0, []) :: (2, 2, (0, 0, 0, 0), 0, []) :: (3, 32, (11, 1, 0, 109), 0, []) :: (6, 8, (0, 0, 0, 0), 1, []) :: (7, 15, (0, 0, 0, 0), 0, []) :: (8, 50, (202, 3, 0, 112), 0, []) :: (11, 70, (0, 0, 0, 0), 0, []) :: []
def jm_l206 : jx_B := [(0, jm_b206_0)]
def jm_i206 : jx_M := (⟨"OfDifferentMindsModel", "isPlace", "(I)Z"⟩, prog_13_method_8_code, 2, (some .boolean), 0, 2, 11, jm_l206)
theorem jm_ok206 : jx_okM 206 jm_i206 := ⟨by decide +kernel, rfl, by decide +kernel, ⟨by decide +kernel, by decide +kernel⟩, by decide +kernel, jx_mem (i := 1544) (by decide +kernel) rfl, jx_mem (i := 116) (by decide +kernel) rfl, fun _ => ⟨jx_mem (i := 1543) (by decide +kernel) rfl, jx_mem (i := 60) (by decide +kernel) rfl, by decide⟩, fun h => absurd h (by decide), fun h => absurd h (by decide), by decide, by decide, by decide, by decide +kernel, by decide +kernel⟩
-- OfDifferentMindsModel.isRider(I)Z
def jm_b207_0 : List jx_E := (0, 0, (1, 0, 0, 0), 0, []) :: (1, 8, (0, 0, 0, 0), 0, []) :: (2, 2, (0, 0, 0, 0), 0, []) :: (3, 32, (11, 5, 0, 116), 0, []) :: (6, 8, (0, 0, 0, 0), 1, []) :: (7, 15, (0, 0, 0, 0), 0, []) :: (8, 50, (202, 3, 0, 112), 0, []) :: (11, 70, (0, 0, 0, 0), 0, []) :: []
def jm_l207 : jx_B := [(0, jm_b207_0)]
def jm_i207 : jx_M := (⟨"OfDifferentMindsModel", "isRider", "(I)Z"⟩, prog_13_method_9_code, 2, (some .boolean), 0, 2, 11, jm_l207)
theorem jm_ok207 : jx_okM 207 jm_i207 := ⟨by decide +kernel, rfl, by decide +kernel, ⟨by decide +kernel, by decide +kernel⟩, by decide +kernel, jx_mem (i := 1556) (by decide +kernel) rfl, jx_mem (i := 116) (by decide +kernel) rfl, fun _ => ⟨jx_mem (i := 1555) (by decide +kernel) rfl, jx_mem (i := 62) (by decide +kernel) rfl, by decide⟩, fun h => absurd h (by decide), fun h => absurd h (by decide), by decide, by decide, by decide, by decide +kernel, by decide +kernel⟩
-- OfDifferentMindsModel.areTwo(II)Z
def jm_b208_26 : List jx_E := (26, 70, (0, 0, 0, 0), 0, []) :: []
def jm_b208_25 : List jx_E := (25, 8, (0, 0, 0, 0), 0, []) :: jm_b208_26
def jm_b208_0 : List jx_E := (0, 2, (0, 0, 0, 0), 0, []) :: (1, 0, (1, 0, 0, 0), 0, []) :: (2, 49, (207, 2, 11, 119), 0, []) :: (5, 55, (25, 0, 0, 0), 0, []) :: (8, 2, (0, 0, 0, 0), 0, []) :: (9, 0, (2, 0, 0, 0), 0, []) :: (10, 49, (207, 2, 11, 119), 0, []) :: (13, 55, (25, 0, 0, 0), 0, []) :: (16, 0, (1, 0, 0, 0), 0, []) :: (17, 0, (2, 0, 0, 0), 0, []) :: (18, 61, (25, 0, 0, 0), 0, []) :: (21, 8, (0, 0, 0, 0), 1, []) :: (22, 54, (26, 0, 0, 0), 0, []) :: []
def jm_l208 : jx_B := [(0, jm_b208_0), (25, jm_b208_25), (26, jm_b208_26)]
def jm_i208 : jx_M := (⟨"OfDifferentMindsModel", "areTwo", "(II)Z"⟩, prog_13_method_10_code, 3, (some .boolean), 0, 3, 11, jm_l208)
theorem jm_ok208 : jx_okM 208 jm_i208 := ⟨by decide +kernel, rfl, by decide +kernel, ⟨by decide +kernel, by decide +kernel⟩, by decide +kernel, jx_mem (i := 1585) (by decide +kernel) rfl, jx_mem (i := 116) (by decide +kernel) rfl, fun _ => ⟨jx_mem (i := 1584) (by decide +kernel) rfl, jx_mem (i := 65) (by decide +kernel) rfl, by decide⟩, fun h => absurd h (by decide), fun h => absurd h (by decide), by decide, by decide, by decide, by decide +kernel, by decide +kernel⟩
-- OfDifferentMindsModel.isOn([II)Z
def jm_b209_19 : List jx_E := (19, 70, (0, 0, 0, 0), 0, []) :: []
def jm_b209_18 : List jx_E := (18, 8, (0, 0, 0, 0), 0, []) :: jm_b209_19
def jm_b209_14 : List jx_E := (14, 8, (0, 0, 0, 0), 1, []) :: (15, 54, (19, 0, 0, 0), 0, []) :: []
def jm_b209_0 : List jx_E := (0, 2, (0, 0, 0, 0), 0, []) :: (1, 8, (0, 0, 0, 0), 1, []) :: (2, 38, (0, 0, 0, 0), 0, []) :: (3, 0, (1, 0, 0, 0), 0, []) :: (4, 61, (14, 0, 0, 0), 0, []) :: (7, 2, (0, 0, 0, 0), 0, []) :: (8, 8, (0, 0, 0, 0), 2, []) :: (9, 38, (0, 0, 0, 0), 0, []) :: (10, 0, (1, 0, 0, 0), 0, []) :: (11, 62, (18, 0, 0, 0), 0, []) :: jm_b209_14
def jm_l209 : jx_B := [(0, jm_b209_0), (14, jm_b209_14), (18, jm_b209_18), (19, jm_b209_19)]
def jm_i209 : jx_M := (⟨"OfDifferentMindsModel", "isOn", "([II)Z"⟩, prog_13_method_11_code, 2, (some .boolean), 2, 2, 11, jm_l209)
theorem jm_ok209 : jx_okM 209 jm_i209 := ⟨by decide +kernel, rfl, by decide +kernel, ⟨by decide +kernel, by decide +kernel⟩, by decide +kernel, jx_mem (i := 1563) (by decide +kernel) rfl, jx_mem (i := 116) (by decide +kernel) rfl, fun h => absurd h (by decide), fun h => absurd h (by decide), fun _ => jx_mem (i := 1562) (by decide +kernel) rfl, by decide, by decide, by decide, by decide +kernel, by decide +kernel⟩
-- OfDifferentMindsModel.isRidden()Z
def jm_b210_15 : List jx_E := (15, 70, (0, 0, 0, 0), 0, []) :: []
def jm_b210_14 : List jx_E := (14, 8, (0, 0, 0, 0), 0, []) :: jm_b210_15
def jm_b210_0 : List jx_E := (0, 2, (0, 0, 0, 0), 0, []) :: (1, 33, (11, 0, 0, 9), 0, []) :: (4, 8, (0, 0, 0, 0), 1, []) :: (5, 38, (0, 0, 0, 0), 0, []) :: (6, 8, (0, 0, 0, 0), (-1), []) :: (7, 61, (14, 0, 0, 0), 0, []) :: (10, 8, (0, 0, 0, 0), 1, []) :: (11, 54, (15, 0, 0, 0), 0, []) :: []
def jm_l210 : jx_B := [(0, jm_b210_0), (14, jm_b210_14), (15, jm_b210_15)]
def jm_i210 : jx_M := (⟨"OfDifferentMindsModel", "isRidden", "()Z"⟩, prog_13_method_12_code, 1, (some .boolean), 0, 1, 11, jm_l210)
theorem jm_ok210 : jx_okM 210 jm_i210 := ⟨by decide +kernel, rfl, by decide +kernel, ⟨by decide +kernel, by decide +kernel⟩, by decide +kernel, jx_mem (i := 1589) (by decide +kernel) rfl, jx_mem (i := 116) (by decide +kernel) rfl, fun _ => ⟨jx_mem (i := 1588) (by decide +kernel) rfl, jx_mem (i := 66) (by decide +kernel) rfl, by decide⟩, fun h => absurd h (by decide), fun h => absurd h (by decide), by decide, by decide, by decide, by decide +kernel, by decide +kernel⟩
-- OfDifferentMindsModel.sign(I)I
def jm_b211_53 : List jx_E := (53, 2, (0, 0, 0, 0), 0, []) :: (54, 32, (11, 9, 0, 123), 0, []) :: (57, 69, (0, 0, 0, 0), 0, []) :: []
def jm_b211_20 : List jx_E := (20, 0, (2, 0, 0, 0), 0, []) :: (21, 57, (53, 0, 0, 0), 0, []) :: (24, 2, (0, 0, 0, 0), 0, []) :: (25, 33, (11, 8, 0, 25), 0, []) :: (28, 2, (0, 0, 0, 0), 0, []) :: (29, 28, (0, 0, 0, 0), 0, []) :: (30, 32, (11, 9, 0, 123), 0, []) :: (33, 30, (0, 0, 0, 0), 0, []) :: (34, 8, (0, 0, 0, 0), 1, []) :: (35, 14, (0, 0, 0, 0), 0, []) :: (36, 34, (11, 9, 0, 123), 0, []) :: (39, 0, (1, 0, 0, 0), 0, []) :: (40, 9, (0, 0, 0, 0), 8, []) :: (42, 0, (2, 0, 0, 0), 0, []) :: (43, 16, (0, 0, 0, 0), 0, []) :: (44, 24, (0, 0, 0, 0), 0, []) :: (45, 26, (0, 0, 0, 0), 0, []) :: (46, 42, (0, 0, 0, 0), 0, []) :: (47, 13, (2, 0, 0, 0), (-1), []) :: (50, 54, (20, 0, 0, 0), 0, []) :: []
def jm_b211_18 : List jx_E := (18, 8, (0, 0, 0, 0), 3, []) :: (19, 4, (2, 0, 0, 0), 0, []) :: jm_b211_20
def jm_b211_0 : List jx_E := (0, 2, (0, 0, 0, 0), 0, []) :: (1, 8, (0, 0, 0, 0), 0, []) :: (2, 34, (11, 12, 0, 102), 0, []) :: (5, 2, (0, 0, 0, 0), 0, []) :: (6, 32, (11, 9, 0, 123), 0, []) :: (9, 8, (0, 0, 0, 0), 4, []) :: (10, 14, (0, 0, 0, 0), 0, []) :: (11, 9, (0, 0, 0, 0), 80, []) :: (13, 66, (18, 0, 0, 0), 0, []) :: (16, 8, (0, 0, 0, 0), (-1), []) :: (17, 69, (0, 0, 0, 0), 0, []) :: []
def jm_l211 : jx_B := [(0, jm_b211_0), (18, jm_b211_18), (20, jm_b211_20), (53, jm_b211_53)]
def jm_i211 : jx_M := (⟨"OfDifferentMindsModel", "sign", "(I)I"⟩, prog_13_method_13_code, 3, (some .int), 0, 2, 11, jm_l211)
theorem jm_ok211 : jx_okM 211 jm_i211 := ⟨by decide +kernel, rfl, by decide +kernel, ⟨by decide +kernel, by decide +kernel⟩, by decide +kernel, jx_mem (i := 1458) (by decide +kernel) rfl, jx_mem (i := 116) (by decide +kernel) rfl, fun _ => ⟨jx_mem (i := 1456) (by decide +kernel) rfl, jx_mem (i := 1457) (by decide +kernel) rfl, by decide⟩, fun h => absurd h (by decide), fun h => absurd h (by decide), by decide, by decide, by decide, by decide +kernel, by decide +kernel⟩
-- OfDifferentMindsModel.end(I)Z
def jm_b212_19 : List jx_E := (19, 2, (0, 0, 0, 0), 0, []) :: (20, 0, (1, 0, 0, 0), 0, []) :: (21, 34, (11, 9, 0, 123), 0, []) :: (24, 8, (0, 0, 0, 0), 1, []) :: (25, 70, (0, 0, 0, 0), 0, []) :: []
def jm_b212_0 : List jx_E := (0, 2, (0, 0, 0, 0), 0, []) :: (1, 8, (0, 0, 0, 0), 0, []) :: (2, 34, (11, 12, 0, 102), 0, []) :: (5, 0, (1, 0, 0, 0), 0, []) :: (6, 8, (0, 0, 0, 0), 0, []) :: (7, 2, (0, 0, 0, 0), 0, []) :: (8, 32, (11, 9, 0, 123), 0, []) :: (11, 50, (202, 3, 0, 112), 0, []) :: (14, 56, (19, 0, 0, 0), 0, []) :: (17, 8, (0, 0, 0, 0), 0, []) :: (18, 70, (0, 0, 0, 0), 0, []) :: []
def jm_l212 : jx_B := [(0, jm_b212_0), (19, jm_b212_19)]
def jm_i212 : jx_M := (⟨"OfDifferentMindsModel", "end", "(I)Z"⟩, prog_13_method_14_code, 2, (some .boolean), 0, 2, 11, jm_l212)
theorem jm_ok212 : jx_okM 212 jm_i212 := ⟨by decide +kernel, rfl, by decide +kernel, ⟨by decide +kernel, by decide +kernel⟩, by decide +kernel, jx_mem (i := 1462) (by decide +kernel) rfl, jx_mem (i := 116) (by decide +kernel) rfl, fun _ => ⟨jx_mem (i := 1460) (by decide +kernel) rfl, jx_mem (i := 1461) (by decide +kernel) rfl, by decide⟩, fun h => absurd h (by decide), fun h => absurd h (by decide), by decide, by decide, by decide, by decide +kernel, by decide +kernel⟩
-- OfDifferentMindsModel.begin([BII)V
def jm_b213_0 : List jx_E := (0, 2, (0, 0, 0, 0), 0, []) :: (1, 2, (1, 0, 0, 0), 0, []) :: (2, 36, (11, 13, 0, 126), 0, []) :: (5, 2, (0, 0, 0, 0), 0, []) :: (6, 0, (2, 0, 0, 0), 0, []) :: (7, 34, (11, 14, 0, 129), 0, []) :: (10, 2, (0, 0, 0, 0), 0, []) :: (11, 0, (3, 0, 0, 0), 0, []) :: (12, 34, (11, 15, 0, 132), 0, []) :: (15, 2, (0, 0, 0, 0), 0, []) :: (16, 8, (0, 0, 0, 0), 0, []) :: (17, 34, (11, 16, 0, 135), 0, []) :: (20, 2, (0, 0, 0, 0), 0, []) :: (21, 8, (0, 0, 0, 0), (-1), []) :: (22, 34, (11, 17, 0, 138), 0, []) :: (25, 71, (0, 0, 0, 0), 0, []) :: []
def jm_l213 : jx_B := [(0, jm_b213_0)]
def jm_i213 : jx_M := (⟨"OfDifferentMindsModel", "begin", "([BII)V"⟩, prog_13_method_15_code, 4, none, 0, 4, 11, jm_l213)
theorem jm_ok213 : jx_okM 213 jm_i213 := ⟨by decide +kernel, rfl, by decide +kernel, ⟨by decide +kernel, by decide +kernel⟩, by decide +kernel, jx_mem (i := 1473) (by decide +kernel) rfl, jx_mem (i := 116) (by decide +kernel) rfl, fun _ => ⟨jx_mem (i := 1472) (by decide +kernel) rfl, jx_mem (i := 46) (by decide +kernel) rfl, by decide⟩, fun h => absurd h (by decide), fun h => absurd h (by decide), by decide, by decide, by decide, by decide +kernel, by decide +kernel⟩
-- OfDifferentMindsModel.here()I
def jm_b214_39 : List jx_E := (39, 69, (0, 0, 0, 0), 0, []) :: []
def jm_b214_38 : List jx_E := (38, 8, (0, 0, 0, 0), (-1), []) :: jm_b214_39
def jm_b214_0 : List jx_E := (0, 2, (0, 0, 0, 0), 0, []) :: (1, 32, (11, 16, 0, 135), 0, []) :: (4, 2, (0, 0, 0, 0), 0, []) :: (5, 32, (11, 14, 0, 129), 0, []) :: (8, 64, (38, 0, 0, 0), 0, []) :: (11, 2, (0, 0, 0, 0), 0, []) :: (12, 32, (11, 16, 0, 135), 0, []) :: (15, 2, (0, 0, 0, 0), 0, []) :: (16, 32, (11, 15, 0, 132), 0, []) :: (19, 64, (38, 0, 0, 0), 0, []) :: (22, 2, (0, 0, 0, 0), 0, []) :: (23, 33, (11, 13, 0, 126), 0, []) :: (26, 2, (0, 0, 0, 0), 0, []) :: (27, 32, (11, 16, 0, 135), 0, []) :: (30, 39, (0, 0, 0, 0), 0, []) :: (31, 10, (0, 0, 0, 0), 255, []) :: (34, 20, (0, 0, 0, 0), 0, []) :: (35, 54, (39, 0, 0, 0), 0, []) :: []
def jm_l214 : jx_B := [(0, jm_b214_0), (38, jm_b214_38), (39, jm_b214_39)]
def jm_i214 : jx_M := (⟨"OfDifferentMindsModel", "here", "()I"⟩, prog_13_method_16_code, 1, (some .int), 0, 1, 11, jm_l214)
theorem jm_ok214 : jx_okM 214 jm_i214 := ⟨by decide +kernel, rfl, by decide +kernel, ⟨by decide +kernel, by decide +kernel⟩, by decide +kernel, jx_mem (i := 1493) (by decide +kernel) rfl, jx_mem (i := 116) (by decide +kernel) rfl, fun _ => ⟨jx_mem (i := 1492) (by decide +kernel) rfl, jx_mem (i := 51) (by decide +kernel) rfl, by decide⟩, fun h => absurd h (by decide), fun h => absurd h (by decide), by decide, by decide, by decide, by decide +kernel, by decide +kernel⟩
-- OfDifferentMindsModel.fine()Z
def jm_b215_13 : List jx_E := (13, 70, (0, 0, 0, 0), 0, []) :: []
def jm_b215_12 : List jx_E := (12, 8, (0, 0, 0, 0), 0, []) :: jm_b215_13
def jm_b215_0 : List jx_E := (0, 2, (0, 0, 0, 0), 0, []) :: (1, 32, (11, 17, 0, 138), 0, []) :: (4, 8, (0, 0, 0, 0), (-1), []) :: (5, 62, (12, 0, 0, 0), 0, []) :: (8, 8, (0, 0, 0, 0), 1, []) :: (9, 54, (13, 0, 0, 0), 0, []) :: []
def jm_l215 : jx_B := [(0, jm_b215_0), (12, jm_b215_12), (13, jm_b215_13)]
def jm_i215 : jx_M := (⟨"OfDifferentMindsModel", "fine", "()Z"⟩, prog_13_method_17_code, 1, (some .boolean), 0, 1, 11, jm_l215)
theorem jm_ok215 : jx_okM 215 jm_i215 := ⟨by decide +kernel, rfl, by decide +kernel, ⟨by decide +kernel, by decide +kernel⟩, by decide +kernel, jx_mem (i := 1477) (by decide +kernel) rfl, jx_mem (i := 116) (by decide +kernel) rfl, fun _ => ⟨jx_mem (i := 1476) (by decide +kernel) rfl, jx_mem (i := 47) (by decide +kernel) rfl, by decide⟩, fun h => absurd h (by decide), fun h => absurd h (by decide), by decide, by decide, by decide, by decide +kernel, by decide +kernel⟩
-- OfDifferentMindsModel.fault(I)V
def jm_b216_12 : List jx_E := (12, 71, (0, 0, 0, 0), 0, []) :: []
def jm_b216_0 : List jx_E := (0, 2, (0, 0, 0, 0), 0, []) :: (1, 49, (215, 1, 11, 141), 0, []) :: (4, 55, (12, 0, 0, 0), 0, []) :: (7, 2, (0, 0, 0, 0), 0, []) :: (8, 0, (1, 0, 0, 0), 0, []) :: (9, 34, (11, 17, 0, 138), 0, []) :: jm_b216_12
def jm_l216 : jx_B := [(0, jm_b216_0), (12, jm_b216_12)]
def jm_i216 : jx_M := (⟨"OfDifferentMindsModel", "fault", "(I)V"⟩, prog_13_method_18_code, 2, none, 0, 2, 11, jm_l216)
theorem jm_ok216 : jx_okM 216 jm_i216 := ⟨by decide +kernel, rfl, by decide +kernel, ⟨by decide +kernel, by decide +kernel⟩, by decide +kernel, jx_mem (i := 1481) (by decide +kernel) rfl, jx_mem (i := 116) (by decide +kernel) rfl, fun _ => ⟨jx_mem (i := 1480) (by decide +kernel) rfl, jx_mem (i := 48) (by decide +kernel) rfl, by decide⟩, fun h => absurd h (by decide), fun h => absurd h (by decide), by decide, by decide, by decide, by decide +kernel, by decide +kernel⟩
-- OfDifferentMindsModel.passes(C)Z
def jm_b217_17 : List jx_E := (17, 2, (0, 0, 0, 0), 0, []) :: (18, 28, (0, 0, 0, 0), 0, []) :: (19, 32, (11, 16, 0, 135), 0, []) :: (22, 8, (0, 0, 0, 0), 1, []) :: (23, 14, (0, 0, 0, 0), 0, []) :: (24, 34, (11, 16, 0, 135), 0, []) :: (27, 8, (0, 0, 0, 0), 1, []) :: (28, 70, (0, 0, 0, 0), 0, []) :: []
def jm_b217_15 : List jx_E := (15, 8, (0, 0, 0, 0), 0, []) :: (16, 70, (0, 0, 0, 0), 0, []) :: []
def jm_b217_0 : List jx_E := (0, 2, (0, 0, 0, 0), 0, []) :: (1, 49, (215, 1, 11, 141), 0, []) :: (4, 55, (15, 0, 0, 0), 0, []) :: (7, 2, (0, 0, 0, 0), 0, []) :: (8, 49, (214, 1, 11, 145), 0, []) :: (11, 0, (1, 0, 0, 0), 0, []) :: (12, 61, (17, 0, 0, 0), 0, []) :: jm_b217_15
def jm_l217 : jx_B := [(0, jm_b217_0), (15, jm_b217_15), (17, jm_b217_17)]
def jm_i217 : jx_M := (⟨"OfDifferentMindsModel", "passes", "(C)Z"⟩, prog_13_method_19_code, 2, (some .boolean), 0, 2, 11, jm_l217)
theorem jm_ok217 : jx_okM 217 jm_i217 := ⟨by decide +kernel, rfl, by decide +kernel, ⟨by decide +kernel, by decide +kernel⟩, by decide +kernel, jx_mem (i := 1489) (by decide +kernel) rfl, jx_mem (i := 116) (by decide +kernel) rfl, fun _ => ⟨jx_mem (i := 1488) (by decide +kernel) rfl, jx_mem (i := 50) (by decide +kernel) rfl, by decide⟩, fun h => absurd h (by decide), fun h => absurd h (by decide), by decide, by decide, by decide, by decide +kernel, by decide +kernel⟩
-- OfDifferentMindsModel.need(C)V
def jm_b218_16 : List jx_E := (16, 71, (0, 0, 0, 0), 0, []) :: []
def jm_b218_0 : List jx_E := (0, 2, (0, 0, 0, 0), 0, []) :: (1, 0, (1, 0, 0, 0), 0, []) :: (2, 49, (217, 2, 11, 149), 0, []) :: (5, 56, (16, 0, 0, 0), 0, []) :: (8, 2, (0, 0, 0, 0), 0, []) :: (9, 2, (0, 0, 0, 0), 0, []) :: (10, 32, (11, 16, 0, 135), 0, []) :: (13, 49, (216, 2, 11, 153), 0, []) :: jm_b218_16
def jm_l218 : jx_B := [(0, jm_b218_0), (16, jm_b218_16)]
def jm_i218 : jx_M := (⟨"OfDifferentMindsModel", "need", "(C)V"⟩, prog_13_method_20_code, 2, none, 0, 2, 11, jm_l218)
theorem jm_ok218 : jx_okM 218 jm_i218 := ⟨by decide +kernel, rfl, by decide +kernel, ⟨by decide +kernel, by decide +kernel⟩, by decide +kernel, jx_mem (i := 1513) (by decide +kernel) rfl, jx_mem (i := 116) (by decide +kernel) rfl, fun _ => ⟨jx_mem (i := 1512) (by decide +kernel) rfl, jx_mem (i := 55) (by decide +kernel) rfl, by decide⟩, fun h => absurd h (by decide), fun h => absurd h (by decide), by decide, by decide, by decide, by decide +kernel, by decide +kernel⟩
-- OfDifferentMindsModel.digit(II)I
def jm_b219_37 : List jx_E := (37, 2, (0, 0, 0, 0), 0, []) :: (38, 28, (0, 0, 0, 0), 0, []) :: (39, 32, (11, 16, 0, 135), 0, []) :: (42, 8, (0, 0, 0, 0), 1, []) :: (43, 14, (0, 0, 0, 0), 0, []) :: (44, 34, (11, 16, 0, 135), 0, []) :: (47, 2, (0, 0, 0, 0), 0, []) :: (48, 33, (11, 13, 0, 126), 0, []) :: (51, 2, (0, 0, 0, 0), 0, []) :: (52, 32, (11, 16, 0, 135), 0, []) :: (55, 8, (0, 0, 0, 0), 1, []) :: (56, 15, (0, 0, 0, 0), 0, []) :: (57, 39, (0, 0, 0, 0), 0, []) :: (58, 9, (0, 0, 0, 0), 48, []) :: (60, 15, (0, 0, 0, 0), 0, []) :: (61, 69, (0, 0, 0, 0), 0, []) :: []
def jm_b219_9 : List jx_E := (9, 2, (0, 0, 0, 0), 0, []) :: (10, 49, (214, 1, 11, 145), 0, []) :: (13, 9, (0, 0, 0, 0), 48, []) :: (15, 0, (1, 0, 0, 0), 0, []) :: (16, 14, (0, 0, 0, 0), 0, []) :: (17, 9, (0, 0, 0, 0), 48, []) :: (19, 0, (2, 0, 0, 0), 0, []) :: (20, 14, (0, 0, 0, 0), 0, []) :: (21, 50, (202, 3, 0, 112), 0, []) :: (24, 56, (37, 0, 0, 0), 0, []) :: (27, 2, (0, 0, 0, 0), 0, []) :: (28, 2, (0, 0, 0, 0), 0, []) :: (29, 32, (11, 16, 0, 135), 0, []) :: (32, 49, (216, 2, 11, 153), 0, []) :: (35, 8, (0, 0, 0, 0), 0, []) :: (36, 69, (0, 0, 0, 0), 0, []) :: []
def jm_b219_0 : List jx_E := (0, 2, (0, 0, 0, 0), 0, []) :: (1, 49, (215, 1, 11, 141), 0, []) :: (4, 56, (9, 0, 0, 0), 0, []) :: (7, 8, (0, 0, 0, 0), 0, []) :: (8, 69, (0, 0, 0, 0), 0, []) :: []
def jm_l219 : jx_B := [(0, jm_b219_0), (9, jm_b219_9), (37, jm_b219_37)]
def jm_i219 : jx_M := (⟨"OfDifferentMindsModel", "digit", "(II)I"⟩, prog_13_method_21_code, 3, (some .int), 0, 3, 11, jm_l219)
theorem jm_ok219 : jx_okM 219 jm_i219 := ⟨by decide +kernel, rfl, by decide +kernel, ⟨by decide +kernel, by decide +kernel⟩, by decide +kernel, jx_mem (i := 1509) (by decide +kernel) rfl, jx_mem (i := 116) (by decide +kernel) rfl, fun _ => ⟨jx_mem (i := 1508) (by decide +kernel) rfl, jx_mem (i := 54) (by decide +kernel) rfl, by decide⟩, fun h => absurd h (by decide), fun h => absurd h (by decide), by decide, by decide, by decide, by decide +kernel, by decide +kernel⟩
-- OfDifferentMindsModel.number(I)I
def jm_b220_55 : List jx_E := (55, 0, (2, 0, 0, 0), 0, []) :: (56, 69, (0, 0, 0, 0), 0, []) :: []
def jm_b220_10 : List jx_E := (10, 0, (3, 0, 0, 0), 0, []) :: (11, 0, (1, 0, 0, 0), 0, []) :: (12, 64, (55, 0, 0, 0), 0, []) :: (15, 2, (0, 0, 0, 0), 0, []) :: (16, 49, (215, 1, 11, 141), 0, []) :: (19, 55, (55, 0, 0, 0), 0, []) :: (22, 2, (0, 0, 0, 0), 0, []) :: (23, 49, (214, 1, 11, 145), 0, []) :: (26, 9, (0, 0, 0, 0), 48, []) :: (28, 9, (0, 0, 0, 0), 57, []) :: (30, 50, (202, 3, 0, 112), 0, []) :: (33, 55, (55, 0, 0, 0), 0, []) :: (36, 9, (0, 0, 0, 0), 10, []) :: (38, 0, (2, 0, 0, 0), 0, []) :: (39, 16, (0, 0, 0, 0), 0, []) :: (40, 2, (0, 0, 0, 0), 0, []) :: (41, 8, (0, 0, 0, 0), 0, []) :: (42, 9, (0, 0, 0, 0), 9, []) :: (44, 49, (219, 3, 11, 157), 0, []) :: (47, 14, (0, 0, 0, 0), 0, []) :: (48, 4, (2, 0, 0, 0), 0, []) :: (49, 13, (3, 0, 0, 0), 1, []) :: (52, 54, (10, 0, 0, 0), 0, []) :: []
def jm_b220_0 : List jx_E := (0, 2, (0, 0, 0, 0), 0, []) :: (1, 8, (0, 0, 0, 0), 0, []) :: (2, 9, (0, 0, 0, 0), 9, []) :: (4, 49, (219, 3, 11, 157), 0, []) :: (7, 4, (2, 0, 0, 0), 0, []) :: (8, 8, (0, 0, 0, 0), 1, []) :: (9, 4, (3, 0, 0, 0), 0, []) :: jm_b220_10
def jm_l220 : jx_B := [(0, jm_b220_0), (10, jm_b220_10), (55, jm_b220_55)]
def jm_i220 : jx_M := (⟨"OfDifferentMindsModel", "number", "(I)I"⟩, prog_13_method_22_code, 4, (some .int), 0, 2, 11, jm_l220)
theorem jm_ok220 : jx_okM 220 jm_i220 := ⟨by decide +kernel, rfl, by decide +kernel, ⟨by decide +kernel, by decide +kernel⟩, by decide +kernel, jx_mem (i := 1505) (by decide +kernel) rfl, jx_mem (i := 116) (by decide +kernel) rfl, fun _ => ⟨jx_mem (i := 1504) (by decide +kernel) rfl, jx_mem (i := 53) (by decide +kernel) rfl, by decide⟩, fun h => absurd h (by decide), fun h => absurd h (by decide), by decide, by decide, by decide, by decide +kernel, by decide +kernel⟩
-- OfDifferentMindsModel.readPlace(I)V
def jm_b221_149 : List jx_E := (149, 71, (0, 0, 0, 0), 0, []) :: []
def jm_b221_128 : List jx_E := (128, 2, (0, 0, 0, 0), 0, []) :: (129, 9, (0, 0, 0, 0), 33, []) :: (131, 49, (217, 2, 11, 149), 0, []) :: (134, 55, (149, 0, 0, 0), 0, []) :: (137, 2, (0, 0, 0, 0), 0, []) :: (138, 28, (0, 0, 0, 0), 0, []) :: (139, 32, (11, 21, 0, 161), 0, []) :: (142, 8, (0, 0, 0, 0), 1, []) :: (143, 0, (1, 0, 0, 0), 0, []) :: (144, 23, (0, 0, 0, 0), 0, []) :: (145, 21, (0, 0, 0, 0), 0, []) :: (146, 34, (11, 21, 0, 161), 0, []) :: jm_b221_149
def jm_b221_111 : List jx_E := (111, 2, (0, 0, 0, 0), 0, []) :: (112, 33, (11, 18, 0, 32), 0, []) :: (115, 0, (1, 0, 0, 0), 0, []) :: (116, 38, (0, 0, 0, 0), 0, []) :: (117, 56, (128, 0, 0, 0), 0, []) :: (120, 2, (0, 0, 0, 0), 0, []) :: (121, 2, (0, 0, 0, 0), 0, []) :: (122, 32, (11, 16, 0, 135), 0, []) :: (125, 49, (216, 2, 11, 153), 0, []) :: jm_b221_128
def jm_b221_16 : List jx_E := (16, 2, (0, 0, 0, 0), 0, []) :: (17, 49, (215, 1, 11, 141), 0, []) :: (20, 55, (111, 0, 0, 0), 0, []) :: (23, 2, (0, 0, 0, 0), 0, []) :: (24, 33, (11, 18, 0, 32), 0, []) :: (27, 0, (1, 0, 0, 0), 0, []) :: (28, 38, (0, 0, 0, 0), 0, []) :: (29, 8, (0, 0, 0, 0), 3, []) :: (30, 64, (111, 0, 0, 0), 0, []) :: (33, 2, (0, 0, 0, 0), 0, []) :: (34, 49, (214, 1, 11, 145), 0, []) :: (37, 9, (0, 0, 0, 0), 97, []) :: (39, 9, (0, 0, 0, 0), 106, []) :: (41, 50, (202, 3, 0, 112), 0, []) :: (44, 55, (111, 0, 0, 0), 0, []) :: (47, 2, (0, 0, 0, 0), 0, []) :: (48, 33, (11, 19, 0, 35), 0, []) :: (51, 8, (0, 0, 0, 0), 3, []) :: (52, 0, (1, 0, 0, 0), 0, []) :: (53, 16, (0, 0, 0, 0), 0, []) :: (54, 2, (0, 0, 0, 0), 0, []) :: (55, 33, (11, 18, 0, 32), 0, []) :: (58, 0, (1, 0, 0, 0), 0, []) :: (59, 38, (0, 0, 0, 0), 0, []) :: (60, 14, (0, 0, 0, 0), 0, []) :: (61, 2, (0, 0, 0, 0), 0, []) :: (62, 49, (214, 1, 11, 145), 0, []) :: (65, 9, (0, 0, 0, 0), 97, []) :: (67, 15, (0, 0, 0, 0), 0, []) :: (68, 41, (0, 0, 0, 0), 0, []) :: (69, 2, (0, 0, 0, 0), 0, []) :: (70, 33, (11, 20, 0, 38), 0, []) :: (73, 8, (0, 0, 0, 0), 3, []) :: (74, 0, (1, 0, 0, 0), 0, []) :: (75, 16, (0, 0, 0, 0), 0, []) :: (76, 2, (0, 0, 0, 0), 0, []) :: (77, 33, (11, 18, 0, 32), 0, []) :: (80, 0, (1, 0, 0, 0), 0, []) :: (81, 38, (0, 0, 0, 0), 0, []) :: (82, 14, (0, 0, 0, 0), 0, []) :: (83, 2, (0, 0, 0, 0), 0, []) :: (84, 32, (11, 16, 0, 135), 0, []) :: (87, 41, (0, 0, 0, 0), 0, []) :: (88, 2, (0, 0, 0, 0), 0, []) :: (89, 33, (11, 18, 0, 32), 0, []) :: (92, 0, (1, 0, 0, 0), 0, []) :: (93, 29, (0, 0, 0, 0), 0, []) :: (94, 38, (0, 0, 0, 0), 0, []) :: (95, 8, (0, 0, 0, 0), 1, []) :: (96, 14, (0, 0, 0, 0), 0, []) :: (97, 41, (0, 0, 0, 0), 0, []) :: (98, 2, (0, 0, 0, 0), 0, []) :: (99, 28, (0, 0, 0, 0), 0, []) :: (100, 32, (11, 16, 0, 135), 0, []) :: (103, 8, (0, 0, 0, 0), 1, []) :: (104, 14, (0, 0, 0, 0), 0, []) :: (105, 34, (11, 16, 0, 135), 0, []) :: (108, 54, (16, 0, 0, 0), 0, []) :: []
def jm_b221_0 : List jx_E := (0, 2, (0, 0, 0, 0), 0, []) :: (1, 33, (11, 18, 0, 32), 0, []) :: (4, 0, (1, 0, 0, 0), 0, []) :: (5, 8, (0, 0, 0, 0), 0, []) :: (6, 41, (0, 0, 0, 0), 0, []) :: (7, 2, (0, 0, 0, 0), 0, []) :: (8, 9, (0, 0, 0, 0), 45, []) :: (10, 49, (217, 2, 11, 149), 0, []) :: (13, 56, (128, 0, 0, 0), 0, []) :: jm_b221_16
def jm_l221 : jx_B := [(0, jm_b221_0), (16, jm_b221_16), (111, jm_b221_111), (128, jm_b221_128), (149, jm_b221_149)]
def jm_i221 : jx_M := (⟨"OfDifferentMindsModel", "readPlace", "(I)V"⟩, prog_13_method_23_code, 2, none, 0, 2, 11, jm_l221)
theorem jm_ok221 : jx_okM 221 jm_i221 := ⟨by decide +kernel, rfl, by decide +kernel, ⟨by decide +kernel, by decide +kernel⟩, by decide +kernel, jx_mem (i := 1485) (by decide +kernel) rfl, jx_mem (i := 116) (by decide +kernel) rfl, fun _ => ⟨jx_mem (i := 1484) (by decide +kernel) rfl, jx_mem (i := 49) (by decide +kernel) rfl, by decide⟩, fun h => absurd h (by decide), fun h => absurd h (by decide), by decide, by decide, by decide, by decide +kernel, by decide +kernel⟩
-- OfDifferentMindsModel.roads()I
def jm_b222_311 : List jx_E := (311, 0, (1, 0, 0, 0), 0, []) :: (312, 69, (0, 0, 0, 0), 0, []) :: []
def jm_b222_293 : List jx_E := (293, 0, (3, 0, 0, 0), 0, []) :: (294, 8, (0, 0, 0, 0), 2, []) :: (295, 64, (311, 0, 0, 0), 0, []) :: (298, 2, (0, 0, 0, 0), 0, []) :: (299, 33, (11, 50, 0, 92), 0, []) :: (302, 0, (3, 0, 0, 0), 0, []) :: (303, 8, (0, 0, 0, 0), 0, []) :: (304, 42, (0, 0, 0, 0), 0, []) :: (305, 13, (3, 0, 0, 0), 1, []) :: (308, 54, (293, 0, 0, 0), 0, []) :: []
def jm_b222_264 : List jx_E := (264, 2, (0, 0, 0, 0), 0, []) :: (265, 2, (0, 0, 0, 0), 0, []) :: (266, 32, (11, 21, 0, 161), 0, []) :: (269, 34, (11, 4, 0, 171), 0, []) :: (272, 2, (0, 0, 0, 0), 0, []) :: (273, 8, (0, 0, 0, 0), 0, []) :: (274, 34, (11, 5, 0, 116), 0, []) :: (277, 2, (0, 0, 0, 0), 0, []) :: (278, 49, (200, 1, 11, 99), 0, []) :: (281, 2, (0, 0, 0, 0), 0, []) :: (282, 8, (0, 0, 0, 0), 0, []) :: (283, 34, (11, 43, 0, 174), 0, []) :: (286, 2, (0, 0, 0, 0), 0, []) :: (287, 8, (0, 0, 0, 0), 0, []) :: (288, 34, (11, 29, 0, 177), 0, []) :: (291, 8, (0, 0, 0, 0), 0, []) :: (292, 4, (3, 0, 0, 0), 0, []) :: jm_b222_293
def jm_b222_258 : List jx_E := (258, 13, (3, 0, 0, 0), 1, []) :: (261, 54, (189, 0, 0, 0), 0, []) :: []
def jm_b222_251 : List jx_E := (251, 41, (0, 0, 0, 0), 0, []) :: (252, 13, (4, 0, 0, 0), 1, []) :: (255, 54, (209, 0, 0, 0), 0, []) :: []
def jm_b222_250 : List jx_E := (250, 8, (0, 0, 0, 0), (-1), []) :: jm_b222_251
def jm_b222_209 : List jx_E := (209, 1, (4, 0, 0, 0), 0, []) :: (211, 8, (0, 0, 0, 0), 3, []) :: (212, 64, (258, 0, 0, 0), 0, []) :: (215, 2, (0, 0, 0, 0), 0, []) :: (216, 33, (11, 3, 0, 16), 0, []) :: (219, 8, (0, 0, 0, 0), 3, []) :: (220, 0, (3, 0, 0, 0), 0, []) :: (221, 16, (0, 0, 0, 0), 0, []) :: (222, 1, (4, 0, 0, 0), 0, []) :: (224, 14, (0, 0, 0, 0), 0, []) :: (225, 1, (4, 0, 0, 0), 0, []) :: (227, 2, (0, 0, 0, 0), 0, []) :: (228, 33, (11, 18, 0, 32), 0, []) :: (231, 0, (3, 0, 0, 0), 0, []) :: (232, 38, (0, 0, 0, 0), 0, []) :: (233, 64, (250, 0, 0, 0), 0, []) :: (236, 2, (0, 0, 0, 0), 0, []) :: (237, 33, (11, 19, 0, 35), 0, []) :: (240, 8, (0, 0, 0, 0), 3, []) :: (241, 0, (3, 0, 0, 0), 0, []) :: (242, 16, (0, 0, 0, 0), 0, []) :: (243, 1, (4, 0, 0, 0), 0, []) :: (245, 14, (0, 0, 0, 0), 0, []) :: (246, 38, (0, 0, 0, 0), 0, []) :: (247, 54, (251, 0, 0, 0), 0, []) :: []
def jm_b222_189 : List jx_E := (189, 0, (3, 0, 0, 0), 0, []) :: (190, 0, (1, 0, 0, 0), 0, []) :: (191, 64, (264, 0, 0, 0), 0, []) :: (194, 2, (0, 0, 0, 0), 0, []) :: (195, 33, (11, 2, 0, 13), 0, []) :: (198, 0, (3, 0, 0, 0), 0, []) :: (199, 2, (0, 0, 0, 0), 0, []) :: (200, 33, (11, 18, 0, 32), 0, []) :: (203, 0, (3, 0, 0, 0), 0, []) :: (204, 38, (0, 0, 0, 0), 0, []) :: (205, 41, (0, 0, 0, 0), 0, []) :: (206, 8, (0, 0, 0, 0), 0, []) :: (207, 5, (4, 0, 0, 0), 0, []) :: jm_b222_209
def jm_b222_182 : List jx_E := (182, 2, (0, 0, 0, 0), 0, []) :: (183, 0, (1, 0, 0, 0), 0, []) :: (184, 34, (11, 1, 0, 109), 0, []) :: (187, 8, (0, 0, 0, 0), 0, []) :: (188, 4, (3, 0, 0, 0), 0, []) :: jm_b222_189
def jm_b222_168 : List jx_E := (168, 2, (0, 0, 0, 0), 0, []) :: (169, 49, (215, 1, 11, 141), 0, []) :: (172, 56, (182, 0, 0, 0), 0, []) :: (175, 8, (0, 0, 0, 0), (-1), []) :: (176, 2, (0, 0, 0, 0), 0, []) :: (177, 32, (11, 17, 0, 138), 0, []) :: (180, 15, (0, 0, 0, 0), 0, []) :: (181, 69, (0, 0, 0, 0), 0, []) :: []
def jm_b222_162 : List jx_E := (162, 13, (3, 0, 0, 0), 1, []) :: (165, 54, (100, 0, 0, 0), 0, []) :: []
def jm_b222_156 : List jx_E := (156, 13, (4, 0, 0, 0), 1, []) :: (159, 54, (115, 0, 0, 0), 0, []) :: []
def jm_b222_115 : List jx_E := (115, 1, (4, 0, 0, 0), 0, []) :: (117, 2, (0, 0, 0, 0), 0, []) :: (118, 33, (11, 18, 0, 32), 0, []) :: (121, 0, (3, 0, 0, 0), 0, []) :: (122, 38, (0, 0, 0, 0), 0, []) :: (123, 64, (162, 0, 0, 0), 0, []) :: (126, 2, (0, 0, 0, 0), 0, []) :: (127, 33, (11, 19, 0, 35), 0, []) :: (130, 8, (0, 0, 0, 0), 3, []) :: (131, 0, (3, 0, 0, 0), 0, []) :: (132, 16, (0, 0, 0, 0), 0, []) :: (133, 1, (4, 0, 0, 0), 0, []) :: (135, 14, (0, 0, 0, 0), 0, []) :: (136, 38, (0, 0, 0, 0), 0, []) :: (137, 0, (1, 0, 0, 0), 0, []) :: (138, 63, (156, 0, 0, 0), 0, []) :: (141, 2, (0, 0, 0, 0), 0, []) :: (142, 2, (0, 0, 0, 0), 0, []) :: (143, 33, (11, 20, 0, 38), 0, []) :: (146, 8, (0, 0, 0, 0), 3, []) :: (147, 0, (3, 0, 0, 0), 0, []) :: (148, 16, (0, 0, 0, 0), 0, []) :: (149, 1, (4, 0, 0, 0), 0, []) :: (151, 14, (0, 0, 0, 0), 0, []) :: (152, 38, (0, 0, 0, 0), 0, []) :: (153, 49, (216, 2, 11, 153), 0, []) :: jm_b222_156
def jm_b222_100 : List jx_E := (100, 0, (3, 0, 0, 0), 0, []) :: (101, 0, (1, 0, 0, 0), 0, []) :: (102, 64, (168, 0, 0, 0), 0, []) :: (105, 2, (0, 0, 0, 0), 0, []) :: (106, 49, (215, 1, 11, 141), 0, []) :: (109, 55, (168, 0, 0, 0), 0, []) :: (112, 8, (0, 0, 0, 0), 0, []) :: (113, 5, (4, 0, 0, 0), 0, []) :: jm_b222_115
def jm_b222_98 : List jx_E := (98, 8, (0, 0, 0, 0), 0, []) :: (99, 4, (3, 0, 0, 0), 0, []) :: jm_b222_100
def jm_b222_79 : List jx_E := (79, 2, (0, 0, 0, 0), 0, []) :: (80, 32, (11, 16, 0, 135), 0, []) :: (83, 2, (0, 0, 0, 0), 0, []) :: (84, 32, (11, 14, 0, 129), 0, []) :: (87, 64, (98, 0, 0, 0), 0, []) :: (90, 2, (0, 0, 0, 0), 0, []) :: (91, 2, (0, 0, 0, 0), 0, []) :: (92, 32, (11, 16, 0, 135), 0, []) :: (95, 49, (216, 2, 11, 153), 0, []) :: jm_b222_98
def jm_b222_66 : List jx_E := (66, 13, (1, 0, 0, 0), 1, []) :: (69, 2, (0, 0, 0, 0), 0, []) :: (70, 9, (0, 0, 0, 0), 59, []) :: (72, 49, (217, 2, 11, 149), 0, []) :: (75, 4, (2, 0, 0, 0), 0, []) :: (76, 54, (33, 0, 0, 0), 0, []) :: []
def jm_b222_61 : List jx_E := (61, 2, (0, 0, 0, 0), 0, []) :: (62, 0, (1, 0, 0, 0), 0, []) :: (63, 49, (221, 2, 11, 168), 0, []) :: jm_b222_66
def jm_b222_33 : List jx_E := (33, 0, (2, 0, 0, 0), 0, []) :: (34, 55, (79, 0, 0, 0), 0, []) :: (37, 2, (0, 0, 0, 0), 0, []) :: (38, 49, (215, 1, 11, 141), 0, []) :: (41, 55, (79, 0, 0, 0), 0, []) :: (44, 0, (1, 0, 0, 0), 0, []) :: (45, 9, (0, 0, 0, 0), 10, []) :: (47, 62, (61, 0, 0, 0), 0, []) :: (50, 2, (0, 0, 0, 0), 0, []) :: (51, 2, (0, 0, 0, 0), 0, []) :: (52, 32, (11, 16, 0, 135), 0, []) :: (55, 49, (216, 2, 11, 153), 0, []) :: (58, 54, (66, 0, 0, 0), 0, []) :: []
def jm_b222_0 : List jx_E := (0, 2, (0, 0, 0, 0), 0, []) :: (1, 8, (0, 0, 0, 0), 0, []) :: (2, 34, (11, 12, 0, 102), 0, []) :: (5, 2, (0, 0, 0, 0), 0, []) :: (6, 2, (0, 0, 0, 0), 0, []) :: (7, 33, (11, 8, 0, 25), 0, []) :: (10, 2, (0, 0, 0, 0), 0, []) :: (11, 32, (11, 9, 0, 123), 0, []) :: (14, 9, (0, 0, 0, 0), 76, []) :: (16, 49, (213, 4, 11, 164), 0, []) :: (19, 2, (0, 0, 0, 0), 0, []) :: (20, 8, (0, 0, 0, 0), 0, []) :: (21, 34, (11, 9, 0, 123), 0, []) :: (24, 8, (0, 0, 0, 0), 0, []) :: (25, 4, (1, 0, 0, 0), 0, []) :: (26, 2, (0, 0, 0, 0), 0, []) :: (27, 8, (0, 0, 0, 0), 0, []) :: (28, 34, (11, 21, 0, 161), 0, []) :: (31, 8, (0, 0, 0, 0), 1, []) :: (32, 4, (2, 0, 0, 0), 0, []) :: jm_b222_33
def jm_l222 : jx_B := [(0, jm_b222_0), (33, jm_b222_33), (61, jm_b222_61), (66, jm_b222_66), (79, jm_b222_79), (98, jm_b222_98), (100, jm_b222_100), (115, jm_b222_115), (156, jm_b222_156), (162, jm_b222_162), (168, jm_b222_168), (182, jm_b222_182), (189, jm_b222_189), (209, jm_b222_209), (250, jm_b222_250), (251, jm_b222_251), (258, jm_b222_258), (264, jm_b222_264), (293, jm_b222_293), (311, jm_b222_311)]
def jm_i222 : jx_M := (⟨"OfDifferentMindsModel", "roads", "()I"⟩, prog_13_method_24_code, 5, (some .int), 0, 1, 11, jm_l222)
theorem jm_ok222 : jx_okM 222 jm_i222 := ⟨by decide +kernel, rfl, by decide +kernel, ⟨by decide +kernel, by decide +kernel⟩, by decide +kernel, jx_mem (i := 1469) (by decide +kernel) rfl, jx_mem (i := 116) (by decide +kernel) rfl, fun _ => ⟨jx_mem (i := 1467) (by decide +kernel) rfl, jx_mem (i := 1468) (by decide +kernel) rfl, by decide⟩, fun h => absurd h (by decide), fun h => absurd h (by decide), by decide, by decide, by decide, by decide +kernel, by decide +kernel⟩
-- OfDifferentMindsModel.readRider(I)V
def jm_b223_75 : List jx_E := (75, 71, (0, 0, 0, 0), 0, []) :: []
def jm_b223_45 : List jx_E := (45, 0, (2, 0, 0, 0), 0, []) :: (46, 2, (0, 0, 0, 0), 0, []) :: (47, 32, (11, 1, 0, 109), 0, []) :: (50, 64, (75, 0, 0, 0), 0, []) :: (53, 2, (0, 0, 0, 0), 0, []) :: (54, 33, (11, 22, 0, 41), 0, []) :: (57, 0, (1, 0, 0, 0), 0, []) :: (58, 8, (0, 0, 0, 0), 1, []) :: (59, 14, (0, 0, 0, 0), 0, []) :: (60, 0, (2, 0, 0, 0), 0, []) :: (61, 14, (0, 0, 0, 0), 0, []) :: (62, 2, (0, 0, 0, 0), 0, []) :: (63, 8, (0, 0, 0, 0), 0, []) :: (64, 8, (0, 0, 0, 0), 2, []) :: (65, 49, (219, 3, 11, 157), 0, []) :: (68, 41, (0, 0, 0, 0), 0, []) :: (69, 13, (2, 0, 0, 0), 1, []) :: (72, 54, (45, 0, 0, 0), 0, []) :: []
def jm_b223_37 : List jx_E := (37, 2, (0, 0, 0, 0), 0, []) :: (38, 9, (0, 0, 0, 0), 58, []) :: (40, 49, (218, 2, 11, 184), 0, []) :: (43, 8, (0, 0, 0, 0), 0, []) :: (44, 4, (2, 0, 0, 0), 0, []) :: jm_b223_45
def jm_b223_0 : List jx_E := (0, 2, (0, 0, 0, 0), 0, []) :: (1, 33, (11, 22, 0, 41), 0, []) :: (4, 0, (1, 0, 0, 0), 0, []) :: (5, 2, (0, 0, 0, 0), 0, []) :: (6, 8, (0, 0, 0, 0), 2, []) :: (7, 49, (220, 2, 11, 180), 0, []) :: (10, 41, (0, 0, 0, 0), 0, []) :: (11, 2, (0, 0, 0, 0), 0, []) :: (12, 49, (215, 1, 11, 141), 0, []) :: (15, 55, (37, 0, 0, 0), 0, []) :: (18, 2, (0, 0, 0, 0), 0, []) :: (19, 33, (11, 22, 0, 41), 0, []) :: (22, 0, (1, 0, 0, 0), 0, []) :: (23, 38, (0, 0, 0, 0), 0, []) :: (24, 56, (37, 0, 0, 0), 0, []) :: (27, 2, (0, 0, 0, 0), 0, []) :: (28, 2, (0, 0, 0, 0), 0, []) :: (29, 32, (11, 16, 0, 135), 0, []) :: (32, 8, (0, 0, 0, 0), 1, []) :: (33, 15, (0, 0, 0, 0), 0, []) :: (34, 49, (216, 2, 11, 153), 0, []) :: jm_b223_37
def jm_l223 : jx_B := [(0, jm_b223_0), (37, jm_b223_37), (45, jm_b223_45), (75, jm_b223_75)]
def jm_i223 : jx_M := (⟨"OfDifferentMindsModel", "readRider", "(I)V"⟩, prog_13_method_25_code, 3, none, 0, 2, 11, jm_l223)
theorem jm_ok223 : jx_okM 223 jm_i223 := ⟨by decide +kernel, rfl, by decide +kernel, ⟨by decide +kernel, by decide +kernel⟩, by decide +kernel, jx_mem (i := 1501) (by decide +kernel) rfl, jx_mem (i := 116) (by decide +kernel) rfl, fun _ => ⟨jx_mem (i := 1500) (by decide +kernel) rfl, jx_mem (i := 52) (by decide +kernel) rfl, by decide⟩, fun h => absurd h (by decide), fun h => absurd h (by decide), by decide, by decide, by decide, by decide +kernel, by decide +kernel⟩
-- OfDifferentMindsModel.riders()I
def jm_b224_268 : List jx_E := (268, 2, (0, 0, 0, 0), 0, []) :: (269, 8, (0, 0, 0, 0), 0, []) :: (270, 34, (11, 29, 0, 177), 0, []) :: (273, 2, (0, 0, 0, 0), 0, []) :: (274, 28, (0, 0, 0, 0), 0, []) :: (275, 32, (11, 48, 0, 191), 0, []) :: (278, 8, (0, 0, 0, 0), 1, []) :: (279, 14, (0, 0, 0, 0), 0, []) :: (280, 34, (11, 48, 0, 191), 0, []) :: (283, 0, (1, 0, 0, 0), 0, []) :: (284, 69, (0, 0, 0, 0), 0, []) :: []
def jm_b224_198 : List jx_E := (198, 2, (0, 0, 0, 0), 0, []) :: (199, 33, (11, 0, 0, 9), 0, []) :: (202, 8, (0, 0, 0, 0), 4, []) :: (203, 2, (0, 0, 0, 0), 0, []) :: (204, 32, (11, 5, 0, 116), 0, []) :: (207, 14, (0, 0, 0, 0), 0, []) :: (208, 8, (0, 0, 0, 0), 0, []) :: (209, 41, (0, 0, 0, 0), 0, []) :: (210, 2, (0, 0, 0, 0), 0, []) :: (211, 33, (11, 0, 0, 9), 0, []) :: (214, 9, (0, 0, 0, 0), 10, []) :: (216, 2, (0, 0, 0, 0), 0, []) :: (217, 32, (11, 5, 0, 116), 0, []) :: (220, 14, (0, 0, 0, 0), 0, []) :: (221, 8, (0, 0, 0, 0), 0, []) :: (222, 41, (0, 0, 0, 0), 0, []) :: (223, 2, (0, 0, 0, 0), 0, []) :: (224, 33, (11, 0, 0, 9), 0, []) :: (227, 9, (0, 0, 0, 0), 16, []) :: (229, 2, (0, 0, 0, 0), 0, []) :: (230, 32, (11, 5, 0, 116), 0, []) :: (233, 14, (0, 0, 0, 0), 0, []) :: (234, 8, (0, 0, 0, 0), (-1), []) :: (235, 41, (0, 0, 0, 0), 0, []) :: (236, 2, (0, 0, 0, 0), 0, []) :: (237, 33, (11, 0, 0, 9), 0, []) :: (240, 9, (0, 0, 0, 0), 22, []) :: (242, 2, (0, 0, 0, 0), 0, []) :: (243, 32, (11, 5, 0, 116), 0, []) :: (246, 14, (0, 0, 0, 0), 0, []) :: (247, 2, (0, 0, 0, 0), 0, []) :: (248, 32, (11, 5, 0, 116), 0, []) :: (251, 41, (0, 0, 0, 0), 0, []) :: (252, 2, (0, 0, 0, 0), 0, []) :: (253, 28, (0, 0, 0, 0), 0, []) :: (254, 32, (11, 5, 0, 116), 0, []) :: (257, 8, (0, 0, 0, 0), 1, []) :: (258, 14, (0, 0, 0, 0), 0, []) :: (259, 34, (11, 5, 0, 116), 0, []) :: (262, 13, (3, 0, 0, 0), 1, []) :: (265, 54, (126, 0, 0, 0), 0, []) :: []
def jm_b224_156 : List jx_E := (156, 1, (5, 0, 0, 0), 0, []) :: (158, 2, (0, 0, 0, 0), 0, []) :: (159, 32, (11, 1, 0, 109), 0, []) :: (162, 64, (198, 0, 0, 0), 0, []) :: (165, 2, (0, 0, 0, 0), 0, []) :: (166, 33, (11, 7, 0, 22), 0, []) :: (169, 9, (0, 0, 0, 0), 10, []) :: (171, 2, (0, 0, 0, 0), 0, []) :: (172, 32, (11, 5, 0, 116), 0, []) :: (175, 16, (0, 0, 0, 0), 0, []) :: (176, 1, (5, 0, 0, 0), 0, []) :: (178, 14, (0, 0, 0, 0), 0, []) :: (179, 2, (0, 0, 0, 0), 0, []) :: (180, 33, (11, 22, 0, 41), 0, []) :: (183, 1, (4, 0, 0, 0), 0, []) :: (185, 8, (0, 0, 0, 0), 1, []) :: (186, 14, (0, 0, 0, 0), 0, []) :: (187, 1, (5, 0, 0, 0), 0, []) :: (189, 14, (0, 0, 0, 0), 0, []) :: (190, 38, (0, 0, 0, 0), 0, []) :: (191, 41, (0, 0, 0, 0), 0, []) :: (192, 13, (5, 0, 0, 0), 1, []) :: (195, 54, (156, 0, 0, 0), 0, []) :: []
def jm_b224_126 : List jx_E := (126, 0, (3, 0, 0, 0), 0, []) :: (127, 0, (1, 0, 0, 0), 0, []) :: (128, 64, (268, 0, 0, 0), 0, []) :: (131, 9, (0, 0, 0, 0), 11, []) :: (133, 0, (3, 0, 0, 0), 0, []) :: (134, 16, (0, 0, 0, 0), 0, []) :: (135, 5, (4, 0, 0, 0), 0, []) :: (137, 2, (0, 0, 0, 0), 0, []) :: (138, 33, (11, 6, 0, 19), 0, []) :: (141, 2, (0, 0, 0, 0), 0, []) :: (142, 32, (11, 5, 0, 116), 0, []) :: (145, 2, (0, 0, 0, 0), 0, []) :: (146, 33, (11, 22, 0, 41), 0, []) :: (149, 1, (4, 0, 0, 0), 0, []) :: (151, 38, (0, 0, 0, 0), 0, []) :: (152, 41, (0, 0, 0, 0), 0, []) :: (153, 8, (0, 0, 0, 0), 0, []) :: (154, 5, (5, 0, 0, 0), 0, []) :: jm_b224_156
def jm_b224_124 : List jx_E := (124, 8, (0, 0, 0, 0), 0, []) :: (125, 4, (3, 0, 0, 0), 0, []) :: jm_b224_126
def jm_b224_110 : List jx_E := (110, 2, (0, 0, 0, 0), 0, []) :: (111, 49, (215, 1, 11, 141), 0, []) :: (114, 56, (124, 0, 0, 0), 0, []) :: (117, 8, (0, 0, 0, 0), (-1), []) :: (118, 2, (0, 0, 0, 0), 0, []) :: (119, 32, (11, 17, 0, 138), 0, []) :: (122, 15, (0, 0, 0, 0), 0, []) :: (123, 69, (0, 0, 0, 0), 0, []) :: []
def jm_b224_91 : List jx_E := (91, 2, (0, 0, 0, 0), 0, []) :: (92, 32, (11, 16, 0, 135), 0, []) :: (95, 2, (0, 0, 0, 0), 0, []) :: (96, 32, (11, 14, 0, 129), 0, []) :: (99, 64, (110, 0, 0, 0), 0, []) :: (102, 2, (0, 0, 0, 0), 0, []) :: (103, 2, (0, 0, 0, 0), 0, []) :: (104, 32, (11, 16, 0, 135), 0, []) :: (107, 49, (216, 2, 11, 153), 0, []) :: jm_b224_110
def jm_b224_78 : List jx_E := (78, 13, (1, 0, 0, 0), 1, []) :: (81, 2, (0, 0, 0, 0), 0, []) :: (82, 9, (0, 0, 0, 0), 59, []) :: (84, 49, (217, 2, 11, 149), 0, []) :: (87, 4, (2, 0, 0, 0), 0, []) :: (88, 54, (37, 0, 0, 0), 0, []) :: []
def jm_b224_70 : List jx_E := (70, 2, (0, 0, 0, 0), 0, []) :: (71, 9, (0, 0, 0, 0), 11, []) :: (73, 0, (1, 0, 0, 0), 0, []) :: (74, 16, (0, 0, 0, 0), 0, []) :: (75, 49, (223, 2, 11, 188), 0, []) :: jm_b224_78
def jm_b224_37 : List jx_E := (37, 0, (2, 0, 0, 0), 0, []) :: (38, 55, (91, 0, 0, 0), 0, []) :: (41, 2, (0, 0, 0, 0), 0, []) :: (42, 49, (215, 1, 11, 141), 0, []) :: (45, 55, (91, 0, 0, 0), 0, []) :: (48, 2, (0, 0, 0, 0), 0, []) :: (49, 32, (11, 5, 0, 116), 0, []) :: (52, 0, (1, 0, 0, 0), 0, []) :: (53, 14, (0, 0, 0, 0), 0, []) :: (54, 9, (0, 0, 0, 0), 6, []) :: (56, 62, (70, 0, 0, 0), 0, []) :: (59, 2, (0, 0, 0, 0), 0, []) :: (60, 2, (0, 0, 0, 0), 0, []) :: (61, 32, (11, 16, 0, 135), 0, []) :: (64, 49, (216, 2, 11, 153), 0, []) :: (67, 54, (78, 0, 0, 0), 0, []) :: []
def jm_b224_33 : List jx_E := (33, 8, (0, 0, 0, 0), 0, []) :: (34, 4, (1, 0, 0, 0), 0, []) :: (35, 8, (0, 0, 0, 0), 1, []) :: (36, 4, (2, 0, 0, 0), 0, []) :: jm_b224_37
def jm_b224_0 : List jx_E := (0, 2, (0, 0, 0, 0), 0, []) :: (1, 8, (0, 0, 0, 0), 0, []) :: (2, 34, (11, 12, 0, 102), 0, []) :: (5, 2, (0, 0, 0, 0), 0, []) :: (6, 2, (0, 0, 0, 0), 0, []) :: (7, 33, (11, 8, 0, 25), 0, []) :: (10, 2, (0, 0, 0, 0), 0, []) :: (11, 32, (11, 9, 0, 123), 0, []) :: (14, 9, (0, 0, 0, 0), 76, []) :: (16, 49, (213, 4, 11, 164), 0, []) :: (19, 2, (0, 0, 0, 0), 0, []) :: (20, 8, (0, 0, 0, 0), 0, []) :: (21, 34, (11, 9, 0, 123), 0, []) :: (24, 2, (0, 0, 0, 0), 0, []) :: (25, 32, (11, 14, 0, 129), 0, []) :: (28, 56, (33, 0, 0, 0), 0, []) :: (31, 8, (0, 0, 0, 0), 0, []) :: (32, 69, (0, 0, 0, 0), 0, []) :: []
def jm_l224 : jx_B := [(0, jm_b224_0), (33, jm_b224_33), (37, jm_b224_37), (70, jm_b224_70), (78, jm_b224_78), (91, jm_b224_91), (110, jm_b224_110), (124, jm_b224_124), (126, jm_b224_126), (156, jm_b224_156), (198, jm_b224_198), (268, jm_b224_268)]
def jm_i224 : jx_M := (⟨"OfDifferentMindsModel", "riders", "()I"⟩, prog_13_method_26_code, 6, (some .int), 0, 1, 11, jm_l224)
theorem jm_ok224 : jx_okM 224 jm_i224 := ⟨by decide +kernel, rfl, by decide +kernel, ⟨by decide +kernel, by decide +kernel⟩, by decide +kernel, jx_mem (i := 1497) (by decide +kernel) rfl, jx_mem (i := 116) (by decide +kernel) rfl, fun _ => ⟨jx_mem (i := 1495) (by decide +kernel) rfl, jx_mem (i := 1496) (by decide +kernel) rfl, by decide⟩, fun h => absurd h (by decide), fun h => absurd h (by decide), by decide, by decide, by decide, by decide +kernel, by decide +kernel⟩
-- OfDifferentMindsModel.held(I)I
def jm_b225_78 : List jx_E := (78, 0, (2, 0, 0, 0), 0, []) :: (79, 69, (0, 0, 0, 0), 0, []) :: []
def jm_b225_77 : List jx_E := (77, 69, (0, 0, 0, 0), 0, []) :: []
def jm_b225_76 : List jx_E := (76, 8, (0, 0, 0, 0), 0, []) :: jm_b225_77
def jm_b225_54 : List jx_E := (54, 2, (0, 0, 0, 0), 0, []) :: (55, 9, (0, 0, 0, 0), 61, []) :: (57, 49, (217, 2, 11, 149), 0, []) :: (60, 55, (78, 0, 0, 0), 0, []) :: (63, 0, (2, 0, 0, 0), 0, []) :: (64, 2, (0, 0, 0, 0), 0, []) :: (65, 0, (1, 0, 0, 0), 0, []) :: (66, 49, (226, 2, 11, 194), 0, []) :: (69, 62, (76, 0, 0, 0), 0, []) :: (72, 8, (0, 0, 0, 0), 1, []) :: (73, 54, (77, 0, 0, 0), 0, []) :: []
def jm_b225_53 : List jx_E := (53, 69, (0, 0, 0, 0), 0, []) :: []
def jm_b225_52 : List jx_E := (52, 8, (0, 0, 0, 0), 0, []) :: jm_b225_53
def jm_b225_30 : List jx_E := (30, 2, (0, 0, 0, 0), 0, []) :: (31, 9, (0, 0, 0, 0), 62, []) :: (33, 49, (217, 2, 11, 149), 0, []) :: (36, 55, (54, 0, 0, 0), 0, []) :: (39, 0, (2, 0, 0, 0), 0, []) :: (40, 2, (0, 0, 0, 0), 0, []) :: (41, 0, (1, 0, 0, 0), 0, []) :: (42, 49, (226, 2, 11, 194), 0, []) :: (45, 66, (52, 0, 0, 0), 0, []) :: (48, 8, (0, 0, 0, 0), 1, []) :: (49, 54, (53, 0, 0, 0), 0, []) :: []
def jm_b225_29 : List jx_E := (29, 69, (0, 0, 0, 0), 0, []) :: []
def jm_b225_28 : List jx_E := (28, 8, (0, 0, 0, 0), 0, []) :: jm_b225_29
def jm_b225_0 : List jx_E := (0, 2, (0, 0, 0, 0), 0, []) :: (1, 0, (1, 0, 0, 0), 0, []) :: (2, 49, (226, 2, 11, 194), 0, []) :: (5, 4, (2, 0, 0, 0), 0, []) :: (6, 2, (0, 0, 0, 0), 0, []) :: (7, 9, (0, 0, 0, 0), 60, []) :: (9, 49, (217, 2, 11, 149), 0, []) :: (12, 55, (30, 0, 0, 0), 0, []) :: (15, 0, (2, 0, 0, 0), 0, []) :: (16, 2, (0, 0, 0, 0), 0, []) :: (17, 0, (1, 0, 0, 0), 0, []) :: (18, 49, (226, 2, 11, 194), 0, []) :: (21, 64, (28, 0, 0, 0), 0, []) :: (24, 8, (0, 0, 0, 0), 1, []) :: (25, 54, (29, 0, 0, 0), 0, []) :: []
def jm_l225 : jx_B := [(0, jm_b225_0), (28, jm_b225_28), (29, jm_b225_29), (30, jm_b225_30), (52, jm_b225_52), (53, jm_b225_53), (54, jm_b225_54), (76, jm_b225_76), (77, jm_b225_77), (78, jm_b225_78)]
def jm_i225 : jx_M := (⟨"OfDifferentMindsModel", "held", "(I)I"⟩, prog_13_method_27_code, 3, (some .int), 0, 2, 11, jm_l225)
theorem jm_ok225 : jx_okM 225 jm_i225 := ⟨by decide +kernel, rfl, by decide +kernel, ⟨by decide +kernel, by decide +kernel⟩, by decide +kernel, jx_mem (i := 1521) (by decide +kernel) rfl, jx_mem (i := 116) (by decide +kernel) rfl, fun _ => ⟨jx_mem (i := 1520) (by decide +kernel) rfl, jx_mem (i := 56) (by decide +kernel) rfl, by decide⟩, fun h => absurd h (by decide), fun h => absurd h (by decide), by decide, by decide, by decide, by decide +kernel, by decide +kernel⟩
-- OfDifferentMindsModel.sum(I)I
def jm_b226_82 : List jx_E := (82, 0, (2, 0, 0, 0), 0, []) :: (83, 69, (0, 0, 0, 0), 0, []) :: []
def jm_b226_78 : List jx_E := (78, 4, (2, 0, 0, 0), 0, []) :: (79, 54, (6, 0, 0, 0), 0, []) :: []
def jm_b226_74 : List jx_E := (74, 0, (2, 0, 0, 0), 0, []) :: (75, 1, (4, 0, 0, 0), 0, []) :: (77, 15, (0, 0, 0, 0), 0, []) :: jm_b226_78
def jm_b226_45 : List jx_E := (45, 4, (3, 0, 0, 0), 0, []) :: (46, 2, (0, 0, 0, 0), 0, []) :: (47, 28, (0, 0, 0, 0), 0, []) :: (48, 32, (11, 16, 0, 135), 0, []) :: (51, 8, (0, 0, 0, 0), 1, []) :: (52, 14, (0, 0, 0, 0), 0, []) :: (53, 34, (11, 16, 0, 135), 0, []) :: (56, 2, (0, 0, 0, 0), 0, []) :: (57, 0, (1, 0, 0, 0), 0, []) :: (58, 49, (227, 2, 11, 197), 0, []) :: (61, 5, (4, 0, 0, 0), 0, []) :: (63, 0, (3, 0, 0, 0), 0, []) :: (64, 55, (74, 0, 0, 0), 0, []) :: (67, 0, (2, 0, 0, 0), 0, []) :: (68, 1, (4, 0, 0, 0), 0, []) :: (70, 14, (0, 0, 0, 0), 0, []) :: (71, 54, (78, 0, 0, 0), 0, []) :: []
def jm_b226_44 : List jx_E := (44, 8, (0, 0, 0, 0), 0, []) :: jm_b226_45
def jm_b226_31 : List jx_E := (31, 2, (0, 0, 0, 0), 0, []) :: (32, 49, (214, 1, 11, 145), 0, []) :: (35, 9, (0, 0, 0, 0), 43, []) :: (37, 62, (44, 0, 0, 0), 0, []) :: (40, 8, (0, 0, 0, 0), 1, []) :: (41, 54, (45, 0, 0, 0), 0, []) :: []
def jm_b226_6 : List jx_E := (6, 2, (0, 0, 0, 0), 0, []) :: (7, 49, (215, 1, 11, 141), 0, []) :: (10, 55, (82, 0, 0, 0), 0, []) :: (13, 2, (0, 0, 0, 0), 0, []) :: (14, 49, (214, 1, 11, 145), 0, []) :: (17, 9, (0, 0, 0, 0), 43, []) :: (19, 61, (31, 0, 0, 0), 0, []) :: (22, 2, (0, 0, 0, 0), 0, []) :: (23, 49, (214, 1, 11, 145), 0, []) :: (26, 9, (0, 0, 0, 0), 45, []) :: (28, 62, (82, 0, 0, 0), 0, []) :: jm_b226_31
def jm_b226_0 : List jx_E := (0, 2, (0, 0, 0, 0), 0, []) :: (1, 0, (1, 0, 0, 0), 0, []) :: (2, 49, (227, 2, 11, 197), 0, []) :: (5, 4, (2, 0, 0, 0), 0, []) :: jm_b226_6
def jm_l226 : jx_B := [(0, jm_b226_0), (6, jm_b226_6), (31, jm_b226_31), (44, jm_b226_44), (45, jm_b226_45), (74, jm_b226_74), (78, jm_b226_78), (82, jm_b226_82)]
def jm_i226 : jx_M := (⟨"OfDifferentMindsModel", "sum", "(I)I"⟩, prog_13_method_28_code, 5, (some .int), 0, 2, 11, jm_l226)
theorem jm_ok226 : jx_okM 226 jm_i226 := ⟨by decide +kernel, rfl, by decide +kernel, ⟨by decide +kernel, by decide +kernel⟩, by decide +kernel, jx_mem (i := 1525) (by decide +kernel) rfl, jx_mem (i := 116) (by decide +kernel) rfl, fun _ => ⟨jx_mem (i := 1524) (by decide +kernel) rfl, jx_mem (i := 57) (by decide +kernel) rfl, by decide⟩, fun h => absurd h (by decide), fun h => absurd h (by decide), by decide, by decide, by decide, by decide +kernel, by decide +kernel⟩
-- OfDifferentMindsModel.product(I)I
def jm_b227_91 : List jx_E := (91, 0, (2, 0, 0, 0), 0, []) :: (92, 69, (0, 0, 0, 0), 0, []) :: []
def jm_b227_87 : List jx_E := (87, 4, (2, 0, 0, 0), 0, []) :: (88, 54, (6, 0, 0, 0), 0, []) :: []
def jm_b227_83 : List jx_E := (83, 0, (2, 0, 0, 0), 0, []) :: (84, 1, (4, 0, 0, 0), 0, []) :: (86, 17, (0, 0, 0, 0), 0, []) :: jm_b227_87
def jm_b227_74 : List jx_E := (74, 1, (4, 0, 0, 0), 0, []) :: (76, 56, (83, 0, 0, 0), 0, []) :: (79, 8, (0, 0, 0, 0), 0, []) :: (80, 54, (87, 0, 0, 0), 0, []) :: []
def jm_b227_45 : List jx_E := (45, 4, (3, 0, 0, 0), 0, []) :: (46, 2, (0, 0, 0, 0), 0, []) :: (47, 28, (0, 0, 0, 0), 0, []) :: (48, 32, (11, 16, 0, 135), 0, []) :: (51, 8, (0, 0, 0, 0), 1, []) :: (52, 14, (0, 0, 0, 0), 0, []) :: (53, 34, (11, 16, 0, 135), 0, []) :: (56, 2, (0, 0, 0, 0), 0, []) :: (57, 0, (1, 0, 0, 0), 0, []) :: (58, 49, (229, 2, 11, 200), 0, []) :: (61, 5, (4, 0, 0, 0), 0, []) :: (63, 0, (3, 0, 0, 0), 0, []) :: (64, 55, (74, 0, 0, 0), 0, []) :: (67, 0, (2, 0, 0, 0), 0, []) :: (68, 1, (4, 0, 0, 0), 0, []) :: (70, 16, (0, 0, 0, 0), 0, []) :: (71, 54, (87, 0, 0, 0), 0, []) :: []
def jm_b227_44 : List jx_E := (44, 8, (0, 0, 0, 0), 0, []) :: jm_b227_45
def jm_b227_31 : List jx_E := (31, 2, (0, 0, 0, 0), 0, []) :: (32, 49, (214, 1, 11, 145), 0, []) :: (35, 9, (0, 0, 0, 0), 42, []) :: (37, 62, (44, 0, 0, 0), 0, []) :: (40, 8, (0, 0, 0, 0), 1, []) :: (41, 54, (45, 0, 0, 0), 0, []) :: []
def jm_b227_6 : List jx_E := (6, 2, (0, 0, 0, 0), 0, []) :: (7, 49, (215, 1, 11, 141), 0, []) :: (10, 55, (91, 0, 0, 0), 0, []) :: (13, 2, (0, 0, 0, 0), 0, []) :: (14, 49, (214, 1, 11, 145), 0, []) :: (17, 9, (0, 0, 0, 0), 42, []) :: (19, 61, (31, 0, 0, 0), 0, []) :: (22, 2, (0, 0, 0, 0), 0, []) :: (23, 49, (214, 1, 11, 145), 0, []) :: (26, 9, (0, 0, 0, 0), 47, []) :: (28, 62, (91, 0, 0, 0), 0, []) :: jm_b227_31
def jm_b227_0 : List jx_E := (0, 2, (0, 0, 0, 0), 0, []) :: (1, 0, (1, 0, 0, 0), 0, []) :: (2, 49, (229, 2, 11, 200), 0, []) :: (5, 4, (2, 0, 0, 0), 0, []) :: jm_b227_6
def jm_l227 : jx_B := [(0, jm_b227_0), (6, jm_b227_6), (31, jm_b227_31), (44, jm_b227_44), (45, jm_b227_45), (74, jm_b227_74), (83, jm_b227_83), (87, jm_b227_87), (91, jm_b227_91)]
def jm_i227 : jx_M := (⟨"OfDifferentMindsModel", "product", "(I)I"⟩, prog_13_method_29_code, 5, (some .int), 0, 2, 11, jm_l227)
theorem jm_ok227 : jx_okM 227 jm_i227 := ⟨by decide +kernel, rfl, by decide +kernel, ⟨by decide +kernel, by decide +kernel⟩, by decide +kernel, jx_mem (i := 1529) (by decide +kernel) rfl, jx_mem (i := 116) (by decide +kernel) rfl, fun _ => ⟨jx_mem (i := 1528) (by decide +kernel) rfl, jx_mem (i := 58) (by decide +kernel) rfl, by decide⟩, fun h => absurd h (by decide), fun h => absurd h (by decide), by decide, by decide, by decide, by decide +kernel, by decide +kernel⟩
-- OfDifferentMindsModel.letterOf(I)I
def jm_b228_72 : List jx_E := (72, 69, (0, 0, 0, 0), 0, []) :: []
def jm_b228_71 : List jx_E := (71, 8, (0, 0, 0, 0), (-1), []) :: jm_b228_72
def jm_b228_60 : List jx_E := (60, 0, (0, 0, 0, 0), 0, []) :: (61, 9, (0, 0, 0, 0), 110, []) :: (63, 62, (71, 0, 0, 0), 0, []) :: (66, 9, (0, 0, 0, 0), 6, []) :: (68, 54, (72, 0, 0, 0), 0, []) :: []
def jm_b228_50 : List jx_E := (50, 0, (0, 0, 0, 0), 0, []) :: (51, 9, (0, 0, 0, 0), 109, []) :: (53, 62, (60, 0, 0, 0), 0, []) :: (56, 8, (0, 0, 0, 0), 5, []) :: (57, 54, (72, 0, 0, 0), 0, []) :: []
def jm_b228_40 : List jx_E := (40, 0, (0, 0, 0, 0), 0, []) :: (41, 9, (0, 0, 0, 0), 115, []) :: (43, 62, (50, 0, 0, 0), 0, []) :: (46, 8, (0, 0, 0, 0), 4, []) :: (47, 54, (72, 0, 0, 0), 0, []) :: []
def jm_b228_30 : List jx_E := (30, 0, (0, 0, 0, 0), 0, []) :: (31, 9, (0, 0, 0, 0), 112, []) :: (33, 62, (40, 0, 0, 0), 0, []) :: (36, 8, (0, 0, 0, 0), 3, []) :: (37, 54, (72, 0, 0, 0), 0, []) :: []
def jm_b228_20 : List jx_E := (20, 0, (0, 0, 0, 0), 0, []) :: (21, 9, (0, 0, 0, 0), 107, []) :: (23, 62, (30, 0, 0, 0), 0, []) :: (26, 8, (0, 0, 0, 0), 2, []) :: (27, 54, (72, 0, 0, 0), 0, []) :: []
def jm_b228_10 : List jx_E := (10, 0, (0, 0, 0, 0), 0, []) :: (11, 9, (0, 0, 0, 0), 98, []) :: (13, 62, (20, 0, 0, 0), 0, []) :: (16, 8, (0, 0, 0, 0), 1, []) :: (17, 54, (72, 0, 0, 0), 0, []) :: []
def jm_b228_0 : List jx_E := (0, 0, (0, 0, 0, 0), 0, []) :: (1, 9, (0, 0, 0, 0), 97, []) :: (3, 62, (10, 0, 0, 0), 0, []) :: (6, 8, (0, 0, 0, 0), 0, []) :: (7, 54, (72, 0, 0, 0), 0, []) :: []
def jm_l228 : jx_B := [(0, jm_b228_0), (10, jm_b228_10), (20, jm_b228_20), (30, jm_b228_30), (40, jm_b228_40), (50, jm_b228_50), (60, jm_b228_60), (71, jm_b228_71), (72, jm_b228_72)]
def jm_i228 : jx_M := (⟨"OfDifferentMindsModel", "letterOf", "(I)I"⟩, prog_13_method_30_code, 1, (some .int), 2, 1, 11, jm_l228)
theorem jm_ok228 : jx_okM 228 jm_i228 := ⟨by decide +kernel, rfl, by decide +kernel, ⟨by decide +kernel, by decide +kernel⟩, by decide +kernel, jx_mem (i := 1536) (by decide +kernel) rfl, jx_mem (i := 116) (by decide +kernel) rfl, fun h => absurd h (by decide), fun h => absurd h (by decide), fun _ => jx_mem (i := 1535) (by decide +kernel) rfl, by decide, by decide, by decide, by decide +kernel, by decide +kernel⟩
-- OfDifferentMindsModel.thing(I)I
def jm_b229_132 : List jx_E := (132, 69, (0, 0, 0, 0), 0, []) :: []
def jm_b229_131 : List jx_E := (131, 8, (0, 0, 0, 0), 0, []) :: jm_b229_132
def jm_b229_102 : List jx_E := (102, 2, (0, 0, 0, 0), 0, []) :: (103, 28, (0, 0, 0, 0), 0, []) :: (104, 32, (11, 16, 0, 135), 0, []) :: (107, 8, (0, 0, 0, 0), 1, []) :: (108, 14, (0, 0, 0, 0), 0, []) :: (109, 34, (11, 16, 0, 135), 0, []) :: (112, 2, (0, 0, 0, 0), 0, []) :: (113, 32, (11, 25, 0, 209), 0, []) :: (116, 55, (131, 0, 0, 0), 0, []) :: (119, 2, (0, 0, 0, 0), 0, []) :: (120, 33, (11, 26, 0, 47), 0, []) :: (123, 0, (2, 0, 0, 0), 0, []) :: (124, 50, (228, 1, 0, 206), 0, []) :: (127, 38, (0, 0, 0, 0), 0, []) :: (128, 54, (132, 0, 0, 0), 0, []) :: []
def jm_b229_84 : List jx_E := (84, 0, (2, 0, 0, 0), 0, []) :: (85, 50, (228, 1, 0, 206), 0, []) :: (88, 8, (0, 0, 0, 0), (-1), []) :: (89, 62, (102, 0, 0, 0), 0, []) :: (92, 2, (0, 0, 0, 0), 0, []) :: (93, 2, (0, 0, 0, 0), 0, []) :: (94, 32, (11, 16, 0, 135), 0, []) :: (97, 49, (216, 2, 11, 153), 0, []) :: (100, 8, (0, 0, 0, 0), 0, []) :: (101, 69, (0, 0, 0, 0), 0, []) :: []
def jm_b229_67 : List jx_E := (67, 0, (2, 0, 0, 0), 0, []) :: (68, 9, (0, 0, 0, 0), 48, []) :: (70, 9, (0, 0, 0, 0), 57, []) :: (72, 50, (202, 3, 0, 112), 0, []) :: (75, 55, (84, 0, 0, 0), 0, []) :: (78, 2, (0, 0, 0, 0), 0, []) :: (79, 8, (0, 0, 0, 0), 3, []) :: (80, 49, (220, 2, 11, 180), 0, []) :: (83, 69, (0, 0, 0, 0), 0, []) :: []
def jm_b229_25 : List jx_E := (25, 2, (0, 0, 0, 0), 0, []) :: (26, 49, (214, 1, 11, 145), 0, []) :: (29, 4, (2, 0, 0, 0), 0, []) :: (30, 0, (2, 0, 0, 0), 0, []) :: (31, 9, (0, 0, 0, 0), 40, []) :: (33, 62, (67, 0, 0, 0), 0, []) :: (36, 0, (1, 0, 0, 0), 0, []) :: (37, 8, (0, 0, 0, 0), 4, []) :: (38, 64, (67, 0, 0, 0), 0, []) :: (41, 2, (0, 0, 0, 0), 0, []) :: (42, 28, (0, 0, 0, 0), 0, []) :: (43, 32, (11, 16, 0, 135), 0, []) :: (46, 8, (0, 0, 0, 0), 1, []) :: (47, 14, (0, 0, 0, 0), 0, []) :: (48, 34, (11, 16, 0, 135), 0, []) :: (51, 2, (0, 0, 0, 0), 0, []) :: (52, 0, (1, 0, 0, 0), 0, []) :: (53, 8, (0, 0, 0, 0), 1, []) :: (54, 14, (0, 0, 0, 0), 0, []) :: (55, 49, (225, 2, 11, 203), 0, []) :: (58, 4, (3, 0, 0, 0), 0, []) :: (59, 2, (0, 0, 0, 0), 0, []) :: (60, 9, (0, 0, 0, 0), 41, []) :: (62, 49, (218, 2, 11, 184), 0, []) :: (65, 0, (3, 0, 0, 0), 0, []) :: (66, 69, (0, 0, 0, 0), 0, []) :: []
def jm_b229_16 : List jx_E := (16, 2, (0, 0, 0, 0), 0, []) :: (17, 49, (215, 1, 11, 141), 0, []) :: (20, 56, (25, 0, 0, 0), 0, []) :: (23, 8, (0, 0, 0, 0), 0, []) :: (24, 69, (0, 0, 0, 0), 0, []) :: []
def jm_b229_0 : List jx_E := (0, 2, (0, 0, 0, 0), 0, []) :: (1, 9, (0, 0, 0, 0), 45, []) :: (3, 49, (217, 2, 11, 149), 0, []) :: (6, 55, (16, 0, 0, 0), 0, []) :: (9, 2, (0, 0, 0, 0), 0, []) :: (10, 0, (1, 0, 0, 0), 0, []) :: (11, 49, (229, 2, 11, 200), 0, []) :: (14, 19, (0, 0, 0, 0), 0, []) :: (15, 69, (0, 0, 0, 0), 0, []) :: []
def jm_l229 : jx_B := [(0, jm_b229_0), (16, jm_b229_16), (25, jm_b229_25), (67, jm_b229_67), (84, jm_b229_84), (102, jm_b229_102), (131, jm_b229_131), (132, jm_b229_132)]
def jm_i229 : jx_M := (⟨"OfDifferentMindsModel", "thing", "(I)I"⟩, prog_13_method_31_code, 4, (some .int), 0, 2, 11, jm_l229)
theorem jm_ok229 : jx_okM 229 jm_i229 := ⟨by decide +kernel, rfl, by decide +kernel, ⟨by decide +kernel, by decide +kernel⟩, by decide +kernel, jx_mem (i := 1533) (by decide +kernel) rfl, jx_mem (i := 116) (by decide +kernel) rfl, fun _ => ⟨jx_mem (i := 1532) (by decide +kernel) rfl, jx_mem (i := 59) (by decide +kernel) rfl, by decide⟩, fun h => absurd h (by decide), fun h => absurd h (by decide), by decide, by decide, by decide, by decide +kernel, by decide +kernel⟩
-- OfDifferentMindsModel.rule()I
def jm_b230_96 : List jx_E := (96, 2, (0, 0, 0, 0), 0, []) :: (97, 0, (1, 0, 0, 0), 0, []) :: (98, 34, (11, 24, 0, 213), 0, []) :: (101, 8, (0, 0, 0, 0), 0, []) :: (102, 69, (0, 0, 0, 0), 0, []) :: []
def jm_b230_73 : List jx_E := (73, 0, (2, 0, 0, 0), 0, []) :: (74, 0, (1, 0, 0, 0), 0, []) :: (75, 64, (96, 0, 0, 0), 0, []) :: (78, 2, (0, 0, 0, 0), 0, []) :: (79, 33, (11, 23, 0, 44), 0, []) :: (82, 0, (2, 0, 0, 0), 0, []) :: (83, 2, (0, 0, 0, 0), 0, []) :: (84, 33, (11, 8, 0, 25), 0, []) :: (87, 0, (2, 0, 0, 0), 0, []) :: (88, 39, (0, 0, 0, 0), 0, []) :: (89, 42, (0, 0, 0, 0), 0, []) :: (90, 13, (2, 0, 0, 0), 1, []) :: (93, 54, (73, 0, 0, 0), 0, []) :: []
def jm_b230_71 : List jx_E := (71, 8, (0, 0, 0, 0), 0, []) :: (72, 4, (2, 0, 0, 0), 0, []) :: jm_b230_73
def jm_b230_57 : List jx_E := (57, 2, (0, 0, 0, 0), 0, []) :: (58, 49, (215, 1, 11, 141), 0, []) :: (61, 56, (71, 0, 0, 0), 0, []) :: (64, 8, (0, 0, 0, 0), (-1), []) :: (65, 2, (0, 0, 0, 0), 0, []) :: (66, 32, (11, 17, 0, 138), 0, []) :: (69, 15, (0, 0, 0, 0), 0, []) :: (70, 69, (0, 0, 0, 0), 0, []) :: []
def jm_b230_0 : List jx_E := (0, 2, (0, 0, 0, 0), 0, []) :: (1, 8, (0, 0, 0, 0), 0, []) :: (2, 34, (11, 12, 0, 102), 0, []) :: (5, 2, (0, 0, 0, 0), 0, []) :: (6, 32, (11, 9, 0, 123), 0, []) :: (9, 4, (1, 0, 0, 0), 0, []) :: (10, 2, (0, 0, 0, 0), 0, []) :: (11, 2, (0, 0, 0, 0), 0, []) :: (12, 33, (11, 8, 0, 25), 0, []) :: (15, 0, (1, 0, 0, 0), 0, []) :: (16, 9, (0, 0, 0, 0), 40, []) :: (18, 49, (213, 4, 11, 164), 0, []) :: (21, 2, (0, 0, 0, 0), 0, []) :: (22, 8, (0, 0, 0, 0), 0, []) :: (23, 34, (11, 9, 0, 123), 0, []) :: (26, 2, (0, 0, 0, 0), 0, []) :: (27, 8, (0, 0, 0, 0), 0, []) :: (28, 35, (11, 25, 0, 209), 0, []) :: (31, 0, (1, 0, 0, 0), 0, []) :: (32, 60, (71, 0, 0, 0), 0, []) :: (35, 2, (0, 0, 0, 0), 0, []) :: (36, 8, (0, 0, 0, 0), 0, []) :: (37, 49, (225, 2, 11, 203), 0, []) :: (40, 31, (0, 0, 0, 0), 0, []) :: (41, 2, (0, 0, 0, 0), 0, []) :: (42, 32, (11, 16, 0, 135), 0, []) :: (45, 0, (1, 0, 0, 0), 0, []) :: (46, 64, (57, 0, 0, 0), 0, []) :: (49, 2, (0, 0, 0, 0), 0, []) :: (50, 2, (0, 0, 0, 0), 0, []) :: (51, 32, (11, 16, 0, 135), 0, []) :: (54, 49, (216, 2, 11, 153), 0, []) :: jm_b230_57
def jm_l230 : jx_B := [(0, jm_b230_0), (57, jm_b230_57), (71, jm_b230_71), (73, jm_b230_73), (96, jm_b230_96)]
def jm_i230 : jx_M := (⟨"OfDifferentMindsModel", "rule", "()I"⟩, prog_13_method_32_code, 3, (some .int), 0, 1, 11, jm_l230)
theorem jm_ok230 : jx_okM 230 jm_i230 := ⟨by decide +kernel, rfl, by decide +kernel, ⟨by decide +kernel, by decide +kernel⟩, by decide +kernel, jx_mem (i := 1517) (by decide +kernel) rfl, jx_mem (i := 116) (by decide +kernel) rfl, fun _ => ⟨jx_mem (i := 1515) (by decide +kernel) rfl, jx_mem (i := 1516) (by decide +kernel) rfl, by decide⟩, fun h => absurd h (by decide), fun h => absurd h (by decide), by decide, by decide, by decide, by decide +kernel, by decide +kernel⟩
-- OfDifferentMindsModel.wayBy(IIIIII)I
def jm_b231_142 : List jx_E := (142, 69, (0, 0, 0, 0), 0, []) :: []
def jm_b231_140 : List jx_E := (140, 1, (9, 0, 0, 0), 0, []) :: jm_b231_142
def jm_b231_120 : List jx_E := (120, 1, (8, 0, 0, 0), 0, []) :: (122, 1, (7, 0, 0, 0), 0, []) :: (124, 18, (0, 0, 0, 0), 0, []) :: (125, 5, (9, 0, 0, 0), 0, []) :: (127, 1, (9, 0, 0, 0), 0, []) :: (129, 58, (140, 0, 0, 0), 0, []) :: (132, 1, (9, 0, 0, 0), 0, []) :: (134, 1, (7, 0, 0, 0), 0, []) :: (136, 14, (0, 0, 0, 0), 0, []) :: (137, 54, (142, 0, 0, 0), 0, []) :: []
def jm_b231_25 : List jx_E := (25, 14, (0, 0, 0, 0), 0, []) :: (26, 5, (8, 0, 0, 0), 0, []) :: (28, 2, (0, 0, 0, 0), 0, []) :: (29, 32, (11, 24, 0, 213), 0, []) :: (32, 60, (120, 0, 0, 0), 0, []) :: (35, 2, (0, 0, 0, 0), 0, []) :: (36, 33, (11, 26, 0, 47), 0, []) :: (39, 8, (0, 0, 0, 0), 0, []) :: (40, 0, (1, 0, 0, 0), 0, []) :: (41, 41, (0, 0, 0, 0), 0, []) :: (42, 2, (0, 0, 0, 0), 0, []) :: (43, 33, (11, 26, 0, 47), 0, []) :: (46, 8, (0, 0, 0, 0), 1, []) :: (47, 0, (2, 0, 0, 0), 0, []) :: (48, 41, (0, 0, 0, 0), 0, []) :: (49, 2, (0, 0, 0, 0), 0, []) :: (50, 33, (11, 26, 0, 47), 0, []) :: (53, 8, (0, 0, 0, 0), 2, []) :: (54, 1, (7, 0, 0, 0), 0, []) :: (56, 41, (0, 0, 0, 0), 0, []) :: (57, 2, (0, 0, 0, 0), 0, []) :: (58, 33, (11, 26, 0, 47), 0, []) :: (61, 8, (0, 0, 0, 0), 3, []) :: (62, 0, (3, 0, 0, 0), 0, []) :: (63, 41, (0, 0, 0, 0), 0, []) :: (64, 2, (0, 0, 0, 0), 0, []) :: (65, 33, (11, 26, 0, 47), 0, []) :: (68, 8, (0, 0, 0, 0), 4, []) :: (69, 1, (4, 0, 0, 0), 0, []) :: (71, 41, (0, 0, 0, 0), 0, []) :: (72, 2, (0, 0, 0, 0), 0, []) :: (73, 33, (11, 26, 0, 47), 0, []) :: (76, 8, (0, 0, 0, 0), 5, []) :: (77, 1, (5, 0, 0, 0), 0, []) :: (79, 41, (0, 0, 0, 0), 0, []) :: (80, 2, (0, 0, 0, 0), 0, []) :: (81, 33, (11, 26, 0, 47), 0, []) :: (84, 9, (0, 0, 0, 0), 6, []) :: (86, 1, (6, 0, 0, 0), 0, []) :: (88, 41, (0, 0, 0, 0), 0, []) :: (89, 2, (0, 0, 0, 0), 0, []) :: (90, 2, (0, 0, 0, 0), 0, []) :: (91, 33, (11, 23, 0, 44), 0, []) :: (94, 2, (0, 0, 0, 0), 0, []) :: (95, 32, (11, 24, 0, 213), 0, []) :: (98, 9, (0, 0, 0, 0), 40, []) :: (100, 49, (213, 4, 11, 164), 0, []) :: (103, 2, (0, 0, 0, 0), 0, []) :: (104, 8, (0, 0, 0, 0), 1, []) :: (105, 35, (11, 25, 0, 209), 0, []) :: (108, 2, (0, 0, 0, 0), 0, []) :: (109, 8, (0, 0, 0, 0), 0, []) :: (110, 49, (225, 2, 11, 203), 0, []) :: (113, 5, (8, 0, 0, 0), 0, []) :: (115, 2, (0, 0, 0, 0), 0, []) :: (116, 8, (0, 0, 0, 0), 0, []) :: (117, 35, (11, 25, 0, 209), 0, []) :: jm_b231_120
def jm_b231_24 : List jx_E := (24, 8, (0, 0, 0, 0), 0, []) :: jm_b231_25
def jm_b231_0 : List jx_E := (0, 2, (0, 0, 0, 0), 0, []) :: (1, 33, (11, 2, 0, 13), 0, []) :: (4, 0, (3, 0, 0, 0), 0, []) :: (5, 38, (0, 0, 0, 0), 0, []) :: (6, 5, (7, 0, 0, 0), 0, []) :: (8, 1, (7, 0, 0, 0), 0, []) :: (10, 0, (1, 0, 0, 0), 0, []) :: (11, 15, (0, 0, 0, 0), 0, []) :: (12, 0, (2, 0, 0, 0), 0, []) :: (13, 15, (0, 0, 0, 0), 0, []) :: (14, 1, (7, 0, 0, 0), 0, []) :: (16, 8, (0, 0, 0, 0), 2, []) :: (17, 62, (24, 0, 0, 0), 0, []) :: (20, 0, (1, 0, 0, 0), 0, []) :: (21, 54, (25, 0, 0, 0), 0, []) :: []
def jm_l231 : jx_B := [(0, jm_b231_0), (24, jm_b231_24), (25, jm_b231_25), (120, jm_b231_120), (140, jm_b231_140), (142, jm_b231_142)]
def jm_i231 : jx_M := (⟨"OfDifferentMindsModel", "wayBy", "(IIIIII)I"⟩, prog_13_method_33_code, 10, (some .int), 0, 7, 11, jm_l231)
theorem jm_ok231 : jx_okM 231 jm_i231 := ⟨by decide +kernel, rfl, by decide +kernel, ⟨by decide +kernel, by decide +kernel⟩, by decide +kernel, jx_mem (i := 1636) (by decide +kernel) rfl, jx_mem (i := 116) (by decide +kernel) rfl, fun _ => ⟨jx_mem (i := 1635) (by decide +kernel) rfl, jx_mem (i := 75) (by decide +kernel) rfl, by decide⟩, fun h => absurd h (by decide), fun h => absurd h (by decide), by decide, by decide, by decide, by decide +kernel, by decide +kernel⟩
-- OfDifferentMindsModel.viewOf([III)I
def jm_b232_20 : List jx_E := (20, 5, (4, 0, 0, 0), 0, []) :: (22, 2, (0, 0, 0, 0), 0, []) :: (23, 33, (11, 7, 0, 22), 0, []) :: (26, 9, (0, 0, 0, 0), 10, []) :: (28, 2, (1, 0, 0, 0), 0, []) :: (29, 9, (0, 0, 0, 0), 22, []) :: (31, 1, (4, 0, 0, 0), 0, []) :: (33, 14, (0, 0, 0, 0), 0, []) :: (34, 38, (0, 0, 0, 0), 0, []) :: (35, 16, (0, 0, 0, 0), 0, []) :: (36, 0, (3, 0, 0, 0), 0, []) :: (37, 14, (0, 0, 0, 0), 0, []) :: (38, 38, (0, 0, 0, 0), 0, []) :: (39, 2, (0, 0, 0, 0), 0, []) :: (40, 33, (11, 2, 0, 13), 0, []) :: (43, 0, (3, 0, 0, 0), 0, []) :: (44, 38, (0, 0, 0, 0), 0, []) :: (45, 18, (0, 0, 0, 0), 0, []) :: (46, 69, (0, 0, 0, 0), 0, []) :: []
def jm_b232_14 : List jx_E := (14, 2, (1, 0, 0, 0), 0, []) :: (15, 9, (0, 0, 0, 0), 16, []) :: (17, 0, (2, 0, 0, 0), 0, []) :: (18, 14, (0, 0, 0, 0), 0, []) :: (19, 38, (0, 0, 0, 0), 0, []) :: jm_b232_20
def jm_b232_0 : List jx_E := (0, 2, (1, 0, 0, 0), 0, []) :: (1, 9, (0, 0, 0, 0), 16, []) :: (3, 0, (2, 0, 0, 0), 0, []) :: (4, 14, (0, 0, 0, 0), 0, []) :: (5, 38, (0, 0, 0, 0), 0, []) :: (6, 8, (0, 0, 0, 0), (-1), []) :: (7, 62, (14, 0, 0, 0), 0, []) :: (10, 0, (2, 0, 0, 0), 0, []) :: (11, 54, (20, 0, 0, 0), 0, []) :: []
def jm_l232 : jx_B := [(0, jm_b232_0), (14, jm_b232_14), (20, jm_b232_20)]
def jm_i232 : jx_M := (⟨"OfDifferentMindsModel", "viewOf", "([III)I"⟩, prog_13_method_34_code, 5, (some .int), 0, 4, 11, jm_l232)
theorem jm_ok232 : jx_okM 232 jm_i232 := ⟨by decide +kernel, rfl, by decide +kernel, ⟨by decide +kernel, by decide +kernel⟩, by decide +kernel, jx_mem (i := 1560) (by decide +kernel) rfl, jx_mem (i := 116) (by decide +kernel) rfl, fun _ => ⟨jx_mem (i := 1559) (by decide +kernel) rfl, jx_mem (i := 63) (by decide +kernel) rfl, by decide⟩, fun h => absurd h (by decide), fun h => absurd h (by decide), by decide, by decide, by decide, by decide +kernel, by decide +kernel⟩
-- OfDifferentMindsModel.leftOf([II)I
def jm_b233_0 : List jx_E := (0, 2, (0, 0, 0, 0), 0, []) :: (1, 33, (11, 6, 0, 19), 0, []) :: (4, 0, (2, 0, 0, 0), 0, []) :: (5, 38, (0, 0, 0, 0), 0, []) :: (6, 2, (1, 0, 0, 0), 0, []) :: (7, 8, (0, 0, 0, 0), 4, []) :: (8, 0, (2, 0, 0, 0), 0, []) :: (9, 14, (0, 0, 0, 0), 0, []) :: (10, 38, (0, 0, 0, 0), 0, []) :: (11, 15, (0, 0, 0, 0), 0, []) :: (12, 69, (0, 0, 0, 0), 0, []) :: []
def jm_l233 : jx_B := [(0, jm_b233_0)]
def jm_i233 : jx_M := (⟨"OfDifferentMindsModel", "leftOf", "([II)I"⟩, prog_13_method_35_code, 3, (some .int), 0, 3, 11, jm_l233)
theorem jm_ok233 : jx_okM 233 jm_i233 := ⟨by decide +kernel, rfl, by decide +kernel, ⟨by decide +kernel, by decide +kernel⟩, by decide +kernel, jx_mem (i := 1632) (by decide +kernel) rfl, jx_mem (i := 116) (by decide +kernel) rfl, fun _ => ⟨jx_mem (i := 1631) (by decide +kernel) rfl, jx_mem (i := 74) (by decide +kernel) rfl, by decide⟩, fun h => absurd h (by decide), fun h => absurd h (by decide), by decide, by decide, by decide, by decide +kernel, by decide +kernel⟩
-- OfDifferentMindsModel.goesOn([I)Z
def jm_b234_39 : List jx_E := (39, 70, (0, 0, 0, 0), 0, []) :: []
def jm_b234_38 : List jx_E := (38, 8, (0, 0, 0, 0), 0, []) :: jm_b234_39
def jm_b234_0 : List jx_E := (0, 2, (1, 0, 0, 0), 0, []) :: (1, 8, (0, 0, 0, 0), 0, []) :: (2, 38, (0, 0, 0, 0), 0, []) :: (3, 4, (2, 0, 0, 0), 0, []) :: (4, 2, (0, 0, 0, 0), 0, []) :: (5, 33, (11, 2, 0, 13), 0, []) :: (8, 0, (2, 0, 0, 0), 0, []) :: (9, 38, (0, 0, 0, 0), 0, []) :: (10, 60, (38, 0, 0, 0), 0, []) :: (13, 2, (0, 0, 0, 0), 0, []) :: (14, 2, (1, 0, 0, 0), 0, []) :: (15, 2, (1, 0, 0, 0), 0, []) :: (16, 8, (0, 0, 0, 0), 1, []) :: (17, 38, (0, 0, 0, 0), 0, []) :: (18, 0, (2, 0, 0, 0), 0, []) :: (19, 49, (232, 4, 11, 216), 0, []) :: (22, 2, (0, 0, 0, 0), 0, []) :: (23, 2, (1, 0, 0, 0), 0, []) :: (24, 2, (1, 0, 0, 0), 0, []) :: (25, 8, (0, 0, 0, 0), 2, []) :: (26, 38, (0, 0, 0, 0), 0, []) :: (27, 0, (2, 0, 0, 0), 0, []) :: (28, 49, (232, 4, 11, 216), 0, []) :: (31, 61, (38, 0, 0, 0), 0, []) :: (34, 8, (0, 0, 0, 0), 1, []) :: (35, 54, (39, 0, 0, 0), 0, []) :: []
def jm_l234 : jx_B := [(0, jm_b234_0), (38, jm_b234_38), (39, jm_b234_39)]
def jm_i234 : jx_M := (⟨"OfDifferentMindsModel", "goesOn", "([I)Z"⟩, prog_13_method_36_code, 3, (some .boolean), 0, 2, 11, jm_l234)
theorem jm_ok234 : jx_okM 234 jm_i234 := ⟨by decide +kernel, rfl, by decide +kernel, ⟨by decide +kernel, by decide +kernel⟩, by decide +kernel, jx_mem (i := 1624) (by decide +kernel) rfl, jx_mem (i := 116) (by decide +kernel) rfl, fun _ => ⟨jx_mem (i := 1623) (by decide +kernel) rfl, jx_mem (i := 72) (by decide +kernel) rfl, by decide⟩, fun h => absurd h (by decide), fun h => absurd h (by decide), by decide, by decide, by decide, by decide +kernel, by decide +kernel⟩
-- OfDifferentMindsModel.goStep([III)V
def jm_b235_188 : List jx_E := (188, 41, (0, 0, 0, 0), 0, []) :: (189, 71, (0, 0, 0, 0), 0, []) :: []
def jm_b235_186 : List jx_E := (186, 1, (4, 0, 0, 0), 0, []) :: jm_b235_188
def jm_b235_162 : List jx_E := (162, 2, (0, 0, 0, 0), 0, []) :: (163, 1, (8, 0, 0, 0), 0, []) :: (165, 34, (11, 27, 0, 228), 0, []) :: (168, 2, (1, 0, 0, 0), 0, []) :: (169, 9, (0, 0, 0, 0), 16, []) :: (171, 1, (8, 0, 0, 0), 0, []) :: (173, 14, (0, 0, 0, 0), 0, []) :: (174, 1, (8, 0, 0, 0), 0, []) :: (176, 1, (4, 0, 0, 0), 0, []) :: (178, 62, (186, 0, 0, 0), 0, []) :: (181, 1, (5, 0, 0, 0), 0, []) :: (183, 54, (188, 0, 0, 0), 0, []) :: []
def jm_b235_127 : List jx_E := (127, 2, (1, 0, 0, 0), 0, []) :: (128, 8, (0, 0, 0, 0), 4, []) :: (129, 1, (8, 0, 0, 0), 0, []) :: (131, 14, (0, 0, 0, 0), 0, []) :: (132, 2, (0, 0, 0, 0), 0, []) :: (133, 33, (11, 6, 0, 19), 0, []) :: (136, 1, (8, 0, 0, 0), 0, []) :: (138, 38, (0, 0, 0, 0), 0, []) :: (139, 2, (1, 0, 0, 0), 0, []) :: (140, 8, (0, 0, 0, 0), 4, []) :: (141, 1, (8, 0, 0, 0), 0, []) :: (143, 14, (0, 0, 0, 0), 0, []) :: (144, 38, (0, 0, 0, 0), 0, []) :: (145, 8, (0, 0, 0, 0), 1, []) :: (146, 14, (0, 0, 0, 0), 0, []) :: (147, 73, (311, 0, 0, 231), 0, []) :: (150, 41, (0, 0, 0, 0), 0, []) :: (151, 2, (0, 0, 0, 0), 0, []) :: (152, 2, (1, 0, 0, 0), 0, []) :: (153, 1, (8, 0, 0, 0), 0, []) :: (155, 49, (233, 3, 11, 220), 0, []) :: (158, 60, (162, 0, 0, 0), 0, []) :: (161, 71, (0, 0, 0, 0), 0, []) :: []
def jm_b235_108 : List jx_E := (108, 5, (8, 0, 0, 0), 0, []) :: (110, 2, (0, 0, 0, 0), 0, []) :: (111, 8, (0, 0, 0, 0), (-1), []) :: (112, 34, (11, 27, 0, 228), 0, []) :: (115, 2, (1, 0, 0, 0), 0, []) :: (116, 9, (0, 0, 0, 0), 16, []) :: (118, 1, (8, 0, 0, 0), 0, []) :: (120, 14, (0, 0, 0, 0), 0, []) :: (121, 38, (0, 0, 0, 0), 0, []) :: (122, 8, (0, 0, 0, 0), (-1), []) :: (123, 61, (127, 0, 0, 0), 0, []) :: (126, 71, (0, 0, 0, 0), 0, []) :: []
def jm_b235_106 : List jx_E := (106, 1, (5, 0, 0, 0), 0, []) :: jm_b235_108
def jm_b235_0 : List jx_E := (0, 2, (1, 0, 0, 0), 0, []) :: (1, 8, (0, 0, 0, 0), 1, []) :: (2, 38, (0, 0, 0, 0), 0, []) :: (3, 5, (4, 0, 0, 0), 0, []) :: (5, 2, (1, 0, 0, 0), 0, []) :: (6, 8, (0, 0, 0, 0), 2, []) :: (7, 38, (0, 0, 0, 0), 0, []) :: (8, 5, (5, 0, 0, 0), 0, []) :: (10, 2, (1, 0, 0, 0), 0, []) :: (11, 8, (0, 0, 0, 0), 0, []) :: (12, 38, (0, 0, 0, 0), 0, []) :: (13, 5, (6, 0, 0, 0), 0, []) :: (15, 2, (0, 0, 0, 0), 0, []) :: (16, 0, (2, 0, 0, 0), 0, []) :: (17, 0, (3, 0, 0, 0), 0, []) :: (18, 1, (6, 0, 0, 0), 0, []) :: (20, 2, (1, 0, 0, 0), 0, []) :: (21, 8, (0, 0, 0, 0), 3, []) :: (22, 38, (0, 0, 0, 0), 0, []) :: (23, 2, (0, 0, 0, 0), 0, []) :: (24, 2, (1, 0, 0, 0), 0, []) :: (25, 1, (4, 0, 0, 0), 0, []) :: (27, 49, (233, 3, 11, 220), 0, []) :: (30, 2, (0, 0, 0, 0), 0, []) :: (31, 2, (1, 0, 0, 0), 0, []) :: (32, 1, (5, 0, 0, 0), 0, []) :: (34, 49, (233, 3, 11, 220), 0, []) :: (37, 49, (231, 7, 11, 224), 0, []) :: (40, 5, (7, 0, 0, 0), 0, []) :: (42, 2, (1, 0, 0, 0), 0, []) :: (43, 8, (0, 0, 0, 0), 0, []) :: (44, 2, (0, 0, 0, 0), 0, []) :: (45, 33, (11, 3, 0, 16), 0, []) :: (48, 8, (0, 0, 0, 0), 3, []) :: (49, 1, (6, 0, 0, 0), 0, []) :: (51, 16, (0, 0, 0, 0), 0, []) :: (52, 1, (7, 0, 0, 0), 0, []) :: (54, 14, (0, 0, 0, 0), 0, []) :: (55, 38, (0, 0, 0, 0), 0, []) :: (56, 41, (0, 0, 0, 0), 0, []) :: (57, 2, (1, 0, 0, 0), 0, []) :: (58, 9, (0, 0, 0, 0), 10, []) :: (60, 1, (4, 0, 0, 0), 0, []) :: (62, 14, (0, 0, 0, 0), 0, []) :: (63, 2, (1, 0, 0, 0), 0, []) :: (64, 8, (0, 0, 0, 0), 0, []) :: (65, 38, (0, 0, 0, 0), 0, []) :: (66, 41, (0, 0, 0, 0), 0, []) :: (67, 2, (1, 0, 0, 0), 0, []) :: (68, 9, (0, 0, 0, 0), 10, []) :: (70, 1, (5, 0, 0, 0), 0, []) :: (72, 14, (0, 0, 0, 0), 0, []) :: (73, 2, (1, 0, 0, 0), 0, []) :: (74, 8, (0, 0, 0, 0), 0, []) :: (75, 38, (0, 0, 0, 0), 0, []) :: (76, 41, (0, 0, 0, 0), 0, []) :: (77, 2, (1, 0, 0, 0), 0, []) :: (78, 8, (0, 0, 0, 0), 3, []) :: (79, 29, (0, 0, 0, 0), 0, []) :: (80, 38, (0, 0, 0, 0), 0, []) :: (81, 8, (0, 0, 0, 0), 1, []) :: (82, 14, (0, 0, 0, 0), 0, []) :: (83, 41, (0, 0, 0, 0), 0, []) :: (84, 2, (0, 0, 0, 0), 0, []) :: (85, 2, (1, 0, 0, 0), 0, []) :: (86, 1, (4, 0, 0, 0), 0, []) :: (88, 49, (233, 3, 11, 220), 0, []) :: (91, 2, (0, 0, 0, 0), 0, []) :: (92, 2, (1, 0, 0, 0), 0, []) :: (93, 1, (5, 0, 0, 0), 0, []) :: (95, 49, (233, 3, 11, 220), 0, []) :: (98, 64, (106, 0, 0, 0), 0, []) :: (101, 1, (4, 0, 0, 0), 0, []) :: (103, 54, (108, 0, 0, 0), 0, []) :: []
def jm_l235 : jx_B := [(0, jm_b235_0), (106, jm_b235_106), (108, jm_b235_108), (127, jm_b235_127), (162, jm_b235_162), (186, jm_b235_186), (188, jm_b235_188)]
def jm_i235 : jx_M := (⟨"OfDifferentMindsModel", "goStep", "([III)V"⟩, prog_13_method_37_code, 9, none, 0, 4, 11, jm_l235)
theorem jm_ok235 : jx_okM 235 jm_i235 := ⟨by decide +kernel, rfl, by decide +kernel, ⟨by decide +kernel, by decide +kernel⟩, by decide +kernel, jx_mem (i := 1628) (by decide +kernel) rfl, jx_mem (i := 116) (by decide +kernel) rfl, fun _ => ⟨jx_mem (i := 1627) (by decide +kernel) rfl, jx_mem (i := 73) (by decide +kernel) rfl, by decide⟩, fun h => absurd h (by decide), fun h => absurd h (by decide), by decide, by decide, by decide, by decide +kernel, by decide +kernel⟩
-- OfDifferentMindsModel.step([I)Z
def jm_b236_10 : List jx_E := (10, 2, (0, 0, 0, 0), 0, []) :: (11, 2, (1, 0, 0, 0), 0, []) :: (12, 2, (0, 0, 0, 0), 0, []) :: (13, 2, (1, 0, 0, 0), 0, []) :: (14, 2, (1, 0, 0, 0), 0, []) :: (15, 8, (0, 0, 0, 0), 1, []) :: (16, 38, (0, 0, 0, 0), 0, []) :: (17, 2, (1, 0, 0, 0), 0, []) :: (18, 8, (0, 0, 0, 0), 0, []) :: (19, 38, (0, 0, 0, 0), 0, []) :: (20, 49, (232, 4, 11, 216), 0, []) :: (23, 2, (0, 0, 0, 0), 0, []) :: (24, 2, (1, 0, 0, 0), 0, []) :: (25, 2, (1, 0, 0, 0), 0, []) :: (26, 8, (0, 0, 0, 0), 2, []) :: (27, 38, (0, 0, 0, 0), 0, []) :: (28, 2, (1, 0, 0, 0), 0, []) :: (29, 8, (0, 0, 0, 0), 0, []) :: (30, 38, (0, 0, 0, 0), 0, []) :: (31, 49, (232, 4, 11, 216), 0, []) :: (34, 49, (235, 4, 11, 240), 0, []) :: (37, 8, (0, 0, 0, 0), 1, []) :: (38, 70, (0, 0, 0, 0), 0, []) :: []
def jm_b236_0 : List jx_E := (0, 2, (0, 0, 0, 0), 0, []) :: (1, 2, (1, 0, 0, 0), 0, []) :: (2, 49, (234, 2, 11, 236), 0, []) :: (5, 56, (10, 0, 0, 0), 0, []) :: (8, 8, (0, 0, 0, 0), 0, []) :: (9, 70, (0, 0, 0, 0), 0, []) :: []
def jm_l236 : jx_B := [(0, jm_b236_0), (10, jm_b236_10)]
def jm_i236 : jx_M := (⟨"OfDifferentMindsModel", "step", "([I)Z"⟩, prog_13_method_38_code, 2, (some .boolean), 0, 2, 11, jm_l236)
theorem jm_ok236 : jx_okM 236 jm_i236 := ⟨by decide +kernel, rfl, by decide +kernel, ⟨by decide +kernel, by decide +kernel⟩, by decide +kernel, jx_mem (i := 1620) (by decide +kernel) rfl, jx_mem (i := 116) (by decide +kernel) rfl, fun _ => ⟨jx_mem (i := 1619) (by decide +kernel) rfl, jx_mem (i := 71) (by decide +kernel) rfl, by decide⟩, fun h => absurd h (by decide), fun h => absurd h (by decide), by decide, by decide, by decide, by decide +kernel, by decide +kernel⟩
-- OfDifferentMindsModel.place(II)I
def jm_b237_115 : List jx_E := (115, 0, (3, 0, 0, 0), 0, []) :: (116, 69, (0, 0, 0, 0), 0, []) :: []
def jm_b237_107 : List jx_E := (107, 21, (0, 0, 0, 0), 0, []) :: (108, 4, (3, 0, 0, 0), 0, []) :: (109, 13, (4, 0, 0, 0), 1, []) :: (112, 54, (75, 0, 0, 0), 0, []) :: []
def jm_b237_106 : List jx_E := (106, 8, (0, 0, 0, 0), 0, []) :: jm_b237_107
def jm_b237_75 : List jx_E := (75, 1, (4, 0, 0, 0), 0, []) :: (77, 2, (0, 0, 0, 0), 0, []) :: (78, 32, (11, 5, 0, 116), 0, []) :: (81, 64, (115, 0, 0, 0), 0, []) :: (84, 0, (3, 0, 0, 0), 0, []) :: (85, 2, (0, 0, 0, 0), 0, []) :: (86, 33, (11, 0, 0, 9), 0, []) :: (89, 9, (0, 0, 0, 0), 10, []) :: (91, 1, (4, 0, 0, 0), 0, []) :: (93, 14, (0, 0, 0, 0), 0, []) :: (94, 38, (0, 0, 0, 0), 0, []) :: (95, 0, (1, 0, 0, 0), 0, []) :: (96, 62, (106, 0, 0, 0), 0, []) :: (99, 8, (0, 0, 0, 0), 1, []) :: (100, 1, (4, 0, 0, 0), 0, []) :: (102, 23, (0, 0, 0, 0), 0, []) :: (103, 54, (107, 0, 0, 0), 0, []) :: []
def jm_b237_70 : List jx_E := (70, 8, (0, 0, 0, 0), 0, []) :: (71, 4, (3, 0, 0, 0), 0, []) :: (72, 8, (0, 0, 0, 0), 0, []) :: (73, 5, (4, 0, 0, 0), 0, []) :: jm_b237_75
def jm_b237_56 : List jx_E := (56, 0, (2, 0, 0, 0), 0, []) :: (57, 8, (0, 0, 0, 0), 4, []) :: (58, 62, (70, 0, 0, 0), 0, []) :: (61, 2, (0, 0, 0, 0), 0, []) :: (62, 32, (11, 4, 0, 171), 0, []) :: (65, 0, (1, 0, 0, 0), 0, []) :: (66, 24, (0, 0, 0, 0), 0, []) :: (67, 8, (0, 0, 0, 0), 1, []) :: (68, 20, (0, 0, 0, 0), 0, []) :: (69, 69, (0, 0, 0, 0), 0, []) :: []
def jm_b237_38 : List jx_E := (38, 0, (2, 0, 0, 0), 0, []) :: (39, 8, (0, 0, 0, 0), 4, []) :: (40, 64, (56, 0, 0, 0), 0, []) :: (43, 2, (0, 0, 0, 0), 0, []) :: (44, 33, (11, 3, 0, 16), 0, []) :: (47, 8, (0, 0, 0, 0), 3, []) :: (48, 0, (1, 0, 0, 0), 0, []) :: (49, 16, (0, 0, 0, 0), 0, []) :: (50, 0, (2, 0, 0, 0), 0, []) :: (51, 14, (0, 0, 0, 0), 0, []) :: (52, 8, (0, 0, 0, 0), 1, []) :: (53, 15, (0, 0, 0, 0), 0, []) :: (54, 38, (0, 0, 0, 0), 0, []) :: (55, 69, (0, 0, 0, 0), 0, []) :: []
def jm_b237_27 : List jx_E := (27, 0, (2, 0, 0, 0), 0, []) :: (28, 56, (38, 0, 0, 0), 0, []) :: (31, 2, (0, 0, 0, 0), 0, []) :: (32, 33, (11, 2, 0, 13), 0, []) :: (35, 0, (1, 0, 0, 0), 0, []) :: (36, 38, (0, 0, 0, 0), 0, []) :: (37, 69, (0, 0, 0, 0), 0, []) :: []
def jm_b237_22 : List jx_E := (22, 2, (0, 0, 0, 0), 0, []) :: (23, 49, (204, 1, 11, 247), 0, []) :: (26, 69, (0, 0, 0, 0), 0, []) :: []
def jm_b237_0 : List jx_E := (0, 2, (0, 0, 0, 0), 0, []) :: (1, 8, (0, 0, 0, 0), 0, []) :: (2, 34, (11, 12, 0, 102), 0, []) :: (5, 2, (0, 0, 0, 0), 0, []) :: (6, 0, (1, 0, 0, 0), 0, []) :: (7, 49, (206, 2, 11, 244), 0, []) :: (10, 55, (22, 0, 0, 0), 0, []) :: (13, 0, (2, 0, 0, 0), 0, []) :: (14, 8, (0, 0, 0, 0), 0, []) :: (15, 8, (0, 0, 0, 0), 5, []) :: (16, 50, (202, 3, 0, 112), 0, []) :: (19, 56, (27, 0, 0, 0), 0, []) :: jm_b237_22
def jm_l237 : jx_B := [(0, jm_b237_0), (22, jm_b237_22), (27, jm_b237_27), (38, jm_b237_38), (56, jm_b237_56), (70, jm_b237_70), (75, jm_b237_75), (106, jm_b237_106), (107, jm_b237_107), (115, jm_b237_115)]
def jm_i237 : jx_M := (⟨"OfDifferentMindsModel", "place", "(II)I"⟩, prog_13_method_39_code, 5, (some .int), 0, 3, 11, jm_l237)
theorem jm_ok237 : jx_okM 237 jm_i237 := ⟨by decide +kernel, rfl, by decide +kernel, ⟨by decide +kernel, by decide +kernel⟩, by decide +kernel, jx_mem (i := 1540) (by decide +kernel) rfl, jx_mem (i := 116) (by decide +kernel) rfl, fun _ => ⟨jx_mem (i := 1538) (by decide +kernel) rfl, jx_mem (i := 1539) (by decide +kernel) rfl, by decide⟩, fun h => absurd h (by decide), fun h => absurd h (by decide), by decide, by decide, by decide, by decide +kernel, by decide +kernel⟩
-- OfDifferentMindsModel.rider(II)I
def jm_b238_156 : List jx_E := (156, 69, (0, 0, 0, 0), 0, []) :: []
def jm_b238_155 : List jx_E := (155, 8, (0, 0, 0, 0), 0, []) :: jm_b238_156
def jm_b238_140 : List jx_E := (140, 2, (0, 0, 0, 0), 0, []) :: (141, 33, (11, 0, 0, 9), 0, []) :: (144, 0, (1, 0, 0, 0), 0, []) :: (145, 50, (209, 2, 0, 250), 0, []) :: (148, 55, (155, 0, 0, 0), 0, []) :: (151, 8, (0, 0, 0, 0), 1, []) :: (152, 54, (156, 0, 0, 0), 0, []) :: []
def jm_b238_139 : List jx_E := (139, 69, (0, 0, 0, 0), 0, []) :: []
def jm_b238_121 : List jx_E := (121, 2, (0, 0, 0, 0), 0, []) :: (122, 2, (0, 0, 0, 0), 0, []) :: (123, 33, (11, 0, 0, 9), 0, []) :: (126, 0, (1, 0, 0, 0), 0, []) :: (127, 2, (0, 0, 0, 0), 0, []) :: (128, 33, (11, 0, 0, 9), 0, []) :: (131, 9, (0, 0, 0, 0), 10, []) :: (133, 0, (1, 0, 0, 0), 0, []) :: (134, 14, (0, 0, 0, 0), 0, []) :: (135, 38, (0, 0, 0, 0), 0, []) :: (136, 49, (232, 4, 11, 216), 0, []) :: jm_b238_139
def jm_b238_100 : List jx_E := (100, 2, (0, 0, 0, 0), 0, []) :: (101, 33, (11, 2, 0, 13), 0, []) :: (104, 2, (0, 0, 0, 0), 0, []) :: (105, 33, (11, 0, 0, 9), 0, []) :: (108, 9, (0, 0, 0, 0), 10, []) :: (110, 0, (1, 0, 0, 0), 0, []) :: (111, 14, (0, 0, 0, 0), 0, []) :: (112, 38, (0, 0, 0, 0), 0, []) :: (113, 38, (0, 0, 0, 0), 0, []) :: (114, 56, (121, 0, 0, 0), 0, []) :: (117, 8, (0, 0, 0, 0), (-1), []) :: (118, 54, (139, 0, 0, 0), 0, []) :: []
def jm_b238_90 : List jx_E := (90, 2, (0, 0, 0, 0), 0, []) :: (91, 33, (11, 0, 0, 9), 0, []) :: (94, 9, (0, 0, 0, 0), 16, []) :: (96, 0, (1, 0, 0, 0), 0, []) :: (97, 14, (0, 0, 0, 0), 0, []) :: (98, 38, (0, 0, 0, 0), 0, []) :: (99, 69, (0, 0, 0, 0), 0, []) :: []
def jm_b238_80 : List jx_E := (80, 2, (0, 0, 0, 0), 0, []) :: (81, 33, (11, 0, 0, 9), 0, []) :: (84, 9, (0, 0, 0, 0), 10, []) :: (86, 0, (1, 0, 0, 0), 0, []) :: (87, 14, (0, 0, 0, 0), 0, []) :: (88, 38, (0, 0, 0, 0), 0, []) :: (89, 69, (0, 0, 0, 0), 0, []) :: []
def jm_b238_71 : List jx_E := (71, 2, (0, 0, 0, 0), 0, []) :: (72, 33, (11, 0, 0, 9), 0, []) :: (75, 8, (0, 0, 0, 0), 4, []) :: (76, 0, (1, 0, 0, 0), 0, []) :: (77, 14, (0, 0, 0, 0), 0, []) :: (78, 38, (0, 0, 0, 0), 0, []) :: (79, 69, (0, 0, 0, 0), 0, []) :: []
def jm_b238_64 : List jx_E := (64, 2, (0, 0, 0, 0), 0, []) :: (65, 33, (11, 6, 0, 19), 0, []) :: (68, 0, (1, 0, 0, 0), 0, []) :: (69, 38, (0, 0, 0, 0), 0, []) :: (70, 69, (0, 0, 0, 0), 0, []) :: []
def jm_b238_27 : List jx_E := (27, 0, (2, 0, 0, 0), 0, []) :: (28, 67, (140, 0, 0, 36), 0, [(0, 64), (1, 71), (2, 80), (3, 90), (4, 100)]) :: []
def jm_b238_22 : List jx_E := (22, 2, (0, 0, 0, 0), 0, []) :: (23, 49, (204, 1, 11, 247), 0, []) :: (26, 69, (0, 0, 0, 0), 0, []) :: []
def jm_b238_0 : List jx_E := (0, 2, (0, 0, 0, 0), 0, []) :: (1, 8, (0, 0, 0, 0), 0, []) :: (2, 34, (11, 12, 0, 102), 0, []) :: (5, 2, (0, 0, 0, 0), 0, []) :: (6, 0, (1, 0, 0, 0), 0, []) :: (7, 49, (207, 2, 11, 119), 0, []) :: (10, 55, (22, 0, 0, 0), 0, []) :: (13, 0, (2, 0, 0, 0), 0, []) :: (14, 8, (0, 0, 0, 0), 0, []) :: (15, 8, (0, 0, 0, 0), 5, []) :: (16, 50, (202, 3, 0, 112), 0, []) :: (19, 56, (27, 0, 0, 0), 0, []) :: jm_b238_22
def jm_l238 : jx_B := [(0, jm_b238_0), (22, jm_b238_22), (27, jm_b238_27), (64, jm_b238_64), (71, jm_b238_71), (80, jm_b238_80), (90, jm_b238_90), (100, jm_b238_100), (121, jm_b238_121), (139, jm_b238_139), (140, jm_b238_140), (155, jm_b238_155), (156, jm_b238_156)]
def jm_i238 : jx_M := (⟨"OfDifferentMindsModel", "rider", "(II)I"⟩, prog_13_method_40_code, 3, (some .int), 0, 3, 11, jm_l238)
theorem jm_ok238 : jx_okM 238 jm_i238 := ⟨by decide +kernel, rfl, by decide +kernel, ⟨by decide +kernel, by decide +kernel⟩, by decide +kernel, jx_mem (i := 1552) (by decide +kernel) rfl, jx_mem (i := 116) (by decide +kernel) rfl, fun _ => ⟨jx_mem (i := 1550) (by decide +kernel) rfl, jx_mem (i := 1551) (by decide +kernel) rfl, by decide⟩, fun h => absurd h (by decide), fun h => absurd h (by decide), by decide, by decide, by decide, by decide +kernel, by decide +kernel⟩
-- OfDifferentMindsModel.view(II)I
def jm_b239_47 : List jx_E := (47, 69, (0, 0, 0, 0), 0, []) :: []
def jm_b239_37 : List jx_E := (37, 2, (0, 0, 0, 0), 0, []) :: (38, 2, (0, 0, 0, 0), 0, []) :: (39, 33, (11, 0, 0, 9), 0, []) :: (42, 0, (1, 0, 0, 0), 0, []) :: (43, 0, (2, 0, 0, 0), 0, []) :: (44, 49, (232, 4, 11, 216), 0, []) :: jm_b239_47
def jm_b239_23 : List jx_E := (23, 2, (0, 0, 0, 0), 0, []) :: (24, 33, (11, 2, 0, 13), 0, []) :: (27, 0, (2, 0, 0, 0), 0, []) :: (28, 38, (0, 0, 0, 0), 0, []) :: (29, 56, (37, 0, 0, 0), 0, []) :: (32, 9, (0, 0, 0, 0), (-2), []) :: (34, 54, (47, 0, 0, 0), 0, []) :: []
def jm_b239_21 : List jx_E := (21, 8, (0, 0, 0, 0), (-1), []) :: (22, 69, (0, 0, 0, 0), 0, []) :: []
def jm_b239_0 : List jx_E := (0, 2, (0, 0, 0, 0), 0, []) :: (1, 8, (0, 0, 0, 0), 0, []) :: (2, 34, (11, 12, 0, 102), 0, []) :: (5, 2, (0, 0, 0, 0), 0, []) :: (6, 0, (1, 0, 0, 0), 0, []) :: (7, 49, (207, 2, 11, 119), 0, []) :: (10, 55, (21, 0, 0, 0), 0, []) :: (13, 2, (0, 0, 0, 0), 0, []) :: (14, 0, (2, 0, 0, 0), 0, []) :: (15, 49, (206, 2, 11, 244), 0, []) :: (18, 56, (23, 0, 0, 0), 0, []) :: jm_b239_21
def jm_l239 : jx_B := [(0, jm_b239_0), (21, jm_b239_21), (23, jm_b239_23), (37, jm_b239_37), (47, jm_b239_47)]
def jm_i239 : jx_M := (⟨"OfDifferentMindsModel", "view", "(II)I"⟩, prog_13_method_41_code, 3, (some .int), 0, 3, 11, jm_l239)
theorem jm_ok239 : jx_okM 239 jm_i239 := ⟨by decide +kernel, rfl, by decide +kernel, ⟨by decide +kernel, by decide +kernel⟩, by decide +kernel, jx_mem (i := 1567) (by decide +kernel) rfl, jx_mem (i := 116) (by decide +kernel) rfl, fun _ => ⟨jx_mem (i := 1565) (by decide +kernel) rfl, jx_mem (i := 1566) (by decide +kernel) rfl, by decide⟩, fun h => absurd h (by decide), fun h => absurd h (by decide), by decide, by decide, by decide, by decide +kernel, by decide +kernel⟩
end
section
/-! ===== methods 240 .. as entries ===== -/
-- OfDifferentMindsModel.sheet(IIII)I
def jm_b240_175 : List jx_E := (175, 69, (0, 0, 0, 0), 0, []) :: []
def jm_b240_173 : List jx_E := (173, 1, (5, 0, 0, 0), 0, []) :: jm_b240_175
def jm_b240_163 : List jx_E := (163, 0, (1, 0, 0, 0), 0, []) :: (164, 8, (0, 0, 0, 0), 3, []) :: (165, 62, (173, 0, 0, 0), 0, []) :: (168, 9, (0, 0, 0, 0), (-3), []) :: (170, 54, (175, 0, 0, 0), 0, []) :: []
def jm_b240_109 : List jx_E := (109, 41, (0, 0, 0, 0), 0, []) :: (110, 2, (0, 0, 0, 0), 0, []) :: (111, 33, (11, 0, 0, 9), 0, []) :: (114, 8, (0, 0, 0, 0), 4, []) :: (115, 1, (7, 0, 0, 0), 0, []) :: (117, 14, (0, 0, 0, 0), 0, []) :: (118, 2, (0, 0, 0, 0), 0, []) :: (119, 33, (11, 0, 0, 9), 0, []) :: (122, 8, (0, 0, 0, 0), 4, []) :: (123, 1, (7, 0, 0, 0), 0, []) :: (125, 14, (0, 0, 0, 0), 0, []) :: (126, 38, (0, 0, 0, 0), 0, []) :: (127, 2, (0, 0, 0, 0), 0, []) :: (128, 33, (11, 6, 0, 19), 0, []) :: (131, 1, (7, 0, 0, 0), 0, []) :: (133, 38, (0, 0, 0, 0), 0, []) :: (134, 73, (311, 0, 0, 231), 0, []) :: (137, 41, (0, 0, 0, 0), 0, []) :: (138, 1, (5, 0, 0, 0), 0, []) :: (140, 2, (0, 0, 0, 0), 0, []) :: (141, 33, (11, 6, 0, 19), 0, []) :: (144, 1, (7, 0, 0, 0), 0, []) :: (146, 38, (0, 0, 0, 0), 0, []) :: (147, 14, (0, 0, 0, 0), 0, []) :: (148, 5, (5, 0, 0, 0), 0, []) :: (150, 1, (6, 0, 0, 0), 0, []) :: (152, 1, (4, 0, 0, 0), 0, []) :: (154, 14, (0, 0, 0, 0), 0, []) :: (155, 5, (6, 0, 0, 0), 0, []) :: (157, 13, (7, 0, 0, 0), 1, []) :: (160, 54, (43, 0, 0, 0), 0, []) :: []
def jm_b240_98 : List jx_E := (98, 8, (0, 0, 0, 0), 1, []) :: (99, 9, (0, 0, 0, 0), 99, []) :: (101, 1, (8, 0, 0, 0), 0, []) :: (103, 73, (311, 0, 0, 231), 0, []) :: (106, 72, (310, 0, 0, 254), 0, []) :: jm_b240_109
def jm_b240_94 : List jx_E := (94, 8, (0, 0, 0, 0), 1, []) :: (95, 54, (109, 0, 0, 0), 0, []) :: []
def jm_b240_75 : List jx_E := (75, 5, (8, 0, 0, 0), 0, []) :: (77, 2, (0, 0, 0, 0), 0, []) :: (78, 33, (11, 6, 0, 19), 0, []) :: (81, 1, (7, 0, 0, 0), 0, []) :: (83, 0, (1, 0, 0, 0), 0, []) :: (84, 8, (0, 0, 0, 0), 3, []) :: (85, 61, (94, 0, 0, 0), 0, []) :: (88, 1, (7, 0, 0, 0), 0, []) :: (90, 0, (2, 0, 0, 0), 0, []) :: (91, 63, (98, 0, 0, 0), 0, []) :: jm_b240_94
def jm_b240_73 : List jx_E := (73, 1, (6, 0, 0, 0), 0, []) :: jm_b240_75
def jm_b240_62 : List jx_E := (62, 0, (1, 0, 0, 0), 0, []) :: (63, 8, (0, 0, 0, 0), 1, []) :: (64, 62, (73, 0, 0, 0), 0, []) :: (67, 1, (6, 0, 0, 0), 0, []) :: (69, 27, (0, 0, 0, 0), 0, []) :: (70, 54, (75, 0, 0, 0), 0, []) :: []
def jm_b240_43 : List jx_E := (43, 1, (7, 0, 0, 0), 0, []) :: (45, 2, (0, 0, 0, 0), 0, []) :: (46, 32, (11, 5, 0, 116), 0, []) :: (49, 64, (163, 0, 0, 0), 0, []) :: (52, 0, (1, 0, 0, 0), 0, []) :: (53, 56, (62, 0, 0, 0), 0, []) :: (56, 1, (6, 0, 0, 0), 0, []) :: (58, 26, (0, 0, 0, 0), 0, []) :: (59, 54, (75, 0, 0, 0), 0, []) :: []
def jm_b240_34 : List jx_E := (34, 8, (0, 0, 0, 0), 0, []) :: (35, 5, (5, 0, 0, 0), 0, []) :: (37, 0, (3, 0, 0, 0), 0, []) :: (38, 5, (6, 0, 0, 0), 0, []) :: (40, 8, (0, 0, 0, 0), 0, []) :: (41, 5, (7, 0, 0, 0), 0, []) :: jm_b240_43
def jm_b240_22 : List jx_E := (22, 0, (1, 0, 0, 0), 0, []) :: (23, 8, (0, 0, 0, 0), 3, []) :: (24, 64, (34, 0, 0, 0), 0, []) :: (27, 0, (2, 0, 0, 0), 0, []) :: (28, 58, (34, 0, 0, 0), 0, []) :: (31, 9, (0, 0, 0, 0), (-2), []) :: (33, 69, (0, 0, 0, 0), 0, []) :: []
def jm_b240_20 : List jx_E := (20, 8, (0, 0, 0, 0), (-1), []) :: (21, 69, (0, 0, 0, 0), 0, []) :: []
def jm_b240_0 : List jx_E := (0, 2, (0, 0, 0, 0), 0, []) :: (1, 8, (0, 0, 0, 0), 0, []) :: (2, 34, (11, 12, 0, 102), 0, []) :: (5, 0, (1, 0, 0, 0), 0, []) :: (6, 8, (0, 0, 0, 0), 0, []) :: (7, 8, (0, 0, 0, 0), 3, []) :: (8, 50, (202, 3, 0, 112), 0, []) :: (11, 55, (20, 0, 0, 0), 0, []) :: (14, 0, (2, 0, 0, 0), 0, []) :: (15, 9, (0, 0, 0, 0), 6, []) :: (17, 66, (22, 0, 0, 0), 0, []) :: jm_b240_20
def jm_l240 : jx_B := [(0, jm_b240_0), (20, jm_b240_20), (22, jm_b240_22), (34, jm_b240_34), (43, jm_b240_43), (62, jm_b240_62), (73, jm_b240_73), (75, jm_b240_75), (94, jm_b240_94), (98, jm_b240_98), (109, jm_b240_109), (163, jm_b240_163), (173, jm_b240_173), (175, jm_b240_175)]
def jm_i240 : jx_M := (⟨"OfDifferentMindsModel", "sheet", "(IIII)I"⟩, prog_13_method_42_code, 9, (some .int), 0, 5, 11, jm_l240)
theorem jm_ok240 : jx_okM 240 jm_i240 := ⟨by decide +kernel, rfl, by decide +kernel, ⟨by decide +kernel, by decide +kernel⟩, by decide +kernel, jx_mem (i := 1571) (by decide +kernel) rfl, jx_mem (i := 116) (by decide +kernel) rfl, fun _ => ⟨jx_mem (i := 1569) (by decide +kernel) rfl, jx_mem (i := 1570) (by decide +kernel) rfl, by decide⟩, fun h => absurd h (by decide), fun h => absurd h (by decide), by decide, by decide, by decide, by decide +kernel, by decide +kernel⟩
-- OfDifferentMindsModel.lay([I[II)V
def jm_b241_22 : List jx_E := (22, 71, (0, 0, 0, 0), 0, []) :: []
def jm_b241_2 : List jx_E := (2, 0, (3, 0, 0, 0), 0, []) :: (3, 9, (0, 0, 0, 0), 28, []) :: (5, 64, (22, 0, 0, 0), 0, []) :: (8, 2, (1, 0, 0, 0), 0, []) :: (9, 0, (2, 0, 0, 0), 0, []) :: (10, 0, (3, 0, 0, 0), 0, []) :: (11, 14, (0, 0, 0, 0), 0, []) :: (12, 2, (0, 0, 0, 0), 0, []) :: (13, 0, (3, 0, 0, 0), 0, []) :: (14, 38, (0, 0, 0, 0), 0, []) :: (15, 41, (0, 0, 0, 0), 0, []) :: (16, 13, (3, 0, 0, 0), 1, []) :: (19, 54, (2, 0, 0, 0), 0, []) :: []
def jm_b241_0 : List jx_E := (0, 8, (0, 0, 0, 0), 0, []) :: (1, 4, (3, 0, 0, 0), 0, []) :: jm_b241_2
def jm_l241 : jx_B := [(0, jm_b241_0), (2, jm_b241_2), (22, jm_b241_22)]
def jm_i241 : jx_M := (⟨"OfDifferentMindsModel", "lay", "([I[II)V"⟩, prog_13_method_43_code, 4, none, 2, 3, 11, jm_l241)
theorem jm_ok241 : jx_okM 241 jm_i241 := ⟨by decide +kernel, rfl, by decide +kernel, ⟨by decide +kernel, by decide +kernel⟩, by decide +kernel, jx_mem (i := 1596) (by decide +kernel) rfl, jx_mem (i := 116) (by decide +kernel) rfl, fun h => absurd h (by decide), fun h => absurd h (by decide), fun _ => jx_mem (i := 1595) (by decide +kernel) rfl, by decide, by decide, by decide, by decide +kernel, by decide +kernel⟩
-- OfDifferentMindsModel.remember([I)V
def jm_b242_49 : List jx_E := (49, 2, (1, 0, 0, 0), 0, []) :: (50, 2, (0, 0, 0, 0), 0, []) :: (51, 33, (11, 28, 0, 50), 0, []) :: (54, 9, (0, 0, 0, 0), 28, []) :: (56, 2, (0, 0, 0, 0), 0, []) :: (57, 32, (11, 29, 0, 177), 0, []) :: (60, 16, (0, 0, 0, 0), 0, []) :: (61, 50, (241, 3, 0, 257), 0, []) :: (64, 2, (0, 0, 0, 0), 0, []) :: (65, 28, (0, 0, 0, 0), 0, []) :: (66, 32, (11, 29, 0, 177), 0, []) :: (69, 8, (0, 0, 0, 0), 1, []) :: (70, 14, (0, 0, 0, 0), 0, []) :: (71, 34, (11, 29, 0, 177), 0, []) :: (74, 71, (0, 0, 0, 0), 0, []) :: []
def jm_b242_39 : List jx_E := (39, 2, (0, 0, 0, 0), 0, []) :: (40, 28, (0, 0, 0, 0), 0, []) :: (41, 32, (11, 29, 0, 177), 0, []) :: (44, 8, (0, 0, 0, 0), 1, []) :: (45, 15, (0, 0, 0, 0), 0, []) :: (46, 34, (11, 29, 0, 177), 0, []) :: jm_b242_49
def jm_b242_11 : List jx_E := (11, 0, (2, 0, 0, 0), 0, []) :: (12, 10, (0, 0, 0, 0), 308, []) :: (15, 64, (39, 0, 0, 0), 0, []) :: (18, 2, (0, 0, 0, 0), 0, []) :: (19, 33, (11, 28, 0, 50), 0, []) :: (22, 0, (2, 0, 0, 0), 0, []) :: (23, 2, (0, 0, 0, 0), 0, []) :: (24, 33, (11, 28, 0, 50), 0, []) :: (27, 0, (2, 0, 0, 0), 0, []) :: (28, 9, (0, 0, 0, 0), 28, []) :: (30, 14, (0, 0, 0, 0), 0, []) :: (31, 38, (0, 0, 0, 0), 0, []) :: (32, 41, (0, 0, 0, 0), 0, []) :: (33, 13, (2, 0, 0, 0), 1, []) :: (36, 54, (11, 0, 0, 0), 0, []) :: []
def jm_b242_0 : List jx_E := (0, 2, (0, 0, 0, 0), 0, []) :: (1, 32, (11, 29, 0, 177), 0, []) :: (4, 9, (0, 0, 0, 0), 12, []) :: (6, 62, (49, 0, 0, 0), 0, []) :: (9, 8, (0, 0, 0, 0), 0, []) :: (10, 4, (2, 0, 0, 0), 0, []) :: jm_b242_11
def jm_l242 : jx_B := [(0, jm_b242_0), (11, jm_b242_11), (39, jm_b242_39), (49, jm_b242_49)]
def jm_i242 : jx_M := (⟨"OfDifferentMindsModel", "remember", "([I)V"⟩, prog_13_method_44_code, 3, none, 0, 2, 11, jm_l242)
theorem jm_ok242 : jx_okM 242 jm_i242 := ⟨by decide +kernel, rfl, by decide +kernel, ⟨by decide +kernel, by decide +kernel⟩, by decide +kernel, jx_mem (i := 1593) (by decide +kernel) rfl, jx_mem (i := 116) (by decide +kernel) rfl, fun _ => ⟨jx_mem (i := 1592) (by decide +kernel) rfl, jx_mem (i := 67) (by decide +kernel) rfl, by decide⟩, fun h => absurd h (by decide), fun h => absurd h (by decide), by decide, by decide, by decide, by decide +kernel, by decide +kernel⟩
-- OfDifferentMindsModel.refusesMount(II)I
def jm_b243_63 : List jx_E := (63, 69, (0, 0, 0, 0), 0, []) :: []
def jm_b243_61 : List jx_E := (61, 9, (0, 0, 0, 0), (-3), []) :: jm_b243_63
def jm_b243_21 : List jx_E := (21, 2, (0, 0, 0, 0), 0, []) :: (22, 33, (11, 0, 0, 9), 0, []) :: (25, 9, (0, 0, 0, 0), 10, []) :: (27, 0, (1, 0, 0, 0), 0, []) :: (28, 14, (0, 0, 0, 0), 0, []) :: (29, 38, (0, 0, 0, 0), 0, []) :: (30, 2, (0, 0, 0, 0), 0, []) :: (31, 33, (11, 0, 0, 9), 0, []) :: (34, 8, (0, 0, 0, 0), 0, []) :: (35, 38, (0, 0, 0, 0), 0, []) :: (36, 62, (61, 0, 0, 0), 0, []) :: (39, 2, (0, 0, 0, 0), 0, []) :: (40, 33, (11, 0, 0, 9), 0, []) :: (43, 9, (0, 0, 0, 0), 10, []) :: (45, 0, (2, 0, 0, 0), 0, []) :: (46, 14, (0, 0, 0, 0), 0, []) :: (47, 38, (0, 0, 0, 0), 0, []) :: (48, 2, (0, 0, 0, 0), 0, []) :: (49, 33, (11, 0, 0, 9), 0, []) :: (52, 8, (0, 0, 0, 0), 0, []) :: (53, 38, (0, 0, 0, 0), 0, []) :: (54, 62, (61, 0, 0, 0), 0, []) :: (57, 8, (0, 0, 0, 0), 0, []) :: (58, 54, (63, 0, 0, 0), 0, []) :: []
def jm_b243_11 : List jx_E := (11, 2, (0, 0, 0, 0), 0, []) :: (12, 49, (210, 1, 11, 265), 0, []) :: (15, 55, (21, 0, 0, 0), 0, []) :: (18, 9, (0, 0, 0, 0), (-2), []) :: (20, 69, (0, 0, 0, 0), 0, []) :: []
def jm_b243_0 : List jx_E := (0, 2, (0, 0, 0, 0), 0, []) :: (1, 0, (1, 0, 0, 0), 0, []) :: (2, 0, (2, 0, 0, 0), 0, []) :: (3, 49, (208, 3, 11, 261), 0, []) :: (6, 56, (11, 0, 0, 0), 0, []) :: (9, 8, (0, 0, 0, 0), (-1), []) :: (10, 69, (0, 0, 0, 0), 0, []) :: []
def jm_l243 : jx_B := [(0, jm_b243_0), (11, jm_b243_11), (21, jm_b243_21), (61, jm_b243_61), (63, jm_b243_63)]
def jm_i243 : jx_M := (⟨"OfDifferentMindsModel", "refusesMount", "(II)I"⟩, prog_13_method_45_code, 3, (some .int), 0, 3, 11, jm_l243)
theorem jm_ok243 : jx_okM 243 jm_i243 := ⟨by decide +kernel, rfl, by decide +kernel, ⟨by decide +kernel, by decide +kernel⟩, by decide +kernel, jx_mem (i := 1581) (by decide +kernel) rfl, jx_mem (i := 116) (by decide +kernel) rfl, fun _ => ⟨jx_mem (i := 1580) (by decide +kernel) rfl, jx_mem (i := 64) (by decide +kernel) rfl, by decide⟩, fun h => absurd h (by decide), fun h => absurd h (by decide), by decide, by decide, by decide, by decide +kernel, by decide +kernel⟩
-- OfDifferentMindsModel.goMount(II)V
def jm_b244_0 : List jx_E := (0, 2, (0, 0, 0, 0), 0, []) :: (1, 33, (11, 0, 0, 9), 0, []) :: (4, 8, (0, 0, 0, 0), 1, []) :: (5, 0, (1, 0, 0, 0), 0, []) :: (6, 41, (0, 0, 0, 0), 0, []) :: (7, 2, (0, 0, 0, 0), 0, []) :: (8, 33, (11, 0, 0, 9), 0, []) :: (11, 8, (0, 0, 0, 0), 2, []) :: (12, 0, (2, 0, 0, 0), 0, []) :: (13, 41, (0, 0, 0, 0), 0, []) :: (14, 2, (0, 0, 0, 0), 0, []) :: (15, 33, (11, 0, 0, 9), 0, []) :: (18, 8, (0, 0, 0, 0), 3, []) :: (19, 8, (0, 0, 0, 0), 0, []) :: (20, 41, (0, 0, 0, 0), 0, []) :: (21, 71, (0, 0, 0, 0), 0, []) :: []
def jm_l244 : jx_B := [(0, jm_b244_0)]
def jm_i244 : jx_M := (⟨"OfDifferentMindsModel", "goMount", "(II)V"⟩, prog_13_method_46_code, 3, none, 0, 3, 11, jm_l244)
theorem jm_ok244 : jx_okM 244 jm_i244 := ⟨by decide +kernel, rfl, by decide +kernel, ⟨by decide +kernel, by decide +kernel⟩, by decide +kernel, jx_mem (i := 1600) (by decide +kernel) rfl, jx_mem (i := 116) (by decide +kernel) rfl, fun _ => ⟨jx_mem (i := 1599) (by decide +kernel) rfl, jx_mem (i := 68) (by decide +kernel) rfl, by decide⟩, fun h => absurd h (by decide), fun h => absurd h (by decide), by decide, by decide, by decide, by decide +kernel, by decide +kernel⟩
-- OfDifferentMindsModel.mount(II)I
def jm_b245_80 : List jx_E := (80, 69, (0, 0, 0, 0), 0, []) :: []
def jm_b245_79 : List jx_E := (79, 8, (0, 0, 0, 0), 0, []) :: jm_b245_80
def jm_b245_18 : List jx_E := (18, 2, (0, 0, 0, 0), 0, []) :: (19, 2, (0, 0, 0, 0), 0, []) :: (20, 33, (11, 0, 0, 9), 0, []) :: (23, 49, (242, 2, 11, 271), 0, []) :: (26, 2, (0, 0, 0, 0), 0, []) :: (27, 0, (1, 0, 0, 0), 0, []) :: (28, 0, (2, 0, 0, 0), 0, []) :: (29, 49, (244, 3, 11, 275), 0, []) :: (32, 2, (0, 0, 0, 0), 0, []) :: (33, 33, (11, 0, 0, 9), 0, []) :: (36, 8, (0, 0, 0, 0), 0, []) :: (37, 38, (0, 0, 0, 0), 0, []) :: (38, 5, (4, 0, 0, 0), 0, []) :: (40, 2, (0, 0, 0, 0), 0, []) :: (41, 33, (11, 2, 0, 13), 0, []) :: (44, 1, (4, 0, 0, 0), 0, []) :: (46, 38, (0, 0, 0, 0), 0, []) :: (47, 60, (79, 0, 0, 0), 0, []) :: (50, 2, (0, 0, 0, 0), 0, []) :: (51, 2, (0, 0, 0, 0), 0, []) :: (52, 33, (11, 0, 0, 9), 0, []) :: (55, 0, (1, 0, 0, 0), 0, []) :: (56, 1, (4, 0, 0, 0), 0, []) :: (58, 49, (232, 4, 11, 216), 0, []) :: (61, 2, (0, 0, 0, 0), 0, []) :: (62, 2, (0, 0, 0, 0), 0, []) :: (63, 33, (11, 0, 0, 9), 0, []) :: (66, 0, (2, 0, 0, 0), 0, []) :: (67, 1, (4, 0, 0, 0), 0, []) :: (69, 49, (232, 4, 11, 216), 0, []) :: (72, 61, (79, 0, 0, 0), 0, []) :: (75, 8, (0, 0, 0, 0), 1, []) :: (76, 54, (80, 0, 0, 0), 0, []) :: []
def jm_b245_0 : List jx_E := (0, 2, (0, 0, 0, 0), 0, []) :: (1, 8, (0, 0, 0, 0), 0, []) :: (2, 34, (11, 12, 0, 102), 0, []) :: (5, 2, (0, 0, 0, 0), 0, []) :: (6, 0, (1, 0, 0, 0), 0, []) :: (7, 0, (2, 0, 0, 0), 0, []) :: (8, 49, (243, 3, 11, 268), 0, []) :: (11, 4, (3, 0, 0, 0), 0, []) :: (12, 0, (3, 0, 0, 0), 0, []) :: (13, 58, (18, 0, 0, 0), 0, []) :: (16, 0, (3, 0, 0, 0), 0, []) :: (17, 69, (0, 0, 0, 0), 0, []) :: []
def jm_l245 : jx_B := [(0, jm_b245_0), (18, jm_b245_18), (79, jm_b245_79), (80, jm_b245_80)]
def jm_i245 : jx_M := (⟨"OfDifferentMindsModel", "mount", "(II)I"⟩, prog_13_method_47_code, 5, (some .int), 0, 3, 11, jm_l245)
theorem jm_ok245 : jx_okM 245 jm_i245 := ⟨by decide +kernel, rfl, by decide +kernel, ⟨by decide +kernel, by decide +kernel⟩, by decide +kernel, jx_mem (i := 1577) (by decide +kernel) rfl, jx_mem (i := 116) (by decide +kernel) rfl, fun _ => ⟨jx_mem (i := 1575) (by decide +kernel) rfl, jx_mem (i := 1576) (by decide +kernel) rfl, by decide⟩, fun h => absurd h (by decide), fun h => absurd h (by decide), by decide, by decide, by decide, by decide +kernel, by decide +kernel⟩
-- OfDifferentMindsModel.goDown()V
def jm_b246_0 : List jx_E := (0, 2, (0, 0, 0, 0), 0, []) :: (1, 33, (11, 0, 0, 9), 0, []) :: (4, 8, (0, 0, 0, 0), 1, []) :: (5, 8, (0, 0, 0, 0), (-1), []) :: (6, 41, (0, 0, 0, 0), 0, []) :: (7, 2, (0, 0, 0, 0), 0, []) :: (8, 33, (11, 0, 0, 9), 0, []) :: (11, 8, (0, 0, 0, 0), 2, []) :: (12, 8, (0, 0, 0, 0), (-1), []) :: (13, 41, (0, 0, 0, 0), 0, []) :: (14, 2, (0, 0, 0, 0), 0, []) :: (15, 33, (11, 0, 0, 9), 0, []) :: (18, 8, (0, 0, 0, 0), 3, []) :: (19, 8, (0, 0, 0, 0), 0, []) :: (20, 41, (0, 0, 0, 0), 0, []) :: (21, 71, (0, 0, 0, 0), 0, []) :: []
def jm_l246 : jx_B := [(0, jm_b246_0)]
def jm_i246 : jx_M := (⟨"OfDifferentMindsModel", "goDown", "()V"⟩, prog_13_method_48_code, 1, none, 0, 1, 11, jm_l246)
theorem jm_ok246 : jx_okM 246 jm_i246 := ⟨by decide +kernel, rfl, by decide +kernel, ⟨by decide +kernel, by decide +kernel⟩, by decide +kernel, jx_mem (i := 1608) (by decide +kernel) rfl, jx_mem (i := 116) (by decide +kernel) rfl, fun _ => ⟨jx_mem (i := 1607) (by decide +kernel) rfl, jx_mem (i := 69) (by decide +kernel) rfl, by decide⟩, fun h => absurd h (by decide), fun h => absurd h (by decide), by decide, by decide, by decide, by decide +kernel, by decide +kernel⟩
-- OfDifferentMindsModel.dismount()I
def jm_b247_15 : List jx_E := (15, 2, (0, 0, 0, 0), 0, []) :: (16, 2, (0, 0, 0, 0), 0, []) :: (17, 33, (11, 0, 0, 9), 0, []) :: (20, 49, (242, 2, 11, 271), 0, []) :: (23, 2, (0, 0, 0, 0), 0, []) :: (24, 49, (246, 1, 11, 279), 0, []) :: (27, 2, (0, 0, 0, 0), 0, []) :: (28, 33, (11, 0, 0, 9), 0, []) :: (31, 8, (0, 0, 0, 0), 0, []) :: (32, 38, (0, 0, 0, 0), 0, []) :: (33, 69, (0, 0, 0, 0), 0, []) :: []
def jm_b247_0 : List jx_E := (0, 2, (0, 0, 0, 0), 0, []) :: (1, 8, (0, 0, 0, 0), 0, []) :: (2, 34, (11, 12, 0, 102), 0, []) :: (5, 2, (0, 0, 0, 0), 0, []) :: (6, 49, (210, 1, 11, 265), 0, []) :: (9, 56, (15, 0, 0, 0), 0, []) :: (12, 9, (0, 0, 0, 0), (-2), []) :: (14, 69, (0, 0, 0, 0), 0, []) :: []
def jm_l247 : jx_B := [(0, jm_b247_0), (15, jm_b247_15)]
def jm_i247 : jx_M := (⟨"OfDifferentMindsModel", "dismount", "()I"⟩, prog_13_method_49_code, 1, (some .int), 0, 1, 11, jm_l247)
theorem jm_ok247 : jx_okM 247 jm_i247 := ⟨by decide +kernel, rfl, by decide +kernel, ⟨by decide +kernel, by decide +kernel⟩, by decide +kernel, jx_mem (i := 1604) (by decide +kernel) rfl, jx_mem (i := 116) (by decide +kernel) rfl, fun _ => ⟨jx_mem (i := 1602) (by decide +kernel) rfl, jx_mem (i := 1603) (by decide +kernel) rfl, by decide⟩, fun h => absurd h (by decide), fun h => absurd h (by decide), by decide, by decide, by decide, by decide +kernel, by decide +kernel⟩
-- OfDifferentMindsModel.goRide([II)I
def jm_b248_42 : List jx_E := (42, 0, (3, 0, 0, 0), 0, []) :: (43, 69, (0, 0, 0, 0), 0, []) :: []
def jm_b248_36 : List jx_E := (36, 13, (3, 0, 0, 0), 1, []) :: (39, 54, (7, 0, 0, 0), 0, []) :: []
def jm_b248_7 : List jx_E := (7, 0, (3, 0, 0, 0), 0, []) :: (8, 0, (2, 0, 0, 0), 0, []) :: (9, 64, (42, 0, 0, 0), 0, []) :: (12, 2, (0, 0, 0, 0), 0, []) :: (13, 2, (1, 0, 0, 0), 0, []) :: (14, 49, (236, 2, 11, 285), 0, []) :: (17, 55, (42, 0, 0, 0), 0, []) :: (20, 2, (0, 0, 0, 0), 0, []) :: (21, 32, (11, 27, 0, 228), 0, []) :: (24, 8, (0, 0, 0, 0), (-1), []) :: (25, 61, (36, 0, 0, 0), 0, []) :: (28, 2, (0, 0, 0, 0), 0, []) :: (29, 2, (0, 0, 0, 0), 0, []) :: (30, 32, (11, 27, 0, 228), 0, []) :: (33, 34, (11, 31, 0, 282), 0, []) :: jm_b248_36
def jm_b248_0 : List jx_E := (0, 8, (0, 0, 0, 0), 0, []) :: (1, 4, (3, 0, 0, 0), 0, []) :: (2, 2, (0, 0, 0, 0), 0, []) :: (3, 8, (0, 0, 0, 0), (-1), []) :: (4, 34, (11, 31, 0, 282), 0, []) :: jm_b248_7
def jm_l248 : jx_B := [(0, jm_b248_0), (7, jm_b248_7), (36, jm_b248_36), (42, jm_b248_42)]
def jm_i248 : jx_M := (⟨"OfDifferentMindsModel", "goRide", "([II)I"⟩, prog_13_method_50_code, 4, (some .int), 0, 3, 11, jm_l248)
theorem jm_ok248 : jx_okM 248 jm_i248 := ⟨by decide +kernel, rfl, by decide +kernel, ⟨by decide +kernel, by decide +kernel⟩, by decide +kernel, jx_mem (i := 1616) (by decide +kernel) rfl, jx_mem (i := 116) (by decide +kernel) rfl, fun _ => ⟨jx_mem (i := 1615) (by decide +kernel) rfl, jx_mem (i := 70) (by decide +kernel) rfl, by decide⟩, fun h => absurd h (by decide), fun h => absurd h (by decide), by decide, by decide, by decide, by decide +kernel, by decide +kernel⟩
-- OfDifferentMindsModel.ride(I)I
def jm_b249_87 : List jx_E := (87, 49, (205, 2, 11, 291), 0, []) :: (90, 2, (0, 0, 0, 0), 0, []) :: (91, 2, (0, 0, 0, 0), 0, []) :: (92, 32, (11, 31, 0, 282), 0, []) :: (95, 49, (205, 2, 11, 291), 0, []) :: (98, 0, (2, 0, 0, 0), 0, []) :: (99, 69, (0, 0, 0, 0), 0, []) :: []
def jm_b249_86 : List jx_E := (86, 8, (0, 0, 0, 0), 0, []) :: jm_b249_87
def jm_b249_61 : List jx_E := (61, 2, (0, 0, 0, 0), 0, []) :: (62, 8, (0, 0, 0, 0), 0, []) :: (63, 34, (11, 11, 0, 106), 0, []) :: (66, 2, (0, 0, 0, 0), 0, []) :: (67, 2, (0, 0, 0, 0), 0, []) :: (68, 33, (11, 0, 0, 9), 0, []) :: (71, 8, (0, 0, 0, 0), 0, []) :: (72, 38, (0, 0, 0, 0), 0, []) :: (73, 49, (205, 2, 11, 291), 0, []) :: (76, 2, (0, 0, 0, 0), 0, []) :: (77, 0, (2, 0, 0, 0), 0, []) :: (78, 0, (1, 0, 0, 0), 0, []) :: (79, 64, (86, 0, 0, 0), 0, []) :: (82, 8, (0, 0, 0, 0), 1, []) :: (83, 54, (87, 0, 0, 0), 0, []) :: []
def jm_b249_27 : List jx_E := (27, 2, (0, 0, 0, 0), 0, []) :: (28, 33, (11, 0, 0, 9), 0, []) :: (31, 2, (0, 0, 0, 0), 0, []) :: (32, 33, (11, 30, 0, 53), 0, []) :: (35, 8, (0, 0, 0, 0), 0, []) :: (36, 50, (241, 3, 0, 257), 0, []) :: (39, 2, (0, 0, 0, 0), 0, []) :: (40, 2, (0, 0, 0, 0), 0, []) :: (41, 33, (11, 0, 0, 9), 0, []) :: (44, 0, (1, 0, 0, 0), 0, []) :: (45, 49, (248, 3, 11, 288), 0, []) :: (48, 4, (2, 0, 0, 0), 0, []) :: (49, 0, (2, 0, 0, 0), 0, []) :: (50, 60, (61, 0, 0, 0), 0, []) :: (53, 2, (0, 0, 0, 0), 0, []) :: (54, 2, (0, 0, 0, 0), 0, []) :: (55, 33, (11, 30, 0, 53), 0, []) :: (58, 49, (242, 2, 11, 271), 0, []) :: jm_b249_61
def jm_b249_17 : List jx_E := (17, 2, (0, 0, 0, 0), 0, []) :: (18, 49, (210, 1, 11, 265), 0, []) :: (21, 56, (27, 0, 0, 0), 0, []) :: (24, 9, (0, 0, 0, 0), (-2), []) :: (26, 69, (0, 0, 0, 0), 0, []) :: []
def jm_b249_0 : List jx_E := (0, 2, (0, 0, 0, 0), 0, []) :: (1, 8, (0, 0, 0, 0), 0, []) :: (2, 34, (11, 12, 0, 102), 0, []) :: (5, 0, (1, 0, 0, 0), 0, []) :: (6, 8, (0, 0, 0, 0), 0, []) :: (7, 9, (0, 0, 0, 0), 99, []) :: (9, 50, (202, 3, 0, 112), 0, []) :: (12, 56, (17, 0, 0, 0), 0, []) :: (15, 8, (0, 0, 0, 0), (-1), []) :: (16, 69, (0, 0, 0, 0), 0, []) :: []
def jm_l249 : jx_B := [(0, jm_b249_0), (17, jm_b249_17), (27, jm_b249_27), (61, jm_b249_61), (86, jm_b249_86), (87, jm_b249_87)]
def jm_i249 : jx_M := (⟨"OfDifferentMindsModel", "ride", "(I)I"⟩, prog_13_method_51_code, 3, (some .int), 0, 2, 11, jm_l249)
theorem jm_ok249 : jx_okM 249 jm_i249 := ⟨by decide +kernel, rfl, by decide +kernel, ⟨by decide +kernel, by decide +kernel⟩, by decide +kernel, jx_mem (i := 1612) (by decide +kernel) rfl, jx_mem (i := 116) (by decide +kernel) rfl, fun _ => ⟨jx_mem (i := 1610) (by decide +kernel) rfl, jx_mem (i := 1611) (by decide +kernel) rfl, by decide⟩, fun h => absurd h (by decide), fun h => absurd h (by decide), by decide, by decide, by decide, by decide +kernel, by decide +kernel⟩
-- OfDifferentMindsModel.isWay(II)Z
def jm_b250_0 : List jx_E := (0, 0, (2, 0, 0, 0), 0, []) :: (1, 8, (0, 0, 0, 0), 0, []) :: (2, 2, (0, 0, 0, 0), 0, []) :: (3, 33, (11, 2, 0, 13), 0, []) :: (6, 0, (1, 0, 0, 0), 0, []) :: (7, 38, (0, 0, 0, 0), 0, []) :: (8, 8, (0, 0, 0, 0), 1, []) :: (9, 15, (0, 0, 0, 0), 0, []) :: (10, 50, (202, 3, 0, 112), 0, []) :: (13, 70, (0, 0, 0, 0), 0, []) :: []
def jm_l250 : jx_B := [(0, jm_b250_0)]
def jm_i250 : jx_M := (⟨"OfDifferentMindsModel", "isWay", "(II)Z"⟩, prog_13_method_52_code, 3, (some .boolean), 0, 3, 11, jm_l250)
theorem jm_ok250 : jx_okM 250 jm_i250 := ⟨by decide +kernel, rfl, by decide +kernel, ⟨by decide +kernel, by decide +kernel⟩, by decide +kernel, jx_mem (i := 1652) (by decide +kernel) rfl, jx_mem (i := 116) (by decide +kernel) rfl, fun _ => ⟨jx_mem (i := 1651) (by decide +kernel) rfl, jx_mem (i := 78) (by decide +kernel) rfl, by decide⟩, fun h => absurd h (by decide), fun h => absurd h (by decide), by decide, by decide, by decide, by decide +kernel, by decide +kernel⟩
-- OfDifferentMindsModel.refusesWalk(II)I
def jm_b251_47 : List jx_E := (47, 69, (0, 0, 0, 0), 0, []) :: []
def jm_b251_45 : List jx_E := (45, 9, (0, 0, 0, 0), (-3), []) :: jm_b251_47
def jm_b251_24 : List jx_E := (24, 2, (0, 0, 0, 0), 0, []) :: (25, 2, (0, 0, 0, 0), 0, []) :: (26, 33, (11, 0, 0, 9), 0, []) :: (29, 9, (0, 0, 0, 0), 10, []) :: (31, 0, (1, 0, 0, 0), 0, []) :: (32, 14, (0, 0, 0, 0), 0, []) :: (33, 38, (0, 0, 0, 0), 0, []) :: (34, 0, (2, 0, 0, 0), 0, []) :: (35, 49, (250, 3, 11, 294), 0, []) :: (38, 55, (45, 0, 0, 0), 0, []) :: (41, 8, (0, 0, 0, 0), 0, []) :: (42, 54, (47, 0, 0, 0), 0, []) :: []
def jm_b251_10 : List jx_E := (10, 2, (0, 0, 0, 0), 0, []) :: (11, 33, (11, 0, 0, 9), 0, []) :: (14, 0, (1, 0, 0, 0), 0, []) :: (15, 50, (209, 2, 0, 250), 0, []) :: (18, 55, (24, 0, 0, 0), 0, []) :: (21, 9, (0, 0, 0, 0), (-2), []) :: (23, 69, (0, 0, 0, 0), 0, []) :: []
def jm_b251_0 : List jx_E := (0, 2, (0, 0, 0, 0), 0, []) :: (1, 0, (1, 0, 0, 0), 0, []) :: (2, 49, (207, 2, 11, 119), 0, []) :: (5, 56, (10, 0, 0, 0), 0, []) :: (8, 8, (0, 0, 0, 0), (-1), []) :: (9, 69, (0, 0, 0, 0), 0, []) :: []
def jm_l251 : jx_B := [(0, jm_b251_0), (10, jm_b251_10), (24, jm_b251_24), (45, jm_b251_45), (47, jm_b251_47)]
def jm_i251 : jx_M := (⟨"OfDifferentMindsModel", "refusesWalk", "(II)I"⟩, prog_13_method_53_code, 3, (some .int), 0, 3, 11, jm_l251)
theorem jm_ok251 : jx_okM 251 jm_i251 := ⟨by decide +kernel, rfl, by decide +kernel, ⟨by decide +kernel, by decide +kernel⟩, by decide +kernel, jx_mem (i := 1648) (by decide +kernel) rfl, jx_mem (i := 116) (by decide +kernel) rfl, fun _ => ⟨jx_mem (i := 1647) (by decide +kernel) rfl, jx_mem (i := 77) (by decide +kernel) rfl, by decide⟩, fun h => absurd h (by decide), fun h => absurd h (by decide), by decide, by decide, by decide, by decide +kernel, by decide +kernel⟩
-- OfDifferentMindsModel.goWalk(II)I
def jm_b252_0 : List jx_E := (0, 2, (0, 0, 0, 0), 0, []) :: (1, 33, (11, 0, 0, 9), 0, []) :: (4, 9, (0, 0, 0, 0), 10, []) :: (6, 0, (1, 0, 0, 0), 0, []) :: (7, 14, (0, 0, 0, 0), 0, []) :: (8, 2, (0, 0, 0, 0), 0, []) :: (9, 33, (11, 3, 0, 16), 0, []) :: (12, 8, (0, 0, 0, 0), 3, []) :: (13, 2, (0, 0, 0, 0), 0, []) :: (14, 33, (11, 0, 0, 9), 0, []) :: (17, 9, (0, 0, 0, 0), 10, []) :: (19, 0, (1, 0, 0, 0), 0, []) :: (20, 14, (0, 0, 0, 0), 0, []) :: (21, 38, (0, 0, 0, 0), 0, []) :: (22, 16, (0, 0, 0, 0), 0, []) :: (23, 0, (2, 0, 0, 0), 0, []) :: (24, 14, (0, 0, 0, 0), 0, []) :: (25, 38, (0, 0, 0, 0), 0, []) :: (26, 41, (0, 0, 0, 0), 0, []) :: (27, 2, (0, 0, 0, 0), 0, []) :: (28, 33, (11, 0, 0, 9), 0, []) :: (31, 9, (0, 0, 0, 0), 10, []) :: (33, 0, (1, 0, 0, 0), 0, []) :: (34, 14, (0, 0, 0, 0), 0, []) :: (35, 38, (0, 0, 0, 0), 0, []) :: (36, 69, (0, 0, 0, 0), 0, []) :: []
def jm_l252 : jx_B := [(0, jm_b252_0)]
def jm_i252 : jx_M := (⟨"OfDifferentMindsModel", "goWalk", "(II)I"⟩, prog_13_method_54_code, 3, (some .int), 0, 3, 11, jm_l252)
theorem jm_ok252 : jx_okM 252 jm_i252 := ⟨by decide +kernel, rfl, by decide +kernel, ⟨by decide +kernel, by decide +kernel⟩, by decide +kernel, jx_mem (i := 1656) (by decide +kernel) rfl, jx_mem (i := 116) (by decide +kernel) rfl, fun _ => ⟨jx_mem (i := 1655) (by decide +kernel) rfl, jx_mem (i := 79) (by decide +kernel) rfl, by decide⟩, fun h => absurd h (by decide), fun h => absurd h (by decide), by decide, by decide, by decide, by decide +kernel, by decide +kernel⟩
-- OfDifferentMindsModel.walk(II)I
def jm_b253_18 : List jx_E := (18, 2, (0, 0, 0, 0), 0, []) :: (19, 2, (0, 0, 0, 0), 0, []) :: (20, 33, (11, 0, 0, 9), 0, []) :: (23, 49, (242, 2, 11, 271), 0, []) :: (26, 2, (0, 0, 0, 0), 0, []) :: (27, 0, (1, 0, 0, 0), 0, []) :: (28, 0, (2, 0, 0, 0), 0, []) :: (29, 49, (252, 3, 11, 300), 0, []) :: (32, 69, (0, 0, 0, 0), 0, []) :: []
def jm_b253_0 : List jx_E := (0, 2, (0, 0, 0, 0), 0, []) :: (1, 8, (0, 0, 0, 0), 0, []) :: (2, 34, (11, 12, 0, 102), 0, []) :: (5, 2, (0, 0, 0, 0), 0, []) :: (6, 0, (1, 0, 0, 0), 0, []) :: (7, 0, (2, 0, 0, 0), 0, []) :: (8, 49, (251, 3, 11, 297), 0, []) :: (11, 4, (3, 0, 0, 0), 0, []) :: (12, 0, (3, 0, 0, 0), 0, []) :: (13, 58, (18, 0, 0, 0), 0, []) :: (16, 0, (3, 0, 0, 0), 0, []) :: (17, 69, (0, 0, 0, 0), 0, []) :: []
def jm_l253 : jx_B := [(0, jm_b253_0), (18, jm_b253_18)]
def jm_i253 : jx_M := (⟨"OfDifferentMindsModel", "walk", "(II)I"⟩, prog_13_method_55_code, 4, (some .int), 0, 3, 11, jm_l253)
theorem jm_ok253 : jx_okM 253 jm_i253 := ⟨by decide +kernel, rfl, by decide +kernel, ⟨by decide +kernel, by decide +kernel⟩, by decide +kernel, jx_mem (i := 1644) (by decide +kernel) rfl, jx_mem (i := 116) (by decide +kernel) rfl, fun _ => ⟨jx_mem (i := 1642) (by decide +kernel) rfl, jx_mem (i := 1643) (by decide +kernel) rfl, by decide⟩, fun h => absurd h (by decide), fun h => absurd h (by decide), by decide, by decide, by decide, by decide +kernel, by decide +kernel⟩
-- OfDifferentMindsModel.refusesLead(II)I
def jm_b254_61 : List jx_E := (61, 69, (0, 0, 0, 0), 0, []) :: []
def jm_b254_59 : List jx_E := (59, 9, (0, 0, 0, 0), (-4), []) :: jm_b254_61
def jm_b254_37 : List jx_E := (37, 2, (0, 0, 0, 0), 0, []) :: (38, 33, (11, 0, 0, 9), 0, []) :: (41, 9, (0, 0, 0, 0), 10, []) :: (43, 0, (1, 0, 0, 0), 0, []) :: (44, 14, (0, 0, 0, 0), 0, []) :: (45, 38, (0, 0, 0, 0), 0, []) :: (46, 2, (0, 0, 0, 0), 0, []) :: (47, 33, (11, 0, 0, 9), 0, []) :: (50, 8, (0, 0, 0, 0), 0, []) :: (51, 38, (0, 0, 0, 0), 0, []) :: (52, 62, (59, 0, 0, 0), 0, []) :: (55, 8, (0, 0, 0, 0), 0, []) :: (56, 54, (61, 0, 0, 0), 0, []) :: []
def jm_b254_20 : List jx_E := (20, 2, (0, 0, 0, 0), 0, []) :: (21, 2, (0, 0, 0, 0), 0, []) :: (22, 33, (11, 0, 0, 9), 0, []) :: (25, 8, (0, 0, 0, 0), 0, []) :: (26, 38, (0, 0, 0, 0), 0, []) :: (27, 0, (2, 0, 0, 0), 0, []) :: (28, 49, (250, 3, 11, 294), 0, []) :: (31, 56, (37, 0, 0, 0), 0, []) :: (34, 9, (0, 0, 0, 0), (-3), []) :: (36, 69, (0, 0, 0, 0), 0, []) :: []
def jm_b254_10 : List jx_E := (10, 2, (0, 0, 0, 0), 0, []) :: (11, 49, (210, 1, 11, 265), 0, []) :: (14, 55, (20, 0, 0, 0), 0, []) :: (17, 9, (0, 0, 0, 0), (-2), []) :: (19, 69, (0, 0, 0, 0), 0, []) :: []
def jm_b254_0 : List jx_E := (0, 2, (0, 0, 0, 0), 0, []) :: (1, 0, (1, 0, 0, 0), 0, []) :: (2, 49, (207, 2, 11, 119), 0, []) :: (5, 56, (10, 0, 0, 0), 0, []) :: (8, 8, (0, 0, 0, 0), (-1), []) :: (9, 69, (0, 0, 0, 0), 0, []) :: []
def jm_l254 : jx_B := [(0, jm_b254_0), (10, jm_b254_10), (20, jm_b254_20), (37, jm_b254_37), (59, jm_b254_59), (61, jm_b254_61)]
def jm_i254 : jx_M := (⟨"OfDifferentMindsModel", "refusesLead", "(II)I"⟩, prog_13_method_56_code, 3, (some .int), 0, 3, 11, jm_l254)
theorem jm_ok254 : jx_okM 254 jm_i254 := ⟨by decide +kernel, rfl, by decide +kernel, ⟨by decide +kernel, by decide +kernel⟩, by decide +kernel, jx_mem (i := 1664) (by decide +kernel) rfl, jx_mem (i := 116) (by decide +kernel) rfl, fun _ => ⟨jx_mem (i := 1663) (by decide +kernel) rfl, jx_mem (i := 80) (by decide +kernel) rfl, by decide⟩, fun h => absurd h (by decide), fun h => absurd h (by decide), by decide, by decide, by decide, by decide +kernel, by decide +kernel⟩
-- OfDifferentMindsModel.goLead(II)I
def jm_b255_0 : List jx_E := (0, 2, (0, 0, 0, 0), 0, []) :: (1, 33, (11, 0, 0, 9), 0, []) :: (4, 8, (0, 0, 0, 0), 0, []) :: (5, 2, (0, 0, 0, 0), 0, []) :: (6, 0, (1, 0, 0, 0), 0, []) :: (7, 0, (2, 0, 0, 0), 0, []) :: (8, 49, (252, 3, 11, 300), 0, []) :: (11, 41, (0, 0, 0, 0), 0, []) :: (12, 2, (0, 0, 0, 0), 0, []) :: (13, 33, (11, 0, 0, 9), 0, []) :: (16, 8, (0, 0, 0, 0), 0, []) :: (17, 38, (0, 0, 0, 0), 0, []) :: (18, 69, (0, 0, 0, 0), 0, []) :: []
def jm_l255 : jx_B := [(0, jm_b255_0)]
def jm_i255 : jx_M := (⟨"OfDifferentMindsModel", "goLead", "(II)I"⟩, prog_13_method_57_code, 3, (some .int), 0, 3, 11, jm_l255)
theorem jm_ok255 : jx_okM 255 jm_i255 := ⟨by decide +kernel, rfl, by decide +kernel, ⟨by decide +kernel, by decide +kernel⟩, by decide +kernel, jx_mem (i := 1668) (by decide +kernel) rfl, jx_mem (i := 116) (by decide +kernel) rfl, fun _ => ⟨jx_mem (i := 1667) (by decide +kernel) rfl, jx_mem (i := 81) (by decide +kernel) rfl, by decide⟩, fun h => absurd h (by decide), fun h => absurd h (by decide), by decide, by decide, by decide, by decide +kernel, by decide +kernel⟩
-- OfDifferentMindsModel.lead(II)I
def jm_b256_18 : List jx_E := (18, 2, (0, 0, 0, 0), 0, []) :: (19, 2, (0, 0, 0, 0), 0, []) :: (20, 33, (11, 0, 0, 9), 0, []) :: (23, 49, (242, 2, 11, 271), 0, []) :: (26, 2, (0, 0, 0, 0), 0, []) :: (27, 0, (1, 0, 0, 0), 0, []) :: (28, 0, (2, 0, 0, 0), 0, []) :: (29, 49, (255, 3, 11, 306), 0, []) :: (32, 69, (0, 0, 0, 0), 0, []) :: []
def jm_b256_0 : List jx_E := (0, 2, (0, 0, 0, 0), 0, []) :: (1, 8, (0, 0, 0, 0), 0, []) :: (2, 34, (11, 12, 0, 102), 0, []) :: (5, 2, (0, 0, 0, 0), 0, []) :: (6, 0, (1, 0, 0, 0), 0, []) :: (7, 0, (2, 0, 0, 0), 0, []) :: (8, 49, (254, 3, 11, 303), 0, []) :: (11, 4, (3, 0, 0, 0), 0, []) :: (12, 0, (3, 0, 0, 0), 0, []) :: (13, 58, (18, 0, 0, 0), 0, []) :: (16, 0, (3, 0, 0, 0), 0, []) :: (17, 69, (0, 0, 0, 0), 0, []) :: []
def jm_l256 : jx_B := [(0, jm_b256_0), (18, jm_b256_18)]
def jm_i256 : jx_M := (⟨"OfDifferentMindsModel", "lead", "(II)I"⟩, prog_13_method_58_code, 4, (some .int), 0, 3, 11, jm_l256)
theorem jm_ok256 : jx_okM 256 jm_i256 := ⟨by decide +kernel, rfl, by decide +kernel, ⟨by decide +kernel, by decide +kernel⟩, by decide +kernel, jx_mem (i := 1660) (by decide +kernel) rfl, jx_mem (i := 116) (by decide +kernel) rfl, fun _ => ⟨jx_mem (i := 1658) (by decide +kernel) rfl, jx_mem (i := 1659) (by decide +kernel) rfl, by decide⟩, fun h => absurd h (by decide), fun h => absurd h (by decide), by decide, by decide, by decide, by decide +kernel, by decide +kernel⟩
-- OfDifferentMindsModel.isAtInn(I)Z
def jm_b257_35 : List jx_E := (35, 70, (0, 0, 0, 0), 0, []) :: []
def jm_b257_34 : List jx_E := (34, 8, (0, 0, 0, 0), 0, []) :: jm_b257_35
def jm_b257_0 : List jx_E := (0, 2, (0, 0, 0, 0), 0, []) :: (1, 33, (11, 0, 0, 9), 0, []) :: (4, 0, (1, 0, 0, 0), 0, []) :: (5, 50, (209, 2, 0, 250), 0, []) :: (8, 56, (34, 0, 0, 0), 0, []) :: (11, 2, (0, 0, 0, 0), 0, []) :: (12, 32, (11, 4, 0, 171), 0, []) :: (15, 2, (0, 0, 0, 0), 0, []) :: (16, 33, (11, 0, 0, 9), 0, []) :: (19, 9, (0, 0, 0, 0), 10, []) :: (21, 0, (1, 0, 0, 0), 0, []) :: (22, 14, (0, 0, 0, 0), 0, []) :: (23, 38, (0, 0, 0, 0), 0, []) :: (24, 50, (203, 2, 0, 309), 0, []) :: (27, 55, (34, 0, 0, 0), 0, []) :: (30, 8, (0, 0, 0, 0), 1, []) :: (31, 54, (35, 0, 0, 0), 0, []) :: []
def jm_l257 : jx_B := [(0, jm_b257_0), (34, jm_b257_34), (35, jm_b257_35)]
def jm_i257 : jx_M := (⟨"OfDifferentMindsModel", "isAtInn", "(I)Z"⟩, prog_13_method_59_code, 2, (some .boolean), 0, 2, 11, jm_l257)
theorem jm_ok257 : jx_okM 257 jm_i257 := ⟨by decide +kernel, rfl, by decide +kernel, ⟨by decide +kernel, by decide +kernel⟩, by decide +kernel, jx_mem (i := 1680) (by decide +kernel) rfl, jx_mem (i := 116) (by decide +kernel) rfl, fun _ => ⟨jx_mem (i := 1679) (by decide +kernel) rfl, jx_mem (i := 83) (by decide +kernel) rfl, by decide⟩, fun h => absurd h (by decide), fun h => absurd h (by decide), by decide, by decide, by decide, by decide +kernel, by decide +kernel⟩
-- OfDifferentMindsModel.refusesRest(I)I
def jm_b258_26 : List jx_E := (26, 69, (0, 0, 0, 0), 0, []) :: []
def jm_b258_24 : List jx_E := (24, 9, (0, 0, 0, 0), (-2), []) :: jm_b258_26
def jm_b258_12 : List jx_E := (12, 2, (0, 0, 0, 0), 0, []) :: (13, 0, (1, 0, 0, 0), 0, []) :: (14, 49, (257, 2, 11, 312), 0, []) :: (17, 55, (24, 0, 0, 0), 0, []) :: (20, 8, (0, 0, 0, 0), 0, []) :: (21, 54, (26, 0, 0, 0), 0, []) :: []
def jm_b258_0 : List jx_E := (0, 2, (0, 0, 0, 0), 0, []) :: (1, 0, (1, 0, 0, 0), 0, []) :: (2, 49, (207, 2, 11, 119), 0, []) :: (5, 56, (12, 0, 0, 0), 0, []) :: (8, 8, (0, 0, 0, 0), (-1), []) :: (9, 54, (26, 0, 0, 0), 0, []) :: []
def jm_l258 : jx_B := [(0, jm_b258_0), (12, jm_b258_12), (24, jm_b258_24), (26, jm_b258_26)]
def jm_i258 : jx_M := (⟨"OfDifferentMindsModel", "refusesRest", "(I)I"⟩, prog_13_method_60_code, 2, (some .int), 0, 2, 11, jm_l258)
theorem jm_ok258 : jx_okM 258 jm_i258 := ⟨by decide +kernel, rfl, by decide +kernel, ⟨by decide +kernel, by decide +kernel⟩, by decide +kernel, jx_mem (i := 1676) (by decide +kernel) rfl, jx_mem (i := 116) (by decide +kernel) rfl, fun _ => ⟨jx_mem (i := 1675) (by decide +kernel) rfl, jx_mem (i := 82) (by decide +kernel) rfl, by decide⟩, fun h => absurd h (by decide), fun h => absurd h (by decide), by decide, by decide, by decide, by decide +kernel, by decide +kernel⟩
-- OfDifferentMindsModel.goRest(I)I
def jm_b259_0 : List jx_E := (0, 2, (0, 0, 0, 0), 0, []) :: (1, 33, (11, 0, 0, 9), 0, []) :: (4, 8, (0, 0, 0, 0), 4, []) :: (5, 0, (1, 0, 0, 0), 0, []) :: (6, 14, (0, 0, 0, 0), 0, []) :: (7, 38, (0, 0, 0, 0), 0, []) :: (8, 4, (2, 0, 0, 0), 0, []) :: (9, 2, (0, 0, 0, 0), 0, []) :: (10, 33, (11, 0, 0, 9), 0, []) :: (13, 8, (0, 0, 0, 0), 4, []) :: (14, 0, (1, 0, 0, 0), 0, []) :: (15, 14, (0, 0, 0, 0), 0, []) :: (16, 8, (0, 0, 0, 0), 0, []) :: (17, 41, (0, 0, 0, 0), 0, []) :: (18, 2, (0, 0, 0, 0), 0, []) :: (19, 33, (11, 0, 0, 9), 0, []) :: (22, 9, (0, 0, 0, 0), 16, []) :: (24, 0, (1, 0, 0, 0), 0, []) :: (25, 14, (0, 0, 0, 0), 0, []) :: (26, 8, (0, 0, 0, 0), (-1), []) :: (27, 41, (0, 0, 0, 0), 0, []) :: (28, 0, (2, 0, 0, 0), 0, []) :: (29, 69, (0, 0, 0, 0), 0, []) :: []
def jm_l259 : jx_B := [(0, jm_b259_0)]
def jm_i259 : jx_M := (⟨"OfDifferentMindsModel", "goRest", "(I)I"⟩, prog_13_method_61_code, 3, (some .int), 0, 2, 11, jm_l259)
theorem jm_ok259 : jx_okM 259 jm_i259 := ⟨by decide +kernel, rfl, by decide +kernel, ⟨by decide +kernel, by decide +kernel⟩, by decide +kernel, jx_mem (i := 1687) (by decide +kernel) rfl, jx_mem (i := 116) (by decide +kernel) rfl, fun _ => ⟨jx_mem (i := 1686) (by decide +kernel) rfl, jx_mem (i := 84) (by decide +kernel) rfl, by decide⟩, fun h => absurd h (by decide), fun h => absurd h (by decide), by decide, by decide, by decide, by decide +kernel, by decide +kernel⟩
-- OfDifferentMindsModel.rest(I)I
def jm_b260_17 : List jx_E := (17, 2, (0, 0, 0, 0), 0, []) :: (18, 2, (0, 0, 0, 0), 0, []) :: (19, 33, (11, 0, 0, 9), 0, []) :: (22, 49, (242, 2, 11, 271), 0, []) :: (25, 2, (0, 0, 0, 0), 0, []) :: (26, 0, (1, 0, 0, 0), 0, []) :: (27, 49, (259, 2, 11, 318), 0, []) :: (30, 69, (0, 0, 0, 0), 0, []) :: []
def jm_b260_0 : List jx_E := (0, 2, (0, 0, 0, 0), 0, []) :: (1, 8, (0, 0, 0, 0), 0, []) :: (2, 34, (11, 12, 0, 102), 0, []) :: (5, 2, (0, 0, 0, 0), 0, []) :: (6, 0, (1, 0, 0, 0), 0, []) :: (7, 49, (258, 2, 11, 315), 0, []) :: (10, 4, (2, 0, 0, 0), 0, []) :: (11, 0, (2, 0, 0, 0), 0, []) :: (12, 58, (17, 0, 0, 0), 0, []) :: (15, 0, (2, 0, 0, 0), 0, []) :: (16, 69, (0, 0, 0, 0), 0, []) :: []
def jm_l260 : jx_B := [(0, jm_b260_0), (17, jm_b260_17)]
def jm_i260 : jx_M := (⟨"OfDifferentMindsModel", "rest", "(I)I"⟩, prog_13_method_62_code, 3, (some .int), 0, 2, 11, jm_l260)
theorem jm_ok260 : jx_okM 260 jm_i260 := ⟨by decide +kernel, rfl, by decide +kernel, ⟨by decide +kernel, by decide +kernel⟩, by decide +kernel, jx_mem (i := 1672) (by decide +kernel) rfl, jx_mem (i := 116) (by decide +kernel) rfl, fun _ => ⟨jx_mem (i := 1670) (by decide +kernel) rfl, jx_mem (i := 1671) (by decide +kernel) rfl, by decide⟩, fun h => absurd h (by decide), fun h => absurd h (by decide), by decide, by decide, by decide, by decide +kernel, by decide +kernel⟩
-- OfDifferentMindsModel.refusesDeal(II)I
def jm_b261_54 : List jx_E := (54, 69, (0, 0, 0, 0), 0, []) :: []
def jm_b261_52 : List jx_E := (52, 9, (0, 0, 0, 0), (-2), []) :: jm_b261_54
def jm_b261_11 : List jx_E := (11, 2, (0, 0, 0, 0), 0, []) :: (12, 0, (1, 0, 0, 0), 0, []) :: (13, 49, (257, 2, 11, 312), 0, []) :: (16, 55, (52, 0, 0, 0), 0, []) :: (19, 2, (0, 0, 0, 0), 0, []) :: (20, 0, (2, 0, 0, 0), 0, []) :: (21, 49, (257, 2, 11, 312), 0, []) :: (24, 55, (52, 0, 0, 0), 0, []) :: (27, 2, (0, 0, 0, 0), 0, []) :: (28, 33, (11, 0, 0, 9), 0, []) :: (31, 9, (0, 0, 0, 0), 10, []) :: (33, 0, (1, 0, 0, 0), 0, []) :: (34, 14, (0, 0, 0, 0), 0, []) :: (35, 38, (0, 0, 0, 0), 0, []) :: (36, 2, (0, 0, 0, 0), 0, []) :: (37, 33, (11, 0, 0, 9), 0, []) :: (40, 9, (0, 0, 0, 0), 10, []) :: (42, 0, (2, 0, 0, 0), 0, []) :: (43, 14, (0, 0, 0, 0), 0, []) :: (44, 38, (0, 0, 0, 0), 0, []) :: (45, 62, (52, 0, 0, 0), 0, []) :: (48, 8, (0, 0, 0, 0), 0, []) :: (49, 54, (54, 0, 0, 0), 0, []) :: []
def jm_b261_0 : List jx_E := (0, 2, (0, 0, 0, 0), 0, []) :: (1, 0, (1, 0, 0, 0), 0, []) :: (2, 0, (2, 0, 0, 0), 0, []) :: (3, 49, (208, 3, 11, 261), 0, []) :: (6, 56, (11, 0, 0, 0), 0, []) :: (9, 8, (0, 0, 0, 0), (-1), []) :: (10, 69, (0, 0, 0, 0), 0, []) :: []
def jm_l261 : jx_B := [(0, jm_b261_0), (11, jm_b261_11), (52, jm_b261_52), (54, jm_b261_54)]
def jm_i261 : jx_M := (⟨"OfDifferentMindsModel", "refusesDeal", "(II)I"⟩, prog_13_method_63_code, 3, (some .int), 0, 3, 11, jm_l261)
theorem jm_ok261 : jx_okM 261 jm_i261 := ⟨by decide +kernel, rfl, by decide +kernel, ⟨by decide +kernel, by decide +kernel⟩, by decide +kernel, jx_mem (i := 1695) (by decide +kernel) rfl, jx_mem (i := 116) (by decide +kernel) rfl, fun _ => ⟨jx_mem (i := 1694) (by decide +kernel) rfl, jx_mem (i := 85) (by decide +kernel) rfl, by decide⟩, fun h => absurd h (by decide), fun h => absurd h (by decide), by decide, by decide, by decide, by decide +kernel, by decide +kernel⟩
-- OfDifferentMindsModel.goDeal(II)I
def jm_b262_71 : List jx_E := (71, 2, (0, 0, 0, 0), 0, []) :: (72, 33, (11, 0, 0, 9), 0, []) :: (75, 9, (0, 0, 0, 0), 22, []) :: (77, 0, (1, 0, 0, 0), 0, []) :: (78, 14, (0, 0, 0, 0), 0, []) :: (79, 38, (0, 0, 0, 0), 0, []) :: (80, 5, (4, 0, 0, 0), 0, []) :: (82, 2, (0, 0, 0, 0), 0, []) :: (83, 33, (11, 0, 0, 9), 0, []) :: (86, 9, (0, 0, 0, 0), 22, []) :: (88, 0, (1, 0, 0, 0), 0, []) :: (89, 14, (0, 0, 0, 0), 0, []) :: (90, 2, (0, 0, 0, 0), 0, []) :: (91, 33, (11, 0, 0, 9), 0, []) :: (94, 9, (0, 0, 0, 0), 22, []) :: (96, 0, (2, 0, 0, 0), 0, []) :: (97, 14, (0, 0, 0, 0), 0, []) :: (98, 38, (0, 0, 0, 0), 0, []) :: (99, 41, (0, 0, 0, 0), 0, []) :: (100, 2, (0, 0, 0, 0), 0, []) :: (101, 33, (11, 0, 0, 9), 0, []) :: (104, 9, (0, 0, 0, 0), 22, []) :: (106, 0, (2, 0, 0, 0), 0, []) :: (107, 14, (0, 0, 0, 0), 0, []) :: (108, 1, (4, 0, 0, 0), 0, []) :: (110, 41, (0, 0, 0, 0), 0, []) :: (111, 0, (3, 0, 0, 0), 0, []) :: (112, 69, (0, 0, 0, 0), 0, []) :: []
def jm_b262_63 : List jx_E := (63, 14, (0, 0, 0, 0), 0, []) :: (64, 4, (3, 0, 0, 0), 0, []) :: (65, 13, (4, 0, 0, 0), 1, []) :: (68, 54, (5, 0, 0, 0), 0, []) :: []
def jm_b262_62 : List jx_E := (62, 8, (0, 0, 0, 0), 1, []) :: jm_b262_63
def jm_b262_5 : List jx_E := (5, 1, (4, 0, 0, 0), 0, []) :: (7, 2, (0, 0, 0, 0), 0, []) :: (8, 32, (11, 1, 0, 109), 0, []) :: (11, 64, (71, 0, 0, 0), 0, []) :: (14, 0, (3, 0, 0, 0), 0, []) :: (15, 2, (0, 0, 0, 0), 0, []) :: (16, 33, (11, 7, 0, 22), 0, []) :: (19, 9, (0, 0, 0, 0), 10, []) :: (21, 2, (0, 0, 0, 0), 0, []) :: (22, 33, (11, 0, 0, 9), 0, []) :: (25, 9, (0, 0, 0, 0), 22, []) :: (27, 0, (1, 0, 0, 0), 0, []) :: (28, 14, (0, 0, 0, 0), 0, []) :: (29, 38, (0, 0, 0, 0), 0, []) :: (30, 16, (0, 0, 0, 0), 0, []) :: (31, 1, (4, 0, 0, 0), 0, []) :: (33, 14, (0, 0, 0, 0), 0, []) :: (34, 38, (0, 0, 0, 0), 0, []) :: (35, 2, (0, 0, 0, 0), 0, []) :: (36, 33, (11, 7, 0, 22), 0, []) :: (39, 9, (0, 0, 0, 0), 10, []) :: (41, 2, (0, 0, 0, 0), 0, []) :: (42, 33, (11, 0, 0, 9), 0, []) :: (45, 9, (0, 0, 0, 0), 22, []) :: (47, 0, (2, 0, 0, 0), 0, []) :: (48, 14, (0, 0, 0, 0), 0, []) :: (49, 38, (0, 0, 0, 0), 0, []) :: (50, 16, (0, 0, 0, 0), 0, []) :: (51, 1, (4, 0, 0, 0), 0, []) :: (53, 14, (0, 0, 0, 0), 0, []) :: (54, 38, (0, 0, 0, 0), 0, []) :: (55, 62, (62, 0, 0, 0), 0, []) :: (58, 8, (0, 0, 0, 0), 0, []) :: (59, 54, (63, 0, 0, 0), 0, []) :: []
def jm_b262_0 : List jx_E := (0, 8, (0, 0, 0, 0), 0, []) :: (1, 4, (3, 0, 0, 0), 0, []) :: (2, 8, (0, 0, 0, 0), 0, []) :: (3, 5, (4, 0, 0, 0), 0, []) :: jm_b262_5
def jm_l262 : jx_B := [(0, jm_b262_0), (5, jm_b262_5), (62, jm_b262_62), (63, jm_b262_63), (71, jm_b262_71)]
def jm_i262 : jx_M := (⟨"OfDifferentMindsModel", "goDeal", "(II)I"⟩, prog_13_method_64_code, 5, (some .int), 0, 3, 11, jm_l262)
theorem jm_ok262 : jx_okM 262 jm_i262 := ⟨by decide +kernel, rfl, by decide +kernel, ⟨by decide +kernel, by decide +kernel⟩, by decide +kernel, jx_mem (i := 1699) (by decide +kernel) rfl, jx_mem (i := 116) (by decide +kernel) rfl, fun _ => ⟨jx_mem (i := 1698) (by decide +kernel) rfl, jx_mem (i := 86) (by decide +kernel) rfl, by decide⟩, fun h => absurd h (by decide), fun h => absurd h (by decide), by decide, by decide, by decide, by decide +kernel, by decide +kernel⟩
-- OfDifferentMindsModel.deal(II)I
def jm_b263_18 : List jx_E := (18, 2, (0, 0, 0, 0), 0, []) :: (19, 2, (0, 0, 0, 0), 0, []) :: (20, 33, (11, 0, 0, 9), 0, []) :: (23, 49, (242, 2, 11, 271), 0, []) :: (26, 2, (0, 0, 0, 0), 0, []) :: (27, 0, (1, 0, 0, 0), 0, []) :: (28, 0, (2, 0, 0, 0), 0, []) :: (29, 49, (262, 3, 11, 324), 0, []) :: (32, 69, (0, 0, 0, 0), 0, []) :: []
def jm_b263_0 : List jx_E := (0, 2, (0, 0, 0, 0), 0, []) :: (1, 8, (0, 0, 0, 0), 0, []) :: (2, 34, (11, 12, 0, 102), 0, []) :: (5, 2, (0, 0, 0, 0), 0, []) :: (6, 0, (1, 0, 0, 0), 0, []) :: (7, 0, (2, 0, 0, 0), 0, []) :: (8, 49, (261, 3, 11, 321), 0, []) :: (11, 4, (3, 0, 0, 0), 0, []) :: (12, 0, (3, 0, 0, 0), 0, []) :: (13, 58, (18, 0, 0, 0), 0, []) :: (16, 0, (3, 0, 0, 0), 0, []) :: (17, 69, (0, 0, 0, 0), 0, []) :: []
def jm_l263 : jx_B := [(0, jm_b263_0), (18, jm_b263_18)]
def jm_i263 : jx_M := (⟨"OfDifferentMindsModel", "deal", "(II)I"⟩, prog_13_method_65_code, 4, (some .int), 0, 3, 11, jm_l263)
theorem jm_ok263 : jx_okM 263 jm_i263 := ⟨by decide +kernel, rfl, by decide +kernel, ⟨by decide +kernel, by decide +kernel⟩, by decide +kernel, jx_mem (i := 1691) (by decide +kernel) rfl, jx_mem (i := 116) (by decide +kernel) rfl, fun _ => ⟨jx_mem (i := 1689) (by decide +kernel) rfl, jx_mem (i := 1690) (by decide +kernel) rfl, by decide⟩, fun h => absurd h (by decide), fun h => absurd h (by decide), by decide, by decide, by decide, by decide +kernel, by decide +kernel⟩
-- OfDifferentMindsModel.journey()I
def jm_b264_196 : List jx_E := (196, 49, (205, 2, 11, 291), 0, []) :: (199, 2, (0, 0, 0, 0), 0, []) :: (200, 2, (0, 0, 0, 0), 0, []) :: (201, 32, (11, 33, 0, 330), 0, []) :: (204, 49, (205, 2, 11, 291), 0, []) :: (207, 0, (3, 0, 0, 0), 0, []) :: (208, 69, (0, 0, 0, 0), 0, []) :: []
def jm_b264_195 : List jx_E := (195, 8, (0, 0, 0, 0), 0, []) :: jm_b264_196
def jm_b264_180 : List jx_E := (180, 2, (0, 0, 0, 0), 0, []) :: (181, 8, (0, 0, 0, 0), 0, []) :: (182, 34, (11, 11, 0, 106), 0, []) :: (185, 2, (0, 0, 0, 0), 0, []) :: (186, 0, (3, 0, 0, 0), 0, []) :: (187, 0, (1, 0, 0, 0), 0, []) :: (188, 64, (195, 0, 0, 0), 0, []) :: (191, 8, (0, 0, 0, 0), 1, []) :: (192, 54, (196, 0, 0, 0), 0, []) :: []
def jm_b264_168 : List jx_E := (168, 0, (3, 0, 0, 0), 0, []) :: (169, 60, (180, 0, 0, 0), 0, []) :: (172, 2, (0, 0, 0, 0), 0, []) :: (173, 2, (0, 0, 0, 0), 0, []) :: (174, 33, (11, 30, 0, 53), 0, []) :: (177, 49, (242, 2, 11, 271), 0, []) :: jm_b264_180
def jm_b264_122 : List jx_E := (122, 0, (3, 0, 0, 0), 0, []) :: (123, 0, (1, 0, 0, 0), 0, []) :: (124, 64, (168, 0, 0, 0), 0, []) :: (127, 2, (0, 0, 0, 0), 0, []) :: (128, 2, (0, 0, 0, 0), 0, []) :: (129, 33, (11, 32, 0, 56), 0, []) :: (132, 8, (0, 0, 0, 0), 3, []) :: (133, 0, (3, 0, 0, 0), 0, []) :: (134, 16, (0, 0, 0, 0), 0, []) :: (135, 38, (0, 0, 0, 0), 0, []) :: (136, 2, (0, 0, 0, 0), 0, []) :: (137, 33, (11, 32, 0, 56), 0, []) :: (140, 8, (0, 0, 0, 0), 3, []) :: (141, 0, (3, 0, 0, 0), 0, []) :: (142, 16, (0, 0, 0, 0), 0, []) :: (143, 8, (0, 0, 0, 0), 1, []) :: (144, 14, (0, 0, 0, 0), 0, []) :: (145, 38, (0, 0, 0, 0), 0, []) :: (146, 2, (0, 0, 0, 0), 0, []) :: (147, 33, (11, 32, 0, 56), 0, []) :: (150, 8, (0, 0, 0, 0), 3, []) :: (151, 0, (3, 0, 0, 0), 0, []) :: (152, 16, (0, 0, 0, 0), 0, []) :: (153, 8, (0, 0, 0, 0), 2, []) :: (154, 14, (0, 0, 0, 0), 0, []) :: (155, 38, (0, 0, 0, 0), 0, []) :: (156, 49, (266, 4, 11, 333), 0, []) :: (159, 55, (168, 0, 0, 0), 0, []) :: (162, 13, (3, 0, 0, 0), 1, []) :: (165, 54, (122, 0, 0, 0), 0, []) :: []
def jm_b264_103 : List jx_E := (103, 2, (0, 0, 0, 0), 0, []) :: (104, 33, (11, 0, 0, 9), 0, []) :: (107, 2, (0, 0, 0, 0), 0, []) :: (108, 33, (11, 30, 0, 53), 0, []) :: (111, 8, (0, 0, 0, 0), 0, []) :: (112, 50, (241, 3, 0, 257), 0, []) :: (115, 2, (0, 0, 0, 0), 0, []) :: (116, 8, (0, 0, 0, 0), 0, []) :: (117, 34, (11, 33, 0, 330), 0, []) :: (120, 8, (0, 0, 0, 0), 0, []) :: (121, 4, (3, 0, 0, 0), 0, []) :: jm_b264_122
def jm_b264_89 : List jx_E := (89, 2, (0, 0, 0, 0), 0, []) :: (90, 49, (215, 1, 11, 141), 0, []) :: (93, 56, (103, 0, 0, 0), 0, []) :: (96, 8, (0, 0, 0, 0), (-1), []) :: (97, 2, (0, 0, 0, 0), 0, []) :: (98, 32, (11, 17, 0, 138), 0, []) :: (101, 15, (0, 0, 0, 0), 0, []) :: (102, 69, (0, 0, 0, 0), 0, []) :: []
def jm_b264_70 : List jx_E := (70, 2, (0, 0, 0, 0), 0, []) :: (71, 32, (11, 16, 0, 135), 0, []) :: (74, 2, (0, 0, 0, 0), 0, []) :: (75, 32, (11, 14, 0, 129), 0, []) :: (78, 64, (89, 0, 0, 0), 0, []) :: (81, 2, (0, 0, 0, 0), 0, []) :: (82, 2, (0, 0, 0, 0), 0, []) :: (83, 32, (11, 16, 0, 135), 0, []) :: (86, 49, (216, 2, 11, 153), 0, []) :: jm_b264_89
def jm_b264_39 : List jx_E := (39, 0, (2, 0, 0, 0), 0, []) :: (40, 55, (70, 0, 0, 0), 0, []) :: (43, 2, (0, 0, 0, 0), 0, []) :: (44, 49, (215, 1, 11, 141), 0, []) :: (47, 55, (70, 0, 0, 0), 0, []) :: (50, 2, (0, 0, 0, 0), 0, []) :: (51, 8, (0, 0, 0, 0), 3, []) :: (52, 0, (1, 0, 0, 0), 0, []) :: (53, 16, (0, 0, 0, 0), 0, []) :: (54, 49, (265, 2, 11, 327), 0, []) :: (57, 13, (1, 0, 0, 0), 1, []) :: (60, 2, (0, 0, 0, 0), 0, []) :: (61, 9, (0, 0, 0, 0), 59, []) :: (63, 49, (217, 2, 11, 149), 0, []) :: (66, 4, (2, 0, 0, 0), 0, []) :: (67, 54, (39, 0, 0, 0), 0, []) :: []
def jm_b264_38 : List jx_E := (38, 4, (2, 0, 0, 0), 0, []) :: jm_b264_39
def jm_b264_37 : List jx_E := (37, 8, (0, 0, 0, 0), 0, []) :: jm_b264_38
def jm_b264_0 : List jx_E := (0, 2, (0, 0, 0, 0), 0, []) :: (1, 8, (0, 0, 0, 0), 0, []) :: (2, 34, (11, 12, 0, 102), 0, []) :: (5, 2, (0, 0, 0, 0), 0, []) :: (6, 2, (0, 0, 0, 0), 0, []) :: (7, 33, (11, 8, 0, 25), 0, []) :: (10, 2, (0, 0, 0, 0), 0, []) :: (11, 32, (11, 9, 0, 123), 0, []) :: (14, 9, (0, 0, 0, 0), 60, []) :: (16, 49, (213, 4, 11, 164), 0, []) :: (19, 2, (0, 0, 0, 0), 0, []) :: (20, 8, (0, 0, 0, 0), 0, []) :: (21, 34, (11, 9, 0, 123), 0, []) :: (24, 8, (0, 0, 0, 0), 0, []) :: (25, 4, (1, 0, 0, 0), 0, []) :: (26, 2, (0, 0, 0, 0), 0, []) :: (27, 32, (11, 14, 0, 129), 0, []) :: (30, 60, (37, 0, 0, 0), 0, []) :: (33, 8, (0, 0, 0, 0), 1, []) :: (34, 54, (38, 0, 0, 0), 0, []) :: []
def jm_l264 : jx_B := [(0, jm_b264_0), (37, jm_b264_37), (38, jm_b264_38), (39, jm_b264_39), (70, jm_b264_70), (89, jm_b264_89), (103, jm_b264_103), (122, jm_b264_122), (168, jm_b264_168), (180, jm_b264_180), (195, jm_b264_195), (196, jm_b264_196)]
def jm_i264 : jx_M := (⟨"OfDifferentMindsModel", "journey", "()I"⟩, prog_13_method_66_code, 4, (some .int), 0, 1, 11, jm_l264)
theorem jm_ok264 : jx_okM 264 jm_i264 := ⟨by decide +kernel, rfl, by decide +kernel, ⟨by decide +kernel, by decide +kernel⟩, by decide +kernel, jx_mem (i := 1703) (by decide +kernel) rfl, jx_mem (i := 116) (by decide +kernel) rfl, fun _ => ⟨jx_mem (i := 1701) (by decide +kernel) rfl, jx_mem (i := 1702) (by decide +kernel) rfl, by decide⟩, fun h => absurd h (by decide), fun h => absurd h (by decide), by decide, by decide, by decide, by decide +kernel, by decide +kernel⟩
-- OfDifferentMindsModel.readAct(I)V
def jm_b265_154 : List jx_E := (154, 71, (0, 0, 0, 0), 0, []) :: []
def jm_b265_139 : List jx_E := (139, 2, (0, 0, 0, 0), 0, []) :: (140, 33, (11, 32, 0, 56), 0, []) :: (143, 0, (1, 0, 0, 0), 0, []) :: (144, 8, (0, 0, 0, 0), 2, []) :: (145, 14, (0, 0, 0, 0), 0, []) :: (146, 2, (0, 0, 0, 0), 0, []) :: (147, 8, (0, 0, 0, 0), 0, []) :: (148, 9, (0, 0, 0, 0), 9, []) :: (150, 49, (219, 3, 11, 157), 0, []) :: (153, 41, (0, 0, 0, 0), 0, []) :: jm_b265_154
def jm_b265_115 : List jx_E := (115, 0, (2, 0, 0, 0), 0, []) :: (116, 9, (0, 0, 0, 0), 109, []) :: (118, 61, (139, 0, 0, 0), 0, []) :: (121, 0, (2, 0, 0, 0), 0, []) :: (122, 9, (0, 0, 0, 0), 119, []) :: (124, 61, (139, 0, 0, 0), 0, []) :: (127, 0, (2, 0, 0, 0), 0, []) :: (128, 9, (0, 0, 0, 0), 108, []) :: (130, 61, (139, 0, 0, 0), 0, []) :: (133, 0, (2, 0, 0, 0), 0, []) :: (134, 9, (0, 0, 0, 0), 120, []) :: (136, 62, (154, 0, 0, 0), 0, []) :: jm_b265_139
def jm_b265_94 : List jx_E := (94, 0, (2, 0, 0, 0), 0, []) :: (95, 9, (0, 0, 0, 0), 100, []) :: (97, 61, (115, 0, 0, 0), 0, []) :: (100, 2, (0, 0, 0, 0), 0, []) :: (101, 33, (11, 32, 0, 56), 0, []) :: (104, 0, (1, 0, 0, 0), 0, []) :: (105, 8, (0, 0, 0, 0), 1, []) :: (106, 14, (0, 0, 0, 0), 0, []) :: (107, 2, (0, 0, 0, 0), 0, []) :: (108, 8, (0, 0, 0, 0), 0, []) :: (109, 9, (0, 0, 0, 0), 9, []) :: (111, 49, (219, 3, 11, 157), 0, []) :: (114, 41, (0, 0, 0, 0), 0, []) :: jm_b265_115
def jm_b265_55 : List jx_E := (55, 2, (0, 0, 0, 0), 0, []) :: (56, 28, (0, 0, 0, 0), 0, []) :: (57, 32, (11, 16, 0, 135), 0, []) :: (60, 8, (0, 0, 0, 0), 1, []) :: (61, 14, (0, 0, 0, 0), 0, []) :: (62, 34, (11, 16, 0, 135), 0, []) :: (65, 2, (0, 0, 0, 0), 0, []) :: (66, 33, (11, 32, 0, 56), 0, []) :: (69, 0, (1, 0, 0, 0), 0, []) :: (70, 0, (2, 0, 0, 0), 0, []) :: (71, 41, (0, 0, 0, 0), 0, []) :: (72, 0, (2, 0, 0, 0), 0, []) :: (73, 9, (0, 0, 0, 0), 114, []) :: (75, 62, (94, 0, 0, 0), 0, []) :: (78, 2, (0, 0, 0, 0), 0, []) :: (79, 33, (11, 32, 0, 56), 0, []) :: (82, 0, (1, 0, 0, 0), 0, []) :: (83, 8, (0, 0, 0, 0), 1, []) :: (84, 14, (0, 0, 0, 0), 0, []) :: (85, 2, (0, 0, 0, 0), 0, []) :: (86, 8, (0, 0, 0, 0), 2, []) :: (87, 49, (220, 2, 11, 180), 0, []) :: (90, 41, (0, 0, 0, 0), 0, []) :: (91, 54, (115, 0, 0, 0), 0, []) :: []
def jm_b265_0 : List jx_E := (0, 2, (0, 0, 0, 0), 0, []) :: (1, 49, (214, 1, 11, 145), 0, []) :: (4, 4, (2, 0, 0, 0), 0, []) :: (5, 0, (2, 0, 0, 0), 0, []) :: (6, 9, (0, 0, 0, 0), 109, []) :: (8, 61, (55, 0, 0, 0), 0, []) :: (11, 0, (2, 0, 0, 0), 0, []) :: (12, 9, (0, 0, 0, 0), 100, []) :: (14, 61, (55, 0, 0, 0), 0, []) :: (17, 0, (2, 0, 0, 0), 0, []) :: (18, 9, (0, 0, 0, 0), 114, []) :: (20, 61, (55, 0, 0, 0), 0, []) :: (23, 0, (2, 0, 0, 0), 0, []) :: (24, 9, (0, 0, 0, 0), 119, []) :: (26, 61, (55, 0, 0, 0), 0, []) :: (29, 0, (2, 0, 0, 0), 0, []) :: (30, 9, (0, 0, 0, 0), 108, []) :: (32, 61, (55, 0, 0, 0), 0, []) :: (35, 0, (2, 0, 0, 0), 0, []) :: (36, 9, (0, 0, 0, 0), 122, []) :: (38, 61, (55, 0, 0, 0), 0, []) :: (41, 0, (2, 0, 0, 0), 0, []) :: (42, 9, (0, 0, 0, 0), 120, []) :: (44, 61, (55, 0, 0, 0), 0, []) :: (47, 2, (0, 0, 0, 0), 0, []) :: (48, 2, (0, 0, 0, 0), 0, []) :: (49, 32, (11, 16, 0, 135), 0, []) :: (52, 49, (216, 2, 11, 153), 0, []) :: jm_b265_55
def jm_l265 : jx_B := [(0, jm_b265_0), (55, jm_b265_55), (94, jm_b265_94), (115, jm_b265_115), (139, jm_b265_139), (154, jm_b265_154)]
def jm_i265 : jx_M := (⟨"OfDifferentMindsModel", "readAct", "(I)V"⟩, prog_13_method_67_code, 3, none, 0, 2, 11, jm_l265)
theorem jm_ok265 : jx_okM 265 jm_i265 := ⟨by decide +kernel, rfl, by decide +kernel, ⟨by decide +kernel, by decide +kernel⟩, by decide +kernel, jx_mem (i := 1707) (by decide +kernel) rfl, jx_mem (i := 116) (by decide +kernel) rfl, fun _ => ⟨jx_mem (i := 1706) (by decide +kernel) rfl, jx_mem (i := 87) (by decide +kernel) rfl, by decide⟩, fun h => absurd h (by decide), fun h => absurd h (by decide), by decide, by decide, by decide, by decide +kernel, by decide +kernel⟩
-- OfDifferentMindsModel.act(III)Z
def jm_b266_192 : List jx_E := (192, 2, (0, 0, 0, 0), 0, []) :: (193, 0, (2, 0, 0, 0), 0, []) :: (194, 0, (3, 0, 0, 0), 0, []) :: (195, 49, (262, 3, 11, 324), 0, []) :: (198, 31, (0, 0, 0, 0), 0, []) :: (199, 8, (0, 0, 0, 0), 1, []) :: (200, 70, (0, 0, 0, 0), 0, []) :: []
def jm_b266_181 : List jx_E := (181, 2, (0, 0, 0, 0), 0, []) :: (182, 0, (2, 0, 0, 0), 0, []) :: (183, 0, (3, 0, 0, 0), 0, []) :: (184, 49, (261, 3, 11, 321), 0, []) :: (187, 58, (192, 0, 0, 0), 0, []) :: (190, 8, (0, 0, 0, 0), 0, []) :: (191, 70, (0, 0, 0, 0), 0, []) :: []
def jm_b266_173 : List jx_E := (173, 2, (0, 0, 0, 0), 0, []) :: (174, 0, (2, 0, 0, 0), 0, []) :: (175, 49, (259, 2, 11, 318), 0, []) :: (178, 31, (0, 0, 0, 0), 0, []) :: (179, 8, (0, 0, 0, 0), 1, []) :: (180, 70, (0, 0, 0, 0), 0, []) :: []
def jm_b266_163 : List jx_E := (163, 2, (0, 0, 0, 0), 0, []) :: (164, 0, (2, 0, 0, 0), 0, []) :: (165, 49, (258, 2, 11, 315), 0, []) :: (168, 58, (173, 0, 0, 0), 0, []) :: (171, 8, (0, 0, 0, 0), 0, []) :: (172, 70, (0, 0, 0, 0), 0, []) :: []
def jm_b266_154 : List jx_E := (154, 2, (0, 0, 0, 0), 0, []) :: (155, 0, (2, 0, 0, 0), 0, []) :: (156, 0, (3, 0, 0, 0), 0, []) :: (157, 49, (255, 3, 11, 306), 0, []) :: (160, 31, (0, 0, 0, 0), 0, []) :: (161, 8, (0, 0, 0, 0), 1, []) :: (162, 70, (0, 0, 0, 0), 0, []) :: []
def jm_b266_143 : List jx_E := (143, 2, (0, 0, 0, 0), 0, []) :: (144, 0, (2, 0, 0, 0), 0, []) :: (145, 0, (3, 0, 0, 0), 0, []) :: (146, 49, (254, 3, 11, 303), 0, []) :: (149, 58, (154, 0, 0, 0), 0, []) :: (152, 8, (0, 0, 0, 0), 0, []) :: (153, 70, (0, 0, 0, 0), 0, []) :: []
def jm_b266_134 : List jx_E := (134, 2, (0, 0, 0, 0), 0, []) :: (135, 0, (2, 0, 0, 0), 0, []) :: (136, 0, (3, 0, 0, 0), 0, []) :: (137, 49, (252, 3, 11, 300), 0, []) :: (140, 31, (0, 0, 0, 0), 0, []) :: (141, 8, (0, 0, 0, 0), 1, []) :: (142, 70, (0, 0, 0, 0), 0, []) :: []
def jm_b266_123 : List jx_E := (123, 2, (0, 0, 0, 0), 0, []) :: (124, 0, (2, 0, 0, 0), 0, []) :: (125, 0, (3, 0, 0, 0), 0, []) :: (126, 49, (251, 3, 11, 297), 0, []) :: (129, 58, (134, 0, 0, 0), 0, []) :: (132, 8, (0, 0, 0, 0), 0, []) :: (133, 70, (0, 0, 0, 0), 0, []) :: []
def jm_b266_103 : List jx_E := (103, 2, (0, 0, 0, 0), 0, []) :: (104, 28, (0, 0, 0, 0), 0, []) :: (105, 32, (11, 33, 0, 330), 0, []) :: (108, 2, (0, 0, 0, 0), 0, []) :: (109, 2, (0, 0, 0, 0), 0, []) :: (110, 33, (11, 0, 0, 9), 0, []) :: (113, 0, (2, 0, 0, 0), 0, []) :: (114, 49, (248, 3, 11, 288), 0, []) :: (117, 14, (0, 0, 0, 0), 0, []) :: (118, 34, (11, 33, 0, 330), 0, []) :: (121, 8, (0, 0, 0, 0), 1, []) :: (122, 70, (0, 0, 0, 0), 0, []) :: []
def jm_b266_94 : List jx_E := (94, 2, (0, 0, 0, 0), 0, []) :: (95, 49, (210, 1, 11, 265), 0, []) :: (98, 56, (103, 0, 0, 0), 0, []) :: (101, 8, (0, 0, 0, 0), 0, []) :: (102, 70, (0, 0, 0, 0), 0, []) :: []
def jm_b266_88 : List jx_E := (88, 2, (0, 0, 0, 0), 0, []) :: (89, 49, (246, 1, 11, 279), 0, []) :: (92, 8, (0, 0, 0, 0), 1, []) :: (93, 70, (0, 0, 0, 0), 0, []) :: []
def jm_b266_79 : List jx_E := (79, 2, (0, 0, 0, 0), 0, []) :: (80, 49, (210, 1, 11, 265), 0, []) :: (83, 56, (88, 0, 0, 0), 0, []) :: (86, 8, (0, 0, 0, 0), 0, []) :: (87, 70, (0, 0, 0, 0), 0, []) :: []
def jm_b266_71 : List jx_E := (71, 2, (0, 0, 0, 0), 0, []) :: (72, 0, (2, 0, 0, 0), 0, []) :: (73, 0, (3, 0, 0, 0), 0, []) :: (74, 49, (244, 3, 11, 275), 0, []) :: (77, 8, (0, 0, 0, 0), 1, []) :: (78, 70, (0, 0, 0, 0), 0, []) :: []
def jm_b266_60 : List jx_E := (60, 2, (0, 0, 0, 0), 0, []) :: (61, 0, (2, 0, 0, 0), 0, []) :: (62, 0, (3, 0, 0, 0), 0, []) :: (63, 49, (243, 3, 11, 268), 0, []) :: (66, 58, (71, 0, 0, 0), 0, []) :: (69, 8, (0, 0, 0, 0), 0, []) :: (70, 70, (0, 0, 0, 0), 0, []) :: []
def jm_b266_0 : List jx_E := (0, 0, (1, 0, 0, 0), 0, []) :: (1, 68, (181, 0, 0, 59), 0, [(100, 79), (108, 143), (109, 60), (114, 94), (119, 123), (122, 163)]) :: []
def jm_l266 : jx_B := [(0, jm_b266_0), (60, jm_b266_60), (71, jm_b266_71), (79, jm_b266_79), (88, jm_b266_88), (94, jm_b266_94), (103, jm_b266_103), (123, jm_b266_123), (134, jm_b266_134), (143, jm_b266_143), (154, jm_b266_154), (163, jm_b266_163), (173, jm_b266_173), (181, jm_b266_181), (192, jm_b266_192)]
def jm_i266 : jx_M := (⟨"OfDifferentMindsModel", "act", "(III)Z"⟩, prog_13_method_68_code, 4, (some .boolean), 0, 4, 11, jm_l266)
theorem jm_ok266 : jx_okM 266 jm_i266 := ⟨by decide +kernel, rfl, by decide +kernel, ⟨by decide +kernel, by decide +kernel⟩, by decide +kernel, jx_mem (i := 1711) (by decide +kernel) rfl, jx_mem (i := 116) (by decide +kernel) rfl, fun _ => ⟨jx_mem (i := 1710) (by decide +kernel) rfl, jx_mem (i := 88) (by decide +kernel) rfl, by decide⟩, fun h => absurd h (by decide), fun h => absurd h (by decide), by decide, by decide, by decide, by decide +kernel, by decide +kernel⟩
-- OfDifferentMindsModel.undo()I
def jm_b267_58 : List jx_E := (58, 2, (0, 0, 0, 0), 0, []) :: (59, 49, (268, 1, 11, 336), 0, []) :: (62, 2, (0, 0, 0, 0), 0, []) :: (63, 32, (11, 29, 0, 177), 0, []) :: (66, 69, (0, 0, 0, 0), 0, []) :: []
def jm_b267_26 : List jx_E := (26, 0, (1, 0, 0, 0), 0, []) :: (27, 9, (0, 0, 0, 0), 28, []) :: (29, 64, (58, 0, 0, 0), 0, []) :: (32, 2, (0, 0, 0, 0), 0, []) :: (33, 33, (11, 0, 0, 9), 0, []) :: (36, 0, (1, 0, 0, 0), 0, []) :: (37, 2, (0, 0, 0, 0), 0, []) :: (38, 33, (11, 28, 0, 50), 0, []) :: (41, 9, (0, 0, 0, 0), 28, []) :: (43, 2, (0, 0, 0, 0), 0, []) :: (44, 32, (11, 29, 0, 177), 0, []) :: (47, 16, (0, 0, 0, 0), 0, []) :: (48, 0, (1, 0, 0, 0), 0, []) :: (49, 14, (0, 0, 0, 0), 0, []) :: (50, 38, (0, 0, 0, 0), 0, []) :: (51, 41, (0, 0, 0, 0), 0, []) :: (52, 13, (1, 0, 0, 0), 1, []) :: (55, 54, (26, 0, 0, 0), 0, []) :: []
def jm_b267_14 : List jx_E := (14, 2, (0, 0, 0, 0), 0, []) :: (15, 28, (0, 0, 0, 0), 0, []) :: (16, 32, (11, 29, 0, 177), 0, []) :: (19, 8, (0, 0, 0, 0), 1, []) :: (20, 15, (0, 0, 0, 0), 0, []) :: (21, 34, (11, 29, 0, 177), 0, []) :: (24, 8, (0, 0, 0, 0), 0, []) :: (25, 4, (1, 0, 0, 0), 0, []) :: jm_b267_26
def jm_b267_0 : List jx_E := (0, 2, (0, 0, 0, 0), 0, []) :: (1, 8, (0, 0, 0, 0), 0, []) :: (2, 34, (11, 12, 0, 102), 0, []) :: (5, 2, (0, 0, 0, 0), 0, []) :: (6, 32, (11, 29, 0, 177), 0, []) :: (9, 56, (14, 0, 0, 0), 0, []) :: (12, 8, (0, 0, 0, 0), (-1), []) :: (13, 69, (0, 0, 0, 0), 0, []) :: []
def jm_l267 : jx_B := [(0, jm_b267_0), (14, jm_b267_14), (26, jm_b267_26), (58, jm_b267_58)]
def jm_i267 : jx_M := (⟨"OfDifferentMindsModel", "undo", "()I"⟩, prog_13_method_69_code, 2, (some .int), 0, 1, 11, jm_l267)
theorem jm_ok267 : jx_okM 267 jm_i267 := ⟨by decide +kernel, rfl, by decide +kernel, ⟨by decide +kernel, by decide +kernel⟩, by decide +kernel, jx_mem (i := 1715) (by decide +kernel) rfl, jx_mem (i := 116) (by decide +kernel) rfl, fun _ => ⟨jx_mem (i := 1713) (by decide +kernel) rfl, jx_mem (i := 1714) (by decide +kernel) rfl, by decide⟩, fun h => absurd h (by decide), fun h => absurd h (by decide), by decide, by decide, by decide, by decide +kernel, by decide +kernel⟩
-- OfDifferentMindsModel.capSpent()V
def jm_b268_41 : List jx_E := (41, 71, (0, 0, 0, 0), 0, []) :: []
def jm_b268_2 : List jx_E := (2, 0, (1, 0, 0, 0), 0, []) :: (3, 2, (0, 0, 0, 0), 0, []) :: (4, 32, (11, 5, 0, 116), 0, []) :: (7, 64, (41, 0, 0, 0), 0, []) :: (10, 2, (0, 0, 0, 0), 0, []) :: (11, 33, (11, 0, 0, 9), 0, []) :: (14, 8, (0, 0, 0, 0), 4, []) :: (15, 0, (1, 0, 0, 0), 0, []) :: (16, 14, (0, 0, 0, 0), 0, []) :: (17, 2, (0, 0, 0, 0), 0, []) :: (18, 33, (11, 0, 0, 9), 0, []) :: (21, 8, (0, 0, 0, 0), 4, []) :: (22, 0, (1, 0, 0, 0), 0, []) :: (23, 14, (0, 0, 0, 0), 0, []) :: (24, 38, (0, 0, 0, 0), 0, []) :: (25, 2, (0, 0, 0, 0), 0, []) :: (26, 33, (11, 6, 0, 19), 0, []) :: (29, 0, (1, 0, 0, 0), 0, []) :: (30, 38, (0, 0, 0, 0), 0, []) :: (31, 73, (311, 0, 0, 231), 0, []) :: (34, 41, (0, 0, 0, 0), 0, []) :: (35, 13, (1, 0, 0, 0), 1, []) :: (38, 54, (2, 0, 0, 0), 0, []) :: []
def jm_b268_0 : List jx_E := (0, 8, (0, 0, 0, 0), 0, []) :: (1, 4, (1, 0, 0, 0), 0, []) :: jm_b268_2
def jm_l268 : jx_B := [(0, jm_b268_0), (2, jm_b268_2), (41, jm_b268_41)]
def jm_i268 : jx_M := (⟨"OfDifferentMindsModel", "capSpent", "()V"⟩, prog_13_method_70_code, 2, none, 0, 1, 11, jm_l268)
theorem jm_ok268 : jx_okM 268 jm_i268 := ⟨by decide +kernel, rfl, by decide +kernel, ⟨by decide +kernel, by decide +kernel⟩, by decide +kernel, jx_mem (i := 1719) (by decide +kernel) rfl, jx_mem (i := 116) (by decide +kernel) rfl, fun _ => ⟨jx_mem (i := 1718) (by decide +kernel) rfl, jx_mem (i := 89) (by decide +kernel) rfl, by decide⟩, fun h => absurd h (by decide), fun h => absurd h (by decide), by decide, by decide, by decide, by decide +kernel, by decide +kernel⟩
-- OfDifferentMindsModel.where(I)I
def jm_b269_79 : List jx_E := (79, 49, (205, 2, 11, 291), 0, []) :: (82, 2, (0, 0, 0, 0), 0, []) :: (83, 33, (11, 34, 0, 59), 0, []) :: (86, 8, (0, 0, 0, 0), 0, []) :: (87, 38, (0, 0, 0, 0), 0, []) :: (88, 69, (0, 0, 0, 0), 0, []) :: []
def jm_b269_78 : List jx_E := (78, 8, (0, 0, 0, 0), 0, []) :: jm_b269_79
def jm_b269_74 : List jx_E := (74, 8, (0, 0, 0, 0), 1, []) :: (75, 54, (79, 0, 0, 0), 0, []) :: []
def jm_b269_50 : List jx_E := (50, 4, (2, 0, 0, 0), 0, []) :: (51, 2, (0, 0, 0, 0), 0, []) :: (52, 8, (0, 0, 0, 0), 0, []) :: (53, 34, (11, 11, 0, 106), 0, []) :: (56, 2, (0, 0, 0, 0), 0, []) :: (57, 0, (2, 0, 0, 0), 0, []) :: (58, 49, (205, 2, 11, 291), 0, []) :: (61, 2, (0, 0, 0, 0), 0, []) :: (62, 2, (0, 0, 0, 0), 0, []) :: (63, 49, (210, 1, 11, 265), 0, []) :: (66, 55, (74, 0, 0, 0), 0, []) :: (69, 0, (2, 0, 0, 0), 0, []) :: (70, 0, (1, 0, 0, 0), 0, []) :: (71, 64, (78, 0, 0, 0), 0, []) :: jm_b269_74
def jm_b269_49 : List jx_E := (49, 8, (0, 0, 0, 0), 0, []) :: jm_b269_50
def jm_b269_18 : List jx_E := (18, 2, (0, 0, 0, 0), 0, []) :: (19, 33, (11, 0, 0, 9), 0, []) :: (22, 2, (0, 0, 0, 0), 0, []) :: (23, 33, (11, 34, 0, 59), 0, []) :: (26, 8, (0, 0, 0, 0), 0, []) :: (27, 50, (241, 3, 0, 257), 0, []) :: (30, 2, (0, 0, 0, 0), 0, []) :: (31, 49, (210, 1, 11, 265), 0, []) :: (34, 55, (49, 0, 0, 0), 0, []) :: (37, 2, (0, 0, 0, 0), 0, []) :: (38, 2, (0, 0, 0, 0), 0, []) :: (39, 33, (11, 34, 0, 59), 0, []) :: (42, 0, (1, 0, 0, 0), 0, []) :: (43, 49, (248, 3, 11, 288), 0, []) :: (46, 54, (50, 0, 0, 0), 0, []) :: []
def jm_b269_0 : List jx_E := (0, 2, (0, 0, 0, 0), 0, []) :: (1, 8, (0, 0, 0, 0), 0, []) :: (2, 34, (11, 12, 0, 102), 0, []) :: (5, 0, (1, 0, 0, 0), 0, []) :: (6, 8, (0, 0, 0, 0), 0, []) :: (7, 10, (0, 0, 0, 0), 200, []) :: (10, 50, (202, 3, 0, 112), 0, []) :: (13, 56, (18, 0, 0, 0), 0, []) :: (16, 8, (0, 0, 0, 0), (-1), []) :: (17, 69, (0, 0, 0, 0), 0, []) :: []
def jm_l269 : jx_B := [(0, jm_b269_0), (18, jm_b269_18), (49, jm_b269_49), (50, jm_b269_50), (74, jm_b269_74), (78, jm_b269_78), (79, jm_b269_79)]
def jm_i269 : jx_M := (⟨"OfDifferentMindsModel", "where", "(I)I"⟩, prog_13_method_71_code, 3, (some .int), 0, 2, 11, jm_l269)
theorem jm_ok269 : jx_okM 269 jm_i269 := ⟨by decide +kernel, rfl, by decide +kernel, ⟨by decide +kernel, by decide +kernel⟩, by decide +kernel, jx_mem (i := 1723) (by decide +kernel) rfl, jx_mem (i := 116) (by decide +kernel) rfl, fun _ => ⟨jx_mem (i := 1721) (by decide +kernel) rfl, jx_mem (i := 1722) (by decide +kernel) rfl, by decide⟩, fun h => absurd h (by decide), fun h => absurd h (by decide), by decide, by decide, by decide, by decide +kernel, by decide +kernel⟩
-- OfDifferentMindsModel.mountThen(IIIZ)V
def jm_b270_49 : List jx_E := (49, 71, (0, 0, 0, 0), 0, []) :: []
def jm_b270_0 : List jx_E := (0, 2, (0, 0, 0, 0), 0, []) :: (1, 33, (11, 0, 0, 9), 0, []) :: (4, 2, (0, 0, 0, 0), 0, []) :: (5, 33, (11, 34, 0, 59), 0, []) :: (8, 8, (0, 0, 0, 0), 0, []) :: (9, 50, (241, 3, 0, 257), 0, []) :: (12, 2, (0, 0, 0, 0), 0, []) :: (13, 33, (11, 34, 0, 59), 0, []) :: (16, 8, (0, 0, 0, 0), 0, []) :: (17, 0, (3, 0, 0, 0), 0, []) :: (18, 41, (0, 0, 0, 0), 0, []) :: (19, 2, (0, 0, 0, 0), 0, []) :: (20, 33, (11, 34, 0, 59), 0, []) :: (23, 8, (0, 0, 0, 0), 1, []) :: (24, 0, (1, 0, 0, 0), 0, []) :: (25, 41, (0, 0, 0, 0), 0, []) :: (26, 2, (0, 0, 0, 0), 0, []) :: (27, 33, (11, 34, 0, 59), 0, []) :: (30, 8, (0, 0, 0, 0), 2, []) :: (31, 0, (2, 0, 0, 0), 0, []) :: (32, 41, (0, 0, 0, 0), 0, []) :: (33, 2, (0, 0, 0, 0), 0, []) :: (34, 33, (11, 34, 0, 59), 0, []) :: (37, 8, (0, 0, 0, 0), 3, []) :: (38, 8, (0, 0, 0, 0), 0, []) :: (39, 41, (0, 0, 0, 0), 0, []) :: (40, 1, (4, 0, 0, 0), 0, []) :: (42, 55, (49, 0, 0, 0), 0, []) :: (45, 2, (0, 0, 0, 0), 0, []) :: (46, 49, (271, 1, 11, 339), 0, []) :: jm_b270_49
def jm_l270 : jx_B := [(0, jm_b270_0), (49, jm_b270_49)]
def jm_i270 : jx_M := (⟨"OfDifferentMindsModel", "mountThen", "(IIIZ)V"⟩, prog_13_method_72_code, 5, none, 0, 5, 11, jm_l270)
theorem jm_ok270 : jx_okM 270 jm_i270 := ⟨by decide +kernel, rfl, by decide +kernel, ⟨by decide +kernel, by decide +kernel⟩, by decide +kernel, jx_mem (i := 1735) (by decide +kernel) rfl, jx_mem (i := 116) (by decide +kernel) rfl, fun _ => ⟨jx_mem (i := 1734) (by decide +kernel) rfl, jx_mem (i := 91) (by decide +kernel) rfl, by decide⟩, fun h => absurd h (by decide), fun h => absurd h (by decide), by decide, by decide, by decide, by decide +kernel, by decide +kernel⟩
-- OfDifferentMindsModel.freshen()V
def jm_b271_35 : List jx_E := (35, 71, (0, 0, 0, 0), 0, []) :: []
def jm_b271_2 : List jx_E := (2, 0, (1, 0, 0, 0), 0, []) :: (3, 2, (0, 0, 0, 0), 0, []) :: (4, 32, (11, 5, 0, 116), 0, []) :: (7, 64, (35, 0, 0, 0), 0, []) :: (10, 2, (0, 0, 0, 0), 0, []) :: (11, 33, (11, 34, 0, 59), 0, []) :: (14, 8, (0, 0, 0, 0), 4, []) :: (15, 0, (1, 0, 0, 0), 0, []) :: (16, 14, (0, 0, 0, 0), 0, []) :: (17, 8, (0, 0, 0, 0), 0, []) :: (18, 41, (0, 0, 0, 0), 0, []) :: (19, 2, (0, 0, 0, 0), 0, []) :: (20, 33, (11, 34, 0, 59), 0, []) :: (23, 9, (0, 0, 0, 0), 16, []) :: (25, 0, (1, 0, 0, 0), 0, []) :: (26, 14, (0, 0, 0, 0), 0, []) :: (27, 8, (0, 0, 0, 0), (-1), []) :: (28, 41, (0, 0, 0, 0), 0, []) :: (29, 13, (1, 0, 0, 0), 1, []) :: (32, 54, (2, 0, 0, 0), 0, []) :: []
def jm_b271_0 : List jx_E := (0, 8, (0, 0, 0, 0), 0, []) :: (1, 4, (1, 0, 0, 0), 0, []) :: jm_b271_2
def jm_l271 : jx_B := [(0, jm_b271_0), (2, jm_b271_2), (35, jm_b271_35)]
def jm_i271 : jx_M := (⟨"OfDifferentMindsModel", "freshen", "()V"⟩, prog_13_method_73_code, 2, none, 0, 1, 11, jm_l271)
theorem jm_ok271 : jx_okM 271 jm_i271 := ⟨by decide +kernel, rfl, by decide +kernel, ⟨by decide +kernel, by decide +kernel⟩, by decide +kernel, jx_mem (i := 1739) (by decide +kernel) rfl, jx_mem (i := 116) (by decide +kernel) rfl, fun _ => ⟨jx_mem (i := 1738) (by decide +kernel) rfl, jx_mem (i := 92) (by decide +kernel) rfl, by decide⟩, fun h => absurd h (by decide), fun h => absurd h (by decide), by decide, by decide, by decide, by decide +kernel, by decide +kernel⟩
-- OfDifferentMindsModel.canRide(III)Z
def jm_b272_22 : List jx_E := (22, 70, (0, 0, 0, 0), 0, []) :: []
def jm_b272_21 : List jx_E := (21, 8, (0, 0, 0, 0), 0, []) :: jm_b272_22
def jm_b272_0 : List jx_E := (0, 2, (0, 0, 0, 0), 0, []) :: (1, 0, (1, 0, 0, 0), 0, []) :: (2, 0, (2, 0, 0, 0), 0, []) :: (3, 49, (208, 3, 11, 261), 0, []) :: (6, 55, (21, 0, 0, 0), 0, []) :: (9, 2, (0, 0, 0, 0), 0, []) :: (10, 0, (3, 0, 0, 0), 0, []) :: (11, 49, (206, 2, 11, 244), 0, []) :: (14, 55, (21, 0, 0, 0), 0, []) :: (17, 8, (0, 0, 0, 0), 1, []) :: (18, 54, (22, 0, 0, 0), 0, []) :: []
def jm_l272 : jx_B := [(0, jm_b272_0), (21, jm_b272_21), (22, jm_b272_22)]
def jm_i272 : jx_M := (⟨"OfDifferentMindsModel", "canRide", "(III)Z"⟩, prog_13_method_74_code, 4, (some .boolean), 0, 4, 11, jm_l272)
theorem jm_ok272 : jx_okM 272 jm_i272 := ⟨by decide +kernel, rfl, by decide +kernel, ⟨by decide +kernel, by decide +kernel⟩, by decide +kernel, jx_mem (i := 1731) (by decide +kernel) rfl, jx_mem (i := 116) (by decide +kernel) rfl, fun _ => ⟨jx_mem (i := 1730) (by decide +kernel) rfl, jx_mem (i := 90) (by decide +kernel) rfl, by decide⟩, fun h => absurd h (by decide), fun h => absurd h (by decide), by decide, by decide, by decide, by decide +kernel, by decide +kernel⟩
-- OfDifferentMindsModel.stops(III)I
def jm_b273_87 : List jx_E := (87, 49, (205, 2, 11, 291), 0, []) :: (90, 2, (0, 0, 0, 0), 0, []) :: (91, 2, (0, 0, 0, 0), 0, []) :: (92, 32, (11, 31, 0, 282), 0, []) :: (95, 49, (205, 2, 11, 291), 0, []) :: (98, 1, (4, 0, 0, 0), 0, []) :: (100, 69, (0, 0, 0, 0), 0, []) :: []
def jm_b273_86 : List jx_E := (86, 8, (0, 0, 0, 0), 1, []) :: jm_b273_87
def jm_b273_67 : List jx_E := (67, 2, (0, 0, 0, 0), 0, []) :: (68, 2, (0, 0, 0, 0), 0, []) :: (69, 33, (11, 2, 0, 13), 0, []) :: (72, 2, (0, 0, 0, 0), 0, []) :: (73, 33, (11, 34, 0, 59), 0, []) :: (76, 8, (0, 0, 0, 0), 0, []) :: (77, 38, (0, 0, 0, 0), 0, []) :: (78, 38, (0, 0, 0, 0), 0, []) :: (79, 56, (86, 0, 0, 0), 0, []) :: (82, 8, (0, 0, 0, 0), 0, []) :: (83, 54, (87, 0, 0, 0), 0, []) :: []
def jm_b273_17 : List jx_E := (17, 2, (0, 0, 0, 0), 0, []) :: (18, 0, (1, 0, 0, 0), 0, []) :: (19, 0, (2, 0, 0, 0), 0, []) :: (20, 0, (3, 0, 0, 0), 0, []) :: (21, 8, (0, 0, 0, 0), 0, []) :: (22, 49, (270, 5, 11, 345), 0, []) :: (25, 2, (0, 0, 0, 0), 0, []) :: (26, 2, (0, 0, 0, 0), 0, []) :: (27, 33, (11, 34, 0, 59), 0, []) :: (30, 10, (0, 0, 0, 0), 200, []) :: (33, 49, (248, 3, 11, 288), 0, []) :: (36, 5, (4, 0, 0, 0), 0, []) :: (38, 2, (0, 0, 0, 0), 0, []) :: (39, 8, (0, 0, 0, 0), 0, []) :: (40, 34, (11, 11, 0, 106), 0, []) :: (43, 2, (0, 0, 0, 0), 0, []) :: (44, 2, (0, 0, 0, 0), 0, []) :: (45, 33, (11, 34, 0, 59), 0, []) :: (48, 8, (0, 0, 0, 0), 0, []) :: (49, 38, (0, 0, 0, 0), 0, []) :: (50, 49, (205, 2, 11, 291), 0, []) :: (53, 2, (0, 0, 0, 0), 0, []) :: (54, 2, (0, 0, 0, 0), 0, []) :: (55, 33, (11, 34, 0, 59), 0, []) :: (58, 49, (234, 2, 11, 236), 0, []) :: (61, 55, (67, 0, 0, 0), 0, []) :: (64, 9, (0, 0, 0, 0), (-2), []) :: (66, 69, (0, 0, 0, 0), 0, []) :: []
def jm_b273_0 : List jx_E := (0, 2, (0, 0, 0, 0), 0, []) :: (1, 8, (0, 0, 0, 0), 0, []) :: (2, 34, (11, 12, 0, 102), 0, []) :: (5, 2, (0, 0, 0, 0), 0, []) :: (6, 0, (1, 0, 0, 0), 0, []) :: (7, 0, (2, 0, 0, 0), 0, []) :: (8, 0, (3, 0, 0, 0), 0, []) :: (9, 49, (272, 4, 11, 342), 0, []) :: (12, 56, (17, 0, 0, 0), 0, []) :: (15, 8, (0, 0, 0, 0), (-1), []) :: (16, 69, (0, 0, 0, 0), 0, []) :: []
def jm_l273 : jx_B := [(0, jm_b273_0), (17, jm_b273_17), (67, jm_b273_67), (86, jm_b273_86), (87, jm_b273_87)]
def jm_i273 : jx_M := (⟨"OfDifferentMindsModel", "stops", "(III)I"⟩, prog_13_method_75_code, 5, (some .int), 0, 4, 11, jm_l273)
theorem jm_ok273 : jx_okM 273 jm_i273 := ⟨by decide +kernel, rfl, by decide +kernel, ⟨by decide +kernel, by decide +kernel⟩, by decide +kernel, jx_mem (i := 1727) (by decide +kernel) rfl, jx_mem (i := 116) (by decide +kernel) rfl, fun _ => ⟨jx_mem (i := 1725) (by decide +kernel) rfl, jx_mem (i := 1726) (by decide +kernel) rfl, by decide⟩, fun h => absurd h (by decide), fun h => absurd h (by decide), by decide, by decide, by decide, by decide +kernel, by decide +kernel⟩
-- OfDifferentMindsModel.trail(III)I
def jm_b274_170 : List jx_E := (170, 2, (0, 0, 0, 0), 0, []) :: (171, 8, (0, 0, 0, 0), 0, []) :: (172, 34, (11, 11, 0, 106), 0, []) :: (175, 2, (0, 0, 0, 0), 0, []) :: (176, 1, (4, 0, 0, 0), 0, []) :: (178, 49, (205, 2, 11, 291), 0, []) :: (181, 2, (0, 0, 0, 0), 0, []) :: (182, 2, (0, 0, 0, 0), 0, []) :: (183, 33, (11, 35, 0, 62), 0, []) :: (186, 1, (6, 0, 0, 0), 0, []) :: (188, 38, (0, 0, 0, 0), 0, []) :: (189, 49, (205, 2, 11, 291), 0, []) :: (192, 2, (0, 0, 0, 0), 0, []) :: (193, 1, (6, 0, 0, 0), 0, []) :: (195, 49, (205, 2, 11, 291), 0, []) :: (198, 1, (5, 0, 0, 0), 0, []) :: (200, 69, (0, 0, 0, 0), 0, []) :: []
def jm_b274_164 : List jx_E := (164, 13, (7, 0, 0, 0), 1, []) :: (167, 54, (111, 0, 0, 0), 0, []) :: []
def jm_b274_140 : List jx_E := (140, 21, (0, 0, 0, 0), 0, []) :: (141, 5, (5, 0, 0, 0), 0, []) :: (143, 2, (0, 0, 0, 0), 0, []) :: (144, 33, (11, 35, 0, 62), 0, []) :: (147, 1, (7, 0, 0, 0), 0, []) :: (149, 38, (0, 0, 0, 0), 0, []) :: (150, 2, (0, 0, 0, 0), 0, []) :: (151, 33, (11, 35, 0, 62), 0, []) :: (154, 1, (6, 0, 0, 0), 0, []) :: (156, 38, (0, 0, 0, 0), 0, []) :: (157, 66, (164, 0, 0, 0), 0, []) :: (160, 1, (7, 0, 0, 0), 0, []) :: (162, 5, (6, 0, 0, 0), 0, []) :: jm_b274_164
def jm_b274_139 : List jx_E := (139, 8, (0, 0, 0, 0), 0, []) :: jm_b274_140
def jm_b274_111 : List jx_E := (111, 1, (7, 0, 0, 0), 0, []) :: (113, 2, (0, 0, 0, 0), 0, []) :: (114, 32, (11, 1, 0, 109), 0, []) :: (117, 64, (170, 0, 0, 0), 0, []) :: (120, 1, (5, 0, 0, 0), 0, []) :: (122, 2, (0, 0, 0, 0), 0, []) :: (123, 33, (11, 35, 0, 62), 0, []) :: (126, 1, (7, 0, 0, 0), 0, []) :: (128, 38, (0, 0, 0, 0), 0, []) :: (129, 60, (139, 0, 0, 0), 0, []) :: (132, 8, (0, 0, 0, 0), 1, []) :: (133, 1, (7, 0, 0, 0), 0, []) :: (135, 23, (0, 0, 0, 0), 0, []) :: (136, 54, (140, 0, 0, 0), 0, []) :: []
def jm_b274_102 : List jx_E := (102, 8, (0, 0, 0, 0), 0, []) :: (103, 5, (5, 0, 0, 0), 0, []) :: (105, 8, (0, 0, 0, 0), 0, []) :: (106, 5, (6, 0, 0, 0), 0, []) :: (108, 8, (0, 0, 0, 0), 0, []) :: (109, 5, (7, 0, 0, 0), 0, []) :: jm_b274_111
def jm_b274_62 : List jx_E := (62, 1, (4, 0, 0, 0), 0, []) :: (64, 10, (0, 0, 0, 0), 200, []) :: (67, 64, (102, 0, 0, 0), 0, []) :: (70, 2, (0, 0, 0, 0), 0, []) :: (71, 2, (0, 0, 0, 0), 0, []) :: (72, 33, (11, 34, 0, 59), 0, []) :: (75, 49, (236, 2, 11, 285), 0, []) :: (78, 55, (102, 0, 0, 0), 0, []) :: (81, 2, (0, 0, 0, 0), 0, []) :: (82, 33, (11, 35, 0, 62), 0, []) :: (85, 2, (0, 0, 0, 0), 0, []) :: (86, 33, (11, 34, 0, 59), 0, []) :: (89, 8, (0, 0, 0, 0), 0, []) :: (90, 38, (0, 0, 0, 0), 0, []) :: (91, 29, (0, 0, 0, 0), 0, []) :: (92, 38, (0, 0, 0, 0), 0, []) :: (93, 8, (0, 0, 0, 0), 1, []) :: (94, 14, (0, 0, 0, 0), 0, []) :: (95, 41, (0, 0, 0, 0), 0, []) :: (96, 13, (4, 0, 0, 0), 1, []) :: (99, 54, (62, 0, 0, 0), 0, []) :: []
def jm_b274_59 : List jx_E := (59, 8, (0, 0, 0, 0), 0, []) :: (60, 5, (4, 0, 0, 0), 0, []) :: jm_b274_62
def jm_b274_52 : List jx_E := (52, 41, (0, 0, 0, 0), 0, []) :: (53, 13, (4, 0, 0, 0), 1, []) :: (56, 54, (28, 0, 0, 0), 0, []) :: []
def jm_b274_51 : List jx_E := (51, 8, (0, 0, 0, 0), 0, []) :: jm_b274_52
def jm_b274_28 : List jx_E := (28, 1, (4, 0, 0, 0), 0, []) :: (30, 9, (0, 0, 0, 0), 10, []) :: (32, 64, (59, 0, 0, 0), 0, []) :: (35, 2, (0, 0, 0, 0), 0, []) :: (36, 33, (11, 35, 0, 62), 0, []) :: (39, 1, (4, 0, 0, 0), 0, []) :: (41, 1, (4, 0, 0, 0), 0, []) :: (43, 0, (3, 0, 0, 0), 0, []) :: (44, 62, (51, 0, 0, 0), 0, []) :: (47, 8, (0, 0, 0, 0), 1, []) :: (48, 54, (52, 0, 0, 0), 0, []) :: []
def jm_b274_17 : List jx_E := (17, 2, (0, 0, 0, 0), 0, []) :: (18, 0, (1, 0, 0, 0), 0, []) :: (19, 0, (2, 0, 0, 0), 0, []) :: (20, 0, (3, 0, 0, 0), 0, []) :: (21, 8, (0, 0, 0, 0), 0, []) :: (22, 49, (270, 5, 11, 345), 0, []) :: (25, 8, (0, 0, 0, 0), 0, []) :: (26, 5, (4, 0, 0, 0), 0, []) :: jm_b274_28
def jm_b274_0 : List jx_E := (0, 2, (0, 0, 0, 0), 0, []) :: (1, 8, (0, 0, 0, 0), 0, []) :: (2, 34, (11, 12, 0, 102), 0, []) :: (5, 2, (0, 0, 0, 0), 0, []) :: (6, 0, (1, 0, 0, 0), 0, []) :: (7, 0, (2, 0, 0, 0), 0, []) :: (8, 0, (3, 0, 0, 0), 0, []) :: (9, 49, (272, 4, 11, 342), 0, []) :: (12, 56, (17, 0, 0, 0), 0, []) :: (15, 8, (0, 0, 0, 0), (-1), []) :: (16, 69, (0, 0, 0, 0), 0, []) :: []
def jm_l274 : jx_B := [(0, jm_b274_0), (17, jm_b274_17), (28, jm_b274_28), (51, jm_b274_51), (52, jm_b274_52), (59, jm_b274_59), (62, jm_b274_62), (102, jm_b274_102), (111, jm_b274_111), (139, jm_b274_139), (140, jm_b274_140), (164, jm_b274_164), (170, jm_b274_170)]
def jm_i274 : jx_M := (⟨"OfDifferentMindsModel", "trail", "(III)I"⟩, prog_13_method_76_code, 8, (some .int), 0, 4, 11, jm_l274)
theorem jm_ok274 : jx_okM 274 jm_i274 := ⟨by decide +kernel, rfl, by decide +kernel, ⟨by decide +kernel, by decide +kernel⟩, by decide +kernel, jx_mem (i := 1743) (by decide +kernel) rfl, jx_mem (i := 116) (by decide +kernel) rfl, fun _ => ⟨jx_mem (i := 1741) (by decide +kernel) rfl, jx_mem (i := 1742) (by decide +kernel) rfl, by decide⟩, fun h => absurd h (by decide), fun h => absurd h (by decide), by decide, by decide, by decide, by decide +kernel, by decide +kernel⟩
-- OfDifferentMindsModel.reaches(IIII)I
def jm_b275_76 : List jx_E := (76, 1, (5, 0, 0, 0), 0, []) :: (78, 69, (0, 0, 0, 0), 0, []) :: []
def jm_b275_70 : List jx_E := (70, 13, (5, 0, 0, 0), 1, []) :: (73, 54, (37, 0, 0, 0), 0, []) :: []
def jm_b275_67 : List jx_E := (67, 9, (0, 0, 0, 0), (-2), []) :: (69, 69, (0, 0, 0, 0), 0, []) :: []
def jm_b275_37 : List jx_E := (37, 2, (0, 0, 0, 0), 0, []) :: (38, 33, (11, 34, 0, 59), 0, []) :: (41, 8, (0, 0, 0, 0), 0, []) :: (42, 38, (0, 0, 0, 0), 0, []) :: (43, 1, (4, 0, 0, 0), 0, []) :: (45, 61, (76, 0, 0, 0), 0, []) :: (48, 1, (5, 0, 0, 0), 0, []) :: (50, 10, (0, 0, 0, 0), 200, []) :: (53, 61, (67, 0, 0, 0), 0, []) :: (56, 2, (0, 0, 0, 0), 0, []) :: (57, 2, (0, 0, 0, 0), 0, []) :: (58, 33, (11, 34, 0, 59), 0, []) :: (61, 49, (236, 2, 11, 285), 0, []) :: (64, 56, (70, 0, 0, 0), 0, []) :: jm_b275_67
def jm_b275_26 : List jx_E := (26, 2, (0, 0, 0, 0), 0, []) :: (27, 0, (1, 0, 0, 0), 0, []) :: (28, 0, (2, 0, 0, 0), 0, []) :: (29, 0, (3, 0, 0, 0), 0, []) :: (30, 8, (0, 0, 0, 0), 0, []) :: (31, 49, (270, 5, 11, 345), 0, []) :: (34, 8, (0, 0, 0, 0), 0, []) :: (35, 5, (5, 0, 0, 0), 0, []) :: jm_b275_37
def jm_b275_24 : List jx_E := (24, 8, (0, 0, 0, 0), (-1), []) :: (25, 69, (0, 0, 0, 0), 0, []) :: []
def jm_b275_0 : List jx_E := (0, 2, (0, 0, 0, 0), 0, []) :: (1, 8, (0, 0, 0, 0), 0, []) :: (2, 34, (11, 12, 0, 102), 0, []) :: (5, 2, (0, 0, 0, 0), 0, []) :: (6, 0, (1, 0, 0, 0), 0, []) :: (7, 0, (2, 0, 0, 0), 0, []) :: (8, 0, (3, 0, 0, 0), 0, []) :: (9, 49, (272, 4, 11, 342), 0, []) :: (12, 55, (24, 0, 0, 0), 0, []) :: (15, 2, (0, 0, 0, 0), 0, []) :: (16, 1, (4, 0, 0, 0), 0, []) :: (18, 49, (206, 2, 11, 244), 0, []) :: (21, 56, (26, 0, 0, 0), 0, []) :: jm_b275_24
def jm_l275 : jx_B := [(0, jm_b275_0), (24, jm_b275_24), (26, jm_b275_26), (37, jm_b275_37), (67, jm_b275_67), (70, jm_b275_70), (76, jm_b275_76)]
def jm_i275 : jx_M := (⟨"OfDifferentMindsModel", "reaches", "(IIII)I"⟩, prog_13_method_77_code, 6, (some .int), 0, 5, 11, jm_l275)
theorem jm_ok275 : jx_okM 275 jm_i275 := ⟨by decide +kernel, rfl, by decide +kernel, ⟨by decide +kernel, by decide +kernel⟩, by decide +kernel, jx_mem (i := 1747) (by decide +kernel) rfl, jx_mem (i := 116) (by decide +kernel) rfl, fun _ => ⟨jx_mem (i := 1745) (by decide +kernel) rfl, jx_mem (i := 1746) (by decide +kernel) rfl, by decide⟩, fun h => absurd h (by decide), fun h => absurd h (by decide), by decide, by decide, by decide, by decide +kernel, by decide +kernel⟩
-- OfDifferentMindsModel.stopOf(IIIZ)I
def jm_b276_45 : List jx_E := (45, 69, (0, 0, 0, 0), 0, []) :: []
def jm_b276_39 : List jx_E := (39, 2, (0, 0, 0, 0), 0, []) :: (40, 33, (11, 34, 0, 59), 0, []) :: (43, 8, (0, 0, 0, 0), 0, []) :: (44, 38, (0, 0, 0, 0), 0, []) :: jm_b276_45
def jm_b276_0 : List jx_E := (0, 2, (0, 0, 0, 0), 0, []) :: (1, 0, (1, 0, 0, 0), 0, []) :: (2, 0, (2, 0, 0, 0), 0, []) :: (3, 0, (3, 0, 0, 0), 0, []) :: (4, 1, (4, 0, 0, 0), 0, []) :: (6, 49, (270, 5, 11, 345), 0, []) :: (9, 2, (0, 0, 0, 0), 0, []) :: (10, 2, (0, 0, 0, 0), 0, []) :: (11, 2, (0, 0, 0, 0), 0, []) :: (12, 33, (11, 34, 0, 59), 0, []) :: (15, 10, (0, 0, 0, 0), 200, []) :: (18, 49, (248, 3, 11, 288), 0, []) :: (21, 34, (11, 36, 0, 349), 0, []) :: (24, 2, (0, 0, 0, 0), 0, []) :: (25, 2, (0, 0, 0, 0), 0, []) :: (26, 33, (11, 34, 0, 59), 0, []) :: (29, 49, (234, 2, 11, 236), 0, []) :: (32, 55, (39, 0, 0, 0), 0, []) :: (35, 8, (0, 0, 0, 0), (-1), []) :: (36, 54, (45, 0, 0, 0), 0, []) :: []
def jm_l276 : jx_B := [(0, jm_b276_0), (39, jm_b276_39), (45, jm_b276_45)]
def jm_i276 : jx_M := (⟨"OfDifferentMindsModel", "stopOf", "(IIIZ)I"⟩, prog_13_method_78_code, 5, (some .int), 0, 5, 11, jm_l276)
theorem jm_ok276 : jx_okM 276 jm_i276 := ⟨by decide +kernel, rfl, by decide +kernel, ⟨by decide +kernel, by decide +kernel⟩, by decide +kernel, jx_mem (i := 1756) (by decide +kernel) rfl, jx_mem (i := 116) (by decide +kernel) rfl, fun _ => ⟨jx_mem (i := 1755) (by decide +kernel) rfl, jx_mem (i := 93) (by decide +kernel) rfl, by decide⟩, fun h => absurd h (by decide), fun h => absurd h (by decide), by decide, by decide, by decide, by decide +kernel, by decide +kernel⟩
-- OfDifferentMindsModel.pairs(II)I
def jm_b277_152 : List jx_E := (152, 0, (3, 0, 0, 0), 0, []) :: (153, 69, (0, 0, 0, 0), 0, []) :: []
def jm_b277_125 : List jx_E := (125, 2, (0, 0, 0, 0), 0, []) :: (126, 8, (0, 0, 0, 0), 0, []) :: (127, 34, (11, 11, 0, 106), 0, []) :: (130, 0, (3, 0, 0, 0), 0, []) :: (131, 60, (152, 0, 0, 0), 0, []) :: (134, 2, (0, 0, 0, 0), 0, []) :: (135, 1, (4, 0, 0, 0), 0, []) :: (137, 49, (205, 2, 11, 291), 0, []) :: (140, 2, (0, 0, 0, 0), 0, []) :: (141, 1, (5, 0, 0, 0), 0, []) :: (143, 49, (205, 2, 11, 291), 0, []) :: (146, 2, (0, 0, 0, 0), 0, []) :: (147, 1, (6, 0, 0, 0), 0, []) :: (149, 49, (205, 2, 11, 291), 0, []) :: jm_b277_152
def jm_b277_119 : List jx_E := (119, 13, (7, 0, 0, 0), 1, []) :: (122, 54, (39, 0, 0, 0), 0, []) :: []
def jm_b277_113 : List jx_E := (113, 13, (8, 0, 0, 0), 1, []) :: (116, 54, (51, 0, 0, 0), 0, []) :: []
def jm_b277_99 : List jx_E := (99, 1, (7, 0, 0, 0), 0, []) :: (101, 5, (4, 0, 0, 0), 0, []) :: (103, 1, (8, 0, 0, 0), 0, []) :: (105, 5, (5, 0, 0, 0), 0, []) :: (107, 2, (0, 0, 0, 0), 0, []) :: (108, 32, (11, 36, 0, 349), 0, []) :: (111, 5, (6, 0, 0, 0), 0, []) :: jm_b277_113
def jm_b277_84 : List jx_E := (84, 13, (3, 0, 0, 0), 1, []) :: (87, 2, (0, 0, 0, 0), 0, []) :: (88, 32, (11, 36, 0, 349), 0, []) :: (91, 1, (6, 0, 0, 0), 0, []) :: (93, 63, (99, 0, 0, 0), 0, []) :: (96, 54, (113, 0, 0, 0), 0, []) :: []
def jm_b277_51 : List jx_E := (51, 1, (8, 0, 0, 0), 0, []) :: (53, 2, (0, 0, 0, 0), 0, []) :: (54, 32, (11, 5, 0, 116), 0, []) :: (57, 64, (119, 0, 0, 0), 0, []) :: (60, 1, (7, 0, 0, 0), 0, []) :: (62, 1, (8, 0, 0, 0), 0, []) :: (64, 61, (113, 0, 0, 0), 0, []) :: (67, 2, (0, 0, 0, 0), 0, []) :: (68, 1, (7, 0, 0, 0), 0, []) :: (70, 1, (8, 0, 0, 0), 0, []) :: (72, 0, (1, 0, 0, 0), 0, []) :: (73, 8, (0, 0, 0, 0), 0, []) :: (74, 49, (276, 5, 11, 353), 0, []) :: (77, 0, (2, 0, 0, 0), 0, []) :: (78, 61, (84, 0, 0, 0), 0, []) :: (81, 54, (113, 0, 0, 0), 0, []) :: []
def jm_b277_39 : List jx_E := (39, 1, (7, 0, 0, 0), 0, []) :: (41, 2, (0, 0, 0, 0), 0, []) :: (42, 32, (11, 5, 0, 116), 0, []) :: (45, 64, (125, 0, 0, 0), 0, []) :: (48, 8, (0, 0, 0, 0), 0, []) :: (49, 5, (8, 0, 0, 0), 0, []) :: jm_b277_51
def jm_b277_23 : List jx_E := (23, 8, (0, 0, 0, 0), 0, []) :: (24, 4, (3, 0, 0, 0), 0, []) :: (25, 8, (0, 0, 0, 0), (-1), []) :: (26, 5, (4, 0, 0, 0), 0, []) :: (28, 8, (0, 0, 0, 0), (-1), []) :: (29, 5, (5, 0, 0, 0), 0, []) :: (31, 12, (0, 0, 0, 352), 1000000, []) :: (34, 5, (6, 0, 0, 0), 0, []) :: (36, 8, (0, 0, 0, 0), 0, []) :: (37, 5, (7, 0, 0, 0), 0, []) :: jm_b277_39
def jm_b277_21 : List jx_E := (21, 8, (0, 0, 0, 0), (-1), []) :: (22, 69, (0, 0, 0, 0), 0, []) :: []
def jm_b277_0 : List jx_E := (0, 2, (0, 0, 0, 0), 0, []) :: (1, 8, (0, 0, 0, 0), 0, []) :: (2, 34, (11, 12, 0, 102), 0, []) :: (5, 2, (0, 0, 0, 0), 0, []) :: (6, 0, (1, 0, 0, 0), 0, []) :: (7, 49, (206, 2, 11, 244), 0, []) :: (10, 55, (21, 0, 0, 0), 0, []) :: (13, 2, (0, 0, 0, 0), 0, []) :: (14, 0, (2, 0, 0, 0), 0, []) :: (15, 49, (206, 2, 11, 244), 0, []) :: (18, 56, (23, 0, 0, 0), 0, []) :: jm_b277_21
def jm_l277 : jx_B := [(0, jm_b277_0), (21, jm_b277_21), (23, jm_b277_23), (39, jm_b277_39), (51, jm_b277_51), (84, jm_b277_84), (99, jm_b277_99), (113, jm_b277_113), (119, jm_b277_119), (125, jm_b277_125), (152, jm_b277_152)]
def jm_i277 : jx_M := (⟨"OfDifferentMindsModel", "pairs", "(II)I"⟩, prog_13_method_79_code, 9, (some .int), 0, 3, 11, jm_l277)
theorem jm_ok277 : jx_okM 277 jm_i277 := ⟨by decide +kernel, rfl, by decide +kernel, ⟨by decide +kernel, by decide +kernel⟩, by decide +kernel, jx_mem (i := 1751) (by decide +kernel) rfl, jx_mem (i := 116) (by decide +kernel) rfl, fun _ => ⟨jx_mem (i := 1749) (by decide +kernel) rfl, jx_mem (i := 1750) (by decide +kernel) rfl, by decide⟩, fun h => absurd h (by decide), fun h => absurd h (by decide), by decide, by decide, by decide, by decide +kernel, by decide +kernel⟩
-- OfDifferentMindsModel.stopAt(III)I
def jm_b278_0 : List jx_E := (0, 2, (0, 0, 0, 0), 0, []) :: (1, 33, (11, 37, 0, 65), 0, []) :: (4, 0, (1, 0, 0, 0), 0, []) :: (5, 9, (0, 0, 0, 0), 6, []) :: (7, 16, (0, 0, 0, 0), 0, []) :: (8, 0, (2, 0, 0, 0), 0, []) :: (9, 14, (0, 0, 0, 0), 0, []) :: (10, 9, (0, 0, 0, 0), 6, []) :: (12, 16, (0, 0, 0, 0), 0, []) :: (13, 0, (3, 0, 0, 0), 0, []) :: (14, 14, (0, 0, 0, 0), 0, []) :: (15, 38, (0, 0, 0, 0), 0, []) :: (16, 69, (0, 0, 0, 0), 0, []) :: []
def jm_l278 : jx_B := [(0, jm_b278_0)]
def jm_i278 : jx_M := (⟨"OfDifferentMindsModel", "stopAt", "(III)I"⟩, prog_13_method_80_code, 4, (some .int), 0, 4, 11, jm_l278)
theorem jm_ok278 : jx_okM 278 jm_i278 := ⟨by decide +kernel, rfl, by decide +kernel, ⟨by decide +kernel, by decide +kernel⟩, by decide +kernel, jx_mem (i := 1772) (by decide +kernel) rfl, jx_mem (i := 116) (by decide +kernel) rfl, fun _ => ⟨jx_mem (i := 1771) (by decide +kernel) rfl, jx_mem (i := 96) (by decide +kernel) rfl, by decide⟩, fun h => absurd h (by decide), fun h => absurd h (by decide), by decide, by decide, by decide, by decide +kernel, by decide +kernel⟩
-- OfDifferentMindsModel.layStops()V
def jm_b279_81 : List jx_E := (81, 71, (0, 0, 0, 0), 0, []) :: []
def jm_b279_75 : List jx_E := (75, 13, (1, 0, 0, 0), 1, []) :: (78, 54, (2, 0, 0, 0), 0, []) :: []
def jm_b279_69 : List jx_E := (69, 13, (2, 0, 0, 0), 1, []) :: (72, 54, (12, 0, 0, 0), 0, []) :: []
def jm_b279_62 : List jx_E := (62, 41, (0, 0, 0, 0), 0, []) :: (63, 13, (3, 0, 0, 0), 1, []) :: (66, 54, (20, 0, 0, 0), 0, []) :: []
def jm_b279_61 : List jx_E := (61, 8, (0, 0, 0, 0), (-1), []) :: jm_b279_62
def jm_b279_20 : List jx_E := (20, 0, (3, 0, 0, 0), 0, []) :: (21, 9, (0, 0, 0, 0), 6, []) :: (23, 64, (69, 0, 0, 0), 0, []) :: (26, 2, (0, 0, 0, 0), 0, []) :: (27, 33, (11, 37, 0, 65), 0, []) :: (30, 0, (1, 0, 0, 0), 0, []) :: (31, 9, (0, 0, 0, 0), 6, []) :: (33, 16, (0, 0, 0, 0), 0, []) :: (34, 0, (2, 0, 0, 0), 0, []) :: (35, 14, (0, 0, 0, 0), 0, []) :: (36, 9, (0, 0, 0, 0), 6, []) :: (38, 16, (0, 0, 0, 0), 0, []) :: (39, 0, (3, 0, 0, 0), 0, []) :: (40, 14, (0, 0, 0, 0), 0, []) :: (41, 2, (0, 0, 0, 0), 0, []) :: (42, 0, (2, 0, 0, 0), 0, []) :: (43, 0, (3, 0, 0, 0), 0, []) :: (44, 49, (208, 3, 11, 261), 0, []) :: (47, 55, (61, 0, 0, 0), 0, []) :: (50, 2, (0, 0, 0, 0), 0, []) :: (51, 0, (2, 0, 0, 0), 0, []) :: (52, 0, (3, 0, 0, 0), 0, []) :: (53, 0, (1, 0, 0, 0), 0, []) :: (54, 8, (0, 0, 0, 0), 1, []) :: (55, 49, (276, 5, 11, 353), 0, []) :: (58, 54, (62, 0, 0, 0), 0, []) :: []
def jm_b279_12 : List jx_E := (12, 0, (2, 0, 0, 0), 0, []) :: (13, 9, (0, 0, 0, 0), 6, []) :: (15, 64, (75, 0, 0, 0), 0, []) :: (18, 8, (0, 0, 0, 0), 0, []) :: (19, 4, (3, 0, 0, 0), 0, []) :: jm_b279_20
def jm_b279_2 : List jx_E := (2, 0, (1, 0, 0, 0), 0, []) :: (3, 2, (0, 0, 0, 0), 0, []) :: (4, 32, (11, 1, 0, 109), 0, []) :: (7, 64, (81, 0, 0, 0), 0, []) :: (10, 8, (0, 0, 0, 0), 0, []) :: (11, 4, (2, 0, 0, 0), 0, []) :: jm_b279_12
def jm_b279_0 : List jx_E := (0, 8, (0, 0, 0, 0), 0, []) :: (1, 4, (1, 0, 0, 0), 0, []) :: jm_b279_2
def jm_l279 : jx_B := [(0, jm_b279_0), (2, jm_b279_2), (12, jm_b279_12), (20, jm_b279_20), (61, jm_b279_61), (62, jm_b279_62), (69, jm_b279_69), (75, jm_b279_75), (81, jm_b279_81)]
def jm_i279 : jx_M := (⟨"OfDifferentMindsModel", "layStops", "()V"⟩, prog_13_method_81_code, 4, none, 0, 1, 11, jm_l279)
theorem jm_ok279 : jx_okM 279 jm_i279 := ⟨by decide +kernel, rfl, by decide +kernel, ⟨by decide +kernel, by decide +kernel⟩, by decide +kernel, jx_mem (i := 1764) (by decide +kernel) rfl, jx_mem (i := 116) (by decide +kernel) rfl, fun _ => ⟨jx_mem (i := 1763) (by decide +kernel) rfl, jx_mem (i := 94) (by decide +kernel) rfl, by decide⟩, fun h => absurd h (by decide), fun h => absurd h (by decide), by decide, by decide, by decide, by decide +kernel, by decide +kernel⟩
end
section
/-! ===== methods 280 .. as entries ===== -/
-- OfDifferentMindsModel.ridesBy(IIIII)I
def jm_b280_68 : List jx_E := (68, 69, (0, 0, 0, 0), 0, []) :: []
def jm_b280_65 : List jx_E := (65, 12, (0, 0, 0, 352), 1000000, []) :: jm_b280_68
def jm_b280_47 : List jx_E := (47, 12, (0, 0, 0, 352), 1000000, []) :: (50, 2, (0, 0, 0, 0), 0, []) :: (51, 33, (11, 38, 0, 68), 0, []) :: (54, 1, (6, 0, 0, 0), 0, []) :: (56, 38, (0, 0, 0, 0), 0, []) :: (57, 8, (0, 0, 0, 0), 1, []) :: (58, 14, (0, 0, 0, 0), 0, []) :: (59, 73, (311, 0, 0, 231), 0, []) :: (62, 54, (68, 0, 0, 0), 0, []) :: []
def jm_b280_28 : List jx_E := (28, 1, (6, 0, 0, 0), 0, []) :: (30, 1, (4, 0, 0, 0), 0, []) :: (32, 61, (47, 0, 0, 0), 0, []) :: (35, 2, (0, 0, 0, 0), 0, []) :: (36, 32, (11, 4, 0, 171), 0, []) :: (39, 1, (6, 0, 0, 0), 0, []) :: (41, 50, (203, 2, 0, 309), 0, []) :: (44, 55, (65, 0, 0, 0), 0, []) :: jm_b280_47
def jm_b280_19 : List jx_E := (19, 1, (6, 0, 0, 0), 0, []) :: (21, 1, (5, 0, 0, 0), 0, []) :: (23, 62, (28, 0, 0, 0), 0, []) :: (26, 8, (0, 0, 0, 0), 1, []) :: (27, 69, (0, 0, 0, 0), 0, []) :: []
def jm_b280_0 : List jx_E := (0, 2, (0, 0, 0, 0), 0, []) :: (1, 0, (1, 0, 0, 0), 0, []) :: (2, 0, (2, 0, 0, 0), 0, []) :: (3, 0, (3, 0, 0, 0), 0, []) :: (4, 49, (278, 4, 11, 357), 0, []) :: (7, 5, (6, 0, 0, 0), 0, []) :: (9, 1, (6, 0, 0, 0), 0, []) :: (11, 8, (0, 0, 0, 0), (-1), []) :: (12, 62, (19, 0, 0, 0), 0, []) :: (15, 12, (0, 0, 0, 352), 1000000, []) :: (18, 69, (0, 0, 0, 0), 0, []) :: []
def jm_l280 : jx_B := [(0, jm_b280_0), (19, jm_b280_19), (28, jm_b280_28), (47, jm_b280_47), (65, jm_b280_65), (68, jm_b280_68)]
def jm_i280 : jx_M := (⟨"OfDifferentMindsModel", "ridesBy", "(IIIII)I"⟩, prog_13_method_82_code, 7, (some .int), 0, 6, 11, jm_l280)
theorem jm_ok280 : jx_okM 280 jm_i280 := ⟨by decide +kernel, rfl, by decide +kernel, ⟨by decide +kernel, by decide +kernel⟩, by decide +kernel, jx_mem (i := 1768) (by decide +kernel) rfl, jx_mem (i := 116) (by decide +kernel) rfl, fun _ => ⟨jx_mem (i := 1767) (by decide +kernel) rfl, jx_mem (i := 95) (by decide +kernel) rfl, by decide⟩, fun h => absurd h (by decide), fun h => absurd h (by decide), by decide, by decide, by decide, by decide +kernel, by decide +kernel⟩
-- OfDifferentMindsModel.changes(II)I
def jm_b281_283 : List jx_E := (283, 2, (0, 0, 0, 0), 0, []) :: (284, 33, (11, 38, 0, 68), 0, []) :: (287, 0, (1, 0, 0, 0), 0, []) :: (288, 38, (0, 0, 0, 0), 0, []) :: (289, 69, (0, 0, 0, 0), 0, []) :: []
def jm_b281_259 : List jx_E := (259, 2, (0, 0, 0, 0), 0, []) :: (260, 1, (4, 0, 0, 0), 0, []) :: (262, 1, (6, 0, 0, 0), 0, []) :: (264, 9, (0, 0, 0, 0), 6, []) :: (266, 17, (0, 0, 0, 0), 0, []) :: (267, 1, (6, 0, 0, 0), 0, []) :: (269, 9, (0, 0, 0, 0), 6, []) :: (271, 18, (0, 0, 0, 0), 0, []) :: (272, 49, (278, 4, 11, 357), 0, []) :: (275, 5, (4, 0, 0, 0), 0, []) :: (277, 13, (5, 0, 0, 0), 1, []) :: (280, 54, (192, 0, 0, 0), 0, []) :: []
def jm_b281_235 : List jx_E := (235, 1, (5, 0, 0, 0), 0, []) :: (237, 8, (0, 0, 0, 0), 5, []) :: (238, 64, (259, 0, 0, 0), 0, []) :: (241, 2, (0, 0, 0, 0), 0, []) :: (242, 1, (6, 0, 0, 0), 0, []) :: (244, 9, (0, 0, 0, 0), 6, []) :: (246, 17, (0, 0, 0, 0), 0, []) :: (247, 49, (205, 2, 11, 291), 0, []) :: (250, 2, (0, 0, 0, 0), 0, []) :: (251, 1, (6, 0, 0, 0), 0, []) :: (253, 9, (0, 0, 0, 0), 6, []) :: (255, 18, (0, 0, 0, 0), 0, []) :: (256, 49, (205, 2, 11, 291), 0, []) :: jm_b281_259
def jm_b281_201 : List jx_E := (201, 2, (0, 0, 0, 0), 0, []) :: (202, 1, (4, 0, 0, 0), 0, []) :: (204, 1, (6, 0, 0, 0), 0, []) :: (206, 9, (0, 0, 0, 0), 6, []) :: (208, 17, (0, 0, 0, 0), 0, []) :: (209, 1, (6, 0, 0, 0), 0, []) :: (211, 9, (0, 0, 0, 0), 6, []) :: (213, 18, (0, 0, 0, 0), 0, []) :: (214, 0, (1, 0, 0, 0), 0, []) :: (215, 0, (2, 0, 0, 0), 0, []) :: (216, 49, (280, 6, 11, 364), 0, []) :: (219, 2, (0, 0, 0, 0), 0, []) :: (220, 33, (11, 38, 0, 68), 0, []) :: (223, 1, (4, 0, 0, 0), 0, []) :: (225, 38, (0, 0, 0, 0), 0, []) :: (226, 61, (235, 0, 0, 0), 0, []) :: (229, 13, (6, 0, 0, 0), 1, []) :: (232, 54, (201, 0, 0, 0), 0, []) :: []
def jm_b281_192 : List jx_E := (192, 1, (4, 0, 0, 0), 0, []) :: (194, 0, (2, 0, 0, 0), 0, []) :: (195, 61, (283, 0, 0, 0), 0, []) :: (198, 8, (0, 0, 0, 0), 0, []) :: (199, 5, (6, 0, 0, 0), 0, []) :: jm_b281_201
def jm_b281_181 : List jx_E := (181, 2, (0, 0, 0, 0), 0, []) :: (182, 8, (0, 0, 0, 0), 0, []) :: (183, 34, (11, 11, 0, 106), 0, []) :: (186, 0, (1, 0, 0, 0), 0, []) :: (187, 5, (4, 0, 0, 0), 0, []) :: (189, 8, (0, 0, 0, 0), 0, []) :: (190, 5, (5, 0, 0, 0), 0, []) :: jm_b281_192
def jm_b281_166 : List jx_E := (166, 2, (0, 0, 0, 0), 0, []) :: (167, 33, (11, 38, 0, 68), 0, []) :: (170, 0, (1, 0, 0, 0), 0, []) :: (171, 38, (0, 0, 0, 0), 0, []) :: (172, 12, (0, 0, 0, 352), 1000000, []) :: (175, 62, (181, 0, 0, 0), 0, []) :: (178, 9, (0, 0, 0, 0), (-2), []) :: (180, 69, (0, 0, 0, 0), 0, []) :: []
def jm_b281_163 : List jx_E := (163, 54, (63, 0, 0, 0), 0, []) :: []
def jm_b281_157 : List jx_E := (157, 13, (4, 0, 0, 0), 1, []) :: (160, 54, (72, 0, 0, 0), 0, []) :: []
def jm_b281_151 : List jx_E := (151, 13, (5, 0, 0, 0), 1, []) :: (154, 54, (84, 0, 0, 0), 0, []) :: []
def jm_b281_145 : List jx_E := (145, 13, (6, 0, 0, 0), 1, []) :: (148, 54, (96, 0, 0, 0), 0, []) :: []
def jm_b281_134 : List jx_E := (134, 2, (0, 0, 0, 0), 0, []) :: (135, 33, (11, 38, 0, 68), 0, []) :: (138, 1, (4, 0, 0, 0), 0, []) :: (140, 1, (7, 0, 0, 0), 0, []) :: (142, 41, (0, 0, 0, 0), 0, []) :: (143, 8, (0, 0, 0, 0), 1, []) :: (144, 4, (3, 0, 0, 0), 0, []) :: jm_b281_145
def jm_b281_96 : List jx_E := (96, 1, (6, 0, 0, 0), 0, []) :: (98, 2, (0, 0, 0, 0), 0, []) :: (99, 32, (11, 5, 0, 116), 0, []) :: (102, 64, (151, 0, 0, 0), 0, []) :: (105, 2, (0, 0, 0, 0), 0, []) :: (106, 1, (4, 0, 0, 0), 0, []) :: (108, 1, (5, 0, 0, 0), 0, []) :: (110, 1, (6, 0, 0, 0), 0, []) :: (112, 0, (1, 0, 0, 0), 0, []) :: (113, 0, (2, 0, 0, 0), 0, []) :: (114, 49, (280, 6, 11, 364), 0, []) :: (117, 5, (7, 0, 0, 0), 0, []) :: (119, 1, (7, 0, 0, 0), 0, []) :: (121, 2, (0, 0, 0, 0), 0, []) :: (122, 33, (11, 38, 0, 68), 0, []) :: (125, 1, (4, 0, 0, 0), 0, []) :: (127, 38, (0, 0, 0, 0), 0, []) :: (128, 63, (134, 0, 0, 0), 0, []) :: (131, 54, (145, 0, 0, 0), 0, []) :: []
def jm_b281_84 : List jx_E := (84, 1, (5, 0, 0, 0), 0, []) :: (86, 2, (0, 0, 0, 0), 0, []) :: (87, 32, (11, 5, 0, 116), 0, []) :: (90, 64, (157, 0, 0, 0), 0, []) :: (93, 8, (0, 0, 0, 0), 0, []) :: (94, 5, (6, 0, 0, 0), 0, []) :: jm_b281_96
def jm_b281_72 : List jx_E := (72, 1, (4, 0, 0, 0), 0, []) :: (74, 2, (0, 0, 0, 0), 0, []) :: (75, 32, (11, 1, 0, 109), 0, []) :: (78, 64, (163, 0, 0, 0), 0, []) :: (81, 8, (0, 0, 0, 0), 0, []) :: (82, 5, (5, 0, 0, 0), 0, []) :: jm_b281_84
def jm_b281_63 : List jx_E := (63, 0, (3, 0, 0, 0), 0, []) :: (64, 55, (166, 0, 0, 0), 0, []) :: (67, 8, (0, 0, 0, 0), 0, []) :: (68, 4, (3, 0, 0, 0), 0, []) :: (69, 8, (0, 0, 0, 0), 0, []) :: (70, 5, (4, 0, 0, 0), 0, []) :: jm_b281_72
def jm_b281_61 : List jx_E := (61, 8, (0, 0, 0, 0), 1, []) :: (62, 4, (3, 0, 0, 0), 0, []) :: jm_b281_63
def jm_b281_54 : List jx_E := (54, 41, (0, 0, 0, 0), 0, []) :: (55, 13, (3, 0, 0, 0), 1, []) :: (58, 54, (29, 0, 0, 0), 0, []) :: []
def jm_b281_51 : List jx_E := (51, 12, (0, 0, 0, 352), 1000000, []) :: jm_b281_54
def jm_b281_29 : List jx_E := (29, 0, (3, 0, 0, 0), 0, []) :: (30, 2, (0, 0, 0, 0), 0, []) :: (31, 32, (11, 1, 0, 109), 0, []) :: (34, 64, (61, 0, 0, 0), 0, []) :: (37, 2, (0, 0, 0, 0), 0, []) :: (38, 33, (11, 38, 0, 68), 0, []) :: (41, 0, (3, 0, 0, 0), 0, []) :: (42, 0, (3, 0, 0, 0), 0, []) :: (43, 0, (2, 0, 0, 0), 0, []) :: (44, 62, (51, 0, 0, 0), 0, []) :: (47, 8, (0, 0, 0, 0), 0, []) :: (48, 54, (54, 0, 0, 0), 0, []) :: []
def jm_b281_23 : List jx_E := (23, 2, (0, 0, 0, 0), 0, []) :: (24, 49, (279, 1, 11, 361), 0, []) :: (27, 8, (0, 0, 0, 0), 0, []) :: (28, 4, (3, 0, 0, 0), 0, []) :: jm_b281_29
def jm_b281_21 : List jx_E := (21, 8, (0, 0, 0, 0), (-1), []) :: (22, 69, (0, 0, 0, 0), 0, []) :: []
def jm_b281_0 : List jx_E := (0, 2, (0, 0, 0, 0), 0, []) :: (1, 8, (0, 0, 0, 0), 0, []) :: (2, 34, (11, 12, 0, 102), 0, []) :: (5, 2, (0, 0, 0, 0), 0, []) :: (6, 0, (1, 0, 0, 0), 0, []) :: (7, 49, (206, 2, 11, 244), 0, []) :: (10, 55, (21, 0, 0, 0), 0, []) :: (13, 2, (0, 0, 0, 0), 0, []) :: (14, 0, (2, 0, 0, 0), 0, []) :: (15, 49, (206, 2, 11, 244), 0, []) :: (18, 56, (23, 0, 0, 0), 0, []) :: jm_b281_21
def jm_l281 : jx_B := [(0, jm_b281_0), (21, jm_b281_21), (23, jm_b281_23), (29, jm_b281_29), (51, jm_b281_51), (54, jm_b281_54), (61, jm_b281_61), (63, jm_b281_63), (72, jm_b281_72), (84, jm_b281_84), (96, jm_b281_96), (134, jm_b281_134), (145, jm_b281_145), (151, jm_b281_151), (157, jm_b281_157), (163, jm_b281_163), (166, jm_b281_166), (181, jm_b281_181), (192, jm_b281_192), (201, jm_b281_201), (235, jm_b281_235), (259, jm_b281_259), (283, jm_b281_283)]
def jm_i281 : jx_M := (⟨"OfDifferentMindsModel", "changes", "(II)I"⟩, prog_13_method_83_code, 8, (some .int), 0, 3, 11, jm_l281)
theorem jm_ok281 : jx_okM 281 jm_i281 := ⟨by decide +kernel, rfl, by decide +kernel, ⟨by decide +kernel, by decide +kernel⟩, by decide +kernel, jx_mem (i := 1760) (by decide +kernel) rfl, jx_mem (i := 116) (by decide +kernel) rfl, fun _ => ⟨jx_mem (i := 1758) (by decide +kernel) rfl, jx_mem (i := 1759) (by decide +kernel) rfl, by decide⟩, fun h => absurd h (by decide), fun h => absurd h (by decide), by decide, by decide, by decide, by decide +kernel, by decide +kernel⟩
-- OfDifferentMindsModel.stations(I)I
def jm_b282_160 : List jx_E := (160, 2, (0, 0, 0, 0), 0, []) :: (161, 8, (0, 0, 0, 0), 0, []) :: (162, 34, (11, 11, 0, 106), 0, []) :: (165, 2, (0, 0, 0, 0), 0, []) :: (166, 0, (3, 0, 0, 0), 0, []) :: (167, 2, (0, 0, 0, 0), 0, []) :: (168, 32, (11, 4, 0, 171), 0, []) :: (171, 8, (0, 0, 0, 0), (-1), []) :: (172, 22, (0, 0, 0, 0), 0, []) :: (173, 20, (0, 0, 0, 0), 0, []) :: (174, 49, (205, 2, 11, 291), 0, []) :: (177, 0, (3, 0, 0, 0), 0, []) :: (178, 69, (0, 0, 0, 0), 0, []) :: []
def jm_b282_155 : List jx_E := (155, 5, (4, 0, 0, 0), 0, []) :: (157, 54, (28, 0, 0, 0), 0, []) :: []
def jm_b282_154 : List jx_E := (154, 8, (0, 0, 0, 0), 0, []) :: jm_b282_155
def jm_b282_135 : List jx_E := (135, 0, (2, 0, 0, 0), 0, []) :: (136, 0, (3, 0, 0, 0), 0, []) :: (137, 2, (0, 0, 0, 0), 0, []) :: (138, 32, (11, 4, 0, 171), 0, []) :: (141, 20, (0, 0, 0, 0), 0, []) :: (142, 21, (0, 0, 0, 0), 0, []) :: (143, 4, (2, 0, 0, 0), 0, []) :: (144, 0, (3, 0, 0, 0), 0, []) :: (145, 1, (5, 0, 0, 0), 0, []) :: (147, 61, (154, 0, 0, 0), 0, []) :: (150, 8, (0, 0, 0, 0), 1, []) :: (151, 54, (155, 0, 0, 0), 0, []) :: []
def jm_b282_129 : List jx_E := (129, 13, (6, 0, 0, 0), 1, []) :: (132, 54, (39, 0, 0, 0), 0, []) :: []
def jm_b282_123 : List jx_E := (123, 13, (7, 0, 0, 0), 1, []) :: (126, 54, (63, 0, 0, 0), 0, []) :: []
def jm_b282_115 : List jx_E := (115, 21, (0, 0, 0, 0), 0, []) :: (116, 4, (3, 0, 0, 0), 0, []) :: (117, 13, (8, 0, 0, 0), 1, []) :: (120, 54, (75, 0, 0, 0), 0, []) :: []
def jm_b282_103 : List jx_E := (103, 8, (0, 0, 0, 0), 1, []) :: (104, 2, (0, 0, 0, 0), 0, []) :: (105, 1, (6, 0, 0, 0), 0, []) :: (107, 1, (7, 0, 0, 0), 0, []) :: (109, 1, (8, 0, 0, 0), 0, []) :: (111, 49, (278, 4, 11, 357), 0, []) :: (114, 23, (0, 0, 0, 0), 0, []) :: jm_b282_115
def jm_b282_75 : List jx_E := (75, 1, (8, 0, 0, 0), 0, []) :: (77, 2, (0, 0, 0, 0), 0, []) :: (78, 32, (11, 5, 0, 116), 0, []) :: (81, 64, (123, 0, 0, 0), 0, []) :: (84, 0, (3, 0, 0, 0), 0, []) :: (85, 2, (0, 0, 0, 0), 0, []) :: (86, 1, (6, 0, 0, 0), 0, []) :: (88, 1, (7, 0, 0, 0), 0, []) :: (90, 1, (8, 0, 0, 0), 0, []) :: (92, 49, (278, 4, 11, 357), 0, []) :: (95, 8, (0, 0, 0, 0), (-1), []) :: (96, 62, (103, 0, 0, 0), 0, []) :: (99, 8, (0, 0, 0, 0), 0, []) :: (100, 54, (115, 0, 0, 0), 0, []) :: []
def jm_b282_63 : List jx_E := (63, 1, (7, 0, 0, 0), 0, []) :: (65, 2, (0, 0, 0, 0), 0, []) :: (66, 32, (11, 5, 0, 116), 0, []) :: (69, 64, (129, 0, 0, 0), 0, []) :: (72, 8, (0, 0, 0, 0), 0, []) :: (73, 5, (8, 0, 0, 0), 0, []) :: jm_b282_75
def jm_b282_60 : List jx_E := (60, 8, (0, 0, 0, 0), 0, []) :: (61, 5, (7, 0, 0, 0), 0, []) :: jm_b282_63
def jm_b282_39 : List jx_E := (39, 1, (6, 0, 0, 0), 0, []) :: (41, 2, (0, 0, 0, 0), 0, []) :: (42, 32, (11, 1, 0, 109), 0, []) :: (45, 64, (135, 0, 0, 0), 0, []) :: (48, 0, (2, 0, 0, 0), 0, []) :: (49, 1, (6, 0, 0, 0), 0, []) :: (51, 50, (203, 2, 0, 309), 0, []) :: (54, 56, (60, 0, 0, 0), 0, []) :: (57, 54, (129, 0, 0, 0), 0, []) :: []
def jm_b282_28 : List jx_E := (28, 1, (4, 0, 0, 0), 0, []) :: (30, 55, (160, 0, 0, 0), 0, []) :: (33, 0, (3, 0, 0, 0), 0, []) :: (34, 5, (5, 0, 0, 0), 0, []) :: (36, 8, (0, 0, 0, 0), 0, []) :: (37, 5, (6, 0, 0, 0), 0, []) :: jm_b282_39
def jm_b282_15 : List jx_E := (15, 2, (0, 0, 0, 0), 0, []) :: (16, 49, (279, 1, 11, 361), 0, []) :: (19, 8, (0, 0, 0, 0), 1, []) :: (20, 0, (1, 0, 0, 0), 0, []) :: (21, 23, (0, 0, 0, 0), 0, []) :: (22, 4, (2, 0, 0, 0), 0, []) :: (23, 8, (0, 0, 0, 0), 0, []) :: (24, 4, (3, 0, 0, 0), 0, []) :: (25, 8, (0, 0, 0, 0), 1, []) :: (26, 5, (4, 0, 0, 0), 0, []) :: jm_b282_28
def jm_b282_0 : List jx_E := (0, 2, (0, 0, 0, 0), 0, []) :: (1, 8, (0, 0, 0, 0), 0, []) :: (2, 34, (11, 12, 0, 102), 0, []) :: (5, 2, (0, 0, 0, 0), 0, []) :: (6, 0, (1, 0, 0, 0), 0, []) :: (7, 49, (206, 2, 11, 244), 0, []) :: (10, 56, (15, 0, 0, 0), 0, []) :: (13, 8, (0, 0, 0, 0), (-1), []) :: (14, 69, (0, 0, 0, 0), 0, []) :: []
def jm_l282 : jx_B := [(0, jm_b282_0), (15, jm_b282_15), (28, jm_b282_28), (39, jm_b282_39), (60, jm_b282_60), (63, jm_b282_63), (75, jm_b282_75), (103, jm_b282_103), (115, jm_b282_115), (123, jm_b282_123), (129, jm_b282_129), (135, jm_b282_135), (154, jm_b282_154), (155, jm_b282_155), (160, jm_b282_160)]
def jm_i282 : jx_M := (⟨"OfDifferentMindsModel", "stations", "(I)I"⟩, prog_13_method_84_code, 9, (some .int), 0, 2, 11, jm_l282)
theorem jm_ok282 : jx_okM 282 jm_i282 := ⟨by decide +kernel, rfl, by decide +kernel, ⟨by decide +kernel, by decide +kernel⟩, by decide +kernel, jx_mem (i := 1776) (by decide +kernel) rfl, jx_mem (i := 116) (by decide +kernel) rfl, fun _ => ⟨jx_mem (i := 1774) (by decide +kernel) rfl, jx_mem (i := 1775) (by decide +kernel) rfl, by decide⟩, fun h => absurd h (by decide), fun h => absurd h (by decide), by decide, by decide, by decide, by decide +kernel, by decide +kernel⟩
-- OfDifferentMindsModel.foot(II)I
def jm_b283_232 : List jx_E := (232, 2, (0, 0, 0, 0), 0, []) :: (233, 33, (11, 38, 0, 68), 0, []) :: (236, 0, (1, 0, 0, 0), 0, []) :: (237, 38, (0, 0, 0, 0), 0, []) :: (238, 69, (0, 0, 0, 0), 0, []) :: []
def jm_b283_211 : List jx_E := (211, 2, (0, 0, 0, 0), 0, []) :: (212, 1, (4, 0, 0, 0), 0, []) :: (214, 49, (205, 2, 11, 291), 0, []) :: (217, 2, (0, 0, 0, 0), 0, []) :: (218, 33, (11, 3, 0, 16), 0, []) :: (221, 8, (0, 0, 0, 0), 3, []) :: (222, 0, (3, 0, 0, 0), 0, []) :: (223, 16, (0, 0, 0, 0), 0, []) :: (224, 1, (4, 0, 0, 0), 0, []) :: (226, 14, (0, 0, 0, 0), 0, []) :: (227, 38, (0, 0, 0, 0), 0, []) :: (228, 4, (3, 0, 0, 0), 0, []) :: (229, 54, (170, 0, 0, 0), 0, []) :: []
def jm_b283_178 : List jx_E := (178, 2, (0, 0, 0, 0), 0, []) :: (179, 33, (11, 38, 0, 68), 0, []) :: (182, 2, (0, 0, 0, 0), 0, []) :: (183, 33, (11, 3, 0, 16), 0, []) :: (186, 8, (0, 0, 0, 0), 3, []) :: (187, 0, (3, 0, 0, 0), 0, []) :: (188, 16, (0, 0, 0, 0), 0, []) :: (189, 1, (4, 0, 0, 0), 0, []) :: (191, 14, (0, 0, 0, 0), 0, []) :: (192, 38, (0, 0, 0, 0), 0, []) :: (193, 38, (0, 0, 0, 0), 0, []) :: (194, 8, (0, 0, 0, 0), 1, []) :: (195, 14, (0, 0, 0, 0), 0, []) :: (196, 2, (0, 0, 0, 0), 0, []) :: (197, 33, (11, 38, 0, 68), 0, []) :: (200, 0, (3, 0, 0, 0), 0, []) :: (201, 38, (0, 0, 0, 0), 0, []) :: (202, 61, (211, 0, 0, 0), 0, []) :: (205, 13, (4, 0, 0, 0), 1, []) :: (208, 54, (178, 0, 0, 0), 0, []) :: []
def jm_b283_170 : List jx_E := (170, 0, (3, 0, 0, 0), 0, []) :: (171, 0, (2, 0, 0, 0), 0, []) :: (172, 61, (232, 0, 0, 0), 0, []) :: (175, 8, (0, 0, 0, 0), 0, []) :: (176, 5, (4, 0, 0, 0), 0, []) :: jm_b283_178
def jm_b283_163 : List jx_E := (163, 2, (0, 0, 0, 0), 0, []) :: (164, 8, (0, 0, 0, 0), 0, []) :: (165, 34, (11, 11, 0, 106), 0, []) :: (168, 0, (1, 0, 0, 0), 0, []) :: (169, 4, (3, 0, 0, 0), 0, []) :: jm_b283_170
def jm_b283_148 : List jx_E := (148, 2, (0, 0, 0, 0), 0, []) :: (149, 33, (11, 38, 0, 68), 0, []) :: (152, 0, (1, 0, 0, 0), 0, []) :: (153, 38, (0, 0, 0, 0), 0, []) :: (154, 12, (0, 0, 0, 352), 1000000, []) :: (157, 63, (163, 0, 0, 0), 0, []) :: (160, 9, (0, 0, 0, 0), (-2), []) :: (162, 69, (0, 0, 0, 0), 0, []) :: []
def jm_b283_142 : List jx_E := (142, 13, (3, 0, 0, 0), 1, []) :: (145, 54, (59, 0, 0, 0), 0, []) :: []
def jm_b283_136 : List jx_E := (136, 13, (4, 0, 0, 0), 1, []) :: (139, 54, (70, 0, 0, 0), 0, []) :: []
def jm_b283_82 : List jx_E := (82, 1, (5, 0, 0, 0), 0, []) :: (84, 2, (0, 0, 0, 0), 0, []) :: (85, 33, (11, 2, 0, 13), 0, []) :: (88, 1, (4, 0, 0, 0), 0, []) :: (90, 38, (0, 0, 0, 0), 0, []) :: (91, 64, (136, 0, 0, 0), 0, []) :: (94, 2, (0, 0, 0, 0), 0, []) :: (95, 33, (11, 38, 0, 68), 0, []) :: (98, 1, (4, 0, 0, 0), 0, []) :: (100, 2, (0, 0, 0, 0), 0, []) :: (101, 33, (11, 38, 0, 68), 0, []) :: (104, 1, (4, 0, 0, 0), 0, []) :: (106, 38, (0, 0, 0, 0), 0, []) :: (107, 2, (0, 0, 0, 0), 0, []) :: (108, 33, (11, 38, 0, 68), 0, []) :: (111, 2, (0, 0, 0, 0), 0, []) :: (112, 33, (11, 3, 0, 16), 0, []) :: (115, 8, (0, 0, 0, 0), 3, []) :: (116, 1, (4, 0, 0, 0), 0, []) :: (118, 16, (0, 0, 0, 0), 0, []) :: (119, 1, (5, 0, 0, 0), 0, []) :: (121, 14, (0, 0, 0, 0), 0, []) :: (122, 38, (0, 0, 0, 0), 0, []) :: (123, 38, (0, 0, 0, 0), 0, []) :: (124, 8, (0, 0, 0, 0), 1, []) :: (125, 14, (0, 0, 0, 0), 0, []) :: (126, 73, (311, 0, 0, 231), 0, []) :: (129, 41, (0, 0, 0, 0), 0, []) :: (130, 13, (5, 0, 0, 0), 1, []) :: (133, 54, (82, 0, 0, 0), 0, []) :: []
def jm_b283_70 : List jx_E := (70, 1, (4, 0, 0, 0), 0, []) :: (72, 2, (0, 0, 0, 0), 0, []) :: (73, 32, (11, 1, 0, 109), 0, []) :: (76, 64, (142, 0, 0, 0), 0, []) :: (79, 8, (0, 0, 0, 0), 0, []) :: (80, 5, (5, 0, 0, 0), 0, []) :: jm_b283_82
def jm_b283_59 : List jx_E := (59, 0, (3, 0, 0, 0), 0, []) :: (60, 2, (0, 0, 0, 0), 0, []) :: (61, 32, (11, 1, 0, 109), 0, []) :: (64, 64, (148, 0, 0, 0), 0, []) :: (67, 8, (0, 0, 0, 0), 0, []) :: (68, 5, (4, 0, 0, 0), 0, []) :: jm_b283_70
def jm_b283_57 : List jx_E := (57, 8, (0, 0, 0, 0), 0, []) :: (58, 4, (3, 0, 0, 0), 0, []) :: jm_b283_59
def jm_b283_50 : List jx_E := (50, 41, (0, 0, 0, 0), 0, []) :: (51, 13, (3, 0, 0, 0), 1, []) :: (54, 54, (25, 0, 0, 0), 0, []) :: []
def jm_b283_47 : List jx_E := (47, 12, (0, 0, 0, 352), 1000000, []) :: jm_b283_50
def jm_b283_25 : List jx_E := (25, 0, (3, 0, 0, 0), 0, []) :: (26, 2, (0, 0, 0, 0), 0, []) :: (27, 32, (11, 1, 0, 109), 0, []) :: (30, 64, (57, 0, 0, 0), 0, []) :: (33, 2, (0, 0, 0, 0), 0, []) :: (34, 33, (11, 38, 0, 68), 0, []) :: (37, 0, (3, 0, 0, 0), 0, []) :: (38, 0, (3, 0, 0, 0), 0, []) :: (39, 0, (2, 0, 0, 0), 0, []) :: (40, 62, (47, 0, 0, 0), 0, []) :: (43, 8, (0, 0, 0, 0), 0, []) :: (44, 54, (50, 0, 0, 0), 0, []) :: []
def jm_b283_23 : List jx_E := (23, 8, (0, 0, 0, 0), 0, []) :: (24, 4, (3, 0, 0, 0), 0, []) :: jm_b283_25
def jm_b283_21 : List jx_E := (21, 8, (0, 0, 0, 0), (-1), []) :: (22, 69, (0, 0, 0, 0), 0, []) :: []
def jm_b283_0 : List jx_E := (0, 2, (0, 0, 0, 0), 0, []) :: (1, 8, (0, 0, 0, 0), 0, []) :: (2, 34, (11, 12, 0, 102), 0, []) :: (5, 2, (0, 0, 0, 0), 0, []) :: (6, 0, (1, 0, 0, 0), 0, []) :: (7, 49, (206, 2, 11, 244), 0, []) :: (10, 55, (21, 0, 0, 0), 0, []) :: (13, 2, (0, 0, 0, 0), 0, []) :: (14, 0, (2, 0, 0, 0), 0, []) :: (15, 49, (206, 2, 11, 244), 0, []) :: (18, 56, (23, 0, 0, 0), 0, []) :: jm_b283_21
def jm_l283 : jx_B := [(0, jm_b283_0), (21, jm_b283_21), (23, jm_b283_23), (25, jm_b283_25), (47, jm_b283_47), (50, jm_b283_50), (57, jm_b283_57), (59, jm_b283_59), (70, jm_b283_70), (82, jm_b283_82), (136, jm_b283_136), (142, jm_b283_142), (148, jm_b283_148), (163, jm_b283_163), (170, jm_b283_170), (178, jm_b283_178), (211, jm_b283_211), (232, jm_b283_232)]
def jm_i283 : jx_M := (⟨"OfDifferentMindsModel", "foot", "(II)I"⟩, prog_13_method_85_code, 6, (some .int), 0, 3, 11, jm_l283)
theorem jm_ok283 : jx_okM 283 jm_i283 := ⟨by decide +kernel, rfl, by decide +kernel, ⟨by decide +kernel, by decide +kernel⟩, by decide +kernel, jx_mem (i := 1780) (by decide +kernel) rfl, jx_mem (i := 116) (by decide +kernel) rfl, fun _ => ⟨jx_mem (i := 1778) (by decide +kernel) rfl, jx_mem (i := 1779) (by decide +kernel) rfl, by decide⟩, fun h => absurd h (by decide), fun h => absurd h (by decide), by decide, by decide, by decide, by decide +kernel, by decide +kernel⟩
-- OfDifferentMindsModel.stepsOf(III)I
def jm_b284_0 : List jx_E := (0, 2, (0, 0, 0, 0), 0, []) :: (1, 0, (1, 0, 0, 0), 0, []) :: (2, 0, (2, 0, 0, 0), 0, []) :: (3, 0, (3, 0, 0, 0), 0, []) :: (4, 8, (0, 0, 0, 0), 0, []) :: (5, 49, (270, 5, 11, 345), 0, []) :: (8, 2, (0, 0, 0, 0), 0, []) :: (9, 2, (0, 0, 0, 0), 0, []) :: (10, 33, (11, 34, 0, 59), 0, []) :: (13, 10, (0, 0, 0, 0), 200, []) :: (16, 49, (248, 3, 11, 288), 0, []) :: (19, 69, (0, 0, 0, 0), 0, []) :: []
def jm_l284 : jx_B := [(0, jm_b284_0)]
def jm_i284 : jx_M := (⟨"OfDifferentMindsModel", "stepsOf", "(III)I"⟩, prog_13_method_86_code, 4, (some .int), 0, 4, 11, jm_l284)
theorem jm_ok284 : jx_okM 284 jm_i284 := ⟨by decide +kernel, rfl, by decide +kernel, ⟨by decide +kernel, by decide +kernel⟩, by decide +kernel, jx_mem (i := 1788) (by decide +kernel) rfl, jx_mem (i := 116) (by decide +kernel) rfl, fun _ => ⟨jx_mem (i := 1787) (by decide +kernel) rfl, jx_mem (i := 97) (by decide +kernel) rfl, by decide⟩, fun h => absurd h (by decide), fun h => absurd h (by decide), by decide, by decide, by decide, by decide +kernel, by decide +kernel⟩
-- OfDifferentMindsModel.record(I)I
def jm_b285_139 : List jx_E := (139, 2, (0, 0, 0, 0), 0, []) :: (140, 8, (0, 0, 0, 0), 0, []) :: (141, 34, (11, 11, 0, 106), 0, []) :: (144, 2, (0, 0, 0, 0), 0, []) :: (145, 0, (3, 0, 0, 0), 0, []) :: (146, 49, (205, 2, 11, 291), 0, []) :: (149, 2, (0, 0, 0, 0), 0, []) :: (150, 1, (4, 0, 0, 0), 0, []) :: (152, 49, (205, 2, 11, 291), 0, []) :: (155, 2, (0, 0, 0, 0), 0, []) :: (156, 1, (5, 0, 0, 0), 0, []) :: (158, 49, (205, 2, 11, 291), 0, []) :: (161, 0, (2, 0, 0, 0), 0, []) :: (162, 69, (0, 0, 0, 0), 0, []) :: []
def jm_b285_133 : List jx_E := (133, 13, (6, 0, 0, 0), 1, []) :: (136, 54, (39, 0, 0, 0), 0, []) :: []
def jm_b285_127 : List jx_E := (127, 13, (7, 0, 0, 0), 1, []) :: (130, 54, (51, 0, 0, 0), 0, []) :: []
def jm_b285_117 : List jx_E := (117, 1, (8, 0, 0, 0), 0, []) :: (119, 4, (2, 0, 0, 0), 0, []) :: (120, 1, (6, 0, 0, 0), 0, []) :: (122, 4, (3, 0, 0, 0), 0, []) :: (123, 1, (7, 0, 0, 0), 0, []) :: (125, 5, (4, 0, 0, 0), 0, []) :: jm_b285_127
def jm_b285_106 : List jx_E := (106, 5, (5, 0, 0, 0), 0, []) :: (108, 1, (8, 0, 0, 0), 0, []) :: (110, 0, (2, 0, 0, 0), 0, []) :: (111, 65, (117, 0, 0, 0), 0, []) :: (114, 54, (127, 0, 0, 0), 0, []) :: []
def jm_b285_104 : List jx_E := (104, 1, (5, 0, 0, 0), 0, []) :: jm_b285_106
def jm_b285_91 : List jx_E := (91, 1, (8, 0, 0, 0), 0, []) :: (93, 0, (2, 0, 0, 0), 0, []) :: (94, 62, (104, 0, 0, 0), 0, []) :: (97, 1, (5, 0, 0, 0), 0, []) :: (99, 8, (0, 0, 0, 0), 1, []) :: (100, 14, (0, 0, 0, 0), 0, []) :: (101, 54, (106, 0, 0, 0), 0, []) :: []
def jm_b285_70 : List jx_E := (70, 2, (0, 0, 0, 0), 0, []) :: (71, 1, (6, 0, 0, 0), 0, []) :: (73, 1, (7, 0, 0, 0), 0, []) :: (75, 0, (1, 0, 0, 0), 0, []) :: (76, 49, (284, 4, 11, 368), 0, []) :: (79, 5, (8, 0, 0, 0), 0, []) :: (81, 1, (8, 0, 0, 0), 0, []) :: (83, 0, (2, 0, 0, 0), 0, []) :: (84, 66, (91, 0, 0, 0), 0, []) :: (87, 8, (0, 0, 0, 0), 1, []) :: (88, 54, (106, 0, 0, 0), 0, []) :: []
def jm_b285_51 : List jx_E := (51, 1, (7, 0, 0, 0), 0, []) :: (53, 2, (0, 0, 0, 0), 0, []) :: (54, 32, (11, 5, 0, 116), 0, []) :: (57, 64, (133, 0, 0, 0), 0, []) :: (60, 1, (6, 0, 0, 0), 0, []) :: (62, 1, (7, 0, 0, 0), 0, []) :: (64, 62, (70, 0, 0, 0), 0, []) :: (67, 54, (127, 0, 0, 0), 0, []) :: []
def jm_b285_39 : List jx_E := (39, 1, (6, 0, 0, 0), 0, []) :: (41, 2, (0, 0, 0, 0), 0, []) :: (42, 32, (11, 5, 0, 116), 0, []) :: (45, 64, (139, 0, 0, 0), 0, []) :: (48, 8, (0, 0, 0, 0), 0, []) :: (49, 5, (7, 0, 0, 0), 0, []) :: jm_b285_51
def jm_b285_26 : List jx_E := (26, 8, (0, 0, 0, 0), (-1), []) :: (27, 4, (2, 0, 0, 0), 0, []) :: (28, 8, (0, 0, 0, 0), (-1), []) :: (29, 4, (3, 0, 0, 0), 0, []) :: (30, 8, (0, 0, 0, 0), (-1), []) :: (31, 5, (4, 0, 0, 0), 0, []) :: (33, 8, (0, 0, 0, 0), 0, []) :: (34, 5, (5, 0, 0, 0), 0, []) :: (36, 8, (0, 0, 0, 0), 0, []) :: (37, 5, (6, 0, 0, 0), 0, []) :: jm_b285_39
def jm_b285_15 : List jx_E := (15, 2, (0, 0, 0, 0), 0, []) :: (16, 32, (11, 5, 0, 116), 0, []) :: (19, 8, (0, 0, 0, 0), 2, []) :: (20, 64, (26, 0, 0, 0), 0, []) :: (23, 9, (0, 0, 0, 0), (-2), []) :: (25, 69, (0, 0, 0, 0), 0, []) :: []
def jm_b285_0 : List jx_E := (0, 2, (0, 0, 0, 0), 0, []) :: (1, 8, (0, 0, 0, 0), 0, []) :: (2, 34, (11, 12, 0, 102), 0, []) :: (5, 2, (0, 0, 0, 0), 0, []) :: (6, 0, (1, 0, 0, 0), 0, []) :: (7, 49, (206, 2, 11, 244), 0, []) :: (10, 56, (15, 0, 0, 0), 0, []) :: (13, 8, (0, 0, 0, 0), (-1), []) :: (14, 69, (0, 0, 0, 0), 0, []) :: []
def jm_l285 : jx_B := [(0, jm_b285_0), (15, jm_b285_15), (26, jm_b285_26), (39, jm_b285_39), (51, jm_b285_51), (70, jm_b285_70), (91, jm_b285_91), (104, jm_b285_104), (106, jm_b285_106), (117, jm_b285_117), (127, jm_b285_127), (133, jm_b285_133), (139, jm_b285_139)]
def jm_i285 : jx_M := (⟨"OfDifferentMindsModel", "record", "(I)I"⟩, prog_13_method_87_code, 9, (some .int), 0, 2, 11, jm_l285)
theorem jm_ok285 : jx_okM 285 jm_i285 := ⟨by decide +kernel, rfl, by decide +kernel, ⟨by decide +kernel, by decide +kernel⟩, by decide +kernel, jx_mem (i := 1784) (by decide +kernel) rfl, jx_mem (i := 116) (by decide +kernel) rfl, fun _ => ⟨jx_mem (i := 1782) (by decide +kernel) rfl, jx_mem (i := 1783) (by decide +kernel) rfl, by decide⟩, fun h => absurd h (by decide), fun h => absurd h (by decide), by decide, by decide, by decide, by decide +kernel, by decide +kernel⟩
-- OfDifferentMindsModel.goMatches(IIIII)V
def jm_b286_201 : List jx_E := (201, 71, (0, 0, 0, 0), 0, []) :: []
def jm_b286_195 : List jx_E := (195, 13, (6, 0, 0, 0), 1, []) :: (198, 54, (109, 0, 0, 0), 0, []) :: []
def jm_b286_130 : List jx_E := (130, 2, (0, 0, 0, 0), 0, []) :: (131, 33, (11, 39, 0, 71), 0, []) :: (134, 0, (1, 0, 0, 0), 0, []) :: (135, 1, (6, 0, 0, 0), 0, []) :: (137, 41, (0, 0, 0, 0), 0, []) :: (138, 2, (0, 0, 0, 0), 0, []) :: (139, 33, (11, 39, 0, 71), 0, []) :: (142, 1, (6, 0, 0, 0), 0, []) :: (144, 0, (1, 0, 0, 0), 0, []) :: (145, 41, (0, 0, 0, 0), 0, []) :: (146, 2, (0, 0, 0, 0), 0, []) :: (147, 0, (1, 0, 0, 0), 0, []) :: (148, 8, (0, 0, 0, 0), 1, []) :: (149, 14, (0, 0, 0, 0), 0, []) :: (150, 0, (2, 0, 0, 0), 0, []) :: (151, 8, (0, 0, 0, 0), 1, []) :: (152, 0, (1, 0, 0, 0), 0, []) :: (153, 23, (0, 0, 0, 0), 0, []) :: (154, 8, (0, 0, 0, 0), 1, []) :: (155, 1, (6, 0, 0, 0), 0, []) :: (157, 23, (0, 0, 0, 0), 0, []) :: (158, 21, (0, 0, 0, 0), 0, []) :: (159, 8, (0, 0, 0, 0), (-1), []) :: (160, 22, (0, 0, 0, 0), 0, []) :: (161, 20, (0, 0, 0, 0), 0, []) :: (162, 0, (3, 0, 0, 0), 0, []) :: (163, 1, (4, 0, 0, 0), 0, []) :: (165, 2, (0, 0, 0, 0), 0, []) :: (166, 0, (1, 0, 0, 0), 0, []) :: (167, 1, (6, 0, 0, 0), 0, []) :: (169, 1, (5, 0, 0, 0), 0, []) :: (171, 49, (284, 4, 11, 368), 0, []) :: (174, 14, (0, 0, 0, 0), 0, []) :: (175, 1, (5, 0, 0, 0), 0, []) :: (177, 49, (286, 6, 11, 374), 0, []) :: (180, 2, (0, 0, 0, 0), 0, []) :: (181, 33, (11, 39, 0, 71), 0, []) :: (184, 0, (1, 0, 0, 0), 0, []) :: (185, 8, (0, 0, 0, 0), (-1), []) :: (186, 41, (0, 0, 0, 0), 0, []) :: (187, 2, (0, 0, 0, 0), 0, []) :: (188, 33, (11, 39, 0, 71), 0, []) :: (191, 1, (6, 0, 0, 0), 0, []) :: (193, 8, (0, 0, 0, 0), (-1), []) :: (194, 41, (0, 0, 0, 0), 0, []) :: jm_b286_195
def jm_b286_109 : List jx_E := (109, 1, (6, 0, 0, 0), 0, []) :: (111, 2, (0, 0, 0, 0), 0, []) :: (112, 32, (11, 5, 0, 116), 0, []) :: (115, 64, (201, 0, 0, 0), 0, []) :: (118, 0, (2, 0, 0, 0), 0, []) :: (119, 1, (6, 0, 0, 0), 0, []) :: (121, 50, (203, 2, 0, 309), 0, []) :: (124, 56, (130, 0, 0, 0), 0, []) :: (127, 54, (195, 0, 0, 0), 0, []) :: []
def jm_b286_104 : List jx_E := (104, 0, (1, 0, 0, 0), 0, []) :: (105, 8, (0, 0, 0, 0), 1, []) :: (106, 14, (0, 0, 0, 0), 0, []) :: (107, 5, (6, 0, 0, 0), 0, []) :: jm_b286_109
def jm_b286_79 : List jx_E := (79, 0, (3, 0, 0, 0), 0, []) :: (80, 60, (104, 0, 0, 0), 0, []) :: (83, 2, (0, 0, 0, 0), 0, []) :: (84, 0, (1, 0, 0, 0), 0, []) :: (85, 8, (0, 0, 0, 0), 1, []) :: (86, 14, (0, 0, 0, 0), 0, []) :: (87, 0, (2, 0, 0, 0), 0, []) :: (88, 8, (0, 0, 0, 0), 1, []) :: (89, 0, (1, 0, 0, 0), 0, []) :: (90, 23, (0, 0, 0, 0), 0, []) :: (91, 8, (0, 0, 0, 0), (-1), []) :: (92, 22, (0, 0, 0, 0), 0, []) :: (93, 20, (0, 0, 0, 0), 0, []) :: (94, 0, (3, 0, 0, 0), 0, []) :: (95, 8, (0, 0, 0, 0), 1, []) :: (96, 15, (0, 0, 0, 0), 0, []) :: (97, 1, (4, 0, 0, 0), 0, []) :: (99, 1, (5, 0, 0, 0), 0, []) :: (101, 49, (286, 6, 11, 374), 0, []) :: jm_b286_104
def jm_b286_57 : List jx_E := (57, 0, (2, 0, 0, 0), 0, []) :: (58, 0, (1, 0, 0, 0), 0, []) :: (59, 50, (203, 2, 0, 309), 0, []) :: (62, 56, (79, 0, 0, 0), 0, []) :: (65, 2, (0, 0, 0, 0), 0, []) :: (66, 0, (1, 0, 0, 0), 0, []) :: (67, 8, (0, 0, 0, 0), 1, []) :: (68, 14, (0, 0, 0, 0), 0, []) :: (69, 0, (2, 0, 0, 0), 0, []) :: (70, 0, (3, 0, 0, 0), 0, []) :: (71, 1, (4, 0, 0, 0), 0, []) :: (73, 1, (5, 0, 0, 0), 0, []) :: (75, 49, (286, 6, 11, 374), 0, []) :: (78, 71, (0, 0, 0, 0), 0, []) :: []
def jm_b286_56 : List jx_E := (56, 71, (0, 0, 0, 0), 0, []) :: []
def jm_b286_27 : List jx_E := (27, 1, (6, 0, 0, 0), 0, []) :: (29, 2, (0, 0, 0, 0), 0, []) :: (30, 32, (11, 5, 0, 116), 0, []) :: (33, 64, (56, 0, 0, 0), 0, []) :: (36, 2, (0, 0, 0, 0), 0, []) :: (37, 33, (11, 40, 0, 74), 0, []) :: (40, 1, (6, 0, 0, 0), 0, []) :: (42, 2, (0, 0, 0, 0), 0, []) :: (43, 33, (11, 39, 0, 71), 0, []) :: (46, 1, (6, 0, 0, 0), 0, []) :: (48, 38, (0, 0, 0, 0), 0, []) :: (49, 41, (0, 0, 0, 0), 0, []) :: (50, 13, (6, 0, 0, 0), 1, []) :: (53, 54, (27, 0, 0, 0), 0, []) :: []
def jm_b286_18 : List jx_E := (18, 2, (0, 0, 0, 0), 0, []) :: (19, 1, (4, 0, 0, 0), 0, []) :: (21, 34, (11, 41, 0, 371), 0, []) :: (24, 8, (0, 0, 0, 0), 0, []) :: (25, 5, (6, 0, 0, 0), 0, []) :: jm_b286_27
def jm_b286_0 : List jx_E := (0, 0, (1, 0, 0, 0), 0, []) :: (1, 2, (0, 0, 0, 0), 0, []) :: (2, 32, (11, 5, 0, 116), 0, []) :: (5, 62, (57, 0, 0, 0), 0, []) :: (8, 1, (4, 0, 0, 0), 0, []) :: (10, 2, (0, 0, 0, 0), 0, []) :: (11, 32, (11, 41, 0, 371), 0, []) :: (14, 65, (18, 0, 0, 0), 0, []) :: (17, 71, (0, 0, 0, 0), 0, []) :: []
def jm_l286 : jx_B := [(0, jm_b286_0), (18, jm_b286_18), (27, jm_b286_27), (56, jm_b286_56), (57, jm_b286_57), (79, jm_b286_79), (104, jm_b286_104), (109, jm_b286_109), (130, jm_b286_130), (195, jm_b286_195), (201, jm_b286_201)]
def jm_i286 : jx_M := (⟨"OfDifferentMindsModel", "goMatches", "(IIIII)V"⟩, prog_13_method_88_code, 7, none, 0, 6, 11, jm_l286)
theorem jm_ok286 : jx_okM 286 jm_i286 := ⟨by decide +kernel, rfl, by decide +kernel, ⟨by decide +kernel, by decide +kernel⟩, by decide +kernel, jx_mem (i := 1801) (by decide +kernel) rfl, jx_mem (i := 116) (by decide +kernel) rfl, fun _ => ⟨jx_mem (i := 1800) (by decide +kernel) rfl, jx_mem (i := 99) (by decide +kernel) rfl, by decide⟩, fun h => absurd h (by decide), fun h => absurd h (by decide), by decide, by decide, by decide, by decide +kernel, by decide +kernel⟩
-- OfDifferentMindsModel.areThose(I)Z
def jm_b287_0 : List jx_E := (0, 0, (1, 0, 0, 0), 0, []) :: (1, 8, (0, 0, 0, 0), 0, []) :: (2, 8, (0, 0, 0, 0), 1, []) :: (3, 2, (0, 0, 0, 0), 0, []) :: (4, 32, (11, 5, 0, 116), 0, []) :: (7, 23, (0, 0, 0, 0), 0, []) :: (8, 8, (0, 0, 0, 0), 1, []) :: (9, 15, (0, 0, 0, 0), 0, []) :: (10, 50, (202, 3, 0, 112), 0, []) :: (13, 70, (0, 0, 0, 0), 0, []) :: []
def jm_l287 : jx_B := [(0, jm_b287_0)]
def jm_i287 : jx_M := (⟨"OfDifferentMindsModel", "areThose", "(I)Z"⟩, prog_13_method_89_code, 2, (some .boolean), 0, 2, 11, jm_l287)
theorem jm_ok287 : jx_okM 287 jm_i287 := ⟨by decide +kernel, rfl, by decide +kernel, ⟨by decide +kernel, by decide +kernel⟩, by decide +kernel, jx_mem (i := 1796) (by decide +kernel) rfl, jx_mem (i := 116) (by decide +kernel) rfl, fun _ => ⟨jx_mem (i := 1795) (by decide +kernel) rfl, jx_mem (i := 98) (by decide +kernel) rfl, by decide⟩, fun h => absurd h (by decide), fun h => absurd h (by decide), by decide, by decide, by decide, by decide +kernel, by decide +kernel⟩
-- OfDifferentMindsModel.matches(II)I
def jm_b288_94 : List jx_E := (94, 2, (0, 0, 0, 0), 0, []) :: (95, 32, (11, 41, 0, 371), 0, []) :: (98, 69, (0, 0, 0, 0), 0, []) :: []
def jm_b288_70 : List jx_E := (70, 0, (3, 0, 0, 0), 0, []) :: (71, 2, (0, 0, 0, 0), 0, []) :: (72, 32, (11, 5, 0, 116), 0, []) :: (75, 64, (94, 0, 0, 0), 0, []) :: (78, 2, (0, 0, 0, 0), 0, []) :: (79, 2, (0, 0, 0, 0), 0, []) :: (80, 33, (11, 40, 0, 74), 0, []) :: (83, 0, (3, 0, 0, 0), 0, []) :: (84, 38, (0, 0, 0, 0), 0, []) :: (85, 49, (205, 2, 11, 291), 0, []) :: (88, 13, (3, 0, 0, 0), 1, []) :: (91, 54, (70, 0, 0, 0), 0, []) :: []
def jm_b288_44 : List jx_E := (44, 2, (0, 0, 0, 0), 0, []) :: (45, 8, (0, 0, 0, 0), (-1), []) :: (46, 34, (11, 41, 0, 371), 0, []) :: (49, 2, (0, 0, 0, 0), 0, []) :: (50, 8, (0, 0, 0, 0), 0, []) :: (51, 0, (1, 0, 0, 0), 0, []) :: (52, 0, (1, 0, 0, 0), 0, []) :: (53, 50, (309, 1, 0, 381), 0, []) :: (56, 8, (0, 0, 0, 0), 2, []) :: (57, 18, (0, 0, 0, 0), 0, []) :: (58, 8, (0, 0, 0, 0), 0, []) :: (59, 0, (2, 0, 0, 0), 0, []) :: (60, 49, (286, 6, 11, 374), 0, []) :: (63, 2, (0, 0, 0, 0), 0, []) :: (64, 8, (0, 0, 0, 0), 0, []) :: (65, 34, (11, 11, 0, 106), 0, []) :: (68, 8, (0, 0, 0, 0), 0, []) :: (69, 4, (3, 0, 0, 0), 0, []) :: jm_b288_70
def jm_b288_25 : List jx_E := (25, 0, (3, 0, 0, 0), 0, []) :: (26, 9, (0, 0, 0, 0), 6, []) :: (28, 64, (44, 0, 0, 0), 0, []) :: (31, 2, (0, 0, 0, 0), 0, []) :: (32, 33, (11, 39, 0, 71), 0, []) :: (35, 0, (3, 0, 0, 0), 0, []) :: (36, 8, (0, 0, 0, 0), (-1), []) :: (37, 41, (0, 0, 0, 0), 0, []) :: (38, 13, (3, 0, 0, 0), 1, []) :: (41, 54, (25, 0, 0, 0), 0, []) :: []
def jm_b288_23 : List jx_E := (23, 8, (0, 0, 0, 0), 0, []) :: (24, 4, (3, 0, 0, 0), 0, []) :: jm_b288_25
def jm_b288_21 : List jx_E := (21, 8, (0, 0, 0, 0), (-1), []) :: (22, 69, (0, 0, 0, 0), 0, []) :: []
def jm_b288_0 : List jx_E := (0, 2, (0, 0, 0, 0), 0, []) :: (1, 8, (0, 0, 0, 0), 0, []) :: (2, 34, (11, 12, 0, 102), 0, []) :: (5, 2, (0, 0, 0, 0), 0, []) :: (6, 0, (1, 0, 0, 0), 0, []) :: (7, 49, (287, 2, 11, 378), 0, []) :: (10, 55, (21, 0, 0, 0), 0, []) :: (13, 2, (0, 0, 0, 0), 0, []) :: (14, 0, (2, 0, 0, 0), 0, []) :: (15, 49, (206, 2, 11, 244), 0, []) :: (18, 56, (23, 0, 0, 0), 0, []) :: jm_b288_21
def jm_l288 : jx_B := [(0, jm_b288_0), (21, jm_b288_21), (23, jm_b288_23), (25, jm_b288_25), (44, jm_b288_44), (70, jm_b288_70), (94, jm_b288_94)]
def jm_i288 : jx_M := (⟨"OfDifferentMindsModel", "matches", "(II)I"⟩, prog_13_method_90_code, 4, (some .int), 0, 3, 11, jm_l288)
theorem jm_ok288 : jx_okM 288 jm_i288 := ⟨by decide +kernel, rfl, by decide +kernel, ⟨by decide +kernel, by decide +kernel⟩, by decide +kernel, jx_mem (i := 1792) (by decide +kernel) rfl, jx_mem (i := 116) (by decide +kernel) rfl, fun _ => ⟨jx_mem (i := 1790) (by decide +kernel) rfl, jx_mem (i := 1791) (by decide +kernel) rfl, by decide⟩, fun h => absurd h (by decide), fun h => absurd h (by decide), by decide, by decide, by decide, by decide +kernel, by decide +kernel⟩
-- OfDifferentMindsModel.partner(II)I
def jm_b289_90 : List jx_E := (90, 2, (0, 0, 0, 0), 0, []) :: (91, 8, (0, 0, 0, 0), 0, []) :: (92, 34, (11, 11, 0, 106), 0, []) :: (95, 2, (0, 0, 0, 0), 0, []) :: (96, 1, (4, 0, 0, 0), 0, []) :: (98, 49, (205, 2, 11, 291), 0, []) :: (101, 0, (3, 0, 0, 0), 0, []) :: (102, 69, (0, 0, 0, 0), 0, []) :: []
def jm_b289_83 : List jx_E := (83, 0, (3, 0, 0, 0), 0, []) :: (84, 58, (90, 0, 0, 0), 0, []) :: (87, 9, (0, 0, 0, 0), (-2), []) :: (89, 69, (0, 0, 0, 0), 0, []) :: []
def jm_b289_77 : List jx_E := (77, 13, (5, 0, 0, 0), 1, []) :: (80, 54, (32, 0, 0, 0), 0, []) :: []
def jm_b289_70 : List jx_E := (70, 1, (5, 0, 0, 0), 0, []) :: (72, 4, (3, 0, 0, 0), 0, []) :: (73, 1, (6, 0, 0, 0), 0, []) :: (75, 5, (4, 0, 0, 0), 0, []) :: jm_b289_77
def jm_b289_50 : List jx_E := (50, 2, (0, 0, 0, 0), 0, []) :: (51, 0, (1, 0, 0, 0), 0, []) :: (52, 1, (5, 0, 0, 0), 0, []) :: (54, 0, (2, 0, 0, 0), 0, []) :: (55, 49, (284, 4, 11, 368), 0, []) :: (58, 5, (6, 0, 0, 0), 0, []) :: (60, 1, (6, 0, 0, 0), 0, []) :: (62, 1, (4, 0, 0, 0), 0, []) :: (64, 65, (70, 0, 0, 0), 0, []) :: (67, 54, (77, 0, 0, 0), 0, []) :: []
def jm_b289_32 : List jx_E := (32, 1, (5, 0, 0, 0), 0, []) :: (34, 2, (0, 0, 0, 0), 0, []) :: (35, 32, (11, 5, 0, 116), 0, []) :: (38, 64, (83, 0, 0, 0), 0, []) :: (41, 1, (5, 0, 0, 0), 0, []) :: (43, 0, (1, 0, 0, 0), 0, []) :: (44, 62, (50, 0, 0, 0), 0, []) :: (47, 54, (77, 0, 0, 0), 0, []) :: []
def jm_b289_23 : List jx_E := (23, 9, (0, 0, 0, 0), (-2), []) :: (25, 4, (3, 0, 0, 0), 0, []) :: (26, 8, (0, 0, 0, 0), (-1), []) :: (27, 5, (4, 0, 0, 0), 0, []) :: (29, 8, (0, 0, 0, 0), 0, []) :: (30, 5, (5, 0, 0, 0), 0, []) :: jm_b289_32
def jm_b289_21 : List jx_E := (21, 8, (0, 0, 0, 0), (-1), []) :: (22, 69, (0, 0, 0, 0), 0, []) :: []
def jm_b289_0 : List jx_E := (0, 2, (0, 0, 0, 0), 0, []) :: (1, 8, (0, 0, 0, 0), 0, []) :: (2, 34, (11, 12, 0, 102), 0, []) :: (5, 2, (0, 0, 0, 0), 0, []) :: (6, 0, (1, 0, 0, 0), 0, []) :: (7, 49, (207, 2, 11, 119), 0, []) :: (10, 55, (21, 0, 0, 0), 0, []) :: (13, 2, (0, 0, 0, 0), 0, []) :: (14, 0, (2, 0, 0, 0), 0, []) :: (15, 49, (206, 2, 11, 244), 0, []) :: (18, 56, (23, 0, 0, 0), 0, []) :: jm_b289_21
def jm_l289 : jx_B := [(0, jm_b289_0), (21, jm_b289_21), (23, jm_b289_23), (32, jm_b289_32), (50, jm_b289_50), (70, jm_b289_70), (77, jm_b289_77), (83, jm_b289_83), (90, jm_b289_90)]
def jm_i289 : jx_M := (⟨"OfDifferentMindsModel", "partner", "(II)I"⟩, prog_13_method_91_code, 7, (some .int), 0, 3, 11, jm_l289)
theorem jm_ok289 : jx_okM 289 jm_i289 := ⟨by decide +kernel, rfl, by decide +kernel, ⟨by decide +kernel, by decide +kernel⟩, by decide +kernel, jx_mem (i := 1805) (by decide +kernel) rfl, jx_mem (i := 116) (by decide +kernel) rfl, fun _ => ⟨jx_mem (i := 1803) (by decide +kernel) rfl, jx_mem (i := 1804) (by decide +kernel) rfl, by decide⟩, fun h => absurd h (by decide), fun h => absurd h (by decide), by decide, by decide, by decide, by decide +kernel, by decide +kernel⟩
-- OfDifferentMindsModel.agree(II)I
def jm_b290_82 : List jx_E := (82, 2, (0, 0, 0, 0), 0, []) :: (83, 8, (0, 0, 0, 0), 0, []) :: (84, 34, (11, 11, 0, 106), 0, []) :: (87, 2, (0, 0, 0, 0), 0, []) :: (88, 0, (3, 0, 0, 0), 0, []) :: (89, 50, (309, 1, 0, 381), 0, []) :: (92, 49, (205, 2, 11, 291), 0, []) :: (95, 0, (3, 0, 0, 0), 0, []) :: (96, 69, (0, 0, 0, 0), 0, []) :: []
def jm_b290_74 : List jx_E := (74, 21, (0, 0, 0, 0), 0, []) :: (75, 4, (3, 0, 0, 0), 0, []) :: (76, 13, (4, 0, 0, 0), 1, []) :: (79, 54, (21, 0, 0, 0), 0, []) :: []
def jm_b290_73 : List jx_E := (73, 8, (0, 0, 0, 0), 0, []) :: jm_b290_74
def jm_b290_66 : List jx_E := (66, 8, (0, 0, 0, 0), 1, []) :: (67, 1, (4, 0, 0, 0), 0, []) :: (69, 23, (0, 0, 0, 0), 0, []) :: (70, 54, (74, 0, 0, 0), 0, []) :: []
def jm_b290_21 : List jx_E := (21, 1, (4, 0, 0, 0), 0, []) :: (23, 2, (0, 0, 0, 0), 0, []) :: (24, 32, (11, 1, 0, 109), 0, []) :: (27, 64, (82, 0, 0, 0), 0, []) :: (30, 0, (3, 0, 0, 0), 0, []) :: (31, 2, (0, 0, 0, 0), 0, []) :: (32, 33, (11, 2, 0, 13), 0, []) :: (35, 1, (4, 0, 0, 0), 0, []) :: (37, 38, (0, 0, 0, 0), 0, []) :: (38, 55, (66, 0, 0, 0), 0, []) :: (41, 2, (0, 0, 0, 0), 0, []) :: (42, 2, (0, 0, 0, 0), 0, []) :: (43, 33, (11, 0, 0, 9), 0, []) :: (46, 0, (1, 0, 0, 0), 0, []) :: (47, 1, (4, 0, 0, 0), 0, []) :: (49, 49, (232, 4, 11, 216), 0, []) :: (52, 2, (0, 0, 0, 0), 0, []) :: (53, 2, (0, 0, 0, 0), 0, []) :: (54, 33, (11, 0, 0, 9), 0, []) :: (57, 0, (2, 0, 0, 0), 0, []) :: (58, 1, (4, 0, 0, 0), 0, []) :: (60, 49, (232, 4, 11, 216), 0, []) :: (63, 62, (73, 0, 0, 0), 0, []) :: jm_b290_66
def jm_b290_16 : List jx_E := (16, 8, (0, 0, 0, 0), 0, []) :: (17, 4, (3, 0, 0, 0), 0, []) :: (18, 8, (0, 0, 0, 0), 0, []) :: (19, 5, (4, 0, 0, 0), 0, []) :: jm_b290_21
def jm_b290_0 : List jx_E := (0, 2, (0, 0, 0, 0), 0, []) :: (1, 8, (0, 0, 0, 0), 0, []) :: (2, 34, (11, 12, 0, 102), 0, []) :: (5, 2, (0, 0, 0, 0), 0, []) :: (6, 0, (1, 0, 0, 0), 0, []) :: (7, 0, (2, 0, 0, 0), 0, []) :: (8, 49, (208, 3, 11, 261), 0, []) :: (11, 56, (16, 0, 0, 0), 0, []) :: (14, 8, (0, 0, 0, 0), (-1), []) :: (15, 69, (0, 0, 0, 0), 0, []) :: []
def jm_l290 : jx_B := [(0, jm_b290_0), (16, jm_b290_16), (21, jm_b290_21), (66, jm_b290_66), (73, jm_b290_73), (74, jm_b290_74), (82, jm_b290_82)]
def jm_i290 : jx_M := (⟨"OfDifferentMindsModel", "agree", "(II)I"⟩, prog_13_method_92_code, 5, (some .int), 0, 3, 11, jm_l290)
theorem jm_ok290 : jx_okM 290 jm_i290 := ⟨by decide +kernel, rfl, by decide +kernel, ⟨by decide +kernel, by decide +kernel⟩, by decide +kernel, jx_mem (i := 1809) (by decide +kernel) rfl, jx_mem (i := 116) (by decide +kernel) rfl, fun _ => ⟨jx_mem (i := 1807) (by decide +kernel) rfl, jx_mem (i := 1808) (by decide +kernel) rfl, by decide⟩, fun h => absurd h (by decide), fun h => absurd h (by decide), by decide, by decide, by decide, by decide +kernel, by decide +kernel⟩
-- OfDifferentMindsModel.convinces(III)I
def jm_b291_105 : List jx_E := (105, 9, (0, 0, 0, 0), (-2), []) :: (107, 69, (0, 0, 0, 0), 0, []) :: []
def jm_b291_99 : List jx_E := (99, 13, (4, 0, 0, 0), 1, []) :: (102, 54, (28, 0, 0, 0), 0, []) :: []
def jm_b291_88 : List jx_E := (88, 49, (233, 3, 11, 220), 0, []) :: (91, 49, (205, 2, 11, 291), 0, []) :: (94, 2, (0, 0, 0, 0), 0, []) :: (95, 32, (11, 27, 0, 228), 0, []) :: (98, 69, (0, 0, 0, 0), 0, []) :: []
def jm_b291_87 : List jx_E := (87, 0, (1, 0, 0, 0), 0, []) :: jm_b291_88
def jm_b291_58 : List jx_E := (58, 2, (0, 0, 0, 0), 0, []) :: (59, 8, (0, 0, 0, 0), 0, []) :: (60, 34, (11, 11, 0, 106), 0, []) :: (63, 2, (0, 0, 0, 0), 0, []) :: (64, 1, (4, 0, 0, 0), 0, []) :: (66, 49, (205, 2, 11, 291), 0, []) :: (69, 2, (0, 0, 0, 0), 0, []) :: (70, 2, (0, 0, 0, 0), 0, []) :: (71, 2, (0, 0, 0, 0), 0, []) :: (72, 33, (11, 34, 0, 59), 0, []) :: (75, 2, (0, 0, 0, 0), 0, []) :: (76, 32, (11, 27, 0, 228), 0, []) :: (79, 0, (1, 0, 0, 0), 0, []) :: (80, 62, (87, 0, 0, 0), 0, []) :: (83, 0, (2, 0, 0, 0), 0, []) :: (84, 54, (88, 0, 0, 0), 0, []) :: []
def jm_b291_28 : List jx_E := (28, 1, (4, 0, 0, 0), 0, []) :: (30, 10, (0, 0, 0, 0), 200, []) :: (33, 65, (105, 0, 0, 0), 0, []) :: (36, 2, (0, 0, 0, 0), 0, []) :: (37, 2, (0, 0, 0, 0), 0, []) :: (38, 33, (11, 34, 0, 59), 0, []) :: (41, 49, (236, 2, 11, 285), 0, []) :: (44, 55, (105, 0, 0, 0), 0, []) :: (47, 2, (0, 0, 0, 0), 0, []) :: (48, 32, (11, 27, 0, 228), 0, []) :: (51, 8, (0, 0, 0, 0), (-1), []) :: (52, 62, (58, 0, 0, 0), 0, []) :: (55, 54, (99, 0, 0, 0), 0, []) :: []
def jm_b291_17 : List jx_E := (17, 2, (0, 0, 0, 0), 0, []) :: (18, 0, (1, 0, 0, 0), 0, []) :: (19, 0, (2, 0, 0, 0), 0, []) :: (20, 0, (3, 0, 0, 0), 0, []) :: (21, 8, (0, 0, 0, 0), 0, []) :: (22, 49, (270, 5, 11, 345), 0, []) :: (25, 8, (0, 0, 0, 0), 1, []) :: (26, 5, (4, 0, 0, 0), 0, []) :: jm_b291_28
def jm_b291_0 : List jx_E := (0, 2, (0, 0, 0, 0), 0, []) :: (1, 8, (0, 0, 0, 0), 0, []) :: (2, 34, (11, 12, 0, 102), 0, []) :: (5, 2, (0, 0, 0, 0), 0, []) :: (6, 0, (1, 0, 0, 0), 0, []) :: (7, 0, (2, 0, 0, 0), 0, []) :: (8, 0, (3, 0, 0, 0), 0, []) :: (9, 49, (272, 4, 11, 342), 0, []) :: (12, 56, (17, 0, 0, 0), 0, []) :: (15, 8, (0, 0, 0, 0), (-1), []) :: (16, 69, (0, 0, 0, 0), 0, []) :: []
def jm_l291 : jx_B := [(0, jm_b291_0), (17, jm_b291_17), (28, jm_b291_28), (58, jm_b291_58), (87, jm_b291_87), (88, jm_b291_88), (99, jm_b291_99), (105, jm_b291_105)]
def jm_i291 : jx_M := (⟨"OfDifferentMindsModel", "convinces", "(III)I"⟩, prog_13_method_93_code, 5, (some .int), 0, 4, 11, jm_l291)
theorem jm_ok291 : jx_okM 291 jm_i291 := ⟨by decide +kernel, rfl, by decide +kernel, ⟨by decide +kernel, by decide +kernel⟩, by decide +kernel, jx_mem (i := 1813) (by decide +kernel) rfl, jx_mem (i := 116) (by decide +kernel) rfl, fun _ => ⟨jx_mem (i := 1811) (by decide +kernel) rfl, jx_mem (i := 1812) (by decide +kernel) rfl, by decide⟩, fun h => absurd h (by decide), fun h => absurd h (by decide), by decide, by decide, by decide, by decide +kernel, by decide +kernel⟩
-- OfDifferentMindsModel.claims(II)Z
def jm_b292_79 : List jx_E := (79, 2, (0, 0, 0, 0), 0, []) :: (80, 2, (0, 0, 0, 0), 0, []) :: (81, 33, (11, 34, 0, 59), 0, []) :: (84, 1, (4, 0, 0, 0), 0, []) :: (86, 1, (5, 0, 0, 0), 0, []) :: (88, 49, (235, 4, 11, 240), 0, []) :: (91, 8, (0, 0, 0, 0), 1, []) :: (92, 70, (0, 0, 0, 0), 0, []) :: []
def jm_b292_68 : List jx_E := (68, 5, (5, 0, 0, 0), 0, []) :: (70, 1, (4, 0, 0, 0), 0, []) :: (72, 1, (5, 0, 0, 0), 0, []) :: (74, 62, (79, 0, 0, 0), 0, []) :: (77, 8, (0, 0, 0, 0), 0, []) :: (78, 70, (0, 0, 0, 0), 0, []) :: []
def jm_b292_53 : List jx_E := (53, 2, (0, 0, 0, 0), 0, []) :: (54, 2, (0, 0, 0, 0), 0, []) :: (55, 33, (11, 34, 0, 59), 0, []) :: (58, 2, (0, 0, 0, 0), 0, []) :: (59, 33, (11, 34, 0, 59), 0, []) :: (62, 8, (0, 0, 0, 0), 2, []) :: (63, 38, (0, 0, 0, 0), 0, []) :: (64, 0, (3, 0, 0, 0), 0, []) :: (65, 49, (232, 4, 11, 216), 0, []) :: jm_b292_68
def jm_b292_42 : List jx_E := (42, 5, (4, 0, 0, 0), 0, []) :: (44, 0, (1, 0, 0, 0), 0, []) :: (45, 8, (0, 0, 0, 0), 1, []) :: (46, 62, (53, 0, 0, 0), 0, []) :: (49, 0, (2, 0, 0, 0), 0, []) :: (50, 54, (68, 0, 0, 0), 0, []) :: []
def jm_b292_27 : List jx_E := (27, 2, (0, 0, 0, 0), 0, []) :: (28, 2, (0, 0, 0, 0), 0, []) :: (29, 33, (11, 34, 0, 59), 0, []) :: (32, 2, (0, 0, 0, 0), 0, []) :: (33, 33, (11, 34, 0, 59), 0, []) :: (36, 8, (0, 0, 0, 0), 1, []) :: (37, 38, (0, 0, 0, 0), 0, []) :: (38, 0, (3, 0, 0, 0), 0, []) :: (39, 49, (232, 4, 11, 216), 0, []) :: jm_b292_42
def jm_b292_0 : List jx_E := (0, 2, (0, 0, 0, 0), 0, []) :: (1, 33, (11, 0, 0, 9), 0, []) :: (4, 2, (0, 0, 0, 0), 0, []) :: (5, 33, (11, 34, 0, 59), 0, []) :: (8, 8, (0, 0, 0, 0), 0, []) :: (9, 50, (241, 3, 0, 257), 0, []) :: (12, 2, (0, 0, 0, 0), 0, []) :: (13, 33, (11, 34, 0, 59), 0, []) :: (16, 8, (0, 0, 0, 0), 0, []) :: (17, 38, (0, 0, 0, 0), 0, []) :: (18, 4, (3, 0, 0, 0), 0, []) :: (19, 0, (1, 0, 0, 0), 0, []) :: (20, 56, (27, 0, 0, 0), 0, []) :: (23, 0, (2, 0, 0, 0), 0, []) :: (24, 54, (42, 0, 0, 0), 0, []) :: []
def jm_l292 : jx_B := [(0, jm_b292_0), (27, jm_b292_27), (42, jm_b292_42), (53, jm_b292_53), (68, jm_b292_68), (79, jm_b292_79)]
def jm_i292 : jx_M := (⟨"OfDifferentMindsModel", "claims", "(II)Z"⟩, prog_13_method_94_code, 6, (some .boolean), 0, 3, 11, jm_l292)
theorem jm_ok292 : jx_okM 292 jm_i292 := ⟨by decide +kernel, rfl, by decide +kernel, ⟨by decide +kernel, by decide +kernel⟩, by decide +kernel, jx_mem (i := 1829) (by decide +kernel) rfl, jx_mem (i := 116) (by decide +kernel) rfl, fun _ => ⟨jx_mem (i := 1828) (by decide +kernel) rfl, jx_mem (i := 101) (by decide +kernel) rfl, by decide⟩, fun h => absurd h (by decide), fun h => absurd h (by decide), by decide, by decide, by decide, by decide +kernel, by decide +kernel⟩
-- OfDifferentMindsModel.wayOfClaim(II)I
def jm_b293_112 : List jx_E := (112, 69, (0, 0, 0, 0), 0, []) :: []
def jm_b293_69 : List jx_E := (69, 2, (0, 0, 0, 0), 0, []) :: (70, 1, (4, 0, 0, 0), 0, []) :: (72, 1, (5, 0, 0, 0), 0, []) :: (74, 0, (3, 0, 0, 0), 0, []) :: (75, 2, (0, 0, 0, 0), 0, []) :: (76, 33, (11, 0, 0, 9), 0, []) :: (79, 8, (0, 0, 0, 0), 3, []) :: (80, 38, (0, 0, 0, 0), 0, []) :: (81, 2, (0, 0, 0, 0), 0, []) :: (82, 2, (0, 0, 0, 0), 0, []) :: (83, 33, (11, 0, 0, 9), 0, []) :: (86, 2, (0, 0, 0, 0), 0, []) :: (87, 33, (11, 0, 0, 9), 0, []) :: (90, 8, (0, 0, 0, 0), 1, []) :: (91, 38, (0, 0, 0, 0), 0, []) :: (92, 49, (233, 3, 11, 220), 0, []) :: (95, 2, (0, 0, 0, 0), 0, []) :: (96, 2, (0, 0, 0, 0), 0, []) :: (97, 33, (11, 0, 0, 9), 0, []) :: (100, 2, (0, 0, 0, 0), 0, []) :: (101, 33, (11, 0, 0, 9), 0, []) :: (104, 8, (0, 0, 0, 0), 2, []) :: (105, 38, (0, 0, 0, 0), 0, []) :: (106, 49, (233, 3, 11, 220), 0, []) :: (109, 49, (231, 7, 11, 224), 0, []) :: jm_b293_112
def jm_b293_56 : List jx_E := (56, 5, (5, 0, 0, 0), 0, []) :: (58, 1, (4, 0, 0, 0), 0, []) :: (60, 1, (5, 0, 0, 0), 0, []) :: (62, 62, (69, 0, 0, 0), 0, []) :: (65, 8, (0, 0, 0, 0), (-1), []) :: (66, 54, (112, 0, 0, 0), 0, []) :: []
def jm_b293_41 : List jx_E := (41, 2, (0, 0, 0, 0), 0, []) :: (42, 2, (0, 0, 0, 0), 0, []) :: (43, 33, (11, 0, 0, 9), 0, []) :: (46, 2, (0, 0, 0, 0), 0, []) :: (47, 33, (11, 0, 0, 9), 0, []) :: (50, 8, (0, 0, 0, 0), 2, []) :: (51, 38, (0, 0, 0, 0), 0, []) :: (52, 0, (3, 0, 0, 0), 0, []) :: (53, 49, (232, 4, 11, 216), 0, []) :: jm_b293_56
def jm_b293_30 : List jx_E := (30, 5, (4, 0, 0, 0), 0, []) :: (32, 0, (1, 0, 0, 0), 0, []) :: (33, 8, (0, 0, 0, 0), 1, []) :: (34, 62, (41, 0, 0, 0), 0, []) :: (37, 0, (2, 0, 0, 0), 0, []) :: (38, 54, (56, 0, 0, 0), 0, []) :: []
def jm_b293_15 : List jx_E := (15, 2, (0, 0, 0, 0), 0, []) :: (16, 2, (0, 0, 0, 0), 0, []) :: (17, 33, (11, 0, 0, 9), 0, []) :: (20, 2, (0, 0, 0, 0), 0, []) :: (21, 33, (11, 0, 0, 9), 0, []) :: (24, 8, (0, 0, 0, 0), 1, []) :: (25, 38, (0, 0, 0, 0), 0, []) :: (26, 0, (3, 0, 0, 0), 0, []) :: (27, 49, (232, 4, 11, 216), 0, []) :: jm_b293_30
def jm_b293_0 : List jx_E := (0, 2, (0, 0, 0, 0), 0, []) :: (1, 33, (11, 0, 0, 9), 0, []) :: (4, 8, (0, 0, 0, 0), 0, []) :: (5, 38, (0, 0, 0, 0), 0, []) :: (6, 4, (3, 0, 0, 0), 0, []) :: (7, 0, (1, 0, 0, 0), 0, []) :: (8, 56, (15, 0, 0, 0), 0, []) :: (11, 0, (2, 0, 0, 0), 0, []) :: (12, 54, (30, 0, 0, 0), 0, []) :: []
def jm_l293 : jx_B := [(0, jm_b293_0), (15, jm_b293_15), (30, jm_b293_30), (41, jm_b293_41), (56, jm_b293_56), (69, jm_b293_69), (112, jm_b293_112)]
def jm_i293 : jx_M := (⟨"OfDifferentMindsModel", "wayOfClaim", "(II)I"⟩, prog_13_method_95_code, 6, (some .int), 0, 3, 11, jm_l293)
theorem jm_ok293 : jx_okM 293 jm_i293 := ⟨by decide +kernel, rfl, by decide +kernel, ⟨by decide +kernel, by decide +kernel⟩, by decide +kernel, jx_mem (i := 1821) (by decide +kernel) rfl, jx_mem (i := 116) (by decide +kernel) rfl, fun _ => ⟨jx_mem (i := 1820) (by decide +kernel) rfl, jx_mem (i := 100) (by decide +kernel) rfl, by decide⟩, fun h => absurd h (by decide), fun h => absurd h (by decide), by decide, by decide, by decide, by decide +kernel, by decide +kernel⟩
-- OfDifferentMindsModel.claim(II)I
def jm_b294_89 : List jx_E := (89, 0, (3, 0, 0, 0), 0, []) :: (90, 69, (0, 0, 0, 0), 0, []) :: []
def jm_b294_81 : List jx_E := (81, 21, (0, 0, 0, 0), 0, []) :: (82, 4, (3, 0, 0, 0), 0, []) :: (83, 13, (4, 0, 0, 0), 1, []) :: (86, 54, (45, 0, 0, 0), 0, []) :: []
def jm_b294_80 : List jx_E := (80, 8, (0, 0, 0, 0), 0, []) :: jm_b294_81
def jm_b294_45 : List jx_E := (45, 1, (4, 0, 0, 0), 0, []) :: (47, 2, (0, 0, 0, 0), 0, []) :: (48, 33, (11, 2, 0, 13), 0, []) :: (51, 2, (0, 0, 0, 0), 0, []) :: (52, 33, (11, 0, 0, 9), 0, []) :: (55, 8, (0, 0, 0, 0), 0, []) :: (56, 38, (0, 0, 0, 0), 0, []) :: (57, 38, (0, 0, 0, 0), 0, []) :: (58, 64, (89, 0, 0, 0), 0, []) :: (61, 0, (3, 0, 0, 0), 0, []) :: (62, 2, (0, 0, 0, 0), 0, []) :: (63, 0, (1, 0, 0, 0), 0, []) :: (64, 1, (4, 0, 0, 0), 0, []) :: (66, 49, (293, 3, 11, 386), 0, []) :: (69, 0, (2, 0, 0, 0), 0, []) :: (70, 62, (80, 0, 0, 0), 0, []) :: (73, 8, (0, 0, 0, 0), 1, []) :: (74, 1, (4, 0, 0, 0), 0, []) :: (76, 23, (0, 0, 0, 0), 0, []) :: (77, 54, (81, 0, 0, 0), 0, []) :: []
def jm_b294_40 : List jx_E := (40, 8, (0, 0, 0, 0), 0, []) :: (41, 4, (3, 0, 0, 0), 0, []) :: (42, 8, (0, 0, 0, 0), 0, []) :: (43, 5, (4, 0, 0, 0), 0, []) :: jm_b294_45
def jm_b294_37 : List jx_E := (37, 9, (0, 0, 0, 0), (-2), []) :: (39, 69, (0, 0, 0, 0), 0, []) :: []
def jm_b294_16 : List jx_E := (16, 2, (0, 0, 0, 0), 0, []) :: (17, 49, (210, 1, 11, 265), 0, []) :: (20, 55, (37, 0, 0, 0), 0, []) :: (23, 2, (0, 0, 0, 0), 0, []) :: (24, 2, (0, 0, 0, 0), 0, []) :: (25, 33, (11, 0, 0, 9), 0, []) :: (28, 8, (0, 0, 0, 0), 0, []) :: (29, 38, (0, 0, 0, 0), 0, []) :: (30, 0, (2, 0, 0, 0), 0, []) :: (31, 49, (250, 3, 11, 294), 0, []) :: (34, 56, (40, 0, 0, 0), 0, []) :: jm_b294_37
def jm_b294_0 : List jx_E := (0, 2, (0, 0, 0, 0), 0, []) :: (1, 8, (0, 0, 0, 0), 0, []) :: (2, 34, (11, 12, 0, 102), 0, []) :: (5, 0, (1, 0, 0, 0), 0, []) :: (6, 8, (0, 0, 0, 0), 0, []) :: (7, 8, (0, 0, 0, 0), 1, []) :: (8, 50, (202, 3, 0, 112), 0, []) :: (11, 56, (16, 0, 0, 0), 0, []) :: (14, 8, (0, 0, 0, 0), (-1), []) :: (15, 69, (0, 0, 0, 0), 0, []) :: []
def jm_l294 : jx_B := [(0, jm_b294_0), (16, jm_b294_16), (37, jm_b294_37), (40, jm_b294_40), (45, jm_b294_45), (80, jm_b294_80), (81, jm_b294_81), (89, jm_b294_89)]
def jm_i294 : jx_M := (⟨"OfDifferentMindsModel", "claim", "(II)I"⟩, prog_13_method_96_code, 5, (some .int), 0, 3, 11, jm_l294)
theorem jm_ok294 : jx_okM 294 jm_i294 := ⟨by decide +kernel, rfl, by decide +kernel, ⟨by decide +kernel, by decide +kernel⟩, by decide +kernel, jx_mem (i := 1817) (by decide +kernel) rfl, jx_mem (i := 116) (by decide +kernel) rfl, fun _ => ⟨jx_mem (i := 1815) (by decide +kernel) rfl, jx_mem (i := 1816) (by decide +kernel) rfl, by decide⟩, fun h => absurd h (by decide), fun h => absurd h (by decide), by decide, by decide, by decide, by decide +kernel, by decide +kernel⟩
-- OfDifferentMindsModel.lie(II)I
def jm_b295_152 : List jx_E := (152, 2, (0, 0, 0, 0), 0, []) :: (153, 8, (0, 0, 0, 0), 0, []) :: (154, 34, (11, 11, 0, 106), 0, []) :: (157, 2, (0, 0, 0, 0), 0, []) :: (158, 1, (4, 0, 0, 0), 0, []) :: (160, 49, (205, 2, 11, 291), 0, []) :: (163, 0, (3, 0, 0, 0), 0, []) :: (164, 69, (0, 0, 0, 0), 0, []) :: []
def jm_b295_145 : List jx_E := (145, 0, (3, 0, 0, 0), 0, []) :: (146, 58, (152, 0, 0, 0), 0, []) :: (149, 9, (0, 0, 0, 0), (-2), []) :: (151, 69, (0, 0, 0, 0), 0, []) :: []
def jm_b295_139 : List jx_E := (139, 13, (5, 0, 0, 0), 1, []) :: (142, 54, (45, 0, 0, 0), 0, []) :: []
def jm_b295_132 : List jx_E := (132, 1, (5, 0, 0, 0), 0, []) :: (134, 4, (3, 0, 0, 0), 0, []) :: (135, 1, (6, 0, 0, 0), 0, []) :: (137, 5, (4, 0, 0, 0), 0, []) :: jm_b295_139
def jm_b295_112 : List jx_E := (112, 2, (0, 0, 0, 0), 0, []) :: (113, 33, (11, 34, 0, 59), 0, []) :: (116, 8, (0, 0, 0, 0), 0, []) :: (117, 38, (0, 0, 0, 0), 0, []) :: (118, 0, (2, 0, 0, 0), 0, []) :: (119, 62, (139, 0, 0, 0), 0, []) :: (122, 1, (6, 0, 0, 0), 0, []) :: (124, 1, (4, 0, 0, 0), 0, []) :: (126, 63, (132, 0, 0, 0), 0, []) :: (129, 54, (139, 0, 0, 0), 0, []) :: []
def jm_b295_77 : List jx_E := (77, 2, (0, 0, 0, 0), 0, []) :: (78, 33, (11, 34, 0, 59), 0, []) :: (81, 8, (0, 0, 0, 0), 0, []) :: (82, 38, (0, 0, 0, 0), 0, []) :: (83, 0, (2, 0, 0, 0), 0, []) :: (84, 61, (112, 0, 0, 0), 0, []) :: (87, 1, (6, 0, 0, 0), 0, []) :: (89, 10, (0, 0, 0, 0), 200, []) :: (92, 64, (112, 0, 0, 0), 0, []) :: (95, 2, (0, 0, 0, 0), 0, []) :: (96, 2, (0, 0, 0, 0), 0, []) :: (97, 33, (11, 34, 0, 59), 0, []) :: (100, 49, (236, 2, 11, 285), 0, []) :: (103, 55, (112, 0, 0, 0), 0, []) :: (106, 13, (6, 0, 0, 0), 1, []) :: (109, 54, (77, 0, 0, 0), 0, []) :: []
def jm_b295_74 : List jx_E := (74, 8, (0, 0, 0, 0), 1, []) :: (75, 5, (6, 0, 0, 0), 0, []) :: jm_b295_77
def jm_b295_45 : List jx_E := (45, 1, (5, 0, 0, 0), 0, []) :: (47, 2, (0, 0, 0, 0), 0, []) :: (48, 33, (11, 2, 0, 13), 0, []) :: (51, 2, (0, 0, 0, 0), 0, []) :: (52, 33, (11, 0, 0, 9), 0, []) :: (55, 8, (0, 0, 0, 0), 0, []) :: (56, 38, (0, 0, 0, 0), 0, []) :: (57, 38, (0, 0, 0, 0), 0, []) :: (58, 64, (145, 0, 0, 0), 0, []) :: (61, 2, (0, 0, 0, 0), 0, []) :: (62, 0, (1, 0, 0, 0), 0, []) :: (63, 1, (5, 0, 0, 0), 0, []) :: (65, 49, (292, 3, 11, 389), 0, []) :: (68, 56, (74, 0, 0, 0), 0, []) :: (71, 54, (139, 0, 0, 0), 0, []) :: []
def jm_b295_34 : List jx_E := (34, 9, (0, 0, 0, 0), (-2), []) :: (36, 4, (3, 0, 0, 0), 0, []) :: (37, 12, (0, 0, 0, 352), 1000000, []) :: (40, 5, (4, 0, 0, 0), 0, []) :: (42, 8, (0, 0, 0, 0), 0, []) :: (43, 5, (5, 0, 0, 0), 0, []) :: jm_b295_45
def jm_b295_24 : List jx_E := (24, 2, (0, 0, 0, 0), 0, []) :: (25, 49, (210, 1, 11, 265), 0, []) :: (28, 56, (34, 0, 0, 0), 0, []) :: (31, 9, (0, 0, 0, 0), (-2), []) :: (33, 69, (0, 0, 0, 0), 0, []) :: []
def jm_b295_22 : List jx_E := (22, 8, (0, 0, 0, 0), (-1), []) :: (23, 69, (0, 0, 0, 0), 0, []) :: []
def jm_b295_0 : List jx_E := (0, 2, (0, 0, 0, 0), 0, []) :: (1, 8, (0, 0, 0, 0), 0, []) :: (2, 34, (11, 12, 0, 102), 0, []) :: (5, 0, (1, 0, 0, 0), 0, []) :: (6, 8, (0, 0, 0, 0), 0, []) :: (7, 8, (0, 0, 0, 0), 1, []) :: (8, 50, (202, 3, 0, 112), 0, []) :: (11, 55, (22, 0, 0, 0), 0, []) :: (14, 2, (0, 0, 0, 0), 0, []) :: (15, 0, (2, 0, 0, 0), 0, []) :: (16, 49, (206, 2, 11, 244), 0, []) :: (19, 56, (24, 0, 0, 0), 0, []) :: jm_b295_22
def jm_l295 : jx_B := [(0, jm_b295_0), (22, jm_b295_22), (24, jm_b295_24), (34, jm_b295_34), (45, jm_b295_45), (74, jm_b295_74), (77, jm_b295_77), (112, jm_b295_112), (132, jm_b295_132), (139, jm_b295_139), (145, jm_b295_145), (152, jm_b295_152)]
def jm_i295 : jx_M := (⟨"OfDifferentMindsModel", "lie", "(II)I"⟩, prog_13_method_97_code, 7, (some .int), 0, 3, 11, jm_l295)
theorem jm_ok295 : jx_okM 295 jm_i295 := ⟨by decide +kernel, rfl, by decide +kernel, ⟨by decide +kernel, by decide +kernel⟩, by decide +kernel, jx_mem (i := 1825) (by decide +kernel) rfl, jx_mem (i := 116) (by decide +kernel) rfl, fun _ => ⟨jx_mem (i := 1823) (by decide +kernel) rfl, jx_mem (i := 1824) (by decide +kernel) rfl, by decide⟩, fun h => absurd h (by decide), fun h => absurd h (by decide), by decide, by decide, by decide, by decide +kernel, by decide +kernel⟩
-- OfDifferentMindsModel.prints()I
def jm_b296_95 : List jx_E := (95, 2, (0, 0, 0, 0), 0, []) :: (96, 0, (1, 0, 0, 0), 0, []) :: (97, 34, (11, 43, 0, 174), 0, []) :: (100, 0, (1, 0, 0, 0), 0, []) :: (101, 69, (0, 0, 0, 0), 0, []) :: []
def jm_b296_69 : List jx_E := (69, 0, (2, 0, 0, 0), 0, []) :: (70, 0, (1, 0, 0, 0), 0, []) :: (71, 64, (95, 0, 0, 0), 0, []) :: (74, 2, (0, 0, 0, 0), 0, []) :: (75, 33, (11, 42, 0, 77), 0, []) :: (78, 0, (2, 0, 0, 0), 0, []) :: (79, 2, (0, 0, 0, 0), 0, []) :: (80, 33, (11, 8, 0, 25), 0, []) :: (83, 0, (2, 0, 0, 0), 0, []) :: (84, 39, (0, 0, 0, 0), 0, []) :: (85, 9, (0, 0, 0, 0), 97, []) :: (87, 15, (0, 0, 0, 0), 0, []) :: (88, 41, (0, 0, 0, 0), 0, []) :: (89, 13, (2, 0, 0, 0), 1, []) :: (92, 54, (69, 0, 0, 0), 0, []) :: []
def jm_b296_67 : List jx_E := (67, 8, (0, 0, 0, 0), 0, []) :: (68, 4, (2, 0, 0, 0), 0, []) :: jm_b296_69
def jm_b296_61 : List jx_E := (61, 0, (1, 0, 0, 0), 0, []) :: (62, 56, (67, 0, 0, 0), 0, []) :: (65, 8, (0, 0, 0, 0), (-1), []) :: (66, 69, (0, 0, 0, 0), 0, []) :: []
def jm_b296_55 : List jx_E := (55, 13, (2, 0, 0, 0), 1, []) :: (58, 54, (17, 0, 0, 0), 0, []) :: []
def jm_b296_51 : List jx_E := (51, 8, (0, 0, 0, 0), (-1), []) :: (52, 0, (2, 0, 0, 0), 0, []) :: (53, 15, (0, 0, 0, 0), 0, []) :: (54, 69, (0, 0, 0, 0), 0, []) :: []
def jm_b296_17 : List jx_E := (17, 0, (2, 0, 0, 0), 0, []) :: (18, 0, (1, 0, 0, 0), 0, []) :: (19, 64, (61, 0, 0, 0), 0, []) :: (22, 0, (2, 0, 0, 0), 0, []) :: (23, 9, (0, 0, 0, 0), 20, []) :: (25, 61, (51, 0, 0, 0), 0, []) :: (28, 2, (0, 0, 0, 0), 0, []) :: (29, 33, (11, 8, 0, 25), 0, []) :: (32, 0, (2, 0, 0, 0), 0, []) :: (33, 39, (0, 0, 0, 0), 0, []) :: (34, 9, (0, 0, 0, 0), 97, []) :: (36, 9, (0, 0, 0, 0), 97, []) :: (38, 2, (0, 0, 0, 0), 0, []) :: (39, 32, (11, 1, 0, 109), 0, []) :: (42, 14, (0, 0, 0, 0), 0, []) :: (43, 8, (0, 0, 0, 0), 1, []) :: (44, 15, (0, 0, 0, 0), 0, []) :: (45, 50, (202, 3, 0, 112), 0, []) :: (48, 56, (55, 0, 0, 0), 0, []) :: jm_b296_51
def jm_b296_0 : List jx_E := (0, 2, (0, 0, 0, 0), 0, []) :: (1, 8, (0, 0, 0, 0), 0, []) :: (2, 34, (11, 12, 0, 102), 0, []) :: (5, 2, (0, 0, 0, 0), 0, []) :: (6, 32, (11, 9, 0, 123), 0, []) :: (9, 4, (1, 0, 0, 0), 0, []) :: (10, 2, (0, 0, 0, 0), 0, []) :: (11, 8, (0, 0, 0, 0), 0, []) :: (12, 34, (11, 9, 0, 123), 0, []) :: (15, 8, (0, 0, 0, 0), 0, []) :: (16, 4, (2, 0, 0, 0), 0, []) :: jm_b296_17
def jm_l296 : jx_B := [(0, jm_b296_0), (17, jm_b296_17), (51, jm_b296_51), (55, jm_b296_55), (61, jm_b296_61), (67, jm_b296_67), (69, jm_b296_69), (95, jm_b296_95)]
def jm_i296 : jx_M := (⟨"OfDifferentMindsModel", "prints", "()I"⟩, prog_13_method_98_code, 3, (some .int), 0, 1, 11, jm_l296)
theorem jm_ok296 : jx_okM 296 jm_i296 := ⟨by decide +kernel, rfl, by decide +kernel, ⟨by decide +kernel, by decide +kernel⟩, by decide +kernel, jx_mem (i := 1833) (by decide +kernel) rfl, jx_mem (i := 116) (by decide +kernel) rfl, fun _ => ⟨jx_mem (i := 1831) (by decide +kernel) rfl, jx_mem (i := 1832) (by decide +kernel) rfl, by decide⟩, fun h => absurd h (by decide), fun h => absurd h (by decide), by decide, by decide, by decide, by decide +kernel, by decide +kernel⟩
-- OfDifferentMindsModel.isPrinted(II)Z
def jm_b297_57 : List jx_E := (57, 8, (0, 0, 0, 0), 1, []) :: (58, 70, (0, 0, 0, 0), 0, []) :: []
def jm_b297_51 : List jx_E := (51, 13, (3, 0, 0, 0), 1, []) :: (54, 54, (15, 0, 0, 0), 0, []) :: []
def jm_b297_49 : List jx_E := (49, 8, (0, 0, 0, 0), 0, []) :: (50, 70, (0, 0, 0, 0), 0, []) :: []
def jm_b297_15 : List jx_E := (15, 0, (3, 0, 0, 0), 0, []) :: (16, 2, (0, 0, 0, 0), 0, []) :: (17, 32, (11, 43, 0, 174), 0, []) :: (20, 64, (57, 0, 0, 0), 0, []) :: (23, 2, (0, 0, 0, 0), 0, []) :: (24, 2, (0, 0, 0, 0), 0, []) :: (25, 33, (11, 34, 0, 59), 0, []) :: (28, 49, (236, 2, 11, 285), 0, []) :: (31, 55, (49, 0, 0, 0), 0, []) :: (34, 2, (0, 0, 0, 0), 0, []) :: (35, 33, (11, 34, 0, 59), 0, []) :: (38, 8, (0, 0, 0, 0), 0, []) :: (39, 38, (0, 0, 0, 0), 0, []) :: (40, 2, (0, 0, 0, 0), 0, []) :: (41, 33, (11, 42, 0, 77), 0, []) :: (44, 0, (3, 0, 0, 0), 0, []) :: (45, 38, (0, 0, 0, 0), 0, []) :: (46, 61, (51, 0, 0, 0), 0, []) :: jm_b297_49
def jm_b297_0 : List jx_E := (0, 2, (0, 0, 0, 0), 0, []) :: (1, 0, (1, 0, 0, 0), 0, []) :: (2, 0, (2, 0, 0, 0), 0, []) :: (3, 2, (0, 0, 0, 0), 0, []) :: (4, 33, (11, 42, 0, 77), 0, []) :: (7, 8, (0, 0, 0, 0), 0, []) :: (8, 38, (0, 0, 0, 0), 0, []) :: (9, 8, (0, 0, 0, 0), 0, []) :: (10, 49, (270, 5, 11, 345), 0, []) :: (13, 8, (0, 0, 0, 0), 1, []) :: (14, 4, (3, 0, 0, 0), 0, []) :: jm_b297_15
def jm_l297 : jx_B := [(0, jm_b297_0), (15, jm_b297_15), (49, jm_b297_49), (51, jm_b297_51), (57, jm_b297_57)]
def jm_i297 : jx_M := (⟨"OfDifferentMindsModel", "isPrinted", "(II)Z"⟩, prog_13_method_99_code, 4, (some .boolean), 0, 3, 11, jm_l297)
theorem jm_ok297 : jx_okM 297 jm_i297 := ⟨by decide +kernel, rfl, by decide +kernel, ⟨by decide +kernel, by decide +kernel⟩, by decide +kernel, jx_mem (i := 1841) (by decide +kernel) rfl, jx_mem (i := 116) (by decide +kernel) rfl, fun _ => ⟨jx_mem (i := 1840) (by decide +kernel) rfl, jx_mem (i := 102) (by decide +kernel) rfl, by decide⟩, fun h => absurd h (by decide), fun h => absurd h (by decide), by decide, by decide, by decide, by decide +kernel, by decide +kernel⟩
-- OfDifferentMindsModel.fits()I
def jm_b298_88 : List jx_E := (88, 0, (1, 0, 0, 0), 0, []) :: (89, 69, (0, 0, 0, 0), 0, []) :: []
def jm_b298_82 : List jx_E := (82, 13, (2, 0, 0, 0), 1, []) :: (85, 54, (24, 0, 0, 0), 0, []) :: []
def jm_b298_76 : List jx_E := (76, 13, (3, 0, 0, 0), 1, []) :: (79, 54, (34, 0, 0, 0), 0, []) :: []
def jm_b298_73 : List jx_E := (73, 13, (1, 0, 0, 0), 1, []) :: jm_b298_76
def jm_b298_59 : List jx_E := (59, 0, (1, 0, 0, 0), 0, []) :: (60, 56, (73, 0, 0, 0), 0, []) :: (63, 2, (0, 0, 0, 0), 0, []) :: (64, 0, (2, 0, 0, 0), 0, []) :: (65, 49, (205, 2, 11, 291), 0, []) :: (68, 2, (0, 0, 0, 0), 0, []) :: (69, 0, (3, 0, 0, 0), 0, []) :: (70, 49, (205, 2, 11, 291), 0, []) :: jm_b298_73
def jm_b298_34 : List jx_E := (34, 0, (3, 0, 0, 0), 0, []) :: (35, 2, (0, 0, 0, 0), 0, []) :: (36, 32, (11, 5, 0, 116), 0, []) :: (39, 64, (82, 0, 0, 0), 0, []) :: (42, 0, (2, 0, 0, 0), 0, []) :: (43, 0, (3, 0, 0, 0), 0, []) :: (44, 61, (76, 0, 0, 0), 0, []) :: (47, 2, (0, 0, 0, 0), 0, []) :: (48, 0, (2, 0, 0, 0), 0, []) :: (49, 0, (3, 0, 0, 0), 0, []) :: (50, 49, (297, 3, 11, 392), 0, []) :: (53, 56, (59, 0, 0, 0), 0, []) :: (56, 54, (76, 0, 0, 0), 0, []) :: []
def jm_b298_24 : List jx_E := (24, 0, (2, 0, 0, 0), 0, []) :: (25, 2, (0, 0, 0, 0), 0, []) :: (26, 32, (11, 5, 0, 116), 0, []) :: (29, 64, (88, 0, 0, 0), 0, []) :: (32, 8, (0, 0, 0, 0), 0, []) :: (33, 4, (3, 0, 0, 0), 0, []) :: jm_b298_34
def jm_b298_15 : List jx_E := (15, 8, (0, 0, 0, 0), 0, []) :: (16, 4, (1, 0, 0, 0), 0, []) :: (17, 2, (0, 0, 0, 0), 0, []) :: (18, 8, (0, 0, 0, 0), 0, []) :: (19, 34, (11, 11, 0, 106), 0, []) :: (22, 8, (0, 0, 0, 0), 0, []) :: (23, 4, (2, 0, 0, 0), 0, []) :: jm_b298_24
def jm_b298_0 : List jx_E := (0, 2, (0, 0, 0, 0), 0, []) :: (1, 8, (0, 0, 0, 0), 0, []) :: (2, 34, (11, 12, 0, 102), 0, []) :: (5, 2, (0, 0, 0, 0), 0, []) :: (6, 32, (11, 43, 0, 174), 0, []) :: (9, 56, (15, 0, 0, 0), 0, []) :: (12, 9, (0, 0, 0, 0), (-2), []) :: (14, 69, (0, 0, 0, 0), 0, []) :: []
def jm_l298 : jx_B := [(0, jm_b298_0), (15, jm_b298_15), (24, jm_b298_24), (34, jm_b298_34), (59, jm_b298_59), (73, jm_b298_73), (76, jm_b298_76), (82, jm_b298_82), (88, jm_b298_88)]
def jm_i298 : jx_M := (⟨"OfDifferentMindsModel", "fits", "()I"⟩, prog_13_method_100_code, 4, (some .int), 0, 1, 11, jm_l298)
theorem jm_ok298 : jx_okM 298 jm_i298 := ⟨by decide +kernel, rfl, by decide +kernel, ⟨by decide +kernel, by decide +kernel⟩, by decide +kernel, jx_mem (i := 1837) (by decide +kernel) rfl, jx_mem (i := 116) (by decide +kernel) rfl, fun _ => ⟨jx_mem (i := 1835) (by decide +kernel) rfl, jx_mem (i := 1836) (by decide +kernel) rfl, by decide⟩, fun h => absurd h (by decide), fun h => absurd h (by decide), by decide, by decide, by decide, by decide +kernel, by decide +kernel⟩
-- OfDifferentMindsModel.views()I
def jm_b299_157 : List jx_E := (157, 0, (1, 0, 0, 0), 0, []) :: (158, 69, (0, 0, 0, 0), 0, []) :: []
def jm_b299_151 : List jx_E := (151, 13, (2, 0, 0, 0), 1, []) :: (154, 54, (24, 0, 0, 0), 0, []) :: []
def jm_b299_148 : List jx_E := (148, 13, (1, 0, 0, 0), 1, []) :: jm_b299_151
def jm_b299_136 : List jx_E := (136, 0, (1, 0, 0, 0), 0, []) :: (137, 9, (0, 0, 0, 0), 15, []) :: (139, 64, (148, 0, 0, 0), 0, []) :: (142, 2, (0, 0, 0, 0), 0, []) :: (143, 1, (4, 0, 0, 0), 0, []) :: (145, 49, (205, 2, 11, 291), 0, []) :: jm_b299_148
def jm_b299_128 : List jx_E := (128, 1, (4, 0, 0, 0), 0, []) :: (130, 56, (136, 0, 0, 0), 0, []) :: (133, 54, (151, 0, 0, 0), 0, []) :: []
def jm_b299_122 : List jx_E := (122, 13, (5, 0, 0, 0), 1, []) :: (125, 54, (47, 0, 0, 0), 0, []) :: []
def jm_b299_116 : List jx_E := (116, 13, (6, 0, 0, 0), 1, []) :: (119, 54, (61, 0, 0, 0), 0, []) :: []
def jm_b299_61 : List jx_E := (61, 1, (6, 0, 0, 0), 0, []) :: (63, 2, (0, 0, 0, 0), 0, []) :: (64, 33, (11, 2, 0, 13), 0, []) :: (67, 0, (3, 0, 0, 0), 0, []) :: (68, 38, (0, 0, 0, 0), 0, []) :: (69, 64, (122, 0, 0, 0), 0, []) :: (72, 1, (5, 0, 0, 0), 0, []) :: (74, 1, (6, 0, 0, 0), 0, []) :: (76, 61, (116, 0, 0, 0), 0, []) :: (79, 2, (0, 0, 0, 0), 0, []) :: (80, 33, (11, 3, 0, 16), 0, []) :: (83, 8, (0, 0, 0, 0), 3, []) :: (84, 0, (3, 0, 0, 0), 0, []) :: (85, 16, (0, 0, 0, 0), 0, []) :: (86, 2, (0, 0, 0, 0), 0, []) :: (87, 1, (5, 0, 0, 0), 0, []) :: (89, 1, (6, 0, 0, 0), 0, []) :: (91, 0, (3, 0, 0, 0), 0, []) :: (92, 0, (2, 0, 0, 0), 0, []) :: (93, 9, (0, 0, 0, 0), 9, []) :: (95, 9, (0, 0, 0, 0), 9, []) :: (97, 49, (231, 7, 11, 224), 0, []) :: (100, 14, (0, 0, 0, 0), 0, []) :: (101, 38, (0, 0, 0, 0), 0, []) :: (102, 2, (0, 0, 0, 0), 0, []) :: (103, 33, (11, 42, 0, 77), 0, []) :: (106, 0, (2, 0, 0, 0), 0, []) :: (107, 8, (0, 0, 0, 0), 1, []) :: (108, 14, (0, 0, 0, 0), 0, []) :: (109, 38, (0, 0, 0, 0), 0, []) :: (110, 62, (116, 0, 0, 0), 0, []) :: (113, 13, (4, 0, 0, 0), 1, []) :: jm_b299_116
def jm_b299_47 : List jx_E := (47, 1, (5, 0, 0, 0), 0, []) :: (49, 2, (0, 0, 0, 0), 0, []) :: (50, 33, (11, 2, 0, 13), 0, []) :: (53, 0, (3, 0, 0, 0), 0, []) :: (54, 38, (0, 0, 0, 0), 0, []) :: (55, 64, (128, 0, 0, 0), 0, []) :: (58, 8, (0, 0, 0, 0), 0, []) :: (59, 5, (6, 0, 0, 0), 0, []) :: jm_b299_61
def jm_b299_24 : List jx_E := (24, 0, (2, 0, 0, 0), 0, []) :: (25, 8, (0, 0, 0, 0), 1, []) :: (26, 14, (0, 0, 0, 0), 0, []) :: (27, 2, (0, 0, 0, 0), 0, []) :: (28, 32, (11, 43, 0, 174), 0, []) :: (31, 64, (157, 0, 0, 0), 0, []) :: (34, 2, (0, 0, 0, 0), 0, []) :: (35, 33, (11, 42, 0, 77), 0, []) :: (38, 0, (2, 0, 0, 0), 0, []) :: (39, 38, (0, 0, 0, 0), 0, []) :: (40, 4, (3, 0, 0, 0), 0, []) :: (41, 8, (0, 0, 0, 0), 0, []) :: (42, 5, (4, 0, 0, 0), 0, []) :: (44, 8, (0, 0, 0, 0), 0, []) :: (45, 5, (5, 0, 0, 0), 0, []) :: jm_b299_47
def jm_b299_15 : List jx_E := (15, 8, (0, 0, 0, 0), 0, []) :: (16, 4, (1, 0, 0, 0), 0, []) :: (17, 2, (0, 0, 0, 0), 0, []) :: (18, 8, (0, 0, 0, 0), 0, []) :: (19, 34, (11, 11, 0, 106), 0, []) :: (22, 8, (0, 0, 0, 0), 0, []) :: (23, 4, (2, 0, 0, 0), 0, []) :: jm_b299_24
def jm_b299_0 : List jx_E := (0, 2, (0, 0, 0, 0), 0, []) :: (1, 8, (0, 0, 0, 0), 0, []) :: (2, 34, (11, 12, 0, 102), 0, []) :: (5, 2, (0, 0, 0, 0), 0, []) :: (6, 32, (11, 43, 0, 174), 0, []) :: (9, 56, (15, 0, 0, 0), 0, []) :: (12, 9, (0, 0, 0, 0), (-2), []) :: (14, 69, (0, 0, 0, 0), 0, []) :: []
def jm_l299 : jx_B := [(0, jm_b299_0), (15, jm_b299_15), (24, jm_b299_24), (47, jm_b299_47), (61, jm_b299_61), (116, jm_b299_116), (122, jm_b299_122), (128, jm_b299_128), (136, jm_b299_136), (148, jm_b299_148), (151, jm_b299_151), (157, jm_b299_157)]
def jm_i299 : jx_M := (⟨"OfDifferentMindsModel", "views", "()I"⟩, prog_13_method_101_code, 7, (some .int), 0, 1, 11, jm_l299)
theorem jm_ok299 : jx_okM 299 jm_i299 := ⟨by decide +kernel, rfl, by decide +kernel, ⟨by decide +kernel, by decide +kernel⟩, by decide +kernel, jx_mem (i := 1845) (by decide +kernel) rfl, jx_mem (i := 116) (by decide +kernel) rfl, fun _ => ⟨jx_mem (i := 1843) (by decide +kernel) rfl, jx_mem (i := 1844) (by decide +kernel) rfl, by decide⟩, fun h => absurd h (by decide), fun h => absurd h (by decide), by decide, by decide, by decide, by decide +kernel, by decide +kernel⟩
-- OfDifferentMindsModel.areLike(II)Z
def jm_b300_59 : List jx_E := (59, 8, (0, 0, 0, 0), 1, []) :: (60, 70, (0, 0, 0, 0), 0, []) :: []
def jm_b300_53 : List jx_E := (53, 13, (3, 0, 0, 0), 1, []) :: (56, 54, (2, 0, 0, 0), 0, []) :: []
def jm_b300_2 : List jx_E := (2, 0, (3, 0, 0, 0), 0, []) :: (3, 2, (0, 0, 0, 0), 0, []) :: (4, 32, (11, 1, 0, 109), 0, []) :: (7, 64, (59, 0, 0, 0), 0, []) :: (10, 2, (0, 0, 0, 0), 0, []) :: (11, 33, (11, 7, 0, 22), 0, []) :: (14, 9, (0, 0, 0, 0), 10, []) :: (16, 2, (0, 0, 0, 0), 0, []) :: (17, 33, (11, 0, 0, 9), 0, []) :: (20, 9, (0, 0, 0, 0), 22, []) :: (22, 0, (1, 0, 0, 0), 0, []) :: (23, 14, (0, 0, 0, 0), 0, []) :: (24, 38, (0, 0, 0, 0), 0, []) :: (25, 16, (0, 0, 0, 0), 0, []) :: (26, 0, (3, 0, 0, 0), 0, []) :: (27, 14, (0, 0, 0, 0), 0, []) :: (28, 38, (0, 0, 0, 0), 0, []) :: (29, 2, (0, 0, 0, 0), 0, []) :: (30, 33, (11, 7, 0, 22), 0, []) :: (33, 9, (0, 0, 0, 0), 10, []) :: (35, 2, (0, 0, 0, 0), 0, []) :: (36, 33, (11, 0, 0, 9), 0, []) :: (39, 9, (0, 0, 0, 0), 22, []) :: (41, 0, (2, 0, 0, 0), 0, []) :: (42, 14, (0, 0, 0, 0), 0, []) :: (43, 38, (0, 0, 0, 0), 0, []) :: (44, 16, (0, 0, 0, 0), 0, []) :: (45, 0, (3, 0, 0, 0), 0, []) :: (46, 14, (0, 0, 0, 0), 0, []) :: (47, 38, (0, 0, 0, 0), 0, []) :: (48, 61, (53, 0, 0, 0), 0, []) :: (51, 8, (0, 0, 0, 0), 0, []) :: (52, 70, (0, 0, 0, 0), 0, []) :: []
def jm_b300_0 : List jx_E := (0, 8, (0, 0, 0, 0), 0, []) :: (1, 4, (3, 0, 0, 0), 0, []) :: jm_b300_2
def jm_l300 : jx_B := [(0, jm_b300_0), (2, jm_b300_2), (53, jm_b300_53), (59, jm_b300_59)]
def jm_i300 : jx_M := (⟨"OfDifferentMindsModel", "areLike", "(II)Z"⟩, prog_13_method_102_code, 4, (some .boolean), 0, 3, 11, jm_l300)
theorem jm_ok300 : jx_okM 300 jm_i300 := ⟨by decide +kernel, rfl, by decide +kernel, ⟨by decide +kernel, by decide +kernel⟩, by decide +kernel, jx_mem (i := 1853) (by decide +kernel) rfl, jx_mem (i := 116) (by decide +kernel) rfl, fun _ => ⟨jx_mem (i := 1852) (by decide +kernel) rfl, jx_mem (i := 103) (by decide +kernel) rfl, by decide⟩, fun h => absurd h (by decide), fun h => absurd h (by decide), by decide, by decide, by decide, by decide +kernel, by decide +kernel⟩
-- OfDifferentMindsModel.editions(I)I
def jm_b301_125 : List jx_E := (125, 0, (2, 0, 0, 0), 0, []) :: (126, 69, (0, 0, 0, 0), 0, []) :: []
def jm_b301_119 : List jx_E := (119, 13, (3, 0, 0, 0), 1, []) :: (122, 54, (24, 0, 0, 0), 0, []) :: []
def jm_b301_109 : List jx_E := (109, 2, (0, 0, 0, 0), 0, []) :: (110, 2, (0, 0, 0, 0), 0, []) :: (111, 33, (11, 44, 0, 80), 0, []) :: (114, 0, (3, 0, 0, 0), 0, []) :: (115, 38, (0, 0, 0, 0), 0, []) :: (116, 49, (205, 2, 11, 291), 0, []) :: jm_b301_119
def jm_b301_99 : List jx_E := (99, 41, (0, 0, 0, 0), 0, []) :: (100, 1, (4, 0, 0, 0), 0, []) :: (102, 0, (3, 0, 0, 0), 0, []) :: (103, 62, (109, 0, 0, 0), 0, []) :: (106, 13, (2, 0, 0, 0), 1, []) :: jm_b301_109
def jm_b301_98 : List jx_E := (98, 0, (2, 0, 0, 0), 0, []) :: jm_b301_99
def jm_b301_77 : List jx_E := (77, 2, (0, 0, 0, 0), 0, []) :: (78, 33, (11, 44, 0, 80), 0, []) :: (81, 0, (3, 0, 0, 0), 0, []) :: (82, 1, (4, 0, 0, 0), 0, []) :: (84, 0, (3, 0, 0, 0), 0, []) :: (85, 64, (98, 0, 0, 0), 0, []) :: (88, 2, (0, 0, 0, 0), 0, []) :: (89, 33, (11, 44, 0, 80), 0, []) :: (92, 1, (4, 0, 0, 0), 0, []) :: (94, 38, (0, 0, 0, 0), 0, []) :: (95, 54, (99, 0, 0, 0), 0, []) :: []
def jm_b301_71 : List jx_E := (71, 13, (4, 0, 0, 0), 1, []) :: (74, 54, (46, 0, 0, 0), 0, []) :: []
def jm_b301_46 : List jx_E := (46, 1, (4, 0, 0, 0), 0, []) :: (48, 0, (3, 0, 0, 0), 0, []) :: (49, 64, (77, 0, 0, 0), 0, []) :: (52, 0, (1, 0, 0, 0), 0, []) :: (53, 1, (4, 0, 0, 0), 0, []) :: (55, 50, (203, 2, 0, 309), 0, []) :: (58, 55, (71, 0, 0, 0), 0, []) :: (61, 2, (0, 0, 0, 0), 0, []) :: (62, 1, (4, 0, 0, 0), 0, []) :: (64, 0, (3, 0, 0, 0), 0, []) :: (65, 49, (300, 3, 11, 395), 0, []) :: (68, 56, (77, 0, 0, 0), 0, []) :: jm_b301_71
def jm_b301_43 : List jx_E := (43, 8, (0, 0, 0, 0), 0, []) :: (44, 5, (4, 0, 0, 0), 0, []) :: jm_b301_46
def jm_b301_24 : List jx_E := (24, 0, (3, 0, 0, 0), 0, []) :: (25, 2, (0, 0, 0, 0), 0, []) :: (26, 32, (11, 5, 0, 116), 0, []) :: (29, 64, (125, 0, 0, 0), 0, []) :: (32, 0, (1, 0, 0, 0), 0, []) :: (33, 0, (3, 0, 0, 0), 0, []) :: (34, 50, (203, 2, 0, 309), 0, []) :: (37, 56, (43, 0, 0, 0), 0, []) :: (40, 54, (119, 0, 0, 0), 0, []) :: []
def jm_b301_15 : List jx_E := (15, 8, (0, 0, 0, 0), 0, []) :: (16, 4, (2, 0, 0, 0), 0, []) :: (17, 2, (0, 0, 0, 0), 0, []) :: (18, 8, (0, 0, 0, 0), 0, []) :: (19, 34, (11, 11, 0, 106), 0, []) :: (22, 8, (0, 0, 0, 0), 0, []) :: (23, 4, (3, 0, 0, 0), 0, []) :: jm_b301_24
def jm_b301_0 : List jx_E := (0, 2, (0, 0, 0, 0), 0, []) :: (1, 8, (0, 0, 0, 0), 0, []) :: (2, 34, (11, 12, 0, 102), 0, []) :: (5, 2, (0, 0, 0, 0), 0, []) :: (6, 0, (1, 0, 0, 0), 0, []) :: (7, 49, (287, 2, 11, 378), 0, []) :: (10, 56, (15, 0, 0, 0), 0, []) :: (13, 8, (0, 0, 0, 0), (-1), []) :: (14, 69, (0, 0, 0, 0), 0, []) :: []
def jm_l301 : jx_B := [(0, jm_b301_0), (15, jm_b301_15), (24, jm_b301_24), (43, jm_b301_43), (46, jm_b301_46), (71, jm_b301_71), (77, jm_b301_77), (98, jm_b301_98), (99, jm_b301_99), (109, jm_b301_109), (119, jm_b301_119), (125, jm_b301_125)]
def jm_i301 : jx_M := (⟨"OfDifferentMindsModel", "editions", "(I)I"⟩, prog_13_method_103_code, 5, (some .int), 0, 2, 11, jm_l301)
theorem jm_ok301 : jx_okM 301 jm_i301 := ⟨by decide +kernel, rfl, by decide +kernel, ⟨by decide +kernel, by decide +kernel⟩, by decide +kernel, jx_mem (i := 1849) (by decide +kernel) rfl, jx_mem (i := 116) (by decide +kernel) rfl, fun _ => ⟨jx_mem (i := 1847) (by decide +kernel) rfl, jx_mem (i := 1848) (by decide +kernel) rfl, by decide⟩, fun h => absurd h (by decide), fun h => absurd h (by decide), by decide, by decide, by decide, by decide +kernel, by decide +kernel⟩
-- OfDifferentMindsModel.kinds(II)I
def jm_b302_176 : List jx_E := (176, 49, (205, 2, 11, 291), 0, []) :: (179, 2, (0, 0, 0, 0), 0, []) :: (180, 2, (0, 0, 0, 0), 0, []) :: (181, 33, (11, 45, 0, 83), 0, []) :: (184, 1, (4, 0, 0, 0), 0, []) :: (186, 38, (0, 0, 0, 0), 0, []) :: (187, 49, (205, 2, 11, 291), 0, []) :: (190, 0, (3, 0, 0, 0), 0, []) :: (191, 69, (0, 0, 0, 0), 0, []) :: []
def jm_b302_174 : List jx_E := (174, 1, (4, 0, 0, 0), 0, []) :: jm_b302_176
def jm_b302_154 : List jx_E := (154, 2, (0, 0, 0, 0), 0, []) :: (155, 8, (0, 0, 0, 0), 0, []) :: (156, 34, (11, 11, 0, 106), 0, []) :: (159, 2, (0, 0, 0, 0), 0, []) :: (160, 2, (0, 0, 0, 0), 0, []) :: (161, 33, (11, 45, 0, 83), 0, []) :: (164, 1, (4, 0, 0, 0), 0, []) :: (166, 38, (0, 0, 0, 0), 0, []) :: (167, 56, (174, 0, 0, 0), 0, []) :: (170, 8, (0, 0, 0, 0), (-1), []) :: (171, 54, (176, 0, 0, 0), 0, []) :: []
def jm_b302_148 : List jx_E := (148, 13, (5, 0, 0, 0), 1, []) :: (151, 54, (103, 0, 0, 0), 0, []) :: []
def jm_b302_125 : List jx_E := (125, 14, (0, 0, 0, 0), 0, []) :: (126, 4, (3, 0, 0, 0), 0, []) :: (127, 2, (0, 0, 0, 0), 0, []) :: (128, 33, (11, 45, 0, 83), 0, []) :: (131, 1, (5, 0, 0, 0), 0, []) :: (133, 38, (0, 0, 0, 0), 0, []) :: (134, 2, (0, 0, 0, 0), 0, []) :: (135, 33, (11, 45, 0, 83), 0, []) :: (138, 1, (4, 0, 0, 0), 0, []) :: (140, 38, (0, 0, 0, 0), 0, []) :: (141, 66, (148, 0, 0, 0), 0, []) :: (144, 1, (5, 0, 0, 0), 0, []) :: (146, 5, (4, 0, 0, 0), 0, []) :: jm_b302_148
def jm_b302_124 : List jx_E := (124, 8, (0, 0, 0, 0), 0, []) :: jm_b302_125
def jm_b302_103 : List jx_E := (103, 1, (5, 0, 0, 0), 0, []) :: (105, 8, (0, 0, 0, 0), 3, []) :: (106, 64, (154, 0, 0, 0), 0, []) :: (109, 0, (3, 0, 0, 0), 0, []) :: (110, 2, (0, 0, 0, 0), 0, []) :: (111, 33, (11, 45, 0, 83), 0, []) :: (114, 1, (5, 0, 0, 0), 0, []) :: (116, 38, (0, 0, 0, 0), 0, []) :: (117, 60, (124, 0, 0, 0), 0, []) :: (120, 8, (0, 0, 0, 0), 1, []) :: (121, 54, (125, 0, 0, 0), 0, []) :: []
def jm_b302_95 : List jx_E := (95, 8, (0, 0, 0, 0), 0, []) :: (96, 4, (3, 0, 0, 0), 0, []) :: (97, 8, (0, 0, 0, 0), 0, []) :: (98, 5, (4, 0, 0, 0), 0, []) :: (100, 8, (0, 0, 0, 0), 0, []) :: (101, 5, (5, 0, 0, 0), 0, []) :: jm_b302_103
def jm_b302_89 : List jx_E := (89, 13, (3, 0, 0, 0), 1, []) :: (92, 54, (45, 0, 0, 0), 0, []) :: []
def jm_b302_45 : List jx_E := (45, 0, (3, 0, 0, 0), 0, []) :: (46, 2, (0, 0, 0, 0), 0, []) :: (47, 32, (11, 5, 0, 116), 0, []) :: (50, 64, (95, 0, 0, 0), 0, []) :: (53, 2, (0, 0, 0, 0), 0, []) :: (54, 33, (11, 2, 0, 13), 0, []) :: (57, 0, (2, 0, 0, 0), 0, []) :: (58, 38, (0, 0, 0, 0), 0, []) :: (59, 60, (95, 0, 0, 0), 0, []) :: (62, 0, (1, 0, 0, 0), 0, []) :: (63, 0, (3, 0, 0, 0), 0, []) :: (64, 50, (203, 2, 0, 309), 0, []) :: (67, 55, (89, 0, 0, 0), 0, []) :: (70, 2, (0, 0, 0, 0), 0, []) :: (71, 33, (11, 45, 0, 83), 0, []) :: (74, 2, (0, 0, 0, 0), 0, []) :: (75, 2, (0, 0, 0, 0), 0, []) :: (76, 33, (11, 0, 0, 9), 0, []) :: (79, 0, (3, 0, 0, 0), 0, []) :: (80, 0, (2, 0, 0, 0), 0, []) :: (81, 49, (232, 4, 11, 216), 0, []) :: (84, 29, (0, 0, 0, 0), 0, []) :: (85, 38, (0, 0, 0, 0), 0, []) :: (86, 8, (0, 0, 0, 0), 1, []) :: (87, 14, (0, 0, 0, 0), 0, []) :: (88, 41, (0, 0, 0, 0), 0, []) :: jm_b302_89
def jm_b302_43 : List jx_E := (43, 8, (0, 0, 0, 0), 0, []) :: (44, 4, (3, 0, 0, 0), 0, []) :: jm_b302_45
def jm_b302_25 : List jx_E := (25, 0, (3, 0, 0, 0), 0, []) :: (26, 8, (0, 0, 0, 0), 3, []) :: (27, 64, (43, 0, 0, 0), 0, []) :: (30, 2, (0, 0, 0, 0), 0, []) :: (31, 33, (11, 45, 0, 83), 0, []) :: (34, 0, (3, 0, 0, 0), 0, []) :: (35, 8, (0, 0, 0, 0), 0, []) :: (36, 41, (0, 0, 0, 0), 0, []) :: (37, 13, (3, 0, 0, 0), 1, []) :: (40, 54, (25, 0, 0, 0), 0, []) :: []
def jm_b302_23 : List jx_E := (23, 8, (0, 0, 0, 0), 0, []) :: (24, 4, (3, 0, 0, 0), 0, []) :: jm_b302_25
def jm_b302_21 : List jx_E := (21, 8, (0, 0, 0, 0), (-1), []) :: (22, 69, (0, 0, 0, 0), 0, []) :: []
def jm_b302_0 : List jx_E := (0, 2, (0, 0, 0, 0), 0, []) :: (1, 8, (0, 0, 0, 0), 0, []) :: (2, 34, (11, 12, 0, 102), 0, []) :: (5, 2, (0, 0, 0, 0), 0, []) :: (6, 0, (1, 0, 0, 0), 0, []) :: (7, 49, (287, 2, 11, 378), 0, []) :: (10, 55, (21, 0, 0, 0), 0, []) :: (13, 2, (0, 0, 0, 0), 0, []) :: (14, 0, (2, 0, 0, 0), 0, []) :: (15, 49, (206, 2, 11, 244), 0, []) :: (18, 56, (23, 0, 0, 0), 0, []) :: jm_b302_21
def jm_l302 : jx_B := [(0, jm_b302_0), (21, jm_b302_21), (23, jm_b302_23), (25, jm_b302_25), (43, jm_b302_43), (45, jm_b302_45), (89, jm_b302_89), (95, jm_b302_95), (103, jm_b302_103), (124, jm_b302_124), (125, jm_b302_125), (148, jm_b302_148), (154, jm_b302_154), (174, jm_b302_174), (176, jm_b302_176)]
def jm_i302 : jx_M := (⟨"OfDifferentMindsModel", "kinds", "(II)I"⟩, prog_13_method_104_code, 6, (some .int), 0, 3, 11, jm_l302)
theorem jm_ok302 : jx_okM 302 jm_i302 := ⟨by decide +kernel, rfl, by decide +kernel, ⟨by decide +kernel, by decide +kernel⟩, by decide +kernel, jx_mem (i := 1857) (by decide +kernel) rfl, jx_mem (i := 116) (by decide +kernel) rfl, fun _ => ⟨jx_mem (i := 1855) (by decide +kernel) rfl, jx_mem (i := 1856) (by decide +kernel) rfl, by decide⟩, fun h => absurd h (by decide), fun h => absurd h (by decide), by decide, by decide, by decide, by decide +kernel, by decide +kernel⟩
-- OfDifferentMindsModel.draw(I)I
def jm_b303_0 : List jx_E := (0, 2, (0, 0, 0, 0), 0, []) :: (1, 2, (0, 0, 0, 0), 0, []) :: (2, 32, (11, 46, 0, 398), 0, []) :: (5, 12, (0, 0, 0, 401), 1103515245, []) :: (8, 16, (0, 0, 0, 0), 0, []) :: (9, 10, (0, 0, 0, 0), 12345, []) :: (12, 14, (0, 0, 0, 0), 0, []) :: (13, 34, (11, 46, 0, 398), 0, []) :: (16, 2, (0, 0, 0, 0), 0, []) :: (17, 32, (11, 46, 0, 398), 0, []) :: (20, 9, (0, 0, 0, 0), 16, []) :: (22, 25, (0, 0, 0, 0), 0, []) :: (23, 0, (1, 0, 0, 0), 0, []) :: (24, 18, (0, 0, 0, 0), 0, []) :: (25, 69, (0, 0, 0, 0), 0, []) :: []
def jm_l303 : jx_B := [(0, jm_b303_0)]
def jm_i303 : jx_M := (⟨"OfDifferentMindsModel", "draw", "(I)I"⟩, prog_13_method_105_code, 2, (some .int), 0, 2, 11, jm_l303)
theorem jm_ok303 : jx_okM 303 jm_i303 := ⟨by decide +kernel, rfl, by decide +kernel, ⟨by decide +kernel, by decide +kernel⟩, by decide +kernel, jx_mem (i := 1865) (by decide +kernel) rfl, jx_mem (i := 116) (by decide +kernel) rfl, fun _ => ⟨jx_mem (i := 1864) (by decide +kernel) rfl, jx_mem (i := 104) (by decide +kernel) rfl, by decide⟩, fun h => absurd h (by decide), fun h => absurd h (by decide), by decide, by decide, by decide, by decide +kernel, by decide +kernel⟩
-- OfDifferentMindsModel.county(II)I
def jm_b304_264 : List jx_E := (264, 49, (205, 2, 11, 291), 0, []) :: (267, 2, (0, 0, 0, 0), 0, []) :: (268, 1, (5, 0, 0, 0), 0, []) :: (270, 49, (205, 2, 11, 291), 0, []) :: (273, 1, (4, 0, 0, 0), 0, []) :: (275, 69, (0, 0, 0, 0), 0, []) :: []
def jm_b304_262 : List jx_E := (262, 1, (6, 0, 0, 0), 0, []) :: jm_b304_264
def jm_b304_237 : List jx_E := (237, 2, (0, 0, 0, 0), 0, []) :: (238, 8, (0, 0, 0, 0), 0, []) :: (239, 34, (11, 11, 0, 106), 0, []) :: (242, 2, (0, 0, 0, 0), 0, []) :: (243, 0, (3, 0, 0, 0), 0, []) :: (244, 49, (205, 2, 11, 291), 0, []) :: (247, 2, (0, 0, 0, 0), 0, []) :: (248, 2, (0, 0, 0, 0), 0, []) :: (249, 33, (11, 47, 0, 86), 0, []) :: (252, 1, (6, 0, 0, 0), 0, []) :: (254, 38, (0, 0, 0, 0), 0, []) :: (255, 56, (262, 0, 0, 0), 0, []) :: (258, 8, (0, 0, 0, 0), (-1), []) :: (259, 54, (264, 0, 0, 0), 0, []) :: []
def jm_b304_231 : List jx_E := (231, 13, (7, 0, 0, 0), 1, []) :: (234, 54, (201, 0, 0, 0), 0, []) :: []
def jm_b304_201 : List jx_E := (201, 1, (7, 0, 0, 0), 0, []) :: (203, 2, (0, 0, 0, 0), 0, []) :: (204, 32, (11, 5, 0, 116), 0, []) :: (207, 64, (237, 0, 0, 0), 0, []) :: (210, 2, (0, 0, 0, 0), 0, []) :: (211, 33, (11, 47, 0, 86), 0, []) :: (214, 1, (7, 0, 0, 0), 0, []) :: (216, 38, (0, 0, 0, 0), 0, []) :: (217, 2, (0, 0, 0, 0), 0, []) :: (218, 33, (11, 47, 0, 86), 0, []) :: (221, 1, (6, 0, 0, 0), 0, []) :: (223, 38, (0, 0, 0, 0), 0, []) :: (224, 66, (231, 0, 0, 0), 0, []) :: (227, 1, (7, 0, 0, 0), 0, []) :: (229, 5, (6, 0, 0, 0), 0, []) :: jm_b304_231
def jm_b304_195 : List jx_E := (195, 8, (0, 0, 0, 0), 0, []) :: (196, 5, (6, 0, 0, 0), 0, []) :: (198, 8, (0, 0, 0, 0), 1, []) :: (199, 5, (7, 0, 0, 0), 0, []) :: jm_b304_201
def jm_b304_179 : List jx_E := (179, 14, (0, 0, 0, 0), 0, []) :: (180, 5, (5, 0, 0, 0), 0, []) :: (182, 2, (0, 0, 0, 0), 0, []) :: (183, 33, (11, 34, 0, 59), 0, []) :: (186, 8, (0, 0, 0, 0), 0, []) :: (187, 38, (0, 0, 0, 0), 0, []) :: (188, 4, (3, 0, 0, 0), 0, []) :: (189, 13, (6, 0, 0, 0), 1, []) :: (192, 54, (70, 0, 0, 0), 0, []) :: []
def jm_b304_178 : List jx_E := (178, 8, (0, 0, 0, 0), 0, []) :: jm_b304_179
def jm_b304_114 : List jx_E := (114, 2, (0, 0, 0, 0), 0, []) :: (115, 1, (7, 0, 0, 0), 0, []) :: (117, 1, (8, 0, 0, 0), 0, []) :: (119, 0, (3, 0, 0, 0), 0, []) :: (120, 8, (0, 0, 0, 0), 1, []) :: (121, 49, (270, 5, 11, 345), 0, []) :: (124, 2, (0, 0, 0, 0), 0, []) :: (125, 2, (0, 0, 0, 0), 0, []) :: (126, 33, (11, 34, 0, 59), 0, []) :: (129, 9, (0, 0, 0, 0), 20, []) :: (131, 49, (248, 3, 11, 288), 0, []) :: (134, 5, (9, 0, 0, 0), 0, []) :: (136, 2, (0, 0, 0, 0), 0, []) :: (137, 33, (11, 47, 0, 86), 0, []) :: (140, 1, (7, 0, 0, 0), 0, []) :: (142, 29, (0, 0, 0, 0), 0, []) :: (143, 38, (0, 0, 0, 0), 0, []) :: (144, 1, (9, 0, 0, 0), 0, []) :: (146, 14, (0, 0, 0, 0), 0, []) :: (147, 41, (0, 0, 0, 0), 0, []) :: (148, 2, (0, 0, 0, 0), 0, []) :: (149, 33, (11, 47, 0, 86), 0, []) :: (152, 1, (8, 0, 0, 0), 0, []) :: (154, 29, (0, 0, 0, 0), 0, []) :: (155, 38, (0, 0, 0, 0), 0, []) :: (156, 1, (9, 0, 0, 0), 0, []) :: (158, 14, (0, 0, 0, 0), 0, []) :: (159, 41, (0, 0, 0, 0), 0, []) :: (160, 1, (4, 0, 0, 0), 0, []) :: (162, 1, (9, 0, 0, 0), 0, []) :: (164, 14, (0, 0, 0, 0), 0, []) :: (165, 5, (4, 0, 0, 0), 0, []) :: (167, 1, (5, 0, 0, 0), 0, []) :: (169, 1, (9, 0, 0, 0), 0, []) :: (171, 56, (178, 0, 0, 0), 0, []) :: (174, 8, (0, 0, 0, 0), 1, []) :: (175, 54, (179, 0, 0, 0), 0, []) :: []
def jm_b304_70 : List jx_E := (70, 1, (6, 0, 0, 0), 0, []) :: (72, 0, (2, 0, 0, 0), 0, []) :: (73, 64, (195, 0, 0, 0), 0, []) :: (76, 2, (0, 0, 0, 0), 0, []) :: (77, 2, (0, 0, 0, 0), 0, []) :: (78, 32, (11, 5, 0, 116), 0, []) :: (81, 49, (303, 2, 11, 402), 0, []) :: (84, 5, (7, 0, 0, 0), 0, []) :: (86, 2, (0, 0, 0, 0), 0, []) :: (87, 2, (0, 0, 0, 0), 0, []) :: (88, 32, (11, 5, 0, 116), 0, []) :: (91, 49, (303, 2, 11, 402), 0, []) :: (94, 5, (8, 0, 0, 0), 0, []) :: (96, 1, (7, 0, 0, 0), 0, []) :: (98, 1, (8, 0, 0, 0), 0, []) :: (100, 62, (114, 0, 0, 0), 0, []) :: (103, 1, (8, 0, 0, 0), 0, []) :: (105, 8, (0, 0, 0, 0), 1, []) :: (106, 14, (0, 0, 0, 0), 0, []) :: (107, 2, (0, 0, 0, 0), 0, []) :: (108, 32, (11, 5, 0, 116), 0, []) :: (111, 18, (0, 0, 0, 0), 0, []) :: (112, 5, (8, 0, 0, 0), 0, []) :: jm_b304_114
def jm_b304_54 : List jx_E := (54, 2, (0, 0, 0, 0), 0, []) :: (55, 33, (11, 0, 0, 9), 0, []) :: (58, 8, (0, 0, 0, 0), 0, []) :: (59, 38, (0, 0, 0, 0), 0, []) :: (60, 4, (3, 0, 0, 0), 0, []) :: (61, 8, (0, 0, 0, 0), 0, []) :: (62, 5, (4, 0, 0, 0), 0, []) :: (64, 8, (0, 0, 0, 0), 0, []) :: (65, 5, (5, 0, 0, 0), 0, []) :: (67, 8, (0, 0, 0, 0), 0, []) :: (68, 5, (6, 0, 0, 0), 0, []) :: jm_b304_70
def jm_b304_35 : List jx_E := (35, 0, (3, 0, 0, 0), 0, []) :: (36, 9, (0, 0, 0, 0), 6, []) :: (38, 64, (54, 0, 0, 0), 0, []) :: (41, 2, (0, 0, 0, 0), 0, []) :: (42, 33, (11, 47, 0, 86), 0, []) :: (45, 0, (3, 0, 0, 0), 0, []) :: (46, 8, (0, 0, 0, 0), 0, []) :: (47, 41, (0, 0, 0, 0), 0, []) :: (48, 13, (3, 0, 0, 0), 1, []) :: (51, 54, (35, 0, 0, 0), 0, []) :: []
def jm_b304_28 : List jx_E := (28, 2, (0, 0, 0, 0), 0, []) :: (29, 0, (1, 0, 0, 0), 0, []) :: (30, 34, (11, 46, 0, 398), 0, []) :: (33, 8, (0, 0, 0, 0), 0, []) :: (34, 4, (3, 0, 0, 0), 0, []) :: jm_b304_35
def jm_b304_17 : List jx_E := (17, 2, (0, 0, 0, 0), 0, []) :: (18, 32, (11, 5, 0, 116), 0, []) :: (21, 8, (0, 0, 0, 0), 2, []) :: (22, 64, (28, 0, 0, 0), 0, []) :: (25, 9, (0, 0, 0, 0), (-2), []) :: (27, 69, (0, 0, 0, 0), 0, []) :: []
def jm_b304_0 : List jx_E := (0, 2, (0, 0, 0, 0), 0, []) :: (1, 8, (0, 0, 0, 0), 0, []) :: (2, 34, (11, 12, 0, 102), 0, []) :: (5, 0, (2, 0, 0, 0), 0, []) :: (6, 8, (0, 0, 0, 0), 1, []) :: (7, 9, (0, 0, 0, 0), 60, []) :: (9, 50, (202, 3, 0, 112), 0, []) :: (12, 56, (17, 0, 0, 0), 0, []) :: (15, 8, (0, 0, 0, 0), (-1), []) :: (16, 69, (0, 0, 0, 0), 0, []) :: []
def jm_l304 : jx_B := [(0, jm_b304_0), (17, jm_b304_17), (28, jm_b304_28), (35, jm_b304_35), (54, jm_b304_54), (70, jm_b304_70), (114, jm_b304_114), (178, jm_b304_178), (179, jm_b304_179), (195, jm_b304_195), (201, jm_b304_201), (231, jm_b304_231), (237, jm_b304_237), (262, jm_b304_262), (264, jm_b304_264)]
def jm_i304 : jx_M := (⟨"OfDifferentMindsModel", "county", "(II)I"⟩, prog_13_method_106_code, 10, (some .int), 0, 3, 11, jm_l304)
theorem jm_ok304 : jx_okM 304 jm_i304 := ⟨by decide +kernel, rfl, by decide +kernel, ⟨by decide +kernel, by decide +kernel⟩, by decide +kernel, jx_mem (i := 1861) (by decide +kernel) rfl, jx_mem (i := 116) (by decide +kernel) rfl, fun _ => ⟨jx_mem (i := 1859) (by decide +kernel) rfl, jx_mem (i := 1860) (by decide +kernel) rfl, by decide⟩, fun h => absurd h (by decide), fun h => absurd h (by decide), by decide, by decide, by decide, by decide +kernel, by decide +kernel⟩
-- OfDifferentMindsModel.keep(I)Z
def jm_b305_16 : List jx_E := (16, 2, (0, 0, 0, 0), 0, []) :: (17, 33, (11, 50, 0, 92), 0, []) :: (20, 0, (1, 0, 0, 0), 0, []) :: (21, 8, (0, 0, 0, 0), 1, []) :: (22, 42, (0, 0, 0, 0), 0, []) :: (23, 2, (0, 0, 0, 0), 0, []) :: (24, 33, (11, 51, 0, 96), 0, []) :: (27, 0, (1, 0, 0, 0), 0, []) :: (28, 2, (0, 0, 0, 0), 0, []) :: (29, 32, (11, 48, 0, 191), 0, []) :: (32, 41, (0, 0, 0, 0), 0, []) :: (33, 2, (0, 0, 0, 0), 0, []) :: (34, 33, (11, 0, 0, 9), 0, []) :: (37, 2, (0, 0, 0, 0), 0, []) :: (38, 33, (11, 49, 0, 89), 0, []) :: (41, 9, (0, 0, 0, 0), 28, []) :: (43, 0, (1, 0, 0, 0), 0, []) :: (44, 16, (0, 0, 0, 0), 0, []) :: (45, 50, (241, 3, 0, 257), 0, []) :: (48, 8, (0, 0, 0, 0), 1, []) :: (49, 70, (0, 0, 0, 0), 0, []) :: []
def jm_b305_0 : List jx_E := (0, 2, (0, 0, 0, 0), 0, []) :: (1, 8, (0, 0, 0, 0), 0, []) :: (2, 34, (11, 12, 0, 102), 0, []) :: (5, 0, (1, 0, 0, 0), 0, []) :: (6, 8, (0, 0, 0, 0), 0, []) :: (7, 8, (0, 0, 0, 0), 1, []) :: (8, 50, (202, 3, 0, 112), 0, []) :: (11, 56, (16, 0, 0, 0), 0, []) :: (14, 8, (0, 0, 0, 0), 0, []) :: (15, 70, (0, 0, 0, 0), 0, []) :: []
def jm_l305 : jx_B := [(0, jm_b305_0), (16, jm_b305_16)]
def jm_i305 : jx_M := (⟨"OfDifferentMindsModel", "keep", "(I)Z"⟩, prog_13_method_107_code, 2, (some .boolean), 0, 2, 11, jm_l305)
theorem jm_ok305 : jx_okM 305 jm_i305 := ⟨by decide +kernel, rfl, by decide +kernel, ⟨by decide +kernel, by decide +kernel⟩, by decide +kernel, jx_mem (i := 1870) (by decide +kernel) rfl, jx_mem (i := 116) (by decide +kernel) rfl, fun _ => ⟨jx_mem (i := 1868) (by decide +kernel) rfl, jx_mem (i := 1869) (by decide +kernel) rfl, by decide⟩, fun h => absurd h (by decide), fun h => absurd h (by decide), by decide, by decide, by decide, by decide +kernel, by decide +kernel⟩
-- OfDifferentMindsModel.again(I)Z
def jm_b306_69 : List jx_E := (69, 2, (0, 0, 0, 0), 0, []) :: (70, 49, (268, 1, 11, 336), 0, []) :: (73, 2, (0, 0, 0, 0), 0, []) :: (74, 8, (0, 0, 0, 0), 0, []) :: (75, 34, (11, 29, 0, 177), 0, []) :: (78, 8, (0, 0, 0, 0), 1, []) :: (79, 70, (0, 0, 0, 0), 0, []) :: []
def jm_b306_40 : List jx_E := (40, 0, (2, 0, 0, 0), 0, []) :: (41, 9, (0, 0, 0, 0), 28, []) :: (43, 64, (69, 0, 0, 0), 0, []) :: (46, 2, (0, 0, 0, 0), 0, []) :: (47, 33, (11, 0, 0, 9), 0, []) :: (50, 0, (2, 0, 0, 0), 0, []) :: (51, 2, (0, 0, 0, 0), 0, []) :: (52, 33, (11, 49, 0, 89), 0, []) :: (55, 9, (0, 0, 0, 0), 28, []) :: (57, 0, (1, 0, 0, 0), 0, []) :: (58, 16, (0, 0, 0, 0), 0, []) :: (59, 0, (2, 0, 0, 0), 0, []) :: (60, 14, (0, 0, 0, 0), 0, []) :: (61, 38, (0, 0, 0, 0), 0, []) :: (62, 41, (0, 0, 0, 0), 0, []) :: (63, 13, (2, 0, 0, 0), 1, []) :: (66, 54, (40, 0, 0, 0), 0, []) :: []
def jm_b306_38 : List jx_E := (38, 8, (0, 0, 0, 0), 0, []) :: (39, 4, (2, 0, 0, 0), 0, []) :: jm_b306_40
def jm_b306_36 : List jx_E := (36, 8, (0, 0, 0, 0), 0, []) :: (37, 70, (0, 0, 0, 0), 0, []) :: []
def jm_b306_0 : List jx_E := (0, 2, (0, 0, 0, 0), 0, []) :: (1, 8, (0, 0, 0, 0), 0, []) :: (2, 34, (11, 12, 0, 102), 0, []) :: (5, 0, (1, 0, 0, 0), 0, []) :: (6, 8, (0, 0, 0, 0), 0, []) :: (7, 8, (0, 0, 0, 0), 1, []) :: (8, 50, (202, 3, 0, 112), 0, []) :: (11, 55, (36, 0, 0, 0), 0, []) :: (14, 2, (0, 0, 0, 0), 0, []) :: (15, 33, (11, 50, 0, 92), 0, []) :: (18, 0, (1, 0, 0, 0), 0, []) :: (19, 39, (0, 0, 0, 0), 0, []) :: (20, 55, (36, 0, 0, 0), 0, []) :: (23, 2, (0, 0, 0, 0), 0, []) :: (24, 33, (11, 51, 0, 96), 0, []) :: (27, 0, (1, 0, 0, 0), 0, []) :: (28, 38, (0, 0, 0, 0), 0, []) :: (29, 2, (0, 0, 0, 0), 0, []) :: (30, 32, (11, 48, 0, 191), 0, []) :: (33, 61, (38, 0, 0, 0), 0, []) :: jm_b306_36
def jm_l306 : jx_B := [(0, jm_b306_0), (36, jm_b306_36), (38, jm_b306_38), (40, jm_b306_40), (69, jm_b306_69)]
def jm_i306 : jx_M := (⟨"OfDifferentMindsModel", "again", "(I)Z"⟩, prog_13_method_108_code, 3, (some .boolean), 0, 2, 11, jm_l306)
theorem jm_ok306 : jx_okM 306 jm_i306 := ⟨by decide +kernel, rfl, by decide +kernel, ⟨by decide +kernel, by decide +kernel⟩, by decide +kernel, jx_mem (i := 1874) (by decide +kernel) rfl, jx_mem (i := 116) (by decide +kernel) rfl, fun _ => ⟨jx_mem (i := 1872) (by decide +kernel) rfl, jx_mem (i := 1873) (by decide +kernel) rfl, by decide⟩, fun h => absurd h (by decide), fun h => absurd h (by decide), by decide, by decide, by decide, by decide +kernel, by decide +kernel⟩
-- OfDifferentMindsModel.count(I)I
def jm_b307_176 : List jx_E := (176, 9, (0, 0, 0, 0), (-100), []) :: (178, 69, (0, 0, 0, 0), 0, []) :: []
def jm_b307_171 : List jx_E := (171, 2, (0, 0, 0, 0), 0, []) :: (172, 32, (11, 9, 0, 123), 0, []) :: (175, 69, (0, 0, 0, 0), 0, []) :: []
def jm_b307_166 : List jx_E := (166, 2, (0, 0, 0, 0), 0, []) :: (167, 32, (11, 11, 0, 106), 0, []) :: (170, 69, (0, 0, 0, 0), 0, []) :: []
def jm_b307_161 : List jx_E := (161, 2, (0, 0, 0, 0), 0, []) :: (162, 32, (11, 29, 0, 177), 0, []) :: (165, 69, (0, 0, 0, 0), 0, []) :: []
def jm_b307_156 : List jx_E := (156, 2, (0, 0, 0, 0), 0, []) :: (157, 32, (11, 43, 0, 174), 0, []) :: (160, 69, (0, 0, 0, 0), 0, []) :: []
def jm_b307_151 : List jx_E := (151, 2, (0, 0, 0, 0), 0, []) :: (152, 32, (11, 4, 0, 171), 0, []) :: (155, 69, (0, 0, 0, 0), 0, []) :: []
def jm_b307_149 : List jx_E := (149, 0, (2, 0, 0, 0), 0, []) :: (150, 69, (0, 0, 0, 0), 0, []) :: []
def jm_b307_141 : List jx_E := (141, 21, (0, 0, 0, 0), 0, []) :: (142, 4, (2, 0, 0, 0), 0, []) :: (143, 13, (3, 0, 0, 0), 1, []) :: (146, 54, (112, 0, 0, 0), 0, []) :: []
def jm_b307_138 : List jx_E := (138, 8, (0, 0, 0, 0), 1, []) :: (139, 0, (3, 0, 0, 0), 0, []) :: (140, 23, (0, 0, 0, 0), 0, []) :: jm_b307_141
def jm_b307_112 : List jx_E := (112, 0, (3, 0, 0, 0), 0, []) :: (113, 2, (0, 0, 0, 0), 0, []) :: (114, 32, (11, 5, 0, 116), 0, []) :: (117, 64, (149, 0, 0, 0), 0, []) :: (120, 0, (2, 0, 0, 0), 0, []) :: (121, 2, (0, 0, 0, 0), 0, []) :: (122, 33, (11, 0, 0, 9), 0, []) :: (125, 9, (0, 0, 0, 0), 16, []) :: (127, 0, (3, 0, 0, 0), 0, []) :: (128, 14, (0, 0, 0, 0), 0, []) :: (129, 38, (0, 0, 0, 0), 0, []) :: (130, 8, (0, 0, 0, 0), (-1), []) :: (131, 62, (138, 0, 0, 0), 0, []) :: (134, 8, (0, 0, 0, 0), 0, []) :: (135, 54, (141, 0, 0, 0), 0, []) :: []
def jm_b307_110 : List jx_E := (110, 8, (0, 0, 0, 0), 0, []) :: (111, 4, (3, 0, 0, 0), 0, []) :: jm_b307_112
def jm_b307_103 : List jx_E := (103, 2, (0, 0, 0, 0), 0, []) :: (104, 33, (11, 0, 0, 9), 0, []) :: (107, 8, (0, 0, 0, 0), 3, []) :: (108, 38, (0, 0, 0, 0), 0, []) :: (109, 69, (0, 0, 0, 0), 0, []) :: []
def jm_b307_96 : List jx_E := (96, 2, (0, 0, 0, 0), 0, []) :: (97, 33, (11, 0, 0, 9), 0, []) :: (100, 8, (0, 0, 0, 0), 2, []) :: (101, 38, (0, 0, 0, 0), 0, []) :: (102, 69, (0, 0, 0, 0), 0, []) :: []
def jm_b307_89 : List jx_E := (89, 2, (0, 0, 0, 0), 0, []) :: (90, 33, (11, 0, 0, 9), 0, []) :: (93, 8, (0, 0, 0, 0), 1, []) :: (94, 38, (0, 0, 0, 0), 0, []) :: (95, 69, (0, 0, 0, 0), 0, []) :: []
def jm_b307_82 : List jx_E := (82, 2, (0, 0, 0, 0), 0, []) :: (83, 33, (11, 0, 0, 9), 0, []) :: (86, 8, (0, 0, 0, 0), 0, []) :: (87, 38, (0, 0, 0, 0), 0, []) :: (88, 69, (0, 0, 0, 0), 0, []) :: []
def jm_b307_77 : List jx_E := (77, 2, (0, 0, 0, 0), 0, []) :: (78, 32, (11, 5, 0, 116), 0, []) :: (81, 69, (0, 0, 0, 0), 0, []) :: []
def jm_b307_72 : List jx_E := (72, 2, (0, 0, 0, 0), 0, []) :: (73, 32, (11, 1, 0, 109), 0, []) :: (76, 69, (0, 0, 0, 0), 0, []) :: []
def jm_b307_0 : List jx_E := (0, 2, (0, 0, 0, 0), 0, []) :: (1, 8, (0, 0, 0, 0), 0, []) :: (2, 34, (11, 12, 0, 102), 0, []) :: (5, 8, (0, 0, 0, 0), 0, []) :: (6, 4, (2, 0, 0, 0), 0, []) :: (7, 0, (1, 0, 0, 0), 0, []) :: (8, 67, (176, 0, 0, 64), 0, [(0, 72), (1, 77), (2, 82), (3, 89), (4, 96), (5, 103), (6, 110), (7, 151), (8, 156), (9, 161), (10, 166), (11, 171)]) :: []
def jm_l307 : jx_B := [(0, jm_b307_0), (72, jm_b307_72), (77, jm_b307_77), (82, jm_b307_82), (89, jm_b307_89), (96, jm_b307_96), (103, jm_b307_103), (110, jm_b307_110), (112, jm_b307_112), (138, jm_b307_138), (141, jm_b307_141), (149, jm_b307_149), (151, jm_b307_151), (156, jm_b307_156), (161, jm_b307_161), (166, jm_b307_166), (171, jm_b307_171), (176, jm_b307_176)]
def jm_i307 : jx_M := (⟨"OfDifferentMindsModel", "count", "(I)I"⟩, prog_13_method_109_code, 4, (some .int), 0, 2, 11, jm_l307)
theorem jm_ok307 : jx_okM 307 jm_i307 := ⟨by decide +kernel, rfl, by decide +kernel, ⟨by decide +kernel, by decide +kernel⟩, by decide +kernel, jx_mem (i := 1878) (by decide +kernel) rfl, jx_mem (i := 116) (by decide +kernel) rfl, fun _ => ⟨jx_mem (i := 1876) (by decide +kernel) rfl, jx_mem (i := 1877) (by decide +kernel) rfl, by decide⟩, fun h => absurd h (by decide), fun h => absurd h (by decide), by decide, by decide, by decide, by decide +kernel, by decide +kernel⟩
-- OfDifferentMindsModel.row(I)I
def jm_b308_32 : List jx_E := (32, 69, (0, 0, 0, 0), 0, []) :: []
def jm_b308_28 : List jx_E := (28, 2, (0, 0, 0, 0), 0, []) :: (29, 49, (204, 1, 11, 247), 0, []) :: jm_b308_32
def jm_b308_0 : List jx_E := (0, 2, (0, 0, 0, 0), 0, []) :: (1, 8, (0, 0, 0, 0), 0, []) :: (2, 34, (11, 12, 0, 102), 0, []) :: (5, 0, (1, 0, 0, 0), 0, []) :: (6, 8, (0, 0, 0, 0), 0, []) :: (7, 2, (0, 0, 0, 0), 0, []) :: (8, 32, (11, 11, 0, 106), 0, []) :: (11, 8, (0, 0, 0, 0), 1, []) :: (12, 15, (0, 0, 0, 0), 0, []) :: (13, 50, (202, 3, 0, 112), 0, []) :: (16, 55, (28, 0, 0, 0), 0, []) :: (19, 2, (0, 0, 0, 0), 0, []) :: (20, 33, (11, 10, 0, 29), 0, []) :: (23, 0, (1, 0, 0, 0), 0, []) :: (24, 38, (0, 0, 0, 0), 0, []) :: (25, 54, (32, 0, 0, 0), 0, []) :: []
def jm_l308 : jx_B := [(0, jm_b308_0), (28, jm_b308_28), (32, jm_b308_32)]
def jm_i308 : jx_M := (⟨"OfDifferentMindsModel", "row", "(I)I"⟩, prog_13_method_110_code, 2, (some .int), 0, 2, 11, jm_l308)
theorem jm_ok308 : jx_okM 308 jm_i308 := ⟨by decide +kernel, rfl, by decide +kernel, ⟨by decide +kernel, by decide +kernel⟩, by decide +kernel, jx_mem (i := 1882) (by decide +kernel) rfl, jx_mem (i := 116) (by decide +kernel) rfl, fun _ => ⟨jx_mem (i := 1880) (by decide +kernel) rfl, jx_mem (i := 1881) (by decide +kernel) rfl, by decide⟩, fun h => absurd h (by decide), fun h => absurd h (by decide), by decide, by decide, by decide, by decide +kernel, by decide +kernel⟩
-- java/lang/Integer.bitCount(I)I
def jm_b309_0 : List jx_E := (0, 0, (0, 0, 0, 0), 0, []) :: (1, 0, (0, 0, 0, 0), 0, []) :: (2, 8, (0, 0, 0, 0), 1, []) :: (3, 25, (0, 0, 0, 0), 0, []) :: (4, 12, (0, 0, 0, 265), 1431655765, []) :: (7, 20, (0, 0, 0, 0), 0, []) :: (8, 15, (0, 0, 0, 0), 0, []) :: (9, 4, (0, 0, 0, 0), 0, []) :: (10, 0, (0, 0, 0, 0), 0, []) :: (11, 12, (0, 0, 0, 266), 858993459, []) :: (14, 20, (0, 0, 0, 0), 0, []) :: (15, 0, (0, 0, 0, 0), 0, []) :: (16, 8, (0, 0, 0, 0), 2, []) :: (17, 25, (0, 0, 0, 0), 0, []) :: (18, 12, (0, 0, 0, 266), 858993459, []) :: (21, 20, (0, 0, 0, 0), 0, []) :: (22, 14, (0, 0, 0, 0), 0, []) :: (23, 4, (0, 0, 0, 0), 0, []) :: (24, 0, (0, 0, 0, 0), 0, []) :: (25, 0, (0, 0, 0, 0), 0, []) :: (26, 8, (0, 0, 0, 0), 4, []) :: (27, 25, (0, 0, 0, 0), 0, []) :: (28, 14, (0, 0, 0, 0), 0, []) :: (29, 12, (0, 0, 0, 267), 252645135, []) :: (32, 20, (0, 0, 0, 0), 0, []) :: (33, 4, (0, 0, 0, 0), 0, []) :: (34, 0, (0, 0, 0, 0), 0, []) :: (35, 0, (0, 0, 0, 0), 0, []) :: (36, 9, (0, 0, 0, 0), 8, []) :: (38, 25, (0, 0, 0, 0), 0, []) :: (39, 14, (0, 0, 0, 0), 0, []) :: (40, 4, (0, 0, 0, 0), 0, []) :: (41, 0, (0, 0, 0, 0), 0, []) :: (42, 0, (0, 0, 0, 0), 0, []) :: (43, 9, (0, 0, 0, 0), 16, []) :: (45, 25, (0, 0, 0, 0), 0, []) :: (46, 14, (0, 0, 0, 0), 0, []) :: (47, 4, (0, 0, 0, 0), 0, []) :: (48, 0, (0, 0, 0, 0), 0, []) :: (49, 9, (0, 0, 0, 0), 63, []) :: (51, 20, (0, 0, 0, 0), 0, []) :: (52, 69, (0, 0, 0, 0), 0, []) :: []
def jm_l309 : jx_B := [(0, jm_b309_0)]
def jm_i309 : jx_M := (⟨"java/lang/Integer", "bitCount", "(I)I"⟩, prog_16_method_49_code, 1, (some .int), 2, 1, 12, jm_l309)
theorem jm_ok309 : jx_okM 309 jm_i309 := ⟨by decide +kernel, rfl, by decide +kernel, ⟨by decide +kernel, by decide +kernel⟩, by decide +kernel, jx_mem (i := 1042) (by decide +kernel) rfl, jx_mem (i := 124) (by decide +kernel) rfl, fun h => absurd h (by decide), fun h => absurd h (by decide), fun _ => jx_mem (i := 1041) (by decide +kernel) rfl, by decide, by decide, by decide, by decide +kernel, by decide +kernel⟩
end
section
def jm_MS : List jx_M := [jm_i0, jm_i1, jm_i2, jm_i3, jm_i4, jm_i5, jm_i6, jm_i7, jm_i8, jm_i9, jm_i10, jm_i11, jm_i12, jm_i13, jm_i14, jm_i15, jm_i16, jm_i17, jm_i18, jm_i19, jm_i20, jm_i21, jm_i22, jm_i23, jm_i24, jm_i25, jm_i26, jm_i27, jm_i28, jm_i29, jm_i30, jm_i31, jm_i32, jm_i33, jm_i34, jm_i35, jm_i36, jm_i37, jm_i38, jm_i39, jm_i40, jm_i41, jm_i42, jm_i43, jm_i44, jm_i45, jm_i46, jm_i47, jm_i48, jm_i49, jm_i50, jm_i51, jm_i52, jm_i53, jm_i54, jm_i55, jm_i56, jm_i57, jm_i58, jm_i59, jm_i60, jm_i61, jm_i62, jm_i63, jm_i64, jm_i65, jm_i66, jm_i67, jm_i68, jm_i69, jm_i70, jm_i71, jm_i72, jm_i73, jm_i74, jm_i75, jm_i76, jm_i77, jm_i78, jm_i79, jm_i80, jm_i81, jm_i82, jm_i83, jm_i84, jm_i85, jm_i86, jm_i87, jm_i88, jm_i89, jm_i90, jm_i91, jm_i92, jm_i93, jm_i94, jm_i95, jm_i96, jm_i97, jm_i98, jm_i99, jm_i100, jm_i101, jm_i102, jm_i103, jm_i104, jm_i105, jm_i106, jm_i107, jm_i108, jm_i109, jm_i110, jm_i111, jm_i112, jm_i113, jm_i114, jm_i115, jm_i116, jm_i117, jm_i118, jm_i119, jm_i120, jm_i121, jm_i122, jm_i123, jm_i124, jm_i125, jm_i126, jm_i127, jm_i128, jm_i129, jm_i130, jm_i131, jm_i132, jm_i133, jm_i134, jm_i135, jm_i136, jm_i137, jm_i138, jm_i139, jm_i140, jm_i141, jm_i142, jm_i143, jm_i144, jm_i145, jm_i146, jm_i147, jm_i148, jm_i149, jm_i150, jm_i151, jm_i152, jm_i153, jm_i154, jm_i155, jm_i156, jm_i157, jm_i158, jm_i159, jm_i160, jm_i161, jm_i162, jm_i163, jm_i164, jm_i165, jm_i166, jm_i167, jm_i168, jm_i169, jm_i170, jm_i171, jm_i172, jm_i173, jm_i174, jm_i175, jm_i176, jm_i177, jm_i178, jm_i179, jm_i180, jm_i181, jm_i182, jm_i183, jm_i184, jm_i185, jm_i186, jm_i187, jm_i188, jm_i189, jm_i190, jm_i191, jm_i192, jm_i193, jm_i194, jm_i195, jm_i196, jm_i197, jm_i198, jm_i199, jm_i200, jm_i201, jm_i202, jm_i203, jm_i204, jm_i205, jm_i206, jm_i207, jm_i208, jm_i209, jm_i210, jm_i211, jm_i212, jm_i213, jm_i214, jm_i215, jm_i216, jm_i217, jm_i218, jm_i219, jm_i220, jm_i221, jm_i222, jm_i223, jm_i224, jm_i225, jm_i226, jm_i227, jm_i228, jm_i229, jm_i230, jm_i231, jm_i232, jm_i233, jm_i234, jm_i235, jm_i236, jm_i237, jm_i238, jm_i239, jm_i240, jm_i241, jm_i242, jm_i243, jm_i244, jm_i245, jm_i246, jm_i247, jm_i248, jm_i249, jm_i250, jm_i251, jm_i252, jm_i253, jm_i254, jm_i255, jm_i256, jm_i257, jm_i258, jm_i259, jm_i260, jm_i261, jm_i262, jm_i263, jm_i264, jm_i265, jm_i266, jm_i267, jm_i268, jm_i269, jm_i270, jm_i271, jm_i272, jm_i273, jm_i274, jm_i275, jm_i276, jm_i277, jm_i278, jm_i279, jm_i280, jm_i281, jm_i282, jm_i283, jm_i284, jm_i285, jm_i286, jm_i287, jm_i288, jm_i289, jm_i290, jm_i291, jm_i292, jm_i293, jm_i294, jm_i295, jm_i296, jm_i297, jm_i298, jm_i299, jm_i300, jm_i301, jm_i302, jm_i303, jm_i304, jm_i305, jm_i306, jm_i307, jm_i308, jm_i309]
theorem jm_MS_ok : ∀ (m : Nat) (i : jx_M), jm_MS[m]? = some i → jx_okM m i := by
  intro m i h
  match m, h with
  | 0, h => cases h; exact jm_ok0
  | 1, h => cases h; exact jm_ok1
  | 2, h => cases h; exact jm_ok2
  | 3, h => cases h; exact jm_ok3
  | 4, h => cases h; exact jm_ok4
  | 5, h => cases h; exact jm_ok5
  | 6, h => cases h; exact jm_ok6
  | 7, h => cases h; exact jm_ok7
  | 8, h => cases h; exact jm_ok8
  | 9, h => cases h; exact jm_ok9
  | 10, h => cases h; exact jm_ok10
  | 11, h => cases h; exact jm_ok11
  | 12, h => cases h; exact jm_ok12
  | 13, h => cases h; exact jm_ok13
  | 14, h => cases h; exact jm_ok14
  | 15, h => cases h; exact jm_ok15
  | 16, h => cases h; exact jm_ok16
  | 17, h => cases h; exact jm_ok17
  | 18, h => cases h; exact jm_ok18
  | 19, h => cases h; exact jm_ok19
  | 20, h => cases h; exact jm_ok20
  | 21, h => cases h; exact jm_ok21
  | 22, h => cases h; exact jm_ok22
  | 23, h => cases h; exact jm_ok23
  | 24, h => cases h; exact jm_ok24
  | 25, h => cases h; exact jm_ok25
  | 26, h => cases h; exact jm_ok26
  | 27, h => cases h; exact jm_ok27
  | 28, h => cases h; exact jm_ok28
  | 29, h => cases h; exact jm_ok29
  | 30, h => cases h; exact jm_ok30
  | 31, h => cases h; exact jm_ok31
  | 32, h => cases h; exact jm_ok32
  | 33, h => cases h; exact jm_ok33
  | 34, h => cases h; exact jm_ok34
  | 35, h => cases h; exact jm_ok35
  | 36, h => cases h; exact jm_ok36
  | 37, h => cases h; exact jm_ok37
  | 38, h => cases h; exact jm_ok38
  | 39, h => cases h; exact jm_ok39
  | 40, h => cases h; exact jm_ok40
  | 41, h => cases h; exact jm_ok41
  | 42, h => cases h; exact jm_ok42
  | 43, h => cases h; exact jm_ok43
  | 44, h => cases h; exact jm_ok44
  | 45, h => cases h; exact jm_ok45
  | 46, h => cases h; exact jm_ok46
  | 47, h => cases h; exact jm_ok47
  | 48, h => cases h; exact jm_ok48
  | 49, h => cases h; exact jm_ok49
  | 50, h => cases h; exact jm_ok50
  | 51, h => cases h; exact jm_ok51
  | 52, h => cases h; exact jm_ok52
  | 53, h => cases h; exact jm_ok53
  | 54, h => cases h; exact jm_ok54
  | 55, h => cases h; exact jm_ok55
  | 56, h => cases h; exact jm_ok56
  | 57, h => cases h; exact jm_ok57
  | 58, h => cases h; exact jm_ok58
  | 59, h => cases h; exact jm_ok59
  | 60, h => cases h; exact jm_ok60
  | 61, h => cases h; exact jm_ok61
  | 62, h => cases h; exact jm_ok62
  | 63, h => cases h; exact jm_ok63
  | 64, h => cases h; exact jm_ok64
  | 65, h => cases h; exact jm_ok65
  | 66, h => cases h; exact jm_ok66
  | 67, h => cases h; exact jm_ok67
  | 68, h => cases h; exact jm_ok68
  | 69, h => cases h; exact jm_ok69
  | 70, h => cases h; exact jm_ok70
  | 71, h => cases h; exact jm_ok71
  | 72, h => cases h; exact jm_ok72
  | 73, h => cases h; exact jm_ok73
  | 74, h => cases h; exact jm_ok74
  | 75, h => cases h; exact jm_ok75
  | 76, h => cases h; exact jm_ok76
  | 77, h => cases h; exact jm_ok77
  | 78, h => cases h; exact jm_ok78
  | 79, h => cases h; exact jm_ok79
  | 80, h => cases h; exact jm_ok80
  | 81, h => cases h; exact jm_ok81
  | 82, h => cases h; exact jm_ok82
  | 83, h => cases h; exact jm_ok83
  | 84, h => cases h; exact jm_ok84
  | 85, h => cases h; exact jm_ok85
  | 86, h => cases h; exact jm_ok86
  | 87, h => cases h; exact jm_ok87
  | 88, h => cases h; exact jm_ok88
  | 89, h => cases h; exact jm_ok89
  | 90, h => cases h; exact jm_ok90
  | 91, h => cases h; exact jm_ok91
  | 92, h => cases h; exact jm_ok92
  | 93, h => cases h; exact jm_ok93
  | 94, h => cases h; exact jm_ok94
  | 95, h => cases h; exact jm_ok95
  | 96, h => cases h; exact jm_ok96
  | 97, h => cases h; exact jm_ok97
  | 98, h => cases h; exact jm_ok98
  | 99, h => cases h; exact jm_ok99
  | 100, h => cases h; exact jm_ok100
  | 101, h => cases h; exact jm_ok101
  | 102, h => cases h; exact jm_ok102
  | 103, h => cases h; exact jm_ok103
  | 104, h => cases h; exact jm_ok104
  | 105, h => cases h; exact jm_ok105
  | 106, h => cases h; exact jm_ok106
  | 107, h => cases h; exact jm_ok107
  | 108, h => cases h; exact jm_ok108
  | 109, h => cases h; exact jm_ok109
  | 110, h => cases h; exact jm_ok110
  | 111, h => cases h; exact jm_ok111
  | 112, h => cases h; exact jm_ok112
  | 113, h => cases h; exact jm_ok113
  | 114, h => cases h; exact jm_ok114
  | 115, h => cases h; exact jm_ok115
  | 116, h => cases h; exact jm_ok116
  | 117, h => cases h; exact jm_ok117
  | 118, h => cases h; exact jm_ok118
  | 119, h => cases h; exact jm_ok119
  | 120, h => cases h; exact jm_ok120
  | 121, h => cases h; exact jm_ok121
  | 122, h => cases h; exact jm_ok122
  | 123, h => cases h; exact jm_ok123
  | 124, h => cases h; exact jm_ok124
  | 125, h => cases h; exact jm_ok125
  | 126, h => cases h; exact jm_ok126
  | 127, h => cases h; exact jm_ok127
  | 128, h => cases h; exact jm_ok128
  | 129, h => cases h; exact jm_ok129
  | 130, h => cases h; exact jm_ok130
  | 131, h => cases h; exact jm_ok131
  | 132, h => cases h; exact jm_ok132
  | 133, h => cases h; exact jm_ok133
  | 134, h => cases h; exact jm_ok134
  | 135, h => cases h; exact jm_ok135
  | 136, h => cases h; exact jm_ok136
  | 137, h => cases h; exact jm_ok137
  | 138, h => cases h; exact jm_ok138
  | 139, h => cases h; exact jm_ok139
  | 140, h => cases h; exact jm_ok140
  | 141, h => cases h; exact jm_ok141
  | 142, h => cases h; exact jm_ok142
  | 143, h => cases h; exact jm_ok143
  | 144, h => cases h; exact jm_ok144
  | 145, h => cases h; exact jm_ok145
  | 146, h => cases h; exact jm_ok146
  | 147, h => cases h; exact jm_ok147
  | 148, h => cases h; exact jm_ok148
  | 149, h => cases h; exact jm_ok149
  | 150, h => cases h; exact jm_ok150
  | 151, h => cases h; exact jm_ok151
  | 152, h => cases h; exact jm_ok152
  | 153, h => cases h; exact jm_ok153
  | 154, h => cases h; exact jm_ok154
  | 155, h => cases h; exact jm_ok155
  | 156, h => cases h; exact jm_ok156
  | 157, h => cases h; exact jm_ok157
  | 158, h => cases h; exact jm_ok158
  | 159, h => cases h; exact jm_ok159
  | 160, h => cases h; exact jm_ok160
  | 161, h => cases h; exact jm_ok161
  | 162, h => cases h; exact jm_ok162
  | 163, h => cases h; exact jm_ok163
  | 164, h => cases h; exact jm_ok164
  | 165, h => cases h; exact jm_ok165
  | 166, h => cases h; exact jm_ok166
  | 167, h => cases h; exact jm_ok167
  | 168, h => cases h; exact jm_ok168
  | 169, h => cases h; exact jm_ok169
  | 170, h => cases h; exact jm_ok170
  | 171, h => cases h; exact jm_ok171
  | 172, h => cases h; exact jm_ok172
  | 173, h => cases h; exact jm_ok173
  | 174, h => cases h; exact jm_ok174
  | 175, h => cases h; exact jm_ok175
  | 176, h => cases h; exact jm_ok176
  | 177, h => cases h; exact jm_ok177
  | 178, h => cases h; exact jm_ok178
  | 179, h => cases h; exact jm_ok179
  | 180, h => cases h; exact jm_ok180
  | 181, h => cases h; exact jm_ok181
  | 182, h => cases h; exact jm_ok182
  | 183, h => cases h; exact jm_ok183
  | 184, h => cases h; exact jm_ok184
  | 185, h => cases h; exact jm_ok185
  | 186, h => cases h; exact jm_ok186
  | 187, h => cases h; exact jm_ok187
  | 188, h => cases h; exact jm_ok188
  | 189, h => cases h; exact jm_ok189
  | 190, h => cases h; exact jm_ok190
  | 191, h => cases h; exact jm_ok191
  | 192, h => cases h; exact jm_ok192
  | 193, h => cases h; exact jm_ok193
  | 194, h => cases h; exact jm_ok194
  | 195, h => cases h; exact jm_ok195
  | 196, h => cases h; exact jm_ok196
  | 197, h => cases h; exact jm_ok197
  | 198, h => cases h; exact jm_ok198
  | 199, h => cases h; exact jm_ok199
  | 200, h => cases h; exact jm_ok200
  | 201, h => cases h; exact jm_ok201
  | 202, h => cases h; exact jm_ok202
  | 203, h => cases h; exact jm_ok203
  | 204, h => cases h; exact jm_ok204
  | 205, h => cases h; exact jm_ok205
  | 206, h => cases h; exact jm_ok206
  | 207, h => cases h; exact jm_ok207
  | 208, h => cases h; exact jm_ok208
  | 209, h => cases h; exact jm_ok209
  | 210, h => cases h; exact jm_ok210
  | 211, h => cases h; exact jm_ok211
  | 212, h => cases h; exact jm_ok212
  | 213, h => cases h; exact jm_ok213
  | 214, h => cases h; exact jm_ok214
  | 215, h => cases h; exact jm_ok215
  | 216, h => cases h; exact jm_ok216
  | 217, h => cases h; exact jm_ok217
  | 218, h => cases h; exact jm_ok218
  | 219, h => cases h; exact jm_ok219
  | 220, h => cases h; exact jm_ok220
  | 221, h => cases h; exact jm_ok221
  | 222, h => cases h; exact jm_ok222
  | 223, h => cases h; exact jm_ok223
  | 224, h => cases h; exact jm_ok224
  | 225, h => cases h; exact jm_ok225
  | 226, h => cases h; exact jm_ok226
  | 227, h => cases h; exact jm_ok227
  | 228, h => cases h; exact jm_ok228
  | 229, h => cases h; exact jm_ok229
  | 230, h => cases h; exact jm_ok230
  | 231, h => cases h; exact jm_ok231
  | 232, h => cases h; exact jm_ok232
  | 233, h => cases h; exact jm_ok233
  | 234, h => cases h; exact jm_ok234
  | 235, h => cases h; exact jm_ok235
  | 236, h => cases h; exact jm_ok236
  | 237, h => cases h; exact jm_ok237
  | 238, h => cases h; exact jm_ok238
  | 239, h => cases h; exact jm_ok239
  | 240, h => cases h; exact jm_ok240
  | 241, h => cases h; exact jm_ok241
  | 242, h => cases h; exact jm_ok242
  | 243, h => cases h; exact jm_ok243
  | 244, h => cases h; exact jm_ok244
  | 245, h => cases h; exact jm_ok245
  | 246, h => cases h; exact jm_ok246
  | 247, h => cases h; exact jm_ok247
  | 248, h => cases h; exact jm_ok248
  | 249, h => cases h; exact jm_ok249
  | 250, h => cases h; exact jm_ok250
  | 251, h => cases h; exact jm_ok251
  | 252, h => cases h; exact jm_ok252
  | 253, h => cases h; exact jm_ok253
  | 254, h => cases h; exact jm_ok254
  | 255, h => cases h; exact jm_ok255
  | 256, h => cases h; exact jm_ok256
  | 257, h => cases h; exact jm_ok257
  | 258, h => cases h; exact jm_ok258
  | 259, h => cases h; exact jm_ok259
  | 260, h => cases h; exact jm_ok260
  | 261, h => cases h; exact jm_ok261
  | 262, h => cases h; exact jm_ok262
  | 263, h => cases h; exact jm_ok263
  | 264, h => cases h; exact jm_ok264
  | 265, h => cases h; exact jm_ok265
  | 266, h => cases h; exact jm_ok266
  | 267, h => cases h; exact jm_ok267
  | 268, h => cases h; exact jm_ok268
  | 269, h => cases h; exact jm_ok269
  | 270, h => cases h; exact jm_ok270
  | 271, h => cases h; exact jm_ok271
  | 272, h => cases h; exact jm_ok272
  | 273, h => cases h; exact jm_ok273
  | 274, h => cases h; exact jm_ok274
  | 275, h => cases h; exact jm_ok275
  | 276, h => cases h; exact jm_ok276
  | 277, h => cases h; exact jm_ok277
  | 278, h => cases h; exact jm_ok278
  | 279, h => cases h; exact jm_ok279
  | 280, h => cases h; exact jm_ok280
  | 281, h => cases h; exact jm_ok281
  | 282, h => cases h; exact jm_ok282
  | 283, h => cases h; exact jm_ok283
  | 284, h => cases h; exact jm_ok284
  | 285, h => cases h; exact jm_ok285
  | 286, h => cases h; exact jm_ok286
  | 287, h => cases h; exact jm_ok287
  | 288, h => cases h; exact jm_ok288
  | 289, h => cases h; exact jm_ok289
  | 290, h => cases h; exact jm_ok290
  | 291, h => cases h; exact jm_ok291
  | 292, h => cases h; exact jm_ok292
  | 293, h => cases h; exact jm_ok293
  | 294, h => cases h; exact jm_ok294
  | 295, h => cases h; exact jm_ok295
  | 296, h => cases h; exact jm_ok296
  | 297, h => cases h; exact jm_ok297
  | 298, h => cases h; exact jm_ok298
  | 299, h => cases h; exact jm_ok299
  | 300, h => cases h; exact jm_ok300
  | 301, h => cases h; exact jm_ok301
  | 302, h => cases h; exact jm_ok302
  | 303, h => cases h; exact jm_ok303
  | 304, h => cases h; exact jm_ok304
  | 305, h => cases h; exact jm_ok305
  | 306, h => cases h; exact jm_ok306
  | 307, h => cases h; exact jm_ok307
  | 308, h => cases h; exact jm_ok308
  | 309, h => cases h; exact jm_ok309
  | k + 310, h => simp [jm_MS] at h
theorem jm_at0 : jm_MS[0]? = some jm_i0 := rfl
theorem jm_at1 : jm_MS[1]? = some jm_i1 := rfl
theorem jm_at2 : jm_MS[2]? = some jm_i2 := rfl
theorem jm_at3 : jm_MS[3]? = some jm_i3 := rfl
theorem jm_at4 : jm_MS[4]? = some jm_i4 := rfl
theorem jm_at5 : jm_MS[5]? = some jm_i5 := rfl
theorem jm_at6 : jm_MS[6]? = some jm_i6 := rfl
theorem jm_at7 : jm_MS[7]? = some jm_i7 := rfl
theorem jm_at8 : jm_MS[8]? = some jm_i8 := rfl
theorem jm_at9 : jm_MS[9]? = some jm_i9 := rfl
theorem jm_at10 : jm_MS[10]? = some jm_i10 := rfl
theorem jm_at11 : jm_MS[11]? = some jm_i11 := rfl
theorem jm_at12 : jm_MS[12]? = some jm_i12 := rfl
theorem jm_at13 : jm_MS[13]? = some jm_i13 := rfl
theorem jm_at14 : jm_MS[14]? = some jm_i14 := rfl
theorem jm_at15 : jm_MS[15]? = some jm_i15 := rfl
theorem jm_at16 : jm_MS[16]? = some jm_i16 := rfl
theorem jm_at17 : jm_MS[17]? = some jm_i17 := rfl
theorem jm_at18 : jm_MS[18]? = some jm_i18 := rfl
theorem jm_at19 : jm_MS[19]? = some jm_i19 := rfl
theorem jm_at20 : jm_MS[20]? = some jm_i20 := rfl
theorem jm_at21 : jm_MS[21]? = some jm_i21 := rfl
theorem jm_at22 : jm_MS[22]? = some jm_i22 := rfl
theorem jm_at23 : jm_MS[23]? = some jm_i23 := rfl
theorem jm_at24 : jm_MS[24]? = some jm_i24 := rfl
theorem jm_at25 : jm_MS[25]? = some jm_i25 := rfl
theorem jm_at26 : jm_MS[26]? = some jm_i26 := rfl
theorem jm_at27 : jm_MS[27]? = some jm_i27 := rfl
theorem jm_at28 : jm_MS[28]? = some jm_i28 := rfl
theorem jm_at29 : jm_MS[29]? = some jm_i29 := rfl
theorem jm_at30 : jm_MS[30]? = some jm_i30 := rfl
theorem jm_at31 : jm_MS[31]? = some jm_i31 := rfl
theorem jm_at32 : jm_MS[32]? = some jm_i32 := rfl
theorem jm_at33 : jm_MS[33]? = some jm_i33 := rfl
theorem jm_at34 : jm_MS[34]? = some jm_i34 := rfl
theorem jm_at35 : jm_MS[35]? = some jm_i35 := rfl
theorem jm_at36 : jm_MS[36]? = some jm_i36 := rfl
theorem jm_at37 : jm_MS[37]? = some jm_i37 := rfl
theorem jm_at38 : jm_MS[38]? = some jm_i38 := rfl
theorem jm_at39 : jm_MS[39]? = some jm_i39 := rfl
theorem jm_at40 : jm_MS[40]? = some jm_i40 := rfl
theorem jm_at41 : jm_MS[41]? = some jm_i41 := rfl
theorem jm_at42 : jm_MS[42]? = some jm_i42 := rfl
theorem jm_at43 : jm_MS[43]? = some jm_i43 := rfl
theorem jm_at44 : jm_MS[44]? = some jm_i44 := rfl
theorem jm_at45 : jm_MS[45]? = some jm_i45 := rfl
theorem jm_at46 : jm_MS[46]? = some jm_i46 := rfl
theorem jm_at47 : jm_MS[47]? = some jm_i47 := rfl
theorem jm_at48 : jm_MS[48]? = some jm_i48 := rfl
theorem jm_at49 : jm_MS[49]? = some jm_i49 := rfl
theorem jm_at50 : jm_MS[50]? = some jm_i50 := rfl
theorem jm_at51 : jm_MS[51]? = some jm_i51 := rfl
theorem jm_at52 : jm_MS[52]? = some jm_i52 := rfl
theorem jm_at53 : jm_MS[53]? = some jm_i53 := rfl
theorem jm_at54 : jm_MS[54]? = some jm_i54 := rfl
theorem jm_at55 : jm_MS[55]? = some jm_i55 := rfl
theorem jm_at56 : jm_MS[56]? = some jm_i56 := rfl
theorem jm_at57 : jm_MS[57]? = some jm_i57 := rfl
theorem jm_at58 : jm_MS[58]? = some jm_i58 := rfl
theorem jm_at59 : jm_MS[59]? = some jm_i59 := rfl
theorem jm_at60 : jm_MS[60]? = some jm_i60 := rfl
theorem jm_at61 : jm_MS[61]? = some jm_i61 := rfl
theorem jm_at62 : jm_MS[62]? = some jm_i62 := rfl
theorem jm_at63 : jm_MS[63]? = some jm_i63 := rfl
theorem jm_at64 : jm_MS[64]? = some jm_i64 := rfl
theorem jm_at65 : jm_MS[65]? = some jm_i65 := rfl
theorem jm_at66 : jm_MS[66]? = some jm_i66 := rfl
theorem jm_at67 : jm_MS[67]? = some jm_i67 := rfl
theorem jm_at68 : jm_MS[68]? = some jm_i68 := rfl
theorem jm_at69 : jm_MS[69]? = some jm_i69 := rfl
theorem jm_at70 : jm_MS[70]? = some jm_i70 := rfl
theorem jm_at71 : jm_MS[71]? = some jm_i71 := rfl
theorem jm_at72 : jm_MS[72]? = some jm_i72 := rfl
theorem jm_at73 : jm_MS[73]? = some jm_i73 := rfl
theorem jm_at74 : jm_MS[74]? = some jm_i74 := rfl
theorem jm_at75 : jm_MS[75]? = some jm_i75 := rfl
theorem jm_at76 : jm_MS[76]? = some jm_i76 := rfl
theorem jm_at77 : jm_MS[77]? = some jm_i77 := rfl
theorem jm_at78 : jm_MS[78]? = some jm_i78 := rfl
theorem jm_at79 : jm_MS[79]? = some jm_i79 := rfl
theorem jm_at80 : jm_MS[80]? = some jm_i80 := rfl
theorem jm_at81 : jm_MS[81]? = some jm_i81 := rfl
theorem jm_at82 : jm_MS[82]? = some jm_i82 := rfl
theorem jm_at83 : jm_MS[83]? = some jm_i83 := rfl
theorem jm_at84 : jm_MS[84]? = some jm_i84 := rfl
theorem jm_at85 : jm_MS[85]? = some jm_i85 := rfl
theorem jm_at86 : jm_MS[86]? = some jm_i86 := rfl
theorem jm_at87 : jm_MS[87]? = some jm_i87 := rfl
theorem jm_at88 : jm_MS[88]? = some jm_i88 := rfl
theorem jm_at89 : jm_MS[89]? = some jm_i89 := rfl
theorem jm_at90 : jm_MS[90]? = some jm_i90 := rfl
theorem jm_at91 : jm_MS[91]? = some jm_i91 := rfl
theorem jm_at92 : jm_MS[92]? = some jm_i92 := rfl
theorem jm_at93 : jm_MS[93]? = some jm_i93 := rfl
theorem jm_at94 : jm_MS[94]? = some jm_i94 := rfl
theorem jm_at95 : jm_MS[95]? = some jm_i95 := rfl
theorem jm_at96 : jm_MS[96]? = some jm_i96 := rfl
theorem jm_at97 : jm_MS[97]? = some jm_i97 := rfl
theorem jm_at98 : jm_MS[98]? = some jm_i98 := rfl
theorem jm_at99 : jm_MS[99]? = some jm_i99 := rfl
theorem jm_at100 : jm_MS[100]? = some jm_i100 := rfl
theorem jm_at101 : jm_MS[101]? = some jm_i101 := rfl
theorem jm_at102 : jm_MS[102]? = some jm_i102 := rfl
theorem jm_at103 : jm_MS[103]? = some jm_i103 := rfl
theorem jm_at104 : jm_MS[104]? = some jm_i104 := rfl
theorem jm_at105 : jm_MS[105]? = some jm_i105 := rfl
theorem jm_at106 : jm_MS[106]? = some jm_i106 := rfl
theorem jm_at107 : jm_MS[107]? = some jm_i107 := rfl
theorem jm_at108 : jm_MS[108]? = some jm_i108 := rfl
theorem jm_at109 : jm_MS[109]? = some jm_i109 := rfl
theorem jm_at110 : jm_MS[110]? = some jm_i110 := rfl
theorem jm_at111 : jm_MS[111]? = some jm_i111 := rfl
theorem jm_at112 : jm_MS[112]? = some jm_i112 := rfl
theorem jm_at113 : jm_MS[113]? = some jm_i113 := rfl
theorem jm_at114 : jm_MS[114]? = some jm_i114 := rfl
theorem jm_at115 : jm_MS[115]? = some jm_i115 := rfl
theorem jm_at116 : jm_MS[116]? = some jm_i116 := rfl
theorem jm_at117 : jm_MS[117]? = some jm_i117 := rfl
theorem jm_at118 : jm_MS[118]? = some jm_i118 := rfl
theorem jm_at119 : jm_MS[119]? = some jm_i119 := rfl
theorem jm_at120 : jm_MS[120]? = some jm_i120 := rfl
theorem jm_at121 : jm_MS[121]? = some jm_i121 := rfl
theorem jm_at122 : jm_MS[122]? = some jm_i122 := rfl
theorem jm_at123 : jm_MS[123]? = some jm_i123 := rfl
theorem jm_at124 : jm_MS[124]? = some jm_i124 := rfl
theorem jm_at125 : jm_MS[125]? = some jm_i125 := rfl
theorem jm_at126 : jm_MS[126]? = some jm_i126 := rfl
theorem jm_at127 : jm_MS[127]? = some jm_i127 := rfl
theorem jm_at128 : jm_MS[128]? = some jm_i128 := rfl
theorem jm_at129 : jm_MS[129]? = some jm_i129 := rfl
theorem jm_at130 : jm_MS[130]? = some jm_i130 := rfl
theorem jm_at131 : jm_MS[131]? = some jm_i131 := rfl
theorem jm_at132 : jm_MS[132]? = some jm_i132 := rfl
theorem jm_at133 : jm_MS[133]? = some jm_i133 := rfl
theorem jm_at134 : jm_MS[134]? = some jm_i134 := rfl
theorem jm_at135 : jm_MS[135]? = some jm_i135 := rfl
theorem jm_at136 : jm_MS[136]? = some jm_i136 := rfl
theorem jm_at137 : jm_MS[137]? = some jm_i137 := rfl
theorem jm_at138 : jm_MS[138]? = some jm_i138 := rfl
theorem jm_at139 : jm_MS[139]? = some jm_i139 := rfl
theorem jm_at140 : jm_MS[140]? = some jm_i140 := rfl
theorem jm_at141 : jm_MS[141]? = some jm_i141 := rfl
theorem jm_at142 : jm_MS[142]? = some jm_i142 := rfl
theorem jm_at143 : jm_MS[143]? = some jm_i143 := rfl
theorem jm_at144 : jm_MS[144]? = some jm_i144 := rfl
theorem jm_at145 : jm_MS[145]? = some jm_i145 := rfl
theorem jm_at146 : jm_MS[146]? = some jm_i146 := rfl
theorem jm_at147 : jm_MS[147]? = some jm_i147 := rfl
theorem jm_at148 : jm_MS[148]? = some jm_i148 := rfl
theorem jm_at149 : jm_MS[149]? = some jm_i149 := rfl
theorem jm_at150 : jm_MS[150]? = some jm_i150 := rfl
theorem jm_at151 : jm_MS[151]? = some jm_i151 := rfl
theorem jm_at152 : jm_MS[152]? = some jm_i152 := rfl
theorem jm_at153 : jm_MS[153]? = some jm_i153 := rfl
theorem jm_at154 : jm_MS[154]? = some jm_i154 := rfl
theorem jm_at155 : jm_MS[155]? = some jm_i155 := rfl
theorem jm_at156 : jm_MS[156]? = some jm_i156 := rfl
theorem jm_at157 : jm_MS[157]? = some jm_i157 := rfl
theorem jm_at158 : jm_MS[158]? = some jm_i158 := rfl
theorem jm_at159 : jm_MS[159]? = some jm_i159 := rfl
theorem jm_at160 : jm_MS[160]? = some jm_i160 := rfl
theorem jm_at161 : jm_MS[161]? = some jm_i161 := rfl
theorem jm_at162 : jm_MS[162]? = some jm_i162 := rfl
theorem jm_at163 : jm_MS[163]? = some jm_i163 := rfl
theorem jm_at164 : jm_MS[164]? = some jm_i164 := rfl
theorem jm_at165 : jm_MS[165]? = some jm_i165 := rfl
theorem jm_at166 : jm_MS[166]? = some jm_i166 := rfl
theorem jm_at167 : jm_MS[167]? = some jm_i167 := rfl
theorem jm_at168 : jm_MS[168]? = some jm_i168 := rfl
theorem jm_at169 : jm_MS[169]? = some jm_i169 := rfl
theorem jm_at170 : jm_MS[170]? = some jm_i170 := rfl
theorem jm_at171 : jm_MS[171]? = some jm_i171 := rfl
theorem jm_at172 : jm_MS[172]? = some jm_i172 := rfl
theorem jm_at173 : jm_MS[173]? = some jm_i173 := rfl
theorem jm_at174 : jm_MS[174]? = some jm_i174 := rfl
theorem jm_at175 : jm_MS[175]? = some jm_i175 := rfl
theorem jm_at176 : jm_MS[176]? = some jm_i176 := rfl
theorem jm_at177 : jm_MS[177]? = some jm_i177 := rfl
theorem jm_at178 : jm_MS[178]? = some jm_i178 := rfl
theorem jm_at179 : jm_MS[179]? = some jm_i179 := rfl
theorem jm_at180 : jm_MS[180]? = some jm_i180 := rfl
theorem jm_at181 : jm_MS[181]? = some jm_i181 := rfl
theorem jm_at182 : jm_MS[182]? = some jm_i182 := rfl
theorem jm_at183 : jm_MS[183]? = some jm_i183 := rfl
theorem jm_at184 : jm_MS[184]? = some jm_i184 := rfl
theorem jm_at185 : jm_MS[185]? = some jm_i185 := rfl
theorem jm_at186 : jm_MS[186]? = some jm_i186 := rfl
theorem jm_at187 : jm_MS[187]? = some jm_i187 := rfl
theorem jm_at188 : jm_MS[188]? = some jm_i188 := rfl
theorem jm_at189 : jm_MS[189]? = some jm_i189 := rfl
theorem jm_at190 : jm_MS[190]? = some jm_i190 := rfl
theorem jm_at191 : jm_MS[191]? = some jm_i191 := rfl
theorem jm_at192 : jm_MS[192]? = some jm_i192 := rfl
theorem jm_at193 : jm_MS[193]? = some jm_i193 := rfl
theorem jm_at194 : jm_MS[194]? = some jm_i194 := rfl
theorem jm_at195 : jm_MS[195]? = some jm_i195 := rfl
theorem jm_at196 : jm_MS[196]? = some jm_i196 := rfl
theorem jm_at197 : jm_MS[197]? = some jm_i197 := rfl
theorem jm_at198 : jm_MS[198]? = some jm_i198 := rfl
theorem jm_at199 : jm_MS[199]? = some jm_i199 := rfl
theorem jm_at200 : jm_MS[200]? = some jm_i200 := rfl
theorem jm_at201 : jm_MS[201]? = some jm_i201 := rfl
theorem jm_at202 : jm_MS[202]? = some jm_i202 := rfl
theorem jm_at203 : jm_MS[203]? = some jm_i203 := rfl
theorem jm_at204 : jm_MS[204]? = some jm_i204 := rfl
theorem jm_at205 : jm_MS[205]? = some jm_i205 := rfl
theorem jm_at206 : jm_MS[206]? = some jm_i206 := rfl
theorem jm_at207 : jm_MS[207]? = some jm_i207 := rfl
theorem jm_at208 : jm_MS[208]? = some jm_i208 := rfl
theorem jm_at209 : jm_MS[209]? = some jm_i209 := rfl
theorem jm_at210 : jm_MS[210]? = some jm_i210 := rfl
theorem jm_at211 : jm_MS[211]? = some jm_i211 := rfl
theorem jm_at212 : jm_MS[212]? = some jm_i212 := rfl
theorem jm_at213 : jm_MS[213]? = some jm_i213 := rfl
theorem jm_at214 : jm_MS[214]? = some jm_i214 := rfl
theorem jm_at215 : jm_MS[215]? = some jm_i215 := rfl
theorem jm_at216 : jm_MS[216]? = some jm_i216 := rfl
theorem jm_at217 : jm_MS[217]? = some jm_i217 := rfl
theorem jm_at218 : jm_MS[218]? = some jm_i218 := rfl
theorem jm_at219 : jm_MS[219]? = some jm_i219 := rfl
theorem jm_at220 : jm_MS[220]? = some jm_i220 := rfl
theorem jm_at221 : jm_MS[221]? = some jm_i221 := rfl
theorem jm_at222 : jm_MS[222]? = some jm_i222 := rfl
theorem jm_at223 : jm_MS[223]? = some jm_i223 := rfl
theorem jm_at224 : jm_MS[224]? = some jm_i224 := rfl
theorem jm_at225 : jm_MS[225]? = some jm_i225 := rfl
theorem jm_at226 : jm_MS[226]? = some jm_i226 := rfl
theorem jm_at227 : jm_MS[227]? = some jm_i227 := rfl
theorem jm_at228 : jm_MS[228]? = some jm_i228 := rfl
theorem jm_at229 : jm_MS[229]? = some jm_i229 := rfl
theorem jm_at230 : jm_MS[230]? = some jm_i230 := rfl
theorem jm_at231 : jm_MS[231]? = some jm_i231 := rfl
theorem jm_at232 : jm_MS[232]? = some jm_i232 := rfl
theorem jm_at233 : jm_MS[233]? = some jm_i233 := rfl
theorem jm_at234 : jm_MS[234]? = some jm_i234 := rfl
theorem jm_at235 : jm_MS[235]? = some jm_i235 := rfl
theorem jm_at236 : jm_MS[236]? = some jm_i236 := rfl
theorem jm_at237 : jm_MS[237]? = some jm_i237 := rfl
theorem jm_at238 : jm_MS[238]? = some jm_i238 := rfl
theorem jm_at239 : jm_MS[239]? = some jm_i239 := rfl
theorem jm_at240 : jm_MS[240]? = some jm_i240 := rfl
theorem jm_at241 : jm_MS[241]? = some jm_i241 := rfl
theorem jm_at242 : jm_MS[242]? = some jm_i242 := rfl
theorem jm_at243 : jm_MS[243]? = some jm_i243 := rfl
theorem jm_at244 : jm_MS[244]? = some jm_i244 := rfl
theorem jm_at245 : jm_MS[245]? = some jm_i245 := rfl
theorem jm_at246 : jm_MS[246]? = some jm_i246 := rfl
theorem jm_at247 : jm_MS[247]? = some jm_i247 := rfl
theorem jm_at248 : jm_MS[248]? = some jm_i248 := rfl
theorem jm_at249 : jm_MS[249]? = some jm_i249 := rfl
theorem jm_at250 : jm_MS[250]? = some jm_i250 := rfl
theorem jm_at251 : jm_MS[251]? = some jm_i251 := rfl
theorem jm_at252 : jm_MS[252]? = some jm_i252 := rfl
theorem jm_at253 : jm_MS[253]? = some jm_i253 := rfl
theorem jm_at254 : jm_MS[254]? = some jm_i254 := rfl
theorem jm_at255 : jm_MS[255]? = some jm_i255 := rfl
theorem jm_at256 : jm_MS[256]? = some jm_i256 := rfl
theorem jm_at257 : jm_MS[257]? = some jm_i257 := rfl
theorem jm_at258 : jm_MS[258]? = some jm_i258 := rfl
theorem jm_at259 : jm_MS[259]? = some jm_i259 := rfl
theorem jm_at260 : jm_MS[260]? = some jm_i260 := rfl
theorem jm_at261 : jm_MS[261]? = some jm_i261 := rfl
theorem jm_at262 : jm_MS[262]? = some jm_i262 := rfl
theorem jm_at263 : jm_MS[263]? = some jm_i263 := rfl
theorem jm_at264 : jm_MS[264]? = some jm_i264 := rfl
theorem jm_at265 : jm_MS[265]? = some jm_i265 := rfl
theorem jm_at266 : jm_MS[266]? = some jm_i266 := rfl
theorem jm_at267 : jm_MS[267]? = some jm_i267 := rfl
theorem jm_at268 : jm_MS[268]? = some jm_i268 := rfl
theorem jm_at269 : jm_MS[269]? = some jm_i269 := rfl
theorem jm_at270 : jm_MS[270]? = some jm_i270 := rfl
theorem jm_at271 : jm_MS[271]? = some jm_i271 := rfl
theorem jm_at272 : jm_MS[272]? = some jm_i272 := rfl
theorem jm_at273 : jm_MS[273]? = some jm_i273 := rfl
theorem jm_at274 : jm_MS[274]? = some jm_i274 := rfl
theorem jm_at275 : jm_MS[275]? = some jm_i275 := rfl
theorem jm_at276 : jm_MS[276]? = some jm_i276 := rfl
theorem jm_at277 : jm_MS[277]? = some jm_i277 := rfl
theorem jm_at278 : jm_MS[278]? = some jm_i278 := rfl
theorem jm_at279 : jm_MS[279]? = some jm_i279 := rfl
theorem jm_at280 : jm_MS[280]? = some jm_i280 := rfl
theorem jm_at281 : jm_MS[281]? = some jm_i281 := rfl
theorem jm_at282 : jm_MS[282]? = some jm_i282 := rfl
theorem jm_at283 : jm_MS[283]? = some jm_i283 := rfl
theorem jm_at284 : jm_MS[284]? = some jm_i284 := rfl
theorem jm_at285 : jm_MS[285]? = some jm_i285 := rfl
theorem jm_at286 : jm_MS[286]? = some jm_i286 := rfl
theorem jm_at287 : jm_MS[287]? = some jm_i287 := rfl
theorem jm_at288 : jm_MS[288]? = some jm_i288 := rfl
theorem jm_at289 : jm_MS[289]? = some jm_i289 := rfl
theorem jm_at290 : jm_MS[290]? = some jm_i290 := rfl
theorem jm_at291 : jm_MS[291]? = some jm_i291 := rfl
theorem jm_at292 : jm_MS[292]? = some jm_i292 := rfl
theorem jm_at293 : jm_MS[293]? = some jm_i293 := rfl
theorem jm_at294 : jm_MS[294]? = some jm_i294 := rfl
theorem jm_at295 : jm_MS[295]? = some jm_i295 := rfl
theorem jm_at296 : jm_MS[296]? = some jm_i296 := rfl
theorem jm_at297 : jm_MS[297]? = some jm_i297 := rfl
theorem jm_at298 : jm_MS[298]? = some jm_i298 := rfl
theorem jm_at299 : jm_MS[299]? = some jm_i299 := rfl
theorem jm_at300 : jm_MS[300]? = some jm_i300 := rfl
theorem jm_at301 : jm_MS[301]? = some jm_i301 := rfl
theorem jm_at302 : jm_MS[302]? = some jm_i302 := rfl
theorem jm_at303 : jm_MS[303]? = some jm_i303 := rfl
theorem jm_at304 : jm_MS[304]? = some jm_i304 := rfl
theorem jm_at305 : jm_MS[305]? = some jm_i305 := rfl
theorem jm_at306 : jm_MS[306]? = some jm_i306 := rfl
theorem jm_at307 : jm_MS[307]? = some jm_i307 := rfl
theorem jm_at308 : jm_MS[308]? = some jm_i308 := rfl
theorem jm_at309 : jm_MS[309]? = some jm_i309 := rfl
end
section
/-! ===== the small machine, goal first ===== -/
theorem jx_mono {MS : List jx_M} : ∀ (n d : Nat) (bl : jx_B) (rem : List jx_E) (ls st : List Value) (h : jx_H) (r : Option Value × jx_H), jx_x MS d n bl rem ls st h = some r → ∀ n' d', n ≤ n' → d ≤ d' → jx_x MS d' n' bl rem ls st h = some r
  | 0, d, bl, rem, ls, st, h, r, hx => by cases hx
  | n + 1, d, bl, [], ls, st, h, r, hx => by cases hx
  | n + 1, d, bl, e :: t, ls, st, h, r, hx => by
    intro n' d' hn hd
    obtain ⟨k, rfl⟩ : ∃ k, n' = k + 1 := ⟨n' - 1, by omega⟩
    unfold jx_x at hx ⊢
    simp only at hx ⊢
    split at hx
    · cases hx
    · rename_i q hq
      simp only [hq]
      exact jx_mono n d bl _ _ _ _ r hx k d' (by omega) hd
    · rename_i v hv
      simp only [hv]
      exact hx
    · rename_i c hc
      simp only [hc]
      split at hx
      · rename_i d0 i hi
        obtain ⟨d1, rfl⟩ : ∃ d1, d' = d1 + 1 := ⟨d' - 1, by omega⟩
        simp only [hi]
        split at hx
        · rename_i hlen
          rw [if_pos hlen]
          split at hx
          · rename_i y hy
            rw [jx_mono n d0 _ _ _ _ _ y hy k d1 (by omega) (by omega)]
            exact jx_mono n _ _ _ _ _ _ r hx k (d1 + 1) (by omega) hd
          · cases hx
        · cases hx
      · cases hx
def jx_Ex (d : Nat) (bl : jx_B) (rem : List jx_E) (ls st : List Value) (h : jx_H) (Q : Option Value → jx_H → Prop) : Prop := ∃ n v h', jx_x jm_MS d n bl rem ls st h = some (v, h') ∧ Q v h'
def jx_Sp (d m : Nat) (as : List Value) (h : jx_H) (Q : Option Value → jx_H → Prop) : Prop := ∃ i, jm_MS[m]? = some i ∧ as.length = i.2.2.2.2.2.1 ∧ as.all (fun v => decide (v.category = 1)) = true ∧ jx_Ex d i.2.2.2.2.2.2.2 (jx_at i.2.2.2.2.2.2.2 0) (as ++ List.replicate (i.2.2.1 - as.length) (.retAddr 0)) [] h Q
section JXE
variable {d : Nat} {bl : jx_B} {e : jx_E} {r r' : List jx_E} {ls st ls' st' : List Value} {h h1 : jx_H} {Q : Option Value → jx_H → Prop}
theorem jx_Ex.next (hs : jx_s bl e r ls st h = some (.inl (r', ls', st', h1))) (k : jx_Ex d bl r' ls' st' h1 Q) : jx_Ex d bl (e :: r) ls st h Q := by
  obtain ⟨n, v, h', hx, hq⟩ := k
  refine ⟨n + 1, v, h', ?_, hq⟩
  unfold jx_x
  simp only [hs]
  exact hx
theorem jx_Ex.ret {v : Option Value} (hs : jx_s bl e r ls st h = some (.inr (.inr v))) (hq : Q v h) : jx_Ex d bl (e :: r) ls st h Q := by
  refine ⟨1, v, h, ?_, hq⟩
  unfold jx_x
  simp only [hs]
theorem jx_Ex.call {m : Nat} {as : List Value} (hs : jx_s bl e r ls st h = some (.inr (.inl (m, as, r', ls', st')))) (k : jx_Sp d m as h (fun v h1 => jx_Ex (d + 1) bl r' ls' (v.toList ++ st') h1 Q)) : jx_Ex (d + 1) bl (e :: r) ls st h Q := by
  obtain ⟨i, hi, hl, hc, n1, v1, h1, hx1, n2, v2, h2, hx2, hq⟩ := k
  refine ⟨n1 + n2 + 1, v2, h2, ?_, hq⟩
  unfold jx_x
  simp only [hs, hi]
  rw [if_pos ⟨hl, hc⟩, jx_mono n1 d _ _ _ _ _ _ hx1 (n1 + n2) d (by omega) (by omega)]
  exact jx_mono n2 (d + 1) _ _ _ _ _ _ hx2 (n1 + n2) (d + 1) (by omega) (by omega)
theorem jx_Sp.mono {d' m : Nat} {as : List Value} (hd : d ≤ d') (k : jx_Sp d m as h Q) : jx_Sp d' m as h Q := by
  obtain ⟨i, hi, hl, hc, n1, v1, h1, hx1, hq⟩ := k
  exact ⟨i, hi, hl, hc, n1, v1, h1, jx_mono n1 d _ _ _ _ _ _ hx1 n1 d' (by omega) hd, hq⟩
end JXE
/-- one side of the worlds: its cells lo .. hi, the row of kinds, references, and the other side's numbers -/
abbrev jS : Type := Nat × Nat × List (Nat × Nat) × (Nat → Value) × (Nat → Int32) × (Nat → Nat → Int32)
abbrev jT : Type := (Nat → Int32) × (Nat → Nat → Int32)
def jh (S : jS) (σ : jT) : jx_H := (S.2.2.1, S.2.2.2.1, (fun i => if 64 * S.1 ≤ i ∧ i < 64 * S.2.1 then σ.1 i else S.2.2.2.2.1 i), fun o j => if S.1 ≤ o ∧ o < S.2.1 then σ.2 o j else S.2.2.2.2.2 o j)
def gs (σ : jT) (i : Nat) (v : Int32) : jT := (jx_up σ.1 i v, σ.2)
def gA (σ : jT) (o j : Nat) (v : Int32) : jT := (σ.1, jx_up2 σ.2 o j v)
def gC (σ : jT) (o q sp dp n : Nat) : jT := (σ.1, fun z => if z = q then va_cpy (σ.2 o) (σ.2 q) sp dp n else σ.2 z)
def jLAY : List (Nat × Nat) := [(20, 14), (19, 4), (0, 80), (13, 6), (0, 10), (0, 30), (0, 6), (17, 6), (0, 40), (0, 40), (0, 40), (0, 7), (18, 1), (0, 28), (12, 5), (4, 13), (18, 1), (0, 28), (18, 1), (0, 28), (18, 1), (0, 28), (18, 1), (0, 28), (18, 1), (0, 28), (18, 1), (0, 28), (18, 1), (0, 28), (18, 1), (0, 28), (18, 1), (0, 28), (18, 1), (0, 28), (18, 1), (0, 28), (18, 1), (0, 28), (18, 1), (0, 28), (4, 2), (18, 1), (0, 28), (18, 1), (0, 28), (16, 2), (0, 16), (15, 13), (0, 2), (0, 2), (0, 2), (0, 2), (0, 2), (10, 4), (0, 360), (0, 10), (14, 4), (0, 36), (0, 6), (0, 6), (0, 20), (0, 6), (0, 10), (21, 52), (0, 28), (0, 10), (0, 30), (0, 6), (0, 60), (1, 80), (0, 40), (0, 10), (0, 30), (0, 30), (0, 66), (1, 40), (0, 7), (0, 336), (0, 28), (0, 240), (0, 28), (0, 10), (0, 360), (0, 10), (0, 6), (0, 6), (0, 20), (0, 6), (0, 3), (0, 6), (0, 56), (2, 2), (0, 2)]
def jPtab : List (Nat × Nat) := [(0, 1), (1, 3), (2, 7), (3, 12), (4, 14), (5, 47), (6, 49), (7, 55), (8, 58), (9, 62), (10, 63), (11, 64), (64, 2), (192, 4), (193, 5), (194, 6), (448, 8), (449, 9), (450, 10), (451, 11), (768, 13), (896, 15), (897, 42), (960, 16), (961, 18), (962, 20), (963, 22), (964, 24), (965, 26), (966, 28), (967, 30), (968, 32), (969, 34), (970, 36), (971, 38), (972, 40), (1024, 17), (1152, 19), (1280, 21), (1408, 23), (1536, 25), (1664, 27), (1792, 29), (1920, 31), (2048, 33), (2176, 35), (2304, 37), (2432, 39), (2560, 41), (2688, 43), (2689, 45), (2752, 44), (2880, 46), (3008, 48), (3136, 3), (3137, 7), (3138, 12), (3139, 50), (3140, 51), (3141, 52), (3142, 53), (3143, 54), (3520, 3), (3521, 49), (3522, 56), (3523, 57), (3712, 59), (3713, 60), (3714, 61), (4160, 66), (4162, 67), (4163, 68), (4166, 69), (4167, 70), (4168, 71), (4170, 72), (4178, 73), (4179, 74), (4180, 75), (4182, 76), (4183, 77), (4186, 78), (4188, 79), (4190, 80), (4192, 81), (4194, 82), (4195, 83), (4197, 84), (4198, 85), (4199, 86), (4200, 87), (4202, 88), (4204, 89), (4205, 90), (4207, 91), (4209, 92), (4210, 93), (4211, 94)]
/-- the side of the class; the side of the model -/
def jCok (S : jS) : Prop := S.1 = 0 ∧ S.2.1 = 65 ∧ (∀ i, i < 95 → S.2.2.1[i]? = jLAY[i]?) ∧ ∀ q ∈ jPtab, S.2.2.2.1 q.1 = .ref q.2
def jMok (S : jS) : Prop := S.1 = 65 ∧ S.2.1 = 95 ∧ (∀ i, i < 95 → S.2.2.1[i]? = jLAY[i]?) ∧ ∀ q ∈ jPtab, S.2.2.2.1 q.1 = .ref q.2
def jSrd (S : jS) (v : Value) : jS := (S.1, S.2.1, S.2.2.1, jx_up S.2.2.2.1 4173 v, S.2.2.2.2)
theorem jSrd_ok {S : jS} (hS : jMok S) (v : Value) : jMok (jSrd S v) := ⟨hS.1, hS.2.1, hS.2.2.1, fun q hq => by
  have hne : ∀ q ∈ jPtab, q.1 ≠ 4173 := by decide
  show jx_up S.2.2.2.1 4173 v q.1 = .ref q.2
  simp [jx_up, hne q hq, hS.2.2.2 q hq]⟩
theorem jSrd_rd {S : jS} (v : Value) : (jSrd S v).2.2.2.1 4173 = v := by simp [jSrd, jx_up]
theorem jSrd_twice (S : jS) (v w : Value) : jSrd (jSrd S v) w = jSrd S w := by
  unfold jSrd
  have : jx_up (jx_up S.2.2.2.1 4173 v) 4173 w = jx_up S.2.2.2.1 4173 w := by
    funext j
    by_cases h : j = 4173 <;> simp [jx_up, h]
  simp only [this]
theorem ly0 : jLAY[0]? = some (10 + 10, jx_N 10) := rfl
theorem ly1 : jLAY[1]? = some (10 + 9, jx_N 9) := rfl
theorem ly2 : jLAY[2]? = some (0, 80) := rfl
theorem ly3 : jLAY[3]? = some (10 + 3, jx_N 3) := rfl
theorem ly4 : jLAY[4]? = some (0, 10) := rfl
theorem ly5 : jLAY[5]? = some (0, 30) := rfl
theorem ly6 : jLAY[6]? = some (0, 6) := rfl
theorem ly7 : jLAY[7]? = some (10 + 7, jx_N 7) := rfl
theorem ly8 : jLAY[8]? = some (0, 40) := rfl
theorem ly9 : jLAY[9]? = some (0, 40) := rfl
theorem ly10 : jLAY[10]? = some (0, 40) := rfl
theorem ly11 : jLAY[11]? = some (0, 7) := rfl
theorem ly12 : jLAY[12]? = some (10 + 8, jx_N 8) := rfl
theorem ly13 : jLAY[13]? = some (0, 28) := rfl
theorem ly14 : jLAY[14]? = some (10 + 2, jx_N 2) := rfl
theorem ly15 : jLAY[15]? = some (4, 13) := rfl
theorem ly16 : jLAY[16]? = some (10 + 8, jx_N 8) := rfl
theorem ly17 : jLAY[17]? = some (0, 28) := rfl
theorem ly18 : jLAY[18]? = some (10 + 8, jx_N 8) := rfl
theorem ly19 : jLAY[19]? = some (0, 28) := rfl
theorem ly20 : jLAY[20]? = some (10 + 8, jx_N 8) := rfl
theorem ly21 : jLAY[21]? = some (0, 28) := rfl
theorem ly22 : jLAY[22]? = some (10 + 8, jx_N 8) := rfl
theorem ly23 : jLAY[23]? = some (0, 28) := rfl
theorem ly24 : jLAY[24]? = some (10 + 8, jx_N 8) := rfl
theorem ly25 : jLAY[25]? = some (0, 28) := rfl
theorem ly26 : jLAY[26]? = some (10 + 8, jx_N 8) := rfl
theorem ly27 : jLAY[27]? = some (0, 28) := rfl
theorem ly28 : jLAY[28]? = some (10 + 8, jx_N 8) := rfl
theorem ly29 : jLAY[29]? = some (0, 28) := rfl
theorem ly30 : jLAY[30]? = some (10 + 8, jx_N 8) := rfl
theorem ly31 : jLAY[31]? = some (0, 28) := rfl
theorem ly32 : jLAY[32]? = some (10 + 8, jx_N 8) := rfl
theorem ly33 : jLAY[33]? = some (0, 28) := rfl
theorem ly34 : jLAY[34]? = some (10 + 8, jx_N 8) := rfl
theorem ly35 : jLAY[35]? = some (0, 28) := rfl
theorem ly36 : jLAY[36]? = some (10 + 8, jx_N 8) := rfl
theorem ly37 : jLAY[37]? = some (0, 28) := rfl
theorem ly38 : jLAY[38]? = some (10 + 8, jx_N 8) := rfl
theorem ly39 : jLAY[39]? = some (0, 28) := rfl
theorem ly40 : jLAY[40]? = some (10 + 8, jx_N 8) := rfl
theorem ly41 : jLAY[41]? = some (0, 28) := rfl
theorem ly42 : jLAY[42]? = some (4, 2) := rfl
theorem ly43 : jLAY[43]? = some (10 + 8, jx_N 8) := rfl
theorem ly44 : jLAY[44]? = some (0, 28) := rfl
theorem ly45 : jLAY[45]? = some (10 + 8, jx_N 8) := rfl
theorem ly46 : jLAY[46]? = some (0, 28) := rfl
theorem ly47 : jLAY[47]? = some (10 + 6, jx_N 6) := rfl
theorem ly48 : jLAY[48]? = some (0, 16) := rfl
theorem ly49 : jLAY[49]? = some (10 + 5, jx_N 5) := rfl
theorem ly50 : jLAY[50]? = some (0, 2) := rfl
theorem ly51 : jLAY[51]? = some (0, 2) := rfl
theorem ly52 : jLAY[52]? = some (0, 2) := rfl
theorem ly53 : jLAY[53]? = some (0, 2) := rfl
theorem ly54 : jLAY[54]? = some (0, 2) := rfl
theorem ly55 : jLAY[55]? = some (10 + 0, jx_N 0) := rfl
theorem ly56 : jLAY[56]? = some (0, 360) := rfl
theorem ly57 : jLAY[57]? = some (0, 10) := rfl
theorem ly58 : jLAY[58]? = some (10 + 4, jx_N 4) := rfl
theorem ly59 : jLAY[59]? = some (0, 36) := rfl
theorem ly60 : jLAY[60]? = some (0, 6) := rfl
theorem ly61 : jLAY[61]? = some (0, 6) := rfl
theorem ly62 : jLAY[62]? = some (0, 20) := rfl
theorem ly63 : jLAY[63]? = some (0, 6) := rfl
theorem ly64 : jLAY[64]? = some (0, 10) := rfl
theorem ly65 : jLAY[65]? = some (10 + 11, jx_N 11) := rfl
theorem ly66 : jLAY[66]? = some (0, 28) := rfl
theorem ly67 : jLAY[67]? = some (0, 10) := rfl
theorem ly68 : jLAY[68]? = some (0, 30) := rfl
theorem ly69 : jLAY[69]? = some (0, 6) := rfl
theorem ly70 : jLAY[70]? = some (0, 60) := rfl
theorem ly71 : jLAY[71]? = some (1, 80) := rfl
theorem ly72 : jLAY[72]? = some (0, 40) := rfl
theorem ly73 : jLAY[73]? = some (0, 10) := rfl
theorem ly74 : jLAY[74]? = some (0, 30) := rfl
theorem ly75 : jLAY[75]? = some (0, 30) := rfl
theorem ly76 : jLAY[76]? = some (0, 66) := rfl
theorem ly77 : jLAY[77]? = some (1, 40) := rfl
theorem ly78 : jLAY[78]? = some (0, 7) := rfl
theorem ly79 : jLAY[79]? = some (0, 336) := rfl
theorem ly80 : jLAY[80]? = some (0, 28) := rfl
theorem ly81 : jLAY[81]? = some (0, 240) := rfl
theorem ly82 : jLAY[82]? = some (0, 28) := rfl
theorem ly83 : jLAY[83]? = some (0, 10) := rfl
theorem ly84 : jLAY[84]? = some (0, 360) := rfl
theorem ly85 : jLAY[85]? = some (0, 10) := rfl
theorem ly86 : jLAY[86]? = some (0, 6) := rfl
theorem ly87 : jLAY[87]? = some (0, 6) := rfl
theorem ly88 : jLAY[88]? = some (0, 20) := rfl
theorem ly89 : jLAY[89]? = some (0, 6) := rfl
theorem ly90 : jLAY[90]? = some (0, 3) := rfl
theorem ly91 : jLAY[91]? = some (0, 6) := rfl
theorem ly92 : jLAY[92]? = some (0, 56) := rfl
theorem ly93 : jLAY[93]? = some (2, 2) := rfl
theorem ly94 : jLAY[94]? = some (0, 2) := rfl
section JXR
variable {d : Nat} {bl : jx_B} {pc a b c d0 : Nat} {x : Int32} {L : List (Int32 × Nat)} {r : List jx_E} {ls ls' st : List Value} {h : jx_H} {Q : Option Value → jx_H → Prop} {S : jS} {σ : jT}
theorem xo_0 {v : Int32} (hl : ls[a]? = some (.int v)) (k : jx_Ex d bl r ls (.int v :: st) h Q) : jx_Ex d bl ((pc, 0, (a, b, c, d0), x, L) :: r) ls st h Q := jx_Ex.next (by simp only [jx_s, hl]; rfl) k
theorem xo_1 {v : Int32} (hl : ls[a]? = some (.int v)) (k : jx_Ex d bl r ls (.int v :: st) h Q) : jx_Ex d bl ((pc, 1, (a, b, c, d0), x, L) :: r) ls st h Q := jx_Ex.next (by simp only [jx_s, hl]; rfl) k
theorem xo_2 {v : Nat} (hl : ls[a]? = some (.ref v)) (k : jx_Ex d bl r ls (.ref v :: st) h Q) : jx_Ex d bl ((pc, 2, (a, b, c, d0), x, L) :: r) ls st h Q := jx_Ex.next (by simp only [jx_s, hl]; rfl) k
theorem xo_3 {v : Nat} (hl : ls[a]? = some (.ref v)) (k : jx_Ex d bl r ls (.ref v :: st) h Q) : jx_Ex d bl ((pc, 3, (a, b, c, d0), x, L) :: r) ls st h Q := jx_Ex.next (by simp only [jx_s, hl]; rfl) k
theorem xo_4 {v : Int32} (hl : ls.set a (.int v) = ls') (k : jx_Ex d bl r ls' st h Q) : jx_Ex d bl ((pc, 4, (a, b, c, d0), x, L) :: r) ls (.int v :: st) h Q := jx_Ex.next (by simp only [jx_s, hl]; rfl) k
theorem xo_5 {v : Int32} (hl : ls.set a (.int v) = ls') (k : jx_Ex d bl r ls' st h Q) : jx_Ex d bl ((pc, 5, (a, b, c, d0), x, L) :: r) ls (.int v :: st) h Q := jx_Ex.next (by simp only [jx_s, hl]; rfl) k
theorem xo_6 {v : Nat} (hl : ls.set a (.ref v) = ls') (k : jx_Ex d bl r ls' st h Q) : jx_Ex d bl ((pc, 6, (a, b, c, d0), x, L) :: r) ls (.ref v :: st) h Q := jx_Ex.next (by simp only [jx_s, hl]; rfl) k
theorem xo_7 {v : Nat} (hl : ls.set a (.ref v) = ls') (k : jx_Ex d bl r ls' st h Q) : jx_Ex d bl ((pc, 7, (a, b, c, d0), x, L) :: r) ls (.ref v :: st) h Q := jx_Ex.next (by simp only [jx_s, hl]; rfl) k
theorem xo_8  (k : jx_Ex d bl r ls (.int x :: st) h Q) : jx_Ex d bl ((pc, 8, (a, b, c, d0), x, L) :: r) ls st h Q := jx_Ex.next (rfl) k
theorem xo_9  (k : jx_Ex d bl r ls (.int x :: st) h Q) : jx_Ex d bl ((pc, 9, (a, b, c, d0), x, L) :: r) ls st h Q := jx_Ex.next (rfl) k
theorem xo_10  (k : jx_Ex d bl r ls (.int x :: st) h Q) : jx_Ex d bl ((pc, 10, (a, b, c, d0), x, L) :: r) ls st h Q := jx_Ex.next (rfl) k
theorem xo_11  (k : jx_Ex d bl r ls (.int x :: st) h Q) : jx_Ex d bl ((pc, 11, (a, b, c, d0), x, L) :: r) ls st h Q := jx_Ex.next (rfl) k
theorem xo_12  (k : jx_Ex d bl r ls (.int x :: st) h Q) : jx_Ex d bl ((pc, 12, (a, b, c, d0), x, L) :: r) ls st h Q := jx_Ex.next (rfl) k
theorem xo_13 {v : Int32} (hl : ls[a]? = some (.int v)) (hl' : ls.set a (.int (v + x)) = ls') (k : jx_Ex d bl r ls' st h Q) : jx_Ex d bl ((pc, 13, (a, b, c, d0), x, L) :: r) ls st h Q := jx_Ex.next (by simp only [jx_s, hl, hl']; rfl) k
theorem xo_14 {y z : Int32} (k : jx_Ex d bl r ls (.int (z + y) :: st) h Q) : jx_Ex d bl ((pc, 14, (a, b, c, d0), x, L) :: r) ls (.int y :: .int z :: st) h Q := jx_Ex.next (rfl) k
theorem xo_15 {y z : Int32} (k : jx_Ex d bl r ls (.int (z - y) :: st) h Q) : jx_Ex d bl ((pc, 15, (a, b, c, d0), x, L) :: r) ls (.int y :: .int z :: st) h Q := jx_Ex.next (rfl) k
theorem xo_16 {y z : Int32} (k : jx_Ex d bl r ls (.int (z * y) :: st) h Q) : jx_Ex d bl ((pc, 16, (a, b, c, d0), x, L) :: r) ls (.int y :: .int z :: st) h Q := jx_Ex.next (rfl) k
theorem xo_20 {y z : Int32} (k : jx_Ex d bl r ls (.int (z &&& y) :: st) h Q) : jx_Ex d bl ((pc, 20, (a, b, c, d0), x, L) :: r) ls (.int y :: .int z :: st) h Q := jx_Ex.next (rfl) k
theorem xo_21 {y z : Int32} (k : jx_Ex d bl r ls (.int (z ||| y) :: st) h Q) : jx_Ex d bl ((pc, 21, (a, b, c, d0), x, L) :: r) ls (.int y :: .int z :: st) h Q := jx_Ex.next (rfl) k
theorem xo_22 {y z : Int32} (k : jx_Ex d bl r ls (.int (z ^^^ y) :: st) h Q) : jx_Ex d bl ((pc, 22, (a, b, c, d0), x, L) :: r) ls (.int y :: .int z :: st) h Q := jx_Ex.next (rfl) k
theorem xo_23 {y z : Int32} (k : jx_Ex d bl r ls (.int (z <<< (y &&& 31)) :: st) h Q) : jx_Ex d bl ((pc, 23, (a, b, c, d0), x, L) :: r) ls (.int y :: .int z :: st) h Q := jx_Ex.next (rfl) k
theorem xo_24 {y z : Int32} (k : jx_Ex d bl r ls (.int (z >>> (y &&& 31)) :: st) h Q) : jx_Ex d bl ((pc, 24, (a, b, c, d0), x, L) :: r) ls (.int y :: .int z :: st) h Q := jx_Ex.next (rfl) k
theorem xo_25 {y z : Int32} (k : jx_Ex d bl r ls (.int ((z.toUInt32 >>> (y.toUInt32 &&& Int32.toUInt32 31)).toInt32) :: st) h Q) : jx_Ex d bl ((pc, 25, (a, b, c, d0), x, L) :: r) ls (.int y :: .int z :: st) h Q := jx_Ex.next (rfl) k
theorem xo_72 {y z : Int32} (h8 : jx_c8 st) (k : jx_Ex d bl r ls (.int (jx_max z y) :: st) h Q) : jx_Ex d bl ((pc, 72, (a, b, c, d0), x, L) :: r) ls (.int y :: .int z :: st) h Q := jx_Ex.next (by simp only [jx_s, if_pos h8]; rfl) k
theorem xo_73 {y z : Int32} (h8 : jx_c8 st) (k : jx_Ex d bl r ls (.int (jx_min z y) :: st) h Q) : jx_Ex d bl ((pc, 73, (a, b, c, d0), x, L) :: r) ls (.int y :: .int z :: st) h Q := jx_Ex.next (by simp only [jx_s, if_pos h8]; rfl) k
theorem xo_17 {y z : Int32} (hy : ¬ y = 0) (k : jx_Ex d bl r ls (.int (z / y) :: st) h Q) : jx_Ex d bl ((pc, 17, (a, b, c, d0), x, L) :: r) ls (.int y :: .int z :: st) h Q := jx_Ex.next (by simp only [jx_s, if_neg hy]; rfl) k
theorem xo_18 {y z : Int32} (hy : ¬ y = 0) (k : jx_Ex d bl r ls (.int (z - z / y * y) :: st) h Q) : jx_Ex d bl ((pc, 18, (a, b, c, d0), x, L) :: r) ls (.int y :: .int z :: st) h Q := jx_Ex.next (by simp only [jx_s, if_neg hy]; rfl) k
theorem xo_19 {y : Int32} (k : jx_Ex d bl r ls (.int (-y) :: st) h Q) : jx_Ex d bl ((pc, 19, (a, b, c, d0), x, L) :: r) ls (.int y :: st) h Q := jx_Ex.next (rfl) k
theorem xo_26 {y : Int32} (k : jx_Ex d bl r ls (.int (y.toInt8.toInt32) :: st) h Q) : jx_Ex d bl ((pc, 26, (a, b, c, d0), x, L) :: r) ls (.int y :: st) h Q := jx_Ex.next (rfl) k
theorem xo_27 {y : Int32} (k : jx_Ex d bl r ls (.int (y.toInt16.toInt32) :: st) h Q) : jx_Ex d bl ((pc, 27, (a, b, c, d0), x, L) :: r) ls (.int y :: st) h Q := jx_Ex.next (rfl) k
theorem xo_28i {y : Int32} (k : jx_Ex d bl r ls (.int y :: .int y :: st) h Q) : jx_Ex d bl ((pc, 28, (a, b, c, d0), x, L) :: r) ls (.int y :: st) h Q := jx_Ex.next rfl k
theorem xo_28r {y : Nat} (k : jx_Ex d bl r ls (.ref y :: .ref y :: st) h Q) : jx_Ex d bl ((pc, 28, (a, b, c, d0), x, L) :: r) ls (.ref y :: st) h Q := jx_Ex.next rfl k
theorem xo_29 {y : Int32} {z : Nat} (k : jx_Ex d bl r ls (.int y :: .ref z :: .int y :: .ref z :: st) h Q) : jx_Ex d bl ((pc, 29, (a, b, c, d0), x, L) :: r) ls (.int y :: .ref z :: st) h Q := jx_Ex.next (rfl) k
theorem xo_30 {y : Int32} {z : Nat} (k : jx_Ex d bl r ls (.int y :: .ref z :: .int y :: st) h Q) : jx_Ex d bl ((pc, 30, (a, b, c, d0), x, L) :: r) ls (.int y :: .ref z :: st) h Q := jx_Ex.next (rfl) k
theorem xo_31 {y : Int32} (k : jx_Ex d bl r ls st h Q) : jx_Ex d bl ((pc, 31, (a, b, c, d0), x, L) :: r) ls (.int y :: st) h Q := jx_Ex.next (rfl) k
theorem xo_54 {t : List jx_E} (hb : jx_at bl a = t) (k : jx_Ex d bl t ls st h Q) : jx_Ex d bl ((pc, 54, (a, b, c, d0), x, L) :: r) ls st h Q := jx_Ex.next (by simp only [jx_s, hb]; rfl) k
theorem xo_55 {z : Int32} {t : List jx_E} (hb : jx_at bl a = t) (kt : z = 0 → jx_Ex d bl t ls st h Q) (kf : ¬ (z = 0) → jx_Ex d bl r ls st h Q) : jx_Ex d bl ((pc, 55, (a, b, c, d0), x, L) :: r) ls (.int z :: st) h Q := by
  subst hb
  by_cases hc : z = 0
  · exact jx_Ex.next (by simp only [jx_s, if_pos hc]; rfl) (kt hc)
  · exact jx_Ex.next (by simp only [jx_s, if_neg hc]; rfl) (kf hc)
theorem xo_61 {y z : Int32} {t : List jx_E} (hb : jx_at bl a = t) (kt : z = y → jx_Ex d bl t ls st h Q) (kf : ¬ (z = y) → jx_Ex d bl r ls st h Q) : jx_Ex d bl ((pc, 61, (a, b, c, d0), x, L) :: r) ls (.int y :: .int z :: st) h Q := by
  subst hb
  by_cases hc : z = y
  · exact jx_Ex.next (by simp only [jx_s, if_pos hc]; rfl) (kt hc)
  · exact jx_Ex.next (by simp only [jx_s, if_neg hc]; rfl) (kf hc)
theorem xo_56 {z : Int32} {t : List jx_E} (hb : jx_at bl a = t) (kt : ¬ z = 0 → jx_Ex d bl t ls st h Q) (kf : ¬ (¬ z = 0) → jx_Ex d bl r ls st h Q) : jx_Ex d bl ((pc, 56, (a, b, c, d0), x, L) :: r) ls (.int z :: st) h Q := by
  subst hb
  by_cases hc : ¬ z = 0
  · exact jx_Ex.next (by simp only [jx_s, if_pos hc]; rfl) (kt hc)
  · exact jx_Ex.next (by simp only [jx_s, if_neg hc]; rfl) (kf hc)
theorem xo_62 {y z : Int32} {t : List jx_E} (hb : jx_at bl a = t) (kt : ¬ z = y → jx_Ex d bl t ls st h Q) (kf : ¬ (¬ z = y) → jx_Ex d bl r ls st h Q) : jx_Ex d bl ((pc, 62, (a, b, c, d0), x, L) :: r) ls (.int y :: .int z :: st) h Q := by
  subst hb
  by_cases hc : ¬ z = y
  · exact jx_Ex.next (by simp only [jx_s, if_pos hc]; rfl) (kt hc)
  · exact jx_Ex.next (by simp only [jx_s, if_neg hc]; rfl) (kf hc)
theorem xo_57 {z : Int32} {t : List jx_E} (hb : jx_at bl a = t) (kt : z < 0 → jx_Ex d bl t ls st h Q) (kf : ¬ (z < 0) → jx_Ex d bl r ls st h Q) : jx_Ex d bl ((pc, 57, (a, b, c, d0), x, L) :: r) ls (.int z :: st) h Q := by
  subst hb
  by_cases hc : z < 0
  · exact jx_Ex.next (by simp only [jx_s, if_pos hc]; rfl) (kt hc)
  · exact jx_Ex.next (by simp only [jx_s, if_neg hc]; rfl) (kf hc)
theorem xo_63 {y z : Int32} {t : List jx_E} (hb : jx_at bl a = t) (kt : z < y → jx_Ex d bl t ls st h Q) (kf : ¬ (z < y) → jx_Ex d bl r ls st h Q) : jx_Ex d bl ((pc, 63, (a, b, c, d0), x, L) :: r) ls (.int y :: .int z :: st) h Q := by
  subst hb
  by_cases hc : z < y
  · exact jx_Ex.next (by simp only [jx_s, if_pos hc]; rfl) (kt hc)
  · exact jx_Ex.next (by simp only [jx_s, if_neg hc]; rfl) (kf hc)
theorem xo_58 {z : Int32} {t : List jx_E} (hb : jx_at bl a = t) (kt : 0 ≤ z → jx_Ex d bl t ls st h Q) (kf : ¬ (0 ≤ z) → jx_Ex d bl r ls st h Q) : jx_Ex d bl ((pc, 58, (a, b, c, d0), x, L) :: r) ls (.int z :: st) h Q := by
  subst hb
  by_cases hc : 0 ≤ z
  · exact jx_Ex.next (by simp only [jx_s, if_pos hc]; rfl) (kt hc)
  · exact jx_Ex.next (by simp only [jx_s, if_neg hc]; rfl) (kf hc)
theorem xo_64 {y z : Int32} {t : List jx_E} (hb : jx_at bl a = t) (kt : y ≤ z → jx_Ex d bl t ls st h Q) (kf : ¬ (y ≤ z) → jx_Ex d bl r ls st h Q) : jx_Ex d bl ((pc, 64, (a, b, c, d0), x, L) :: r) ls (.int y :: .int z :: st) h Q := by
  subst hb
  by_cases hc : y ≤ z
  · exact jx_Ex.next (by simp only [jx_s, if_pos hc]; rfl) (kt hc)
  · exact jx_Ex.next (by simp only [jx_s, if_neg hc]; rfl) (kf hc)
theorem xo_59 {z : Int32} {t : List jx_E} (hb : jx_at bl a = t) (kt : 0 < z → jx_Ex d bl t ls st h Q) (kf : ¬ (0 < z) → jx_Ex d bl r ls st h Q) : jx_Ex d bl ((pc, 59, (a, b, c, d0), x, L) :: r) ls (.int z :: st) h Q := by
  subst hb
  by_cases hc : 0 < z
  · exact jx_Ex.next (by simp only [jx_s, if_pos hc]; rfl) (kt hc)
  · exact jx_Ex.next (by simp only [jx_s, if_neg hc]; rfl) (kf hc)
theorem xo_65 {y z : Int32} {t : List jx_E} (hb : jx_at bl a = t) (kt : y < z → jx_Ex d bl t ls st h Q) (kf : ¬ (y < z) → jx_Ex d bl r ls st h Q) : jx_Ex d bl ((pc, 65, (a, b, c, d0), x, L) :: r) ls (.int y :: .int z :: st) h Q := by
  subst hb
  by_cases hc : y < z
  · exact jx_Ex.next (by simp only [jx_s, if_pos hc]; rfl) (kt hc)
  · exact jx_Ex.next (by simp only [jx_s, if_neg hc]; rfl) (kf hc)
theorem xo_60 {z : Int32} {t : List jx_E} (hb : jx_at bl a = t) (kt : z ≤ 0 → jx_Ex d bl t ls st h Q) (kf : ¬ (z ≤ 0) → jx_Ex d bl r ls st h Q) : jx_Ex d bl ((pc, 60, (a, b, c, d0), x, L) :: r) ls (.int z :: st) h Q := by
  subst hb
  by_cases hc : z ≤ 0
  · exact jx_Ex.next (by simp only [jx_s, if_pos hc]; rfl) (kt hc)
  · exact jx_Ex.next (by simp only [jx_s, if_neg hc]; rfl) (kf hc)
theorem xo_66 {y z : Int32} {t : List jx_E} (hb : jx_at bl a = t) (kt : z ≤ y → jx_Ex d bl t ls st h Q) (kf : ¬ (z ≤ y) → jx_Ex d bl r ls st h Q) : jx_Ex d bl ((pc, 66, (a, b, c, d0), x, L) :: r) ls (.int y :: .int z :: st) h Q := by
  subst hb
  by_cases hc : z ≤ y
  · exact jx_Ex.next (by simp only [jx_s, if_pos hc]; rfl) (kt hc)
  · exact jx_Ex.next (by simp only [jx_s, if_neg hc]; rfl) (kf hc)
theorem xo_67 {z : Int32} (k : jx_Ex d bl (jx_at bl (jx_lk L z a)) ls st h Q) : jx_Ex d bl ((pc, 67, (a, b, c, d0), x, L) :: r) ls (.int z :: st) h Q := jx_Ex.next (rfl) k
theorem xo_68 {z : Int32} (k : jx_Ex d bl (jx_at bl (jx_lk L z a)) ls st h Q) : jx_Ex d bl ((pc, 68, (a, b, c, d0), x, L) :: r) ls (.int z :: st) h Q := jx_Ex.next (rfl) k
theorem xo_swc {z v : Int32} {t : Nat} {tb : List jx_E} (hb : jx_at bl t = tb) (kt : z = v → jx_Ex d bl tb ls st h Q) (kf : ¬ z = v → jx_Ex d bl (jx_at bl (jx_lk L z a)) ls st h Q) : jx_Ex d bl (jx_at bl (jx_lk ((v, t) :: L) z a)) ls st h Q := by
  subst hb
  by_cases hc : z = v
  · simp only [jx_lk, if_pos hc]; exact kt hc
  · simp only [jx_lk, if_neg hc]; exact kf hc
theorem xo_sws {z v : Int32} (hn : L.all (fun q => decide (q.1 ≠ v)) = true) (k : jx_Ex d bl (jx_at bl (jx_lk L z a)) ls st h Q) : jx_Ex d bl (jx_at bl (jx_lk ((v, a) :: L) z a)) ls st h Q := by
  by_cases hc : z = v
  · subst hc
    have e : ∀ (L : List (Int32 × Nat)), L.all (fun q => decide (q.1 ≠ z)) = true → jx_lk L z a = a := by
      intro L
      induction L with
      | nil => intro _; rfl
      | cons q L ih =>
        intro hq
        simp only [List.all_cons, Bool.and_eq_true, decide_eq_true_eq] at hq
        simp only [jx_lk, if_neg (Ne.symm hq.1)]
        exact ih hq.2
    rw [e L hn] at k
    simp only [jx_lk, if_pos]
    exact k
  · simp only [jx_lk, if_neg hc]; exact k
theorem xo_swn {z : Int32} {tb : List jx_E} (hb : jx_at bl a = tb) (k : jx_Ex d bl tb ls st h Q) : jx_Ex d bl (jx_at bl (jx_lk [] z a)) ls st h Q := by
  subst hb; exact k
theorem xo_69 {z : Int32} (hq : Q (some (.int z)) h) : jx_Ex d bl ((pc, 69, (a, b, c, d0), x, L) :: r) ls [.int z] h Q := jx_Ex.ret rfl hq
theorem xo_70 {z : Int32} (hz : z = 0 ∨ z = 1) (hq : Q (some (.int z)) h) : jx_Ex d bl ((pc, 70, (a, b, c, d0), x, L) :: r) ls [.int z] h Q := jx_Ex.ret (by simp only [jx_s, if_pos hz]) hq
theorem xo_71 (hq : Q none h) : jx_Ex d bl ((pc, 71, (a, b, c, d0), x, L) :: r) ls [] h Q := jx_Ex.ret rfl hq
theorem xo_49 {o : Nat} {as st' : List Value} (ht : (st.take b).reverse = .ref o :: as) (hd : st.drop b = st') (ho : h.1[o]? = some (10 + c, jx_N c)) (hl : as.length + 1 = b) (h8 : jx_c8 st') (k : jx_Sp d a (.ref o :: as) h (fun v h1 => jx_Ex (d + 1) bl r ls (v.toList ++ st') h1 Q)) : jx_Ex (d + 1) bl ((pc, 49, (a, b, c, d0), x, L) :: r) ls st h Q := by
  subst hd
  exact jx_Ex.call (by simp only [jx_s, ht]; rw [if_pos ⟨ho, hl, h8⟩]) k
theorem xo_50 {as st' : List Value} (ht : (st.take b).reverse = as) (hd : st.drop b = st') (hl : (st.take b).length = b) (h8 : jx_c8 st') (k : jx_Sp d a as h (fun v h1 => jx_Ex (d + 1) bl r ls (v.toList ++ st') h1 Q)) : jx_Ex (d + 1) bl ((pc, 50, (a, b, c, d0), x, L) :: r) ls st h Q := by
  subst hd ht
  exact jx_Ex.call (by simp only [jx_s]; rw [if_pos ⟨hl, h8⟩]) k
/-! rows and fields of a side -/
theorem jh_g {i : Nat} (hb : 64 * S.1 ≤ i ∧ i < 64 * S.2.1) : (jh S σ).2.2.1 i = σ.1 i := if_pos hb
theorem jh_a {o : Nat} (hb : S.1 ≤ o ∧ o < S.2.1) : (jh S σ).2.2.2 o = σ.2 o := by funext j; exact if_pos hb
theorem jh_gs {i : Nat} {v : Int32} (hb : 64 * S.1 ≤ i ∧ i < 64 * S.2.1) : ((jh S σ).1, (jh S σ).2.1, jx_up (jh S σ).2.2.1 i v, (jh S σ).2.2.2) = jh S (gs σ i v) := by
  have : jx_up (jh S σ).2.2.1 i v = (jh S (gs σ i v)).2.2.1 := by
    funext j
    by_cases hj : j = i
    · subst hj; simp [jx_up, jh, gs, hb]
    · simp [jx_up, jh, gs, hj]
  rw [this]
  rfl
theorem jh_gA {o i : Nat} {v : Int32} (hb : S.1 ≤ o ∧ o < S.2.1) : ((jh S σ).1, (jh S σ).2.1, (jh S σ).2.2.1, jx_up2 (jh S σ).2.2.2 o i v) = jh S (gA σ o i v) := by
  have : jx_up2 (jh S σ).2.2.2 o i v = (jh S (gA σ o i v)).2.2.2 := by
    funext p j
    by_cases hj : p = o ∧ j = i
    · obtain ⟨rfl, rfl⟩ := hj; simp [jx_up2, jh, gA, hb]
    · simp [jx_up2, jh, gA, hj]
  rw [this]
  rfl
theorem xc_ly {o : Nat} {q : Nat × Nat} (hS : jCok S) (hl : jLAY[o]? = some q) : (jh S σ).1[o]? = some q := by
  have ho : o < 95 := by
    have := (List.getElem?_eq_some_iff.mp hl).1
    simpa [jLAY] using this
  exact (hS.2.2.1 o ho).trans hl
theorem xc_32 {o i : Nat} {v : Int32} (hS : jCok S) (hl : jLAY[o]? = some (10 + a, jx_N a)) (hi : 64 * o + b = i) (hb : 0 ≤ i ∧ i < 4160) (hv : σ.1 i = v) (k : jx_Ex d bl r ls (.int v :: st) (jh S σ) Q) : jx_Ex d bl ((pc, 32, (a, b, c, d0), x, L) :: r) ls (.ref o :: st) (jh S σ) Q := by
  subst hi hv
  exact jx_Ex.next (by simp only [jx_s]; rw [if_pos (xc_ly hS hl), jh_g ⟨by rw [hS.1]; omega, by rw [hS.2.1]; omega⟩]; rfl) k
theorem xc_33 {o i q : Nat} (hS : jCok S) (hl : jLAY[o]? = some (10 + a, jx_N a)) (hi : 64 * o + b = i) (hp : S.2.2.2.1 i = .ref q) (k : jx_Ex d bl r ls (.ref q :: st) (jh S σ) Q) : jx_Ex d bl ((pc, 33, (a, b, c, d0), x, L) :: r) ls (.ref o :: st) (jh S σ) Q := by
  subst hi
  exact jx_Ex.next (by simp only [jx_s]; rw [if_pos (xc_ly hS hl)]; show some (Sum.inl (r, ls, S.2.2.2.1 (64 * o + b) :: st, jh S σ)) = _; rw [hp]) k
theorem xc_34 {o i : Nat} {v : Int32} (hS : jCok S) (hl : jLAY[o]? = some (10 + a, jx_N a)) (hi : 64 * o + b = i) (hb : 0 ≤ i ∧ i < 4160) (k : jx_Ex d bl r ls st (jh S (gs σ i v)) Q) : jx_Ex d bl ((pc, 34, (a, b, c, d0), x, L) :: r) ls (.int v :: .ref o :: st) (jh S σ) Q := by
  subst hi
  exact jx_Ex.next (by simp only [jx_s]; rw [if_pos (xc_ly hS hl), jh_gs ⟨by rw [hS.1]; omega, by rw [hS.2.1]; omega⟩]; rfl) k
theorem xc_35 {o i : Nat} {v : Int32} (hS : jCok S) (hl : jLAY[o]? = some (10 + a, jx_N a)) (hi : 64 * o + b = i) (hb : 0 ≤ i ∧ i < 4160) (hz : v = 0 ∨ v = 1) (k : jx_Ex d bl r ls st (jh S (gs σ i v)) Q) : jx_Ex d bl ((pc, 35, (a, b, c, d0), x, L) :: r) ls (.int v :: .ref o :: st) (jh S σ) Q := by
  subst hi
  exact jx_Ex.next (by simp only [jx_s]; rw [if_pos ⟨xc_ly hS hl, hz⟩, jh_gs ⟨by rw [hS.1]; omega, by rw [hS.2.1]; omega⟩]; rfl) k
theorem xc_38 {o n j : Nat} {i v : Int32} (hS : jCok S) (hl : jLAY[o]? = some (0, n)) (hb : 0 ≤ o ∧ o < 65) (hin : jx_in i n) (hj : i.toNatClampNeg = j) (hv : σ.2 o j = v) (k : jx_Ex d bl r ls (.int v :: st) (jh S σ) Q) : jx_Ex d bl ((pc, 38, (a, b, c, d0), x, L) :: r) ls (.int i :: .ref o :: st) (jh S σ) Q := by
  subst hj hv
  exact jx_Ex.next (by simp only [jx_s, xc_ly (σ := σ) hS hl]; rw [if_pos hin, jh_a ⟨by rw [hS.1]; omega, by rw [hS.2.1]; omega⟩]; rfl) k
theorem xc_39 {o n j : Nat} {i v : Int32} (hS : jCok S) (hl : jLAY[o]? = some (1, n) ∨ jLAY[o]? = some (2, n)) (hb : 0 ≤ o ∧ o < 65) (hin : jx_in i n) (hj : i.toNatClampNeg = j) (hv : σ.2 o j = v) (k : jx_Ex d bl r ls (.int v :: st) (jh S σ) Q) : jx_Ex d bl ((pc, 39, (a, b, c, d0), x, L) :: r) ls (.int i :: .ref o :: st) (jh S σ) Q := by
  subst hj hv
  rcases hl with hl | hl <;> exact jx_Ex.next (by simp only [jx_s, xc_ly (σ := σ) hS hl]; rw [if_pos hin, jh_a ⟨by rw [hS.1]; omega, by rw [hS.2.1]; omega⟩]; rfl) k
theorem xc_41 {o n j : Nat} {i v : Int32} (hS : jCok S) (hl : jLAY[o]? = some (0, n)) (hb : 0 ≤ o ∧ o < 65) (hin : jx_in i n) (hj : i.toNatClampNeg = j) (k : jx_Ex d bl r ls st (jh S (gA σ o j v)) Q) : jx_Ex d bl ((pc, 41, (a, b, c, d0), x, L) :: r) ls (.int v :: .int i :: .ref o :: st) (jh S σ) Q := by
  subst hj
  exact jx_Ex.next (by simp only [jx_s, xc_ly (σ := σ) hS hl]; rw [if_pos hin]; rw [jh_gA ⟨by rw [hS.1]; omega, by rw [hS.2.1]; omega⟩]; rfl) k
theorem xc_42b {o n j : Nat} {i v : Int32} (hS : jCok S) (hl : jLAY[o]? = some (1, n)) (hb : 0 ≤ o ∧ o < 65) (hin : jx_in i n) (hj : i.toNatClampNeg = j) (k : jx_Ex d bl r ls st (jh S (gA σ o j v.toInt8.toInt32)) Q) : jx_Ex d bl ((pc, 42, (a, b, c, d0), x, L) :: r) ls (.int v :: .int i :: .ref o :: st) (jh S σ) Q := by
  subst hj
  exact jx_Ex.next (by simp only [jx_s, xc_ly (σ := σ) hS hl]; rw [if_pos hin]; rw [jh_gA ⟨by rw [hS.1]; omega, by rw [hS.2.1]; omega⟩]; rfl) k
theorem xc_42z {o n j : Nat} {i v : Int32} (hS : jCok S) (hl : jLAY[o]? = some (2, n)) (hb : 0 ≤ o ∧ o < 65) (hin : jx_in i n) (hj : i.toNatClampNeg = j) (k : jx_Ex d bl r ls st (jh S (gA σ o j (v &&& 1))) Q) : jx_Ex d bl ((pc, 42, (a, b, c, d0), x, L) :: r) ls (.int v :: .int i :: .ref o :: st) (jh S σ) Q := by
  subst hj
  exact jx_Ex.next (by simp only [jx_s, xc_ly (σ := σ) hS hl]; rw [if_pos hin]; rw [jh_gA ⟨by rw [hS.1]; omega, by rw [hS.2.1]; omega⟩]; rfl) k
theorem xc_44 {o n q j : Nat} {i : Int32} (hS : jCok S) (hl : jLAY[o]? = some (4, n)) (hn : n ≤ 64) (hin : jx_in i n) (hj : 64 * o + i.toNatClampNeg = j) (hp : S.2.2.2.1 j = .ref q) (k : jx_Ex d bl r ls (.ref q :: st) (jh S σ) Q) : jx_Ex d bl ((pc, 44, (a, b, c, d0), x, L) :: r) ls (.int i :: .ref o :: st) (jh S σ) Q := by
  subst hj
  have hp2 : (jh S σ).2.1 (64 * o + i.toNatClampNeg) = .ref q := hp
  exact jx_Ex.next (by simp only [jx_s, xc_ly (σ := σ) hS hl]; rw [if_pos ⟨hin, hn⟩]; simp only [hp2]; rfl) k
theorem xc_53 {o q n0 n1 sp' dp' n' : Nat} {sp dp n : Int32} (hS : jCok S) (hl : jLAY[o]? = some (0, n0)) (hl' : jLAY[q]? = some (0, n1)) (hbo : 0 ≤ o ∧ o < 65) (hb : 0 ≤ q ∧ q < 65) (h1 : ¬ sp < 0 ∧ ¬ dp < 0 ∧ ¬ n < 0) (e1 : sp.toNatClampNeg = sp') (e2 : dp.toNatClampNeg = dp') (e3 : n.toNatClampNeg = n') (h4 : sp' + n' ≤ n0) (h5 : dp' + n' ≤ n1) (h8 : jx_c8 st) (k : jx_Ex d bl r ls st (jh S (gC σ o q sp' dp' n')) Q) : jx_Ex d bl ((pc, 53, (a, b, c, d0), x, L) :: r) ls (.int n :: .int dp :: .ref q :: .int sp :: .ref o :: st) (jh S σ) Q := by
  subst e1 e2 e3
  have hh : ((jh S σ).1, (jh S σ).2.1, (jh S σ).2.2.1, fun z => if z = q then va_cpy ((jh S σ).2.2.2 o) ((jh S σ).2.2.2 q) sp.toNatClampNeg dp.toNatClampNeg n.toNatClampNeg else (jh S σ).2.2.2 z) = jh S (gC σ o q sp.toNatClampNeg dp.toNatClampNeg n.toNatClampNeg) := by
    have e0 : (jh S σ).2.2.2 o = σ.2 o := jh_a ⟨by rw [hS.1]; omega, by rw [hS.2.1]; omega⟩
    have e1 : (jh S σ).2.2.2 q = σ.2 q := jh_a ⟨by rw [hS.1]; omega, by rw [hS.2.1]; omega⟩
    have : (fun z => if z = q then va_cpy ((jh S σ).2.2.2 o) ((jh S σ).2.2.2 q) sp.toNatClampNeg dp.toNatClampNeg n.toNatClampNeg else (jh S σ).2.2.2 z) = (jh S (gC σ o q sp.toNatClampNeg dp.toNatClampNeg n.toNatClampNeg)).2.2.2 := by
      funext z j
      by_cases hz : z = q
      · subst hz
        rw [e0, e1]
        have hbz : S.1 ≤ z ∧ z < S.2.1 := ⟨by rw [hS.1]; omega, by rw [hS.2.1]; omega⟩
        simp [jh, gC, hbz]
      · simp [jh, gC, hz]
    rw [this]
    rfl
  exact jx_Ex.next (by simp only [jx_s, xc_ly (σ := σ) hS hl, xc_ly (σ := σ) hS hl']; rw [if_pos ⟨h1.1, h1.2.1, h1.2.2, h4, h5, h8⟩]; rw [hh]; rfl) k
theorem xc_P {i q : Nat} (hS : jCok S) (h : jPtab.any (fun p => decide (p = (i, q))) = true) : S.2.2.2.1 i = .ref q := by
  obtain ⟨p, hp, he⟩ := List.any_eq_true.mp h
  have := hS.2.2.2 p hp
  rw [of_decide_eq_true he] at this
  exact this
theorem xm_ly {o : Nat} {q : Nat × Nat} (hS : jMok S) (hl : jLAY[o]? = some q) : (jh S σ).1[o]? = some q := by
  have ho : o < 95 := by
    have := (List.getElem?_eq_some_iff.mp hl).1
    simpa [jLAY] using this
  exact (hS.2.2.1 o ho).trans hl
theorem xm_32 {o i : Nat} {v : Int32} (hS : jMok S) (hl : jLAY[o]? = some (10 + a, jx_N a)) (hi : 64 * o + b = i) (hb : 4160 ≤ i ∧ i < 6080) (hv : σ.1 i = v) (k : jx_Ex d bl r ls (.int v :: st) (jh S σ) Q) : jx_Ex d bl ((pc, 32, (a, b, c, d0), x, L) :: r) ls (.ref o :: st) (jh S σ) Q := by
  subst hi hv
  exact jx_Ex.next (by simp only [jx_s]; rw [if_pos (xm_ly hS hl), jh_g ⟨by rw [hS.1]; omega, by rw [hS.2.1]; omega⟩]; rfl) k
theorem xm_33 {o i q : Nat} (hS : jMok S) (hl : jLAY[o]? = some (10 + a, jx_N a)) (hi : 64 * o + b = i) (hp : S.2.2.2.1 i = .ref q) (k : jx_Ex d bl r ls (.ref q :: st) (jh S σ) Q) : jx_Ex d bl ((pc, 33, (a, b, c, d0), x, L) :: r) ls (.ref o :: st) (jh S σ) Q := by
  subst hi
  exact jx_Ex.next (by simp only [jx_s]; rw [if_pos (xm_ly hS hl)]; show some (Sum.inl (r, ls, S.2.2.2.1 (64 * o + b) :: st, jh S σ)) = _; rw [hp]) k
theorem xm_34 {o i : Nat} {v : Int32} (hS : jMok S) (hl : jLAY[o]? = some (10 + a, jx_N a)) (hi : 64 * o + b = i) (hb : 4160 ≤ i ∧ i < 6080) (k : jx_Ex d bl r ls st (jh S (gs σ i v)) Q) : jx_Ex d bl ((pc, 34, (a, b, c, d0), x, L) :: r) ls (.int v :: .ref o :: st) (jh S σ) Q := by
  subst hi
  exact jx_Ex.next (by simp only [jx_s]; rw [if_pos (xm_ly hS hl), jh_gs ⟨by rw [hS.1]; omega, by rw [hS.2.1]; omega⟩]; rfl) k
theorem xm_35 {o i : Nat} {v : Int32} (hS : jMok S) (hl : jLAY[o]? = some (10 + a, jx_N a)) (hi : 64 * o + b = i) (hb : 4160 ≤ i ∧ i < 6080) (hz : v = 0 ∨ v = 1) (k : jx_Ex d bl r ls st (jh S (gs σ i v)) Q) : jx_Ex d bl ((pc, 35, (a, b, c, d0), x, L) :: r) ls (.int v :: .ref o :: st) (jh S σ) Q := by
  subst hi
  exact jx_Ex.next (by simp only [jx_s]; rw [if_pos ⟨xm_ly hS hl, hz⟩, jh_gs ⟨by rw [hS.1]; omega, by rw [hS.2.1]; omega⟩]; rfl) k
theorem xm_38 {o n j : Nat} {i v : Int32} (hS : jMok S) (hl : jLAY[o]? = some (0, n)) (hb : 65 ≤ o ∧ o < 95) (hin : jx_in i n) (hj : i.toNatClampNeg = j) (hv : σ.2 o j = v) (k : jx_Ex d bl r ls (.int v :: st) (jh S σ) Q) : jx_Ex d bl ((pc, 38, (a, b, c, d0), x, L) :: r) ls (.int i :: .ref o :: st) (jh S σ) Q := by
  subst hj hv
  exact jx_Ex.next (by simp only [jx_s, xm_ly (σ := σ) hS hl]; rw [if_pos hin, jh_a ⟨by rw [hS.1]; omega, by rw [hS.2.1]; omega⟩]; rfl) k
theorem xm_39 {o n j : Nat} {i v : Int32} (hS : jMok S) (hl : jLAY[o]? = some (1, n) ∨ jLAY[o]? = some (2, n)) (hb : 65 ≤ o ∧ o < 95) (hin : jx_in i n) (hj : i.toNatClampNeg = j) (hv : σ.2 o j = v) (k : jx_Ex d bl r ls (.int v :: st) (jh S σ) Q) : jx_Ex d bl ((pc, 39, (a, b, c, d0), x, L) :: r) ls (.int i :: .ref o :: st) (jh S σ) Q := by
  subst hj hv
  rcases hl with hl | hl <;> exact jx_Ex.next (by simp only [jx_s, xm_ly (σ := σ) hS hl]; rw [if_pos hin, jh_a ⟨by rw [hS.1]; omega, by rw [hS.2.1]; omega⟩]; rfl) k
theorem xm_41 {o n j : Nat} {i v : Int32} (hS : jMok S) (hl : jLAY[o]? = some (0, n)) (hb : 65 ≤ o ∧ o < 95) (hin : jx_in i n) (hj : i.toNatClampNeg = j) (k : jx_Ex d bl r ls st (jh S (gA σ o j v)) Q) : jx_Ex d bl ((pc, 41, (a, b, c, d0), x, L) :: r) ls (.int v :: .int i :: .ref o :: st) (jh S σ) Q := by
  subst hj
  exact jx_Ex.next (by simp only [jx_s, xm_ly (σ := σ) hS hl]; rw [if_pos hin]; rw [jh_gA ⟨by rw [hS.1]; omega, by rw [hS.2.1]; omega⟩]; rfl) k
theorem xm_42b {o n j : Nat} {i v : Int32} (hS : jMok S) (hl : jLAY[o]? = some (1, n)) (hb : 65 ≤ o ∧ o < 95) (hin : jx_in i n) (hj : i.toNatClampNeg = j) (k : jx_Ex d bl r ls st (jh S (gA σ o j v.toInt8.toInt32)) Q) : jx_Ex d bl ((pc, 42, (a, b, c, d0), x, L) :: r) ls (.int v :: .int i :: .ref o :: st) (jh S σ) Q := by
  subst hj
  exact jx_Ex.next (by simp only [jx_s, xm_ly (σ := σ) hS hl]; rw [if_pos hin]; rw [jh_gA ⟨by rw [hS.1]; omega, by rw [hS.2.1]; omega⟩]; rfl) k
theorem xm_42z {o n j : Nat} {i v : Int32} (hS : jMok S) (hl : jLAY[o]? = some (2, n)) (hb : 65 ≤ o ∧ o < 95) (hin : jx_in i n) (hj : i.toNatClampNeg = j) (k : jx_Ex d bl r ls st (jh S (gA σ o j (v &&& 1))) Q) : jx_Ex d bl ((pc, 42, (a, b, c, d0), x, L) :: r) ls (.int v :: .int i :: .ref o :: st) (jh S σ) Q := by
  subst hj
  exact jx_Ex.next (by simp only [jx_s, xm_ly (σ := σ) hS hl]; rw [if_pos hin]; rw [jh_gA ⟨by rw [hS.1]; omega, by rw [hS.2.1]; omega⟩]; rfl) k
theorem xm_44 {o n q j : Nat} {i : Int32} (hS : jMok S) (hl : jLAY[o]? = some (4, n)) (hn : n ≤ 64) (hin : jx_in i n) (hj : 64 * o + i.toNatClampNeg = j) (hp : S.2.2.2.1 j = .ref q) (k : jx_Ex d bl r ls (.ref q :: st) (jh S σ) Q) : jx_Ex d bl ((pc, 44, (a, b, c, d0), x, L) :: r) ls (.int i :: .ref o :: st) (jh S σ) Q := by
  subst hj
  have hp2 : (jh S σ).2.1 (64 * o + i.toNatClampNeg) = .ref q := hp
  exact jx_Ex.next (by simp only [jx_s, xm_ly (σ := σ) hS hl]; rw [if_pos ⟨hin, hn⟩]; simp only [hp2]; rfl) k
theorem xm_53 {o q n0 n1 sp' dp' n' : Nat} {sp dp n : Int32} (hS : jMok S) (hl : jLAY[o]? = some (0, n0)) (hl' : jLAY[q]? = some (0, n1)) (hbo : 65 ≤ o ∧ o < 95) (hb : 65 ≤ q ∧ q < 95) (h1 : ¬ sp < 0 ∧ ¬ dp < 0 ∧ ¬ n < 0) (e1 : sp.toNatClampNeg = sp') (e2 : dp.toNatClampNeg = dp') (e3 : n.toNatClampNeg = n') (h4 : sp' + n' ≤ n0) (h5 : dp' + n' ≤ n1) (h8 : jx_c8 st) (k : jx_Ex d bl r ls st (jh S (gC σ o q sp' dp' n')) Q) : jx_Ex d bl ((pc, 53, (a, b, c, d0), x, L) :: r) ls (.int n :: .int dp :: .ref q :: .int sp :: .ref o :: st) (jh S σ) Q := by
  subst e1 e2 e3
  have hh : ((jh S σ).1, (jh S σ).2.1, (jh S σ).2.2.1, fun z => if z = q then va_cpy ((jh S σ).2.2.2 o) ((jh S σ).2.2.2 q) sp.toNatClampNeg dp.toNatClampNeg n.toNatClampNeg else (jh S σ).2.2.2 z) = jh S (gC σ o q sp.toNatClampNeg dp.toNatClampNeg n.toNatClampNeg) := by
    have e0 : (jh S σ).2.2.2 o = σ.2 o := jh_a ⟨by rw [hS.1]; omega, by rw [hS.2.1]; omega⟩
    have e1 : (jh S σ).2.2.2 q = σ.2 q := jh_a ⟨by rw [hS.1]; omega, by rw [hS.2.1]; omega⟩
    have : (fun z => if z = q then va_cpy ((jh S σ).2.2.2 o) ((jh S σ).2.2.2 q) sp.toNatClampNeg dp.toNatClampNeg n.toNatClampNeg else (jh S σ).2.2.2 z) = (jh S (gC σ o q sp.toNatClampNeg dp.toNatClampNeg n.toNatClampNeg)).2.2.2 := by
      funext z j
      by_cases hz : z = q
      · subst hz
        rw [e0, e1]
        have hbz : S.1 ≤ z ∧ z < S.2.1 := ⟨by rw [hS.1]; omega, by rw [hS.2.1]; omega⟩
        simp [jh, gC, hbz]
      · simp [jh, gC, hz]
    rw [this]
    rfl
  exact jx_Ex.next (by simp only [jx_s, xm_ly (σ := σ) hS hl, xm_ly (σ := σ) hS hl']; rw [if_pos ⟨h1.1, h1.2.1, h1.2.2, h4, h5, h8⟩]; rw [hh]; rfl) k
theorem xm_P {i q : Nat} (hS : jMok S) (h : jPtab.any (fun p => decide (p = (i, q))) = true) : S.2.2.2.1 i = .ref q := by
  obtain ⟨p, hp, he⟩ := List.any_eq_true.mp h
  have := hS.2.2.2 p hp
  rw [of_decide_eq_true he] at this
  exact this
theorem xm_36 {o i q : Nat} {w : Value} (hS : jMok S) (hl : jLAY[o]? = some (10 + a, jx_N a)) (hi : 64 * o + b = i) (he : i = 4173) (k : jx_Ex d bl r ls st (jh (jSrd S (.ref q)) σ) Q) : jx_Ex d bl ((pc, 36, (a, b, c, d0), x, L) :: r) ls (.ref q :: .ref o :: st) (jh (jSrd S w) σ) Q := by
  have hS1 := jSrd_ok hS w
  refine jx_Ex.next ?_ k
  simp only [jx_s]
  rw [if_pos (xm_ly hS1 hl), hi, he, ← jSrd_twice S w (.ref q)]
  rfl
end JXR
def jw {α : Type} (o : Option α) (Q : α → Prop) : Prop := ∃ a, o = some a ∧ Q a
theorem jw_some {α : Type} {a : α} {Q : α → Prop} (h : jw (some a) Q) : Q a := by
  obtain ⟨b, hb, hq⟩ := h
  cases hb
  exact hq
theorem jw_none {α : Type} {Q : α → Prop} {P : Prop} (h : jw (none : Option α) Q) : P := by
  obtain ⟨b, hb, hq⟩ := h
  cases hb
theorem jw_bind {α β : Type} {o : Option α} {f : α → Option β} {Q : β → Prop} (h : jw (o.bind f) Q) : jw o (fun a => jw (f a) Q) := by
  obtain ⟨b, hb, hq⟩ := h
  cases o with
  | none => cases hb
  | some a => exact ⟨a, rfl, b, hb, hq⟩
theorem jw_mono {α : Type} {o : Option α} {P Q : α → Prop} (h : jw o P) (k : ∀ a, P a → Q a) : jw o Q := by
  obtain ⟨b, hb, hq⟩ := h
  exact ⟨b, hb, k b hq⟩
theorem jw_pos {α : Type} {c : Prop} {i : Decidable c} {a b : Option α} {Q : α → Prop} (hc : c) (h : jw (@ite _ c i a b) Q) : jw a Q := by rw [if_pos hc] at h; exact h
theorem jw_neg {α : Type} {c : Prop} {i : Decidable c} {a b : Option α} {Q : α → Prop} (hc : ¬ c) (h : jw (@ite _ c i a b) Q) : jw b Q := by rw [if_neg hc] at h; exact h
theorem jw_chk {α : Type} {c : Prop} {i : Decidable c} {a : Option α} {Q : α → Prop} (h : jw (@ite _ c i a none) Q) : c ∧ jw a Q := by
  by_cases hc : c
  · exact ⟨hc, jw_pos hc h⟩
  · exact jw_none (jw_neg hc h)
theorem jw_chn {α : Type} {c : Prop} {i : Decidable c} {a : Option α} {Q : α → Prop} (h : jw (@ite _ c i none a) Q) : ¬ c ∧ jw a Q := by
  by_cases hc : c
  · exact jw_none (jw_pos hc h)
  · exact ⟨hc, jw_neg hc h⟩
end
section
/-! ===== methods as functions ===== -/
/-- Text.add, at ['x.text', 'int'] -/
def f_X9_add_b16 : Nat → Int32 → Int32 → jT → Option (Int32 × jT)
  | 0, _, _, _ => none
  | n + 1, x1, x2, σ =>
    if x2 < 0 then
      some ((σ.1 65), σ)
    else
      if jx_in (σ.1 65) 80 then
      f_X9_add_b16 n x1 (x2 + (-8)) (gs (gA σ 2 (σ.1 65).toNatClampNeg (((x1.toUInt32 >>> (x2.toUInt32 &&& Int32.toUInt32 31)).toInt32) &&& 255)) 65 ((σ.1 65) + 1))
      else none
def f_X9_add (x1 : Int32) (σ : jT) : Option (Int32 × jT) :=
  if ((σ.1 65) + 4) ≤ 80 then
    f_X9_add_b16 1000 x1 24 σ
  else
    some ((-1), σ)
theorem t_X9_add_b16 {S : jS} (hS : jCok S) {d : Nat} {Q : Option Value → jx_H → Prop} : ∀ (n : Nat) {x1 : Int32} {x2 : Int32} {σ : jT}, jw (f_X9_add_b16 n x1 x2 σ) (fun q => Q (some (.int q.1)) (jh S q.2)) → jx_Ex (d) jm_l115 jm_b115_16 [.ref 1, .int x1, .int x2] [] (jh S σ) Q := by
  intro n
  induction n with
  | zero => intro x1 x2 σ h; exact jw_none h
  | succ n ih =>
    intro x1 x2 σ h
    rw [f_X9_add_b16] at h
    refine xo_0 rfl ?_
    refine xo_57 (t := jm_b115_52) rfl (fun hc1 => ?_) (fun hc1 => ?_)
    · replace h := jw_pos hc1 h
      refine xo_2 rfl ?_
      refine xc_32 (i := 65) (v := (σ.1 65)) hS ly1 rfl ⟨Nat.le_of_ble_eq_true rfl, Nat.le_of_ble_eq_true rfl⟩ rfl ?_
      exact xo_69 (jw_some h)
    · replace h := jw_neg hc1 h
      refine xo_2 rfl ?_
      refine xc_33 (i := 64) (q := 2) hS ly1 rfl (xc_P hS (by decide)) ?_
      refine xo_2 rfl ?_
      refine xc_32 (i := 65) (v := (σ.1 65)) hS ly1 rfl ⟨Nat.le_of_ble_eq_true rfl, Nat.le_of_ble_eq_true rfl⟩ rfl ?_
      refine xo_0 rfl ?_
      refine xo_0 rfl ?_
      refine xo_25 ?_
      refine xo_10 ?_
      refine xo_20 ?_
      obtain ⟨hi2, h⟩ := jw_chk h
      refine xc_41 hS ly2 ⟨Nat.le_of_ble_eq_true rfl, Nat.le_of_ble_eq_true rfl⟩ hi2 rfl ?_
      refine xo_2 rfl ?_
      refine xo_28r ?_
      refine xc_32 (i := 65) (v := (σ.1 65)) hS ly1 rfl ⟨Nat.le_of_ble_eq_true rfl, Nat.le_of_ble_eq_true rfl⟩ rfl ?_
      refine xo_8 ?_
      refine xo_14 ?_
      refine xc_34 (i := 65) hS ly1 rfl ⟨Nat.le_of_ble_eq_true rfl, Nat.le_of_ble_eq_true rfl⟩ ?_
      refine xo_13 (ls' := [.ref 1, .int x1, .int (x2 + (-8))]) rfl rfl ?_
      refine xo_54 (t := jm_b115_16) rfl ?_
      exact ih h
theorem t_X9_add {S : jS} (hS : jCok S) {d : Nat} {Q : Option Value → jx_H → Prop} {x1 : Int32} {σ : jT} (h : jw (f_X9_add x1 σ) (fun q => Q (some (.int q.1)) (jh S q.2))) : jx_Sp (d) 115 [.ref 1, .int x1] (jh S σ) Q := by
  refine ⟨jm_i115, jm_at115, rfl, rfl, ?_⟩
  show jx_Ex _ jm_l115 jm_b115_0 [.ref 1, .int x1, .retAddr 0] [] _ _
  unfold f_X9_add at h
  refine xo_2 rfl ?_
  refine xc_32 (i := 65) (v := (σ.1 65)) hS ly1 rfl ⟨Nat.le_of_ble_eq_true rfl, Nat.le_of_ble_eq_true rfl⟩ rfl ?_
  refine xo_8 ?_
  refine xo_14 ?_
  refine xo_9 ?_
  refine xo_66 (t := jm_b115_13) rfl (fun hc1 => ?_) (fun hc1 => ?_)
  · replace h := jw_pos hc1 h
    refine xo_9 ?_
    refine xo_4 (ls' := [.ref 1, .int x1, .int 24]) rfl ?_
    exact t_X9_add_b16 hS 1000 h
  · replace h := jw_neg hc1 h
    refine xo_8 ?_
    exact xo_69 (jw_some h)
/-- OfDifferentMinds.sign, at ['x', 'int'] -/
def f_X10_sign (x1 : Int32) (σ : jT) : Option (Int32 × jT) :=
  (f_X9_add x1 σ).bind fun q1 =>
  some (q1.1, q1.2)
theorem t_X10_sign {S : jS} (hS : jCok S) {d : Nat} {Q : Option Value → jx_H → Prop} {x1 : Int32} {σ : jT} (h : jw (f_X10_sign x1 σ) (fun q => Q (some (.int q.1)) (jh S q.2))) : jx_Sp (d + 1) 129 [.ref 0, .int x1] (jh S σ) Q := by
  refine ⟨jm_i129, jm_at129, rfl, rfl, ?_⟩
  show jx_Ex _ jm_l129 jm_b129_0 [.ref 0, .int x1] [] _ _
  unfold f_X10_sign at h
  refine xo_2 rfl ?_
  refine xc_33 (i := 0) (q := 1) hS ly0 rfl (xc_P hS (by decide)) ?_
  refine xo_0 rfl ?_
  refine xo_49 (st' := []) rfl rfl (xc_ly hS ly1) rfl (Nat.le_of_ble_eq_true rfl) ?_
  refine t_X9_add hS ?_
  refine jw_mono (jw_bind h) (fun q1 h => ?_)
  show jx_Ex _ _ _ _ [.int q1.1] (jh S q1.2) _
  exact xo_69 (jw_some h)
/-- Text.cut, at ['x.text', 'int'] -/
def f_X9_cut (x1 : Int32) (σ : jT) : Option (Int32 × jT) :=
  if x1 < 0 then
    some (0, σ)
  else
    if x1 ≤ (σ.1 65) then
      some (1, (gs σ 65 x1))
    else
      some (0, σ)
theorem t_X9_cut {S : jS} (hS : jCok S) {d : Nat} {Q : Option Value → jx_H → Prop} {x1 : Int32} {σ : jT} (h : jw (f_X9_cut x1 σ) (fun q => Q (some (.int q.1)) (jh S q.2))) : jx_Sp (d) 116 [.ref 1, .int x1] (jh S σ) Q := by
  refine ⟨jm_i116, jm_at116, rfl, rfl, ?_⟩
  show jx_Ex _ jm_l116 jm_b116_0 [.ref 1, .int x1] [] _ _
  unfold f_X9_cut at h
  refine xo_0 rfl ?_
  refine xo_57 (t := jm_b116_12) rfl (fun hc1 => ?_) (fun hc1 => ?_)
  · replace h := jw_pos hc1 h
    refine xo_8 ?_
    exact xo_70 (by decide) (jw_some h)
  · replace h := jw_neg hc1 h
    refine xo_0 rfl ?_
    refine xo_2 rfl ?_
    refine xc_32 (i := 65) (v := (σ.1 65)) hS ly1 rfl ⟨Nat.le_of_ble_eq_true rfl, Nat.le_of_ble_eq_true rfl⟩ rfl ?_
    refine xo_66 (t := jm_b116_14) rfl (fun hc2 => ?_) (fun hc2 => ?_)
    · replace h := jw_pos hc2 h
      refine xo_2 rfl ?_
      refine xo_0 rfl ?_
      refine xc_34 (i := 65) hS ly1 rfl ⟨Nat.le_of_ble_eq_true rfl, Nat.le_of_ble_eq_true rfl⟩ ?_
      refine xo_8 ?_
      exact xo_70 (by decide) (jw_some h)
    · replace h := jw_neg hc2 h
      refine xo_8 ?_
      exact xo_70 (by decide) (jw_some h)
/-- OfDifferentMinds.end, at ['x', 'int'] -/
def f_X10_end (x1 : Int32) (σ : jT) : Option (Int32 × jT) :=
  (f_X9_cut x1 σ).bind fun q1 =>
  if q1.1 = 0 ∨ q1.1 = 1 then
  some (q1.1, q1.2)
  else none
theorem t_X10_end {S : jS} (hS : jCok S) {d : Nat} {Q : Option Value → jx_H → Prop} {x1 : Int32} {σ : jT} (h : jw (f_X10_end x1 σ) (fun q => Q (some (.int q.1)) (jh S q.2))) : jx_Sp (d + 1) 130 [.ref 0, .int x1] (jh S σ) Q := by
  refine ⟨jm_i130, jm_at130, rfl, rfl, ?_⟩
  show jx_Ex _ jm_l130 jm_b130_0 [.ref 0, .int x1] [] _ _
  unfold f_X10_end at h
  refine xo_2 rfl ?_
  refine xc_33 (i := 0) (q := 1) hS ly0 rfl (xc_P hS (by decide)) ?_
  refine xo_0 rfl ?_
  refine xo_49 (st' := []) rfl rfl (xc_ly hS ly1) rfl (Nat.le_of_ble_eq_true rfl) ?_
  refine t_X9_cut hS ?_
  refine jw_mono (jw_bind h) (fun q1 h => ?_)
  show jx_Ex _ _ _ _ [.int q1.1] (jh S q1.2) _
  obtain ⟨hz2, h⟩ := jw_chk h
  exact xo_70 hz2 (jw_some h)
/-- Text.open, at ['x.text', 'int'] -/
def f_X9_open (x1 : Int32) (σ : jT) : Option (Int32 × jT) :=
  some (0, (gs (gs σ 66 x1) 67 0))
theorem t_X9_open {S : jS} (hS : jCok S) {d : Nat} {Q : Option Value → jx_H → Prop} {x1 : Int32} {σ : jT} (h : jw (f_X9_open x1 σ) (fun q => Q none (jh S q.2))) : jx_Sp (d) 118 [.ref 1, .int x1] (jh S σ) Q := by
  refine ⟨jm_i118, jm_at118, rfl, rfl, ?_⟩
  show jx_Ex _ jm_l118 jm_b118_0 [.ref 1, .int x1] [] _ _
  unfold f_X9_open at h
  refine xo_2 rfl ?_
  refine xo_0 rfl ?_
  refine xc_34 (i := 66) hS ly1 rfl ⟨Nat.le_of_ble_eq_true rfl, Nat.le_of_ble_eq_true rfl⟩ ?_
  refine xo_2 rfl ?_
  refine xo_8 ?_
  refine xc_34 (i := 67) hS ly1 rfl ⟨Nat.le_of_ble_eq_true rfl, Nat.le_of_ble_eq_true rfl⟩ ?_
  exact xo_71 (jw_some h)
/-- Text.position, at ['x.text'] -/
def f_X9_position (σ : jT) : Option (Int32 × jT) :=
  some ((σ.1 67), σ)
theorem t_X9_position {S : jS} (hS : jCok S) {d : Nat} {Q : Option Value → jx_H → Prop} {σ : jT} (h : jw (f_X9_position σ) (fun q => Q (some (.int q.1)) (jh S q.2))) : jx_Sp (d) 119 [.ref 1] (jh S σ) Q := by
  refine ⟨jm_i119, jm_at119, rfl, rfl, ?_⟩
  show jx_Ex _ jm_l119 jm_b119_0 [.ref 1] [] _ _
  unfold f_X9_position at h
  refine xo_2 rfl ?_
  refine xc_32 (i := 67) (v := (σ.1 67)) hS ly1 rfl ⟨Nat.le_of_ble_eq_true rfl, Nat.le_of_ble_eq_true rfl⟩ rfl ?_
  exact xo_69 (jw_some h)
/-- Text.peek, at ['x.text'] -/
def f_X9_peek (σ : jT) : Option (Int32 × jT) :=
  if (σ.1 66) ≤ (σ.1 67) then
    some ((-1), σ)
  else
    if (σ.1 65) ≤ (σ.1 67) then
      some ((-1), σ)
    else
      if jx_in (σ.1 67) 80 then
      some ((σ.2 2 (σ.1 67).toNatClampNeg), σ)
      else none
theorem t_X9_peek {S : jS} (hS : jCok S) {d : Nat} {Q : Option Value → jx_H → Prop} {σ : jT} (h : jw (f_X9_peek σ) (fun q => Q (some (.int q.1)) (jh S q.2))) : jx_Sp (d) 120 [.ref 1] (jh S σ) Q := by
  refine ⟨jm_i120, jm_at120, rfl, rfl, ?_⟩
  show jx_Ex _ jm_l120 jm_b120_0 [.ref 1] [] _ _
  unfold f_X9_peek at h
  refine xo_2 rfl ?_
  refine xc_32 (i := 67) (v := (σ.1 67)) hS ly1 rfl ⟨Nat.le_of_ble_eq_true rfl, Nat.le_of_ble_eq_true rfl⟩ rfl ?_
  refine xo_2 rfl ?_
  refine xc_32 (i := 66) (v := (σ.1 66)) hS ly1 rfl ⟨Nat.le_of_ble_eq_true rfl, Nat.le_of_ble_eq_true rfl⟩ rfl ?_
  refine xo_64 (t := jm_b120_34) rfl (fun hc1 => ?_) (fun hc1 => ?_)
  · replace h := jw_pos hc1 h
    refine xo_8 ?_
    exact xo_69 (jw_some h)
  · replace h := jw_neg hc1 h
    refine xo_2 rfl ?_
    refine xc_32 (i := 67) (v := (σ.1 67)) hS ly1 rfl ⟨Nat.le_of_ble_eq_true rfl, Nat.le_of_ble_eq_true rfl⟩ rfl ?_
    refine xo_2 rfl ?_
    refine xc_32 (i := 65) (v := (σ.1 65)) hS ly1 rfl ⟨Nat.le_of_ble_eq_true rfl, Nat.le_of_ble_eq_true rfl⟩ rfl ?_
    refine xo_64 (t := jm_b120_34) rfl (fun hc2 => ?_) (fun hc2 => ?_)
    · replace h := jw_pos hc2 h
      refine xo_8 ?_
      exact xo_69 (jw_some h)
    · replace h := jw_neg hc2 h
      refine xo_2 rfl ?_
      refine xc_33 (i := 64) (q := 2) hS ly1 rfl (xc_P hS (by decide)) ?_
      refine xo_2 rfl ?_
      refine xc_32 (i := 67) (v := (σ.1 67)) hS ly1 rfl ⟨Nat.le_of_ble_eq_true rfl, Nat.le_of_ble_eq_true rfl⟩ rfl ?_
      obtain ⟨hi3, h⟩ := jw_chk h
      refine xc_38 (v := (σ.2 2 (σ.1 67).toNatClampNeg)) hS ly2 ⟨Nat.le_of_ble_eq_true rfl, Nat.le_of_ble_eq_true rfl⟩ hi3 rfl rfl ?_
      refine xo_54 (t := jm_b120_35) rfl ?_
      exact xo_69 (jw_some h)
/-- Text.take, at ['x.text', 'int'] -/
def f_X9_take_b13 (s0 : Int32) (σ : jT) : Option (Int32 × jT) :=
  if s0 = 0 then
    if s0 = 0 ∨ s0 = 1 then
    some (s0, σ)
    else none
  else
    if s0 = 0 ∨ s0 = 1 then
    some (s0, (gs σ 67 ((σ.1 67) + 1)))
    else none
def f_X9_take (x1 : Int32) (σ : jT) : Option (Int32 × jT) :=
  (f_X9_peek σ).bind fun q1 =>
  if ¬ q1.1 = x1 then
    f_X9_take_b13 0 q1.2
  else
    f_X9_take_b13 1 q1.2
theorem t_X9_take_b13 {S : jS} (hS : jCok S) {d : Nat} {Q : Option Value → jx_H → Prop} {s0 : Int32} {w1 : Value} {w2 : Value} {σ : jT} (h : jw (f_X9_take_b13 s0 σ) (fun q => Q (some (.int q.1)) (jh S q.2))) : jx_Ex (d + 1) jm_l124 jm_b124_13 [.ref 1, w1, w2] [.int s0] (jh S σ) Q := by
  unfold f_X9_take_b13 at h
  refine xo_4 (ls' := [.ref 1, w1, .int s0]) rfl ?_
  refine xo_0 rfl ?_
  refine xo_55 (t := jm_b124_28) rfl (fun hc1 => ?_) (fun hc1 => ?_)
  · replace h := jw_pos hc1 h
    refine xo_0 rfl ?_
    obtain ⟨hz2, h⟩ := jw_chk h
    exact xo_70 hz2 (jw_some h)
  · replace h := jw_neg hc1 h
    refine xo_2 rfl ?_
    refine xo_28r ?_
    refine xc_32 (i := 67) (v := (σ.1 67)) hS ly1 rfl ⟨Nat.le_of_ble_eq_true rfl, Nat.le_of_ble_eq_true rfl⟩ rfl ?_
    refine xo_8 ?_
    refine xo_14 ?_
    refine xc_34 (i := 67) hS ly1 rfl ⟨Nat.le_of_ble_eq_true rfl, Nat.le_of_ble_eq_true rfl⟩ ?_
    refine xo_0 rfl ?_
    obtain ⟨hz3, h⟩ := jw_chk h
    exact xo_70 hz3 (jw_some h)
theorem t_X9_take {S : jS} (hS : jCok S) {d : Nat} {Q : Option Value → jx_H → Prop} {x1 : Int32} {σ : jT} (h : jw (f_X9_take x1 σ) (fun q => Q (some (.int q.1)) (jh S q.2))) : jx_Sp (d + 1) 124 [.ref 1, .int x1] (jh S σ) Q := by
  refine ⟨jm_i124, jm_at124, rfl, rfl, ?_⟩
  show jx_Ex _ jm_l124 jm_b124_0 [.ref 1, .int x1, .retAddr 0] [] _ _
  unfold f_X9_take at h
  refine xo_2 rfl ?_
  refine xo_49 (st' := []) rfl rfl (xc_ly hS ly1) rfl (Nat.le_of_ble_eq_true rfl) ?_
  refine t_X9_peek hS ?_
  refine jw_mono (jw_bind h) (fun q1 h => ?_)
  show jx_Ex _ _ _ _ [.int q1.1] (jh S q1.2) _
  refine xo_0 rfl ?_
  refine xo_62 (t := jm_b124_12) rfl (fun hc2 => ?_) (fun hc2 => ?_)
  · replace h := jw_pos hc2 h
    refine xo_8 ?_
    exact t_X9_take_b13 hS h
  · replace h := jw_neg hc2 h
    refine xo_8 ?_
    refine xo_54 (t := jm_b124_13) rfl ?_
    exact t_X9_take_b13 hS h
/-- Text.takeOf, at ['x.text', 'int', 'int'] -/
def f_X9_takeOf_b20 (s0 : Int32) (σ : jT) : Option (Int32 × jT) :=
  if s0 = 0 then
    if s0 = 0 ∨ s0 = 1 then
    some (s0, σ)
    else none
  else
    if s0 = 0 ∨ s0 = 1 then
    some (s0, (gs σ 67 ((σ.1 67) + 1)))
    else none
def f_X9_takeOf_b19 (σ : jT) : Option (Int32 × jT) :=
  f_X9_takeOf_b20 0 σ
def f_X9_takeOf (x1 : Int32) (x2 : Int32) (σ : jT) : Option (Int32 × jT) :=
  (f_X9_peek σ).bind fun q1 =>
  if q1.1 < x1 then
    f_X9_takeOf_b19 q1.2
  else
    if x2 < q1.1 then
      f_X9_takeOf_b19 q1.2
    else
      f_X9_takeOf_b20 1 q1.2
theorem t_X9_takeOf_b20 {S : jS} (hS : jCok S) {d : Nat} {Q : Option Value → jx_H → Prop} {s0 : Int32} {w1 : Value} {w2 : Value} {w3 : Value} {w4 : Value} {σ : jT} (h : jw (f_X9_takeOf_b20 s0 σ) (fun q => Q (some (.int q.1)) (jh S q.2))) : jx_Ex (d + 1) jm_l125 jm_b125_20 [.ref 1, w1, w2, w3, w4] [.int s0] (jh S σ) Q := by
  unfold f_X9_takeOf_b20 at h
  refine xo_5 (ls' := [.ref 1, w1, w2, w3, .int s0]) rfl ?_
  refine xo_1 rfl ?_
  refine xo_55 (t := jm_b125_37) rfl (fun hc1 => ?_) (fun hc1 => ?_)
  · replace h := jw_pos hc1 h
    refine xo_1 rfl ?_
    obtain ⟨hz2, h⟩ := jw_chk h
    exact xo_70 hz2 (jw_some h)
  · replace h := jw_neg hc1 h
    refine xo_2 rfl ?_
    refine xo_28r ?_
    refine xc_32 (i := 67) (v := (σ.1 67)) hS ly1 rfl ⟨Nat.le_of_ble_eq_true rfl, Nat.le_of_ble_eq_true rfl⟩ rfl ?_
    refine xo_8 ?_
    refine xo_14 ?_
    refine xc_34 (i := 67) hS ly1 rfl ⟨Nat.le_of_ble_eq_true rfl, Nat.le_of_ble_eq_true rfl⟩ ?_
    refine xo_1 rfl ?_
    obtain ⟨hz3, h⟩ := jw_chk h
    exact xo_70 hz3 (jw_some h)
theorem t_X9_takeOf_b19 {S : jS} (hS : jCok S) {d : Nat} {Q : Option Value → jx_H → Prop} {w1 : Value} {w2 : Value} {w3 : Value} {w4 : Value} {σ : jT} (h : jw (f_X9_takeOf_b19 σ) (fun q => Q (some (.int q.1)) (jh S q.2))) : jx_Ex (d + 1) jm_l125 jm_b125_19 [.ref 1, w1, w2, w3, w4] [] (jh S σ) Q := by
  unfold f_X9_takeOf_b19 at h
  refine xo_8 ?_
  exact t_X9_takeOf_b20 hS h
theorem t_X9_takeOf {S : jS} (hS : jCok S) {d : Nat} {Q : Option Value → jx_H → Prop} {x1 : Int32} {x2 : Int32} {σ : jT} (h : jw (f_X9_takeOf x1 x2 σ) (fun q => Q (some (.int q.1)) (jh S q.2))) : jx_Sp (d + 1) 125 [.ref 1, .int x1, .int x2] (jh S σ) Q := by
  refine ⟨jm_i125, jm_at125, rfl, rfl, ?_⟩
  show jx_Ex _ jm_l125 jm_b125_0 [.ref 1, .int x1, .int x2, .retAddr 0, .retAddr 0] [] _ _
  unfold f_X9_takeOf at h
  refine xo_2 rfl ?_
  refine xo_49 (st' := []) rfl rfl (xc_ly hS ly1) rfl (Nat.le_of_ble_eq_true rfl) ?_
  refine t_X9_peek hS ?_
  refine jw_mono (jw_bind h) (fun q1 h => ?_)
  show jx_Ex _ _ _ _ [.int q1.1] (jh S q1.2) _
  refine xo_4 (ls' := [.ref 1, .int x1, .int x2, .int q1.1, .retAddr 0]) rfl ?_
  refine xo_0 rfl ?_
  refine xo_0 rfl ?_
  refine xo_63 (t := jm_b125_19) rfl (fun hc2 => ?_) (fun hc2 => ?_)
  · replace h := jw_pos hc2 h
    exact t_X9_takeOf_b19 hS h
  · replace h := jw_neg hc2 h
    refine xo_0 rfl ?_
    refine xo_0 rfl ?_
    refine xo_65 (t := jm_b125_19) rfl (fun hc3 => ?_) (fun hc3 => ?_)
    · replace h := jw_pos hc3 h
      exact t_X9_takeOf_b19 hS h
    · replace h := jw_neg hc3 h
      refine xo_8 ?_
      refine xo_54 (t := jm_b125_20) rfl ?_
      exact t_X9_takeOf_b20 hS h
/-- Grammar.takeRoadLine, at ['x.text'] -/
def f_X1_takeRoadLine_1_b37 (x1 : Int32) (σ : jT) : Option (Int32 × jT) :=
  if x1 = 0 then
    if x1 = 0 ∨ x1 = 1 then
    some (x1, σ)
    else none
  else
    (f_X9_take 33 σ).bind fun q3 =>
    if x1 = 0 ∨ x1 = 1 then
    some (x1, q3.2)
    else none
def f_X1_takeRoadLine_1_b13 : Nat → Int32 → Int32 → jT → Option (Int32 × jT)
  | 0, _, _, _ => none
  | n + 1, x1, x2, σ =>
    if 3 ≤ x2 then
      f_X1_takeRoadLine_1_b37 x1 σ
    else
      (f_X9_takeOf 97 106 σ).bind fun q2 =>
      if q2.1 = 0 then
        f_X1_takeRoadLine_1_b37 x1 q2.2
      else
        f_X1_takeRoadLine_1_b13 n 1 (x2 + 1) q2.2
def f_X1_takeRoadLine_1 (σ : jT) : Option (Int32 × jT) :=
  (f_X9_take 45 σ).bind fun q1 =>
  if ¬ q1.1 = 0 then
    f_X1_takeRoadLine_1_b37 q1.1 q1.2
  else
    f_X1_takeRoadLine_1_b13 1000 q1.1 0 q1.2
theorem t_X1_takeRoadLine_1_b37 {S : jS} (hS : jCok S) {d : Nat} {Q : Option Value → jx_H → Prop} {x1 : Int32} {w2 : Value} {σ : jT} (h : jw (f_X1_takeRoadLine_1_b37 x1 σ) (fun q => Q (some (.int q.1)) (jh S q.2))) : jx_Ex (d + 2) jm_l12 jm_b12_37 [.ref 1, .int x1, w2] [] (jh S σ) Q := by
  unfold f_X1_takeRoadLine_1_b37 at h
  refine xo_0 rfl ?_
  refine xo_55 (t := jm_b12_48) rfl (fun hc1 => ?_) (fun hc1 => ?_)
  · replace h := jw_pos hc1 h
    refine xo_0 rfl ?_
    obtain ⟨hz2, h⟩ := jw_chk h
    exact xo_70 hz2 (jw_some h)
  · replace h := jw_neg hc1 h
    refine xo_2 rfl ?_
    refine xo_9 ?_
    refine xo_49 (st' := []) rfl rfl (xc_ly hS ly1) rfl (Nat.le_of_ble_eq_true rfl) ?_
    refine t_X9_take hS ?_
    refine jw_mono (jw_bind h) (fun q3 h => ?_)
    show jx_Ex _ _ _ _ [.int q3.1] (jh S q3.2) _
    refine xo_31 ?_
    refine xo_0 rfl ?_
    obtain ⟨hz4, h⟩ := jw_chk h
    exact xo_70 hz4 (jw_some h)
theorem t_X1_takeRoadLine_1_b13 {S : jS} (hS : jCok S) {d : Nat} {Q : Option Value → jx_H → Prop} : ∀ (n : Nat) {x1 : Int32} {x2 : Int32} {σ : jT}, jw (f_X1_takeRoadLine_1_b13 n x1 x2 σ) (fun q => Q (some (.int q.1)) (jh S q.2)) → jx_Ex (d + 2) jm_l12 jm_b12_13 [.ref 1, .int x1, .int x2] [] (jh S σ) Q := by
  intro n
  induction n with
  | zero => intro x1 x2 σ h; exact jw_none h
  | succ n ih =>
    intro x1 x2 σ h
    rw [f_X1_takeRoadLine_1_b13] at h
    refine xo_0 rfl ?_
    refine xo_8 ?_
    refine xo_64 (t := jm_b12_37) rfl (fun hc1 => ?_) (fun hc1 => ?_)
    · replace h := jw_pos hc1 h
      exact t_X1_takeRoadLine_1_b37 hS h
    · replace h := jw_neg hc1 h
      refine xo_2 rfl ?_
      refine xo_9 ?_
      refine xo_9 ?_
      refine xo_49 (st' := []) rfl rfl (xc_ly hS ly1) rfl (Nat.le_of_ble_eq_true rfl) ?_
      refine t_X9_takeOf hS ?_
      refine jw_mono (jw_bind h) (fun q2 h => ?_)
      show jx_Ex _ _ _ _ [.int q2.1] (jh S q2.2) _
      refine xo_55 (t := jm_b12_37) rfl (fun hc3 => ?_) (fun hc3 => ?_)
      · replace h := jw_pos hc3 h
        exact t_X1_takeRoadLine_1_b37 hS h
      · replace h := jw_neg hc3 h
        refine xo_8 ?_
        refine xo_4 (ls' := [.ref 1, .int 1, .int x2]) rfl ?_
        refine xo_13 (ls' := [.ref 1, .int 1, .int (x2 + 1)]) rfl rfl ?_
        refine xo_54 (t := jm_b12_13) rfl ?_
        exact ih h
theorem t_X1_takeRoadLine_1 {S : jS} (hS : jCok S) {d : Nat} {Q : Option Value → jx_H → Prop} {σ : jT} (h : jw (f_X1_takeRoadLine_1 σ) (fun q => Q (some (.int q.1)) (jh S q.2))) : jx_Sp (d + 2) 12 [.ref 1] (jh S σ) Q := by
  refine ⟨jm_i12, jm_at12, rfl, rfl, ?_⟩
  show jx_Ex _ jm_l12 jm_b12_0 [.ref 1, .retAddr 0, .retAddr 0] [] _ _
  unfold f_X1_takeRoadLine_1 at h
  refine xo_2 rfl ?_
  refine xo_9 ?_
  refine xo_49 (st' := []) rfl rfl (xc_ly hS ly1) rfl (Nat.le_of_ble_eq_true rfl) ?_
  refine t_X9_take hS ?_
  refine jw_mono (jw_bind h) (fun q1 h => ?_)
  show jx_Ex _ _ _ _ [.int q1.1] (jh S q1.2) _
  refine xo_4 (ls' := [.ref 1, .int q1.1, .retAddr 0]) rfl ?_
  refine xo_0 rfl ?_
  refine xo_56 (t := jm_b12_37) rfl (fun hc2 => ?_) (fun hc2 => ?_)
  · replace h := jw_pos hc2 h
    exact t_X1_takeRoadLine_1_b37 hS h
  · replace h := jw_neg hc2 h
    refine xo_8 ?_
    refine xo_4 (ls' := [.ref 1, .int q1.1, .int 0]) rfl ?_
    exact t_X1_takeRoadLine_1_b13 hS 1000 h
/-- Text.isOver, at ['x.text'] -/
def f_X9_isOver (σ : jT) : Option (Int32 × jT) :=
  (f_X9_peek σ).bind fun q1 =>
  if ¬ q1.1 = (-1) then
    some (0, q1.2)
  else
    some (1, q1.2)
theorem t_X9_isOver {S : jS} (hS : jCok S) {d : Nat} {Q : Option Value → jx_H → Prop} {σ : jT} (h : jw (f_X9_isOver σ) (fun q => Q (some (.int q.1)) (jh S q.2))) : jx_Sp (d + 1) 121 [.ref 1] (jh S σ) Q := by
  refine ⟨jm_i121, jm_at121, rfl, rfl, ?_⟩
  show jx_Ex _ jm_l121 jm_b121_0 [.ref 1] [] _ _
  unfold f_X9_isOver at h
  refine xo_2 rfl ?_
  refine xo_49 (st' := []) rfl rfl (xc_ly hS ly1) rfl (Nat.le_of_ble_eq_true rfl) ?_
  refine t_X9_peek hS ?_
  refine jw_mono (jw_bind h) (fun q1 h => ?_)
  show jx_Ex _ _ _ _ [.int q1.1] (jh S q1.2) _
  refine xo_8 ?_
  refine xo_62 (t := jm_b121_12) rfl (fun hc2 => ?_) (fun hc2 => ?_)
  · replace h := jw_pos hc2 h
    refine xo_8 ?_
    exact xo_70 (by decide) (jw_some h)
  · replace h := jw_neg hc2 h
    refine xo_8 ?_
    refine xo_54 (t := jm_b121_13) rfl ?_
    exact xo_70 (by decide) (jw_some h)
/-- Text.isCutShort, at ['x.text'] -/
def f_X9_isCutShort (σ : jT) : Option (Int32 × jT) :=
  if (σ.1 67) < (σ.1 66) then
    some (0, σ)
  else
    if (σ.1 65) ≤ (σ.1 66) then
      some (0, σ)
    else
      some (1, σ)
theorem t_X9_isCutShort {S : jS} (hS : jCok S) {d : Nat} {Q : Option Value → jx_H → Prop} {σ : jT} (h : jw (f_X9_isCutShort σ) (fun q => Q (some (.int q.1)) (jh S q.2))) : jx_Sp (d) 122 [.ref 1] (jh S σ) Q := by
  refine ⟨jm_i122, jm_at122, rfl, rfl, ?_⟩
  show jx_Ex _ jm_l122 jm_b122_0 [.ref 1] [] _ _
  unfold f_X9_isCutShort at h
  refine xo_2 rfl ?_
  refine xc_32 (i := 67) (v := (σ.1 67)) hS ly1 rfl ⟨Nat.le_of_ble_eq_true rfl, Nat.le_of_ble_eq_true rfl⟩ rfl ?_
  refine xo_2 rfl ?_
  refine xc_32 (i := 66) (v := (σ.1 66)) hS ly1 rfl ⟨Nat.le_of_ble_eq_true rfl, Nat.le_of_ble_eq_true rfl⟩ rfl ?_
  refine xo_63 (t := jm_b122_26) rfl (fun hc1 => ?_) (fun hc1 => ?_)
  · replace h := jw_pos hc1 h
    refine xo_8 ?_
    exact xo_70 (by decide) (jw_some h)
  · replace h := jw_neg hc1 h
    refine xo_2 rfl ?_
    refine xc_32 (i := 65) (v := (σ.1 65)) hS ly1 rfl ⟨Nat.le_of_ble_eq_true rfl, Nat.le_of_ble_eq_true rfl⟩ rfl ?_
    refine xo_2 rfl ?_
    refine xc_32 (i := 66) (v := (σ.1 66)) hS ly1 rfl ⟨Nat.le_of_ble_eq_true rfl, Nat.le_of_ble_eq_true rfl⟩ rfl ?_
    refine xo_66 (t := jm_b122_26) rfl (fun hc2 => ?_) (fun hc2 => ?_)
    · replace h := jw_pos hc2 h
      refine xo_8 ?_
      exact xo_70 (by decide) (jw_some h)
    · replace h := jw_neg hc2 h
      refine xo_8 ?_
      refine xo_54 (t := jm_b122_27) rfl ?_
      exact xo_70 (by decide) (jw_some h)
/-- Text.rest, at ['x.text'] -/
def f_X9_rest_b18 (σ : jT) : Option (Int32 × jT) :=
  some ((σ.1 67), σ)
def f_X9_rest (σ : jT) : Option (Int32 × jT) :=
  (f_X9_isOver σ).bind fun q1 =>
  if q1.1 = 0 then
    f_X9_rest_b18 q1.2
  else
    (f_X9_isCutShort q1.2).bind fun q3 =>
    if ¬ q3.1 = 0 then
      f_X9_rest_b18 q3.2
    else
      some ((-1), q3.2)
theorem t_X9_rest_b18 {S : jS} (hS : jCok S) {d : Nat} {Q : Option Value → jx_H → Prop} {σ : jT} (h : jw (f_X9_rest_b18 σ) (fun q => Q (some (.int q.1)) (jh S q.2))) : jx_Ex (d + 2) jm_l127 jm_b127_18 [.ref 1] [] (jh S σ) Q := by
  unfold f_X9_rest_b18 at h
  refine xo_2 rfl ?_
  refine xc_32 (i := 67) (v := (σ.1 67)) hS ly1 rfl ⟨Nat.le_of_ble_eq_true rfl, Nat.le_of_ble_eq_true rfl⟩ rfl ?_
  exact xo_69 (jw_some h)
theorem t_X9_rest {S : jS} (hS : jCok S) {d : Nat} {Q : Option Value → jx_H → Prop} {σ : jT} (h : jw (f_X9_rest σ) (fun q => Q (some (.int q.1)) (jh S q.2))) : jx_Sp (d + 2) 127 [.ref 1] (jh S σ) Q := by
  refine ⟨jm_i127, jm_at127, rfl, rfl, ?_⟩
  show jx_Ex _ jm_l127 jm_b127_0 [.ref 1] [] _ _
  unfold f_X9_rest at h
  refine xo_2 rfl ?_
  refine xo_49 (st' := []) rfl rfl (xc_ly hS ly1) rfl (Nat.le_of_ble_eq_true rfl) ?_
  refine t_X9_isOver hS ?_
  refine jw_mono (jw_bind h) (fun q1 h => ?_)
  show jx_Ex _ _ _ _ [.int q1.1] (jh S q1.2) _
  refine xo_55 (t := jm_b127_18) rfl (fun hc2 => ?_) (fun hc2 => ?_)
  · replace h := jw_pos hc2 h
    exact t_X9_rest_b18 hS h
  · replace h := jw_neg hc2 h
    refine xo_2 rfl ?_
    refine xo_49 (st' := []) rfl rfl (xc_ly hS ly1) rfl (Nat.le_of_ble_eq_true rfl) ?_
    refine t_X9_isCutShort hS ?_
    refine jw_mono (jw_bind h) (fun q3 h => ?_)
    show jx_Ex _ _ _ _ [.int q3.1] (jh S q3.2) _
    refine xo_56 (t := jm_b127_18) rfl (fun hc4 => ?_) (fun hc4 => ?_)
    · replace h := jw_pos hc4 h
      exact t_X9_rest_b18 hS h
    · replace h := jw_neg hc4 h
      refine xo_8 ?_
      refine xo_54 (t := jm_b127_22) rfl ?_
      exact xo_69 (jw_some h)
/-- Grammar.inRoadLines, at ['x.text'] -/
def f_X1_inRoadLines_1_b8 : Nat → Int32 → jT → Option (Int32 × jT)
  | 0, _, _ => none
  | n + 1, x1, σ =>
    if 10 ≤ x1 then
      (f_X9_position σ).bind fun q2 =>
      some (q2.1, q2.2)
    else
      (f_X1_takeRoadLine_1 σ).bind fun q3 =>
      if ¬ q3.1 = 0 then
        (f_X9_take 59 q3.2).bind fun q5 =>
        if ¬ q5.1 = 0 then
          f_X1_inRoadLines_1_b8 n (x1 + 1) q5.2
        else
          (f_X9_rest q5.2).bind fun q7 =>
          some (q7.1, q7.2)
      else
        (f_X9_position q3.2).bind fun q8 =>
        some (q8.1, q8.2)
def f_X1_inRoadLines_1 (σ : jT) : Option (Int32 × jT) :=
  (f_X9_open 76 σ).bind fun q1 =>
  f_X1_inRoadLines_1_b8 1000 0 q1.2
theorem t_X1_inRoadLines_1_b8 {S : jS} (hS : jCok S) {d : Nat} {Q : Option Value → jx_H → Prop} : ∀ (n : Nat) {x1 : Int32} {σ : jT}, jw (f_X1_inRoadLines_1_b8 n x1 σ) (fun q => Q (some (.int q.1)) (jh S q.2)) → jx_Ex (d + 3) jm_l11 jm_b11_8 [.ref 1, .int x1] [] (jh S σ) Q := by
  intro n
  induction n with
  | zero => intro x1 σ h; exact jw_none h
  | succ n ih =>
    intro x1 σ h
    rw [f_X1_inRoadLines_1_b8] at h
    refine xo_0 rfl ?_
    refine xo_9 ?_
    refine xo_64 (t := jm_b11_46) rfl (fun hc1 => ?_) (fun hc1 => ?_)
    · replace h := jw_pos hc1 h
      refine xo_2 rfl ?_
      refine xo_49 (st' := []) rfl rfl (xc_ly hS ly1) rfl (Nat.le_of_ble_eq_true rfl) ?_
      refine t_X9_position hS ?_
      refine jw_mono (jw_bind h) (fun q2 h => ?_)
      show jx_Ex _ _ _ _ [.int q2.1] (jh S q2.2) _
      exact xo_69 (jw_some h)
    · replace h := jw_neg hc1 h
      refine xo_2 rfl ?_
      refine xo_50 (st' := []) rfl rfl rfl (Nat.le_of_ble_eq_true rfl) ?_
      refine t_X1_takeRoadLine_1 hS ?_
      refine jw_mono (jw_bind h) (fun q3 h => ?_)
      show jx_Ex _ _ _ _ [.int q3.1] (jh S q3.2) _
      refine xo_56 (t := jm_b11_26) rfl (fun hc4 => ?_) (fun hc4 => ?_)
      · replace h := jw_pos hc4 h
        refine xo_2 rfl ?_
        refine xo_9 ?_
        refine xo_49 (st' := []) rfl rfl (xc_ly hS ly1) rfl (Nat.le_of_ble_eq_true rfl) ?_
        refine t_X9_take hS ?_
        refine jw_mono (jw_bind h) (fun q5 h => ?_)
        show jx_Ex _ _ _ _ [.int q5.1] (jh S q5.2) _
        refine xo_56 (t := jm_b11_40) rfl (fun hc6 => ?_) (fun hc6 => ?_)
        · replace h := jw_pos hc6 h
          refine xo_13 (ls' := [.ref 1, .int (x1 + 1)]) rfl rfl ?_
          refine xo_54 (t := jm_b11_8) rfl ?_
          exact ih h
        · replace h := jw_neg hc6 h
          refine xo_2 rfl ?_
          refine xo_49 (st' := []) rfl rfl (xc_ly hS ly1) rfl (Nat.le_of_ble_eq_true rfl) ?_
          refine t_X9_rest hS ?_
          refine jw_mono (jw_bind h) (fun q7 h => ?_)
          show jx_Ex _ _ _ _ [.int q7.1] (jh S q7.2) _
          exact xo_69 (jw_some h)
      · replace h := jw_neg hc4 h
        refine xo_2 rfl ?_
        refine xo_49 (st' := []) rfl rfl (xc_ly hS ly1) rfl (Nat.le_of_ble_eq_true rfl) ?_
        refine t_X9_position hS ?_
        refine jw_mono (jw_bind h) (fun q8 h => ?_)
        show jx_Ex _ _ _ _ [.int q8.1] (jh S q8.2) _
        exact xo_69 (jw_some h)
theorem t_X1_inRoadLines_1 {S : jS} (hS : jCok S) {d : Nat} {Q : Option Value → jx_H → Prop} {σ : jT} (h : jw (f_X1_inRoadLines_1 σ) (fun q => Q (some (.int q.1)) (jh S q.2))) : jx_Sp (d + 3) 11 [.ref 1] (jh S σ) Q := by
  refine ⟨jm_i11, jm_at11, rfl, rfl, ?_⟩
  show jx_Ex _ jm_l11 jm_b11_0 [.ref 1, .retAddr 0] [] _ _
  unfold f_X1_inRoadLines_1 at h
  refine xo_2 rfl ?_
  refine xo_9 ?_
  refine xo_49 (st' := []) rfl rfl (xc_ly hS ly1) rfl (Nat.le_of_ble_eq_true rfl) ?_
  refine t_X9_open hS ?_
  refine jw_mono (jw_bind h) (fun q1 h => ?_)
  show jx_Ex _ _ _ _ [] (jh S q1.2) _
  refine xo_8 ?_
  refine xo_4 (ls' := [.ref 1, .int 0]) rfl ?_
  exact t_X1_inRoadLines_1_b8 hS 1000 h
/-- Text.length, at ['x.text'] -/
def f_X9_length (σ : jT) : Option (Int32 × jT) :=
  some ((σ.1 65), σ)
theorem t_X9_length {S : jS} (hS : jCok S) {d : Nat} {Q : Option Value → jx_H → Prop} {σ : jT} (h : jw (f_X9_length σ) (fun q => Q (some (.int q.1)) (jh S q.2))) : jx_Sp (d) 113 [.ref 1] (jh S σ) Q := by
  refine ⟨jm_i113, jm_at113, rfl, rfl, ?_⟩
  show jx_Ex _ jm_l113 jm_b113_0 [.ref 1] [] _ _
  unfold f_X9_length at h
  refine xo_2 rfl ?_
  refine xc_32 (i := 65) (v := (σ.1 65)) hS ly1 rfl ⟨Nat.le_of_ble_eq_true rfl, Nat.le_of_ble_eq_true rfl⟩ rfl ?_
  exact xo_69 (jw_some h)
/-- Text.at, at ['x.text', 'int'] -/
def f_X9_at (x1 : Int32) (σ : jT) : Option (Int32 × jT) :=
  if x1 < 0 then
    some ((-1), σ)
  else
    if (σ.1 65) ≤ x1 then
      some ((-1), σ)
    else
      if jx_in x1 80 then
      some ((σ.2 2 x1.toNatClampNeg), σ)
      else none
theorem t_X9_at {S : jS} (hS : jCok S) {d : Nat} {Q : Option Value → jx_H → Prop} {x1 : Int32} {σ : jT} (h : jw (f_X9_at x1 σ) (fun q => Q (some (.int q.1)) (jh S q.2))) : jx_Sp (d) 114 [.ref 1, .int x1] (jh S σ) Q := by
  refine ⟨jm_i114, jm_at114, rfl, rfl, ?_⟩
  show jx_Ex _ jm_l114 jm_b114_0 [.ref 1, .int x1] [] _ _
  unfold f_X9_at at h
  refine xo_0 rfl ?_
  refine xo_57 (t := jm_b114_21) rfl (fun hc1 => ?_) (fun hc1 => ?_)
  · replace h := jw_pos hc1 h
    refine xo_8 ?_
    exact xo_69 (jw_some h)
  · replace h := jw_neg hc1 h
    refine xo_0 rfl ?_
    refine xo_2 rfl ?_
    refine xc_32 (i := 65) (v := (σ.1 65)) hS ly1 rfl ⟨Nat.le_of_ble_eq_true rfl, Nat.le_of_ble_eq_true rfl⟩ rfl ?_
    refine xo_64 (t := jm_b114_21) rfl (fun hc2 => ?_) (fun hc2 => ?_)
    · replace h := jw_pos hc2 h
      refine xo_8 ?_
      exact xo_69 (jw_some h)
    · replace h := jw_neg hc2 h
      refine xo_2 rfl ?_
      refine xc_33 (i := 64) (q := 2) hS ly1 rfl (xc_P hS (by decide)) ?_
      refine xo_0 rfl ?_
      obtain ⟨hi3, h⟩ := jw_chk h
      refine xc_38 (v := (σ.2 2 x1.toNatClampNeg)) hS ly2 ⟨Nat.le_of_ble_eq_true rfl, Nat.le_of_ble_eq_true rfl⟩ hi3 rfl rfl ?_
      refine xo_54 (t := jm_b114_22) rfl ?_
      exact xo_69 (jw_some h)
/-- Grammar.inRoads, at ['x.text'] -/
def f_X1_inRoads_1_b50 : Nat → Int32 → Int32 → jT → Option (Int32 × jT)
  | 0, _, _, _ => none
  | n + 1, x2, x3, σ =>
    (f_X9_length σ).bind fun q1 =>
    if q1.1 ≤ x3 then
      some ((-1), q1.2)
    else
      (f_X9_at x3 q1.2).bind fun q3 =>
      if q3.1 < (97 + x2) then
        f_X1_inRoads_1_b50 n x2 (x3 + 1) q3.2
      else
        some (x3, q3.2)
def f_X1_inRoads_1_b40 (k16 : Int32 → Int32 → jT → Option (Int32 × jT)) (x3 : Int32) (s0 : Int32) (s1 : Int32) (σ : jT) : Option (Int32 × jT) :=
  k16 (s1 + s0) (x3 + 1) σ
def f_X1_inRoads_1_b16 : Nat → Int32 → Int32 → jT → Option (Int32 × jT)
  | 0, _, _, _ => none
  | n + 1, x2, x3, σ =>
    (f_X9_length σ).bind fun q1 =>
    if q1.1 ≤ x3 then
      f_X1_inRoads_1_b50 1000 x2 0 q1.2
    else
      (f_X9_at x3 q1.2).bind fun q3 =>
      if ¬ q3.1 = 59 then
        f_X1_inRoads_1_b40 (f_X1_inRoads_1_b16 n) x3 0 x2 q3.2
      else
        f_X1_inRoads_1_b40 (f_X1_inRoads_1_b16 n) x3 1 x2 q3.2
def f_X1_inRoads_1 (σ : jT) : Option (Int32 × jT) :=
  (f_X1_inRoadLines_1 σ).bind fun q1 =>
  if q1.1 = (-1) then
    f_X1_inRoads_1_b16 1000 1 0 q1.2
  else
    some (q1.1, q1.2)
theorem t_X1_inRoads_1_b50 {S : jS} (hS : jCok S) {d : Nat} {Q : Option Value → jx_H → Prop} : ∀ (n : Nat) {x2 : Int32} {x3 : Int32} {w1 : Value} {σ : jT}, jw (f_X1_inRoads_1_b50 n x2 x3 σ) (fun q => Q (some (.int q.1)) (jh S q.2)) → jx_Ex (d + 4) jm_l10 jm_b10_50 [.ref 1, w1, .int x2, .int x3] [] (jh S σ) Q := by
  intro n
  induction n with
  | zero => intro x2 x3 w1 σ h; exact jw_none h
  | succ n ih =>
    intro x2 x3 w1 σ h
    rw [f_X1_inRoads_1_b50] at h
    refine xo_0 rfl ?_
    refine xo_2 rfl ?_
    refine xo_49 (st' := [.int x3]) rfl rfl (xc_ly hS ly1) rfl (Nat.le_of_ble_eq_true rfl) ?_
    refine t_X9_length hS ?_
    refine jw_mono (jw_bind h) (fun q1 h => ?_)
    show jx_Ex _ _ _ _ [.int q1.1, .int x3] (jh S q1.2) _
    refine xo_64 (t := jm_b10_78) rfl (fun hc2 => ?_) (fun hc2 => ?_)
    · replace h := jw_pos hc2 h
      refine xo_8 ?_
      exact xo_69 (jw_some h)
    · replace h := jw_neg hc2 h
      refine xo_2 rfl ?_
      refine xo_0 rfl ?_
      refine xo_49 (st' := []) rfl rfl (xc_ly hS ly1) rfl (Nat.le_of_ble_eq_true rfl) ?_
      refine t_X9_at hS ?_
      refine jw_mono (jw_bind h) (fun q3 h => ?_)
      show jx_Ex _ _ _ _ [.int q3.1] (jh S q3.2) _
      refine xo_9 ?_
      refine xo_0 rfl ?_
      refine xo_14 ?_
      refine xo_63 (t := jm_b10_72) rfl (fun hc4 => ?_) (fun hc4 => ?_)
      · replace h := jw_pos hc4 h
        refine xo_13 (ls' := [.ref 1, w1, .int x2, .int (x3 + 1)]) rfl rfl ?_
        refine xo_54 (t := jm_b10_50) rfl ?_
        exact ih h
      · replace h := jw_neg hc4 h
        refine xo_0 rfl ?_
        exact xo_69 (jw_some h)
theorem t_X1_inRoads_1_b40 {S : jS} (hS : jCok S) {d : Nat} {Q : Option Value → jx_H → Prop} {k16 : Int32 → Int32 → jT → Option (Int32 × jT)} (hk16 : ∀ {x2 : Int32} {x3 : Int32} {w1 : Value} {σ : jT}, jw (k16 x2 x3 σ) (fun q => Q (some (.int q.1)) (jh S q.2)) → jx_Ex (d + 4) jm_l10 jm_b10_16 [.ref 1, w1, .int x2, .int x3] [] (jh S σ) Q) {x3 : Int32} {s0 : Int32} {s1 : Int32} {w1 : Value} {w2 : Value} {σ : jT} (h : jw (f_X1_inRoads_1_b40 k16 x3 s0 s1 σ) (fun q => Q (some (.int q.1)) (jh S q.2))) : jx_Ex (d + 4) jm_l10 jm_b10_40 [.ref 1, w1, w2, .int x3] [.int s0, .int s1] (jh S σ) Q := by
  unfold f_X1_inRoads_1_b40 at h
  refine xo_14 ?_
  refine xo_4 (ls' := [.ref 1, w1, .int (s1 + s0), .int x3]) rfl ?_
  refine xo_13 (ls' := [.ref 1, w1, .int (s1 + s0), .int (x3 + 1)]) rfl rfl ?_
  refine xo_54 (t := jm_b10_16) rfl ?_
  exact hk16 h
theorem t_X1_inRoads_1_b16 {S : jS} (hS : jCok S) {d : Nat} {Q : Option Value → jx_H → Prop} : ∀ (n : Nat) {x2 : Int32} {x3 : Int32} {w1 : Value} {σ : jT}, jw (f_X1_inRoads_1_b16 n x2 x3 σ) (fun q => Q (some (.int q.1)) (jh S q.2)) → jx_Ex (d + 4) jm_l10 jm_b10_16 [.ref 1, w1, .int x2, .int x3] [] (jh S σ) Q := by
  intro n
  induction n with
  | zero => intro x2 x3 w1 σ h; exact jw_none h
  | succ n ih =>
    intro x2 x3 w1 σ h
    rw [f_X1_inRoads_1_b16] at h
    refine xo_0 rfl ?_
    refine xo_2 rfl ?_
    refine xo_49 (st' := [.int x3]) rfl rfl (xc_ly hS ly1) rfl (Nat.le_of_ble_eq_true rfl) ?_
    refine t_X9_length hS ?_
    refine jw_mono (jw_bind h) (fun q1 h => ?_)
    show jx_Ex _ _ _ _ [.int q1.1, .int x3] (jh S q1.2) _
    refine xo_64 (t := jm_b10_48) rfl (fun hc2 => ?_) (fun hc2 => ?_)
    · replace h := jw_pos hc2 h
      refine xo_8 ?_
      refine xo_4 (ls' := [.ref 1, w1, .int x2, .int 0]) rfl ?_
      exact t_X1_inRoads_1_b50 hS 1000 h
    · replace h := jw_neg hc2 h
      refine xo_0 rfl ?_
      refine xo_2 rfl ?_
      refine xo_0 rfl ?_
      refine xo_49 (st' := [.int x2]) rfl rfl (xc_ly hS ly1) rfl (Nat.le_of_ble_eq_true rfl) ?_
      refine t_X9_at hS ?_
      refine jw_mono (jw_bind h) (fun q3 h => ?_)
      show jx_Ex _ _ _ _ [.int q3.1, .int x2] (jh S q3.2) _
      refine xo_9 ?_
      refine xo_62 (t := jm_b10_39) rfl (fun hc4 => ?_) (fun hc4 => ?_)
      · replace h := jw_pos hc4 h
        refine xo_8 ?_
        exact t_X1_inRoads_1_b40 hS ih h
      · replace h := jw_neg hc4 h
        refine xo_8 ?_
        refine xo_54 (t := jm_b10_40) rfl ?_
        exact t_X1_inRoads_1_b40 hS ih h
theorem t_X1_inRoads_1 {S : jS} (hS : jCok S) {d : Nat} {Q : Option Value → jx_H → Prop} {σ : jT} (h : jw (f_X1_inRoads_1 σ) (fun q => Q (some (.int q.1)) (jh S q.2))) : jx_Sp (d + 4) 10 [.ref 1] (jh S σ) Q := by
  refine ⟨jm_i10, jm_at10, rfl, rfl, ?_⟩
  show jx_Ex _ jm_l10 jm_b10_0 [.ref 1, .retAddr 0, .retAddr 0, .retAddr 0] [] _ _
  unfold f_X1_inRoads_1 at h
  refine xo_2 rfl ?_
  refine xo_50 (st' := []) rfl rfl rfl (Nat.le_of_ble_eq_true rfl) ?_
  refine t_X1_inRoadLines_1 hS ?_
  refine jw_mono (jw_bind h) (fun q1 h => ?_)
  show jx_Ex _ _ _ _ [.int q1.1] (jh S q1.2) _
  refine xo_4 (ls' := [.ref 1, .int q1.1, .retAddr 0, .retAddr 0]) rfl ?_
  refine xo_0 rfl ?_
  refine xo_8 ?_
  refine xo_61 (t := jm_b10_12) rfl (fun hc2 => ?_) (fun hc2 => ?_)
  · replace h := jw_pos hc2 h
    refine xo_8 ?_
    refine xo_4 (ls' := [.ref 1, .int q1.1, .int 1, .retAddr 0]) rfl ?_
    refine xo_8 ?_
    refine xo_4 (ls' := [.ref 1, .int q1.1, .int 1, .int 0]) rfl ?_
    exact t_X1_inRoads_1_b16 hS 1000 h
  · replace h := jw_neg hc2 h
    refine xo_0 rfl ?_
    exact xo_69 (jw_some h)
/-- Text.clear, at ['x.text'] -/
def f_X9_clear (σ : jT) : Option (Int32 × jT) :=
  some (0, (gs σ 65 0))
theorem t_X9_clear {S : jS} (hS : jCok S) {d : Nat} {Q : Option Value → jx_H → Prop} {σ : jT} (h : jw (f_X9_clear σ) (fun q => Q none (jh S q.2))) : jx_Sp (d) 117 [.ref 1] (jh S σ) Q := by
  refine ⟨jm_i117, jm_at117, rfl, rfl, ?_⟩
  show jx_Ex _ jm_l117 jm_b117_0 [.ref 1] [] _ _
  unfold f_X9_clear at h
  refine xo_2 rfl ?_
  refine xo_8 ?_
  refine xc_34 (i := 65) hS ly1 rfl ⟨Nat.le_of_ble_eq_true rfl, Nat.le_of_ble_eq_true rfl⟩ ?_
  exact xo_71 (jw_some h)
/-- Land.places, at ['x.land'] -/
def f_X3_places (σ : jT) : Option (Int32 × jT) :=
  some ((σ.1 195), σ)
theorem t_X3_places {S : jS} (hS : jCok S) {d : Nat} {Q : Option Value → jx_H → Prop} {σ : jT} (h : jw (f_X3_places σ) (fun q => Q (some (.int q.1)) (jh S q.2))) : jx_Sp (d) 27 [.ref 3] (jh S σ) Q := by
  refine ⟨jm_i27, jm_at27, rfl, rfl, ?_⟩
  show jx_Ex _ jm_l27 jm_b27_0 [.ref 3] [] _ _
  unfold f_X3_places at h
  refine xo_2 rfl ?_
  refine xc_32 (i := 195) (v := (σ.1 195)) hS ly3 rfl ⟨Nat.le_of_ble_eq_true rfl, Nat.le_of_ble_eq_true rfl⟩ rfl ?_
  exact xo_69 (jw_some h)
/-- Land.addPlace, at ['x.land'] -/
def f_X3_addPlace (σ : jT) : Option (Int32 × jT) :=
  if 10 ≤ (σ.1 195) then
    some (0, σ)
  else
    if jx_in (σ.1 195) 10 then
    some (0, (gs (gA σ 4 (σ.1 195).toNatClampNeg 0) 195 ((σ.1 195) + 1)))
    else none
theorem t_X3_addPlace {S : jS} (hS : jCok S) {d : Nat} {Q : Option Value → jx_H → Prop} {σ : jT} (h : jw (f_X3_addPlace σ) (fun q => Q none (jh S q.2))) : jx_Sp (d) 41 [.ref 3] (jh S σ) Q := by
  refine ⟨jm_i41, jm_at41, rfl, rfl, ?_⟩
  show jx_Ex _ jm_l41 jm_b41_0 [.ref 3] [] _ _
  unfold f_X3_addPlace at h
  refine xo_2 rfl ?_
  refine xc_32 (i := 195) (v := (σ.1 195)) hS ly3 rfl ⟨Nat.le_of_ble_eq_true rfl, Nat.le_of_ble_eq_true rfl⟩ rfl ?_
  refine xo_9 ?_
  refine xo_64 (t := jm_b41_29) rfl (fun hc1 => ?_) (fun hc1 => ?_)
  · replace h := jw_pos hc1 h
    exact xo_71 (jw_some h)
  · replace h := jw_neg hc1 h
    refine xo_2 rfl ?_
    refine xc_33 (i := 192) (q := 4) hS ly3 rfl (xc_P hS (by decide)) ?_
    refine xo_2 rfl ?_
    refine xc_32 (i := 195) (v := (σ.1 195)) hS ly3 rfl ⟨Nat.le_of_ble_eq_true rfl, Nat.le_of_ble_eq_true rfl⟩ rfl ?_
    refine xo_8 ?_
    obtain ⟨hi2, h⟩ := jw_chk h
    refine xc_41 hS ly4 ⟨Nat.le_of_ble_eq_true rfl, Nat.le_of_ble_eq_true rfl⟩ hi2 rfl ?_
    refine xo_2 rfl ?_
    refine xo_28r ?_
    refine xc_32 (i := 195) (v := (σ.1 195)) hS ly3 rfl ⟨Nat.le_of_ble_eq_true rfl, Nat.le_of_ble_eq_true rfl⟩ rfl ?_
    refine xo_8 ?_
    refine xo_14 ?_
    refine xc_34 (i := 195) hS ly3 rfl ⟨Nat.le_of_ble_eq_true rfl, Nat.le_of_ble_eq_true rfl⟩ ?_
    exact xo_71 (jw_some h)
/-- Land.addWay, at ['x.land', 'int'] -/
def f_X3_addWay (x1 : Int32) (σ : jT) : Option (Int32 × jT) :=
  if ((σ.1 195) - 1) < 0 then
    some (0, σ)
  else
    if jx_in ((σ.1 195) - 1) 10 then
    if 3 ≤ (σ.2 4 ((σ.1 195) - 1).toNatClampNeg) then
      some (0, σ)
    else
      if jx_in ((σ.1 195) - 1) 10 then
      if jx_in ((((σ.1 195) - 1) * 3) + (σ.2 4 ((σ.1 195) - 1).toNatClampNeg)) 30 then
      if jx_in ((σ.1 195) - 1) 10 then
      if jx_in ((σ.1 195) - 1) 10 then
      some (0, (gA (gA σ 5 ((((σ.1 195) - 1) * 3) + (σ.2 4 ((σ.1 195) - 1).toNatClampNeg)).toNatClampNeg x1) 4 ((σ.1 195) - 1).toNatClampNeg ((σ.2 4 ((σ.1 195) - 1).toNatClampNeg) + 1)))
      else none
      else none
      else none
      else none
    else none
theorem t_X3_addWay {S : jS} (hS : jCok S) {d : Nat} {Q : Option Value → jx_H → Prop} {x1 : Int32} {σ : jT} (h : jw (f_X3_addWay x1 σ) (fun q => Q none (jh S q.2))) : jx_Sp (d) 42 [.ref 3, .int x1] (jh S σ) Q := by
  refine ⟨jm_i42, jm_at42, rfl, rfl, ?_⟩
  show jx_Ex _ jm_l42 jm_b42_0 [.ref 3, .int x1, .retAddr 0] [] _ _
  unfold f_X3_addWay at h
  refine xo_2 rfl ?_
  refine xc_32 (i := 195) (v := (σ.1 195)) hS ly3 rfl ⟨Nat.le_of_ble_eq_true rfl, Nat.le_of_ble_eq_true rfl⟩ rfl ?_
  refine xo_8 ?_
  refine xo_15 ?_
  refine xo_4 (ls' := [.ref 3, .int x1, .int ((σ.1 195) - 1)]) rfl ?_
  refine xo_0 rfl ?_
  refine xo_57 (t := jm_b42_47) rfl (fun hc1 => ?_) (fun hc1 => ?_)
  · replace h := jw_pos hc1 h
    exact xo_71 (jw_some h)
  · replace h := jw_neg hc1 h
    refine xo_2 rfl ?_
    refine xc_33 (i := 192) (q := 4) hS ly3 rfl (xc_P hS (by decide)) ?_
    refine xo_0 rfl ?_
    obtain ⟨hi2, h⟩ := jw_chk h
    refine xc_38 (v := (σ.2 4 ((σ.1 195) - 1).toNatClampNeg)) hS ly4 ⟨Nat.le_of_ble_eq_true rfl, Nat.le_of_ble_eq_true rfl⟩ hi2 rfl rfl ?_
    refine xo_8 ?_
    refine xo_64 (t := jm_b42_47) rfl (fun hc3 => ?_) (fun hc3 => ?_)
    · replace h := jw_pos hc3 h
      exact xo_71 (jw_some h)
    · replace h := jw_neg hc3 h
      refine xo_2 rfl ?_
      refine xc_33 (i := 193) (q := 5) hS ly3 rfl (xc_P hS (by decide)) ?_
      refine xo_0 rfl ?_
      refine xo_8 ?_
      refine xo_16 ?_
      refine xo_2 rfl ?_
      refine xc_33 (i := 192) (q := 4) hS ly3 rfl (xc_P hS (by decide)) ?_
      refine xo_0 rfl ?_
      obtain ⟨hi4, h⟩ := jw_chk h
      refine xc_38 (v := (σ.2 4 ((σ.1 195) - 1).toNatClampNeg)) hS ly4 ⟨Nat.le_of_ble_eq_true rfl, Nat.le_of_ble_eq_true rfl⟩ hi4 rfl rfl ?_
      refine xo_14 ?_
      refine xo_0 rfl ?_
      obtain ⟨hi5, h⟩ := jw_chk h
      refine xc_41 hS ly5 ⟨Nat.le_of_ble_eq_true rfl, Nat.le_of_ble_eq_true rfl⟩ hi5 rfl ?_
      refine xo_2 rfl ?_
      refine xc_33 (i := 192) (q := 4) hS ly3 rfl (xc_P hS (by decide)) ?_
      refine xo_0 rfl ?_
      refine xo_29 ?_
      obtain ⟨hi6, h⟩ := jw_chk h
      refine xc_38 (v := (σ.2 4 ((σ.1 195) - 1).toNatClampNeg)) hS ly4 ⟨Nat.le_of_ble_eq_true rfl, Nat.le_of_ble_eq_true rfl⟩ hi6 rfl rfl ?_
      refine xo_8 ?_
      refine xo_14 ?_
      obtain ⟨hi7, h⟩ := jw_chk h
      refine xc_41 hS ly4 ⟨Nat.le_of_ble_eq_true rfl, Nat.le_of_ble_eq_true rfl⟩ hi7 rfl ?_
      exact xo_71 (jw_some h)
/-- Land.lay, at ['x.land', 'x.text'] -/
def f_X3_lay_1_b88 (k21 : Int32 → jT → Option (Int32 × jT)) (x2 : Int32) (σ : jT) : Option (Int32 × jT) :=
  k21 (x2 + 1) σ
def f_X3_lay_1_b21 : Nat → Int32 → jT → Option (Int32 × jT)
  | 0, _, _ => none
  | n + 1, x2, σ =>
    (f_X9_length σ).bind fun q1 =>
    if q1.1 ≤ x2 then
      some (0, q1.2)
    else
      (f_X9_at x2 q1.2).bind fun q3 =>
      if ¬ q3.1 = 59 then
        if ¬ q3.1 = 33 then
          if q3.1 = 45 then
            f_X3_lay_1_b88 (f_X3_lay_1_b21 n) x2 q3.2
          else
            (f_X3_addWay (q3.1 - 97) q3.2).bind fun q7 =>
            f_X3_lay_1_b88 (f_X3_lay_1_b21 n) x2 q7.2
        else
          f_X3_lay_1_b88 (f_X3_lay_1_b21 n) x2 (gs q3.2 196 ((q3.2.1 196) ||| (1 <<< (((q3.2.1 195) - 1) &&& 31))))
      else
        (f_X3_addPlace q3.2).bind fun q8 =>
        f_X3_lay_1_b88 (f_X3_lay_1_b21 n) x2 q8.2
def f_X3_lay_1 (σ : jT) : Option (Int32 × jT) :=
  (f_X3_addPlace (gs (gs (gs σ 195 0) 196 0) 197 0)).bind fun q1 =>
  f_X3_lay_1_b21 1000 0 q1.2
theorem t_X3_lay_1_b88 {S : jS} (hS : jCok S) {d : Nat} {Q : Option Value → jx_H → Prop} {k21 : Int32 → jT → Option (Int32 × jT)} (hk21 : ∀ {x2 : Int32} {w3 : Value} {σ : jT}, jw (k21 x2 σ) (fun q => Q none (jh S q.2)) → jx_Ex (d + 1) jm_l40 jm_b40_21 [.ref 3, .ref 1, .int x2, w3] [] (jh S σ) Q) {x2 : Int32} {w3 : Value} {σ : jT} (h : jw (f_X3_lay_1_b88 k21 x2 σ) (fun q => Q none (jh S q.2))) : jx_Ex (d + 1) jm_l40 jm_b40_88 [.ref 3, .ref 1, .int x2, w3] [] (jh S σ) Q := by
  unfold f_X3_lay_1_b88 at h
  refine xo_13 (ls' := [.ref 3, .ref 1, .int (x2 + 1), w3]) rfl rfl ?_
  refine xo_54 (t := jm_b40_21) rfl ?_
  exact hk21 h
theorem t_X3_lay_1_b21 {S : jS} (hS : jCok S) {d : Nat} {Q : Option Value → jx_H → Prop} : ∀ (n : Nat) {x2 : Int32} {w3 : Value} {σ : jT}, jw (f_X3_lay_1_b21 n x2 σ) (fun q => Q none (jh S q.2)) → jx_Ex (d + 1) jm_l40 jm_b40_21 [.ref 3, .ref 1, .int x2, w3] [] (jh S σ) Q := by
  intro n
  induction n with
  | zero => intro x2 w3 σ h; exact jw_none h
  | succ n ih =>
    intro x2 w3 σ h
    rw [f_X3_lay_1_b21] at h
    refine xo_0 rfl ?_
    refine xo_2 rfl ?_
    refine xo_49 (st' := [.int x2]) rfl rfl (xc_ly hS ly1) rfl (Nat.le_of_ble_eq_true rfl) ?_
    refine t_X9_length hS ?_
    refine jw_mono (jw_bind h) (fun q1 h => ?_)
    show jx_Ex _ _ _ _ [.int q1.1, .int x2] (jh S q1.2) _
    refine xo_64 (t := jm_b40_94) rfl (fun hc2 => ?_) (fun hc2 => ?_)
    · replace h := jw_pos hc2 h
      exact xo_71 (jw_some h)
    · replace h := jw_neg hc2 h
      refine xo_2 rfl ?_
      refine xo_0 rfl ?_
      refine xo_49 (st' := []) rfl rfl (xc_ly hS ly1) rfl (Nat.le_of_ble_eq_true rfl) ?_
      refine t_X9_at hS ?_
      refine jw_mono (jw_bind h) (fun q3 h => ?_)
      show jx_Ex _ _ _ _ [.int q3.1] (jh S q3.2) _
      refine xo_4 (ls' := [.ref 3, .ref 1, .int x2, .int q3.1]) rfl ?_
      refine xo_0 rfl ?_
      refine xo_9 ?_
      refine xo_62 (t := jm_b40_48) rfl (fun hc4 => ?_) (fun hc4 => ?_)
      · replace h := jw_pos hc4 h
        refine xo_0 rfl ?_
        refine xo_9 ?_
        refine xo_62 (t := jm_b40_74) rfl (fun hc5 => ?_) (fun hc5 => ?_)
        · replace h := jw_pos hc5 h
          refine xo_0 rfl ?_
          refine xo_9 ?_
          refine xo_61 (t := jm_b40_88) rfl (fun hc6 => ?_) (fun hc6 => ?_)
          · replace h := jw_pos hc6 h
            exact t_X3_lay_1_b88 hS ih h
          · replace h := jw_neg hc6 h
            refine xo_2 rfl ?_
            refine xo_0 rfl ?_
            refine xo_9 ?_
            refine xo_15 ?_
            refine xo_49 (st' := []) rfl rfl (xc_ly hS ly3) rfl (Nat.le_of_ble_eq_true rfl) ?_
            refine t_X3_addWay hS ?_
            refine jw_mono (jw_bind h) (fun q7 h => ?_)
            show jx_Ex _ _ _ _ [] (jh S q7.2) _
            exact t_X3_lay_1_b88 hS ih h
        · replace h := jw_neg hc5 h
          refine xo_2 rfl ?_
          refine xo_2 rfl ?_
          refine xc_32 (i := 196) (v := (q3.2.1 196)) hS ly3 rfl ⟨Nat.le_of_ble_eq_true rfl, Nat.le_of_ble_eq_true rfl⟩ rfl ?_
          refine xo_8 ?_
          refine xo_2 rfl ?_
          refine xc_32 (i := 195) (v := (q3.2.1 195)) hS ly3 rfl ⟨Nat.le_of_ble_eq_true rfl, Nat.le_of_ble_eq_true rfl⟩ rfl ?_
          refine xo_8 ?_
          refine xo_15 ?_
          refine xo_23 ?_
          refine xo_21 ?_
          refine xc_34 (i := 196) hS ly3 rfl ⟨Nat.le_of_ble_eq_true rfl, Nat.le_of_ble_eq_true rfl⟩ ?_
          refine xo_54 (t := jm_b40_88) rfl ?_
          exact t_X3_lay_1_b88 hS ih h
      · replace h := jw_neg hc4 h
        refine xo_2 rfl ?_
        refine xo_49 (st' := []) rfl rfl (xc_ly hS ly3) rfl (Nat.le_of_ble_eq_true rfl) ?_
        refine t_X3_addPlace hS ?_
        refine jw_mono (jw_bind h) (fun q8 h => ?_)
        show jx_Ex _ _ _ _ [] (jh S q8.2) _
        refine xo_54 (t := jm_b40_88) rfl ?_
        exact t_X3_lay_1_b88 hS ih h
theorem t_X3_lay_1 {S : jS} (hS : jCok S) {d : Nat} {Q : Option Value → jx_H → Prop} {σ : jT} (h : jw (f_X3_lay_1 σ) (fun q => Q none (jh S q.2))) : jx_Sp (d + 1) 40 [.ref 3, .ref 1] (jh S σ) Q := by
  refine ⟨jm_i40, jm_at40, rfl, rfl, ?_⟩
  show jx_Ex _ jm_l40 jm_b40_0 [.ref 3, .ref 1, .retAddr 0, .retAddr 0] [] _ _
  unfold f_X3_lay_1 at h
  refine xo_2 rfl ?_
  refine xo_8 ?_
  refine xc_34 (i := 195) hS ly3 rfl ⟨Nat.le_of_ble_eq_true rfl, Nat.le_of_ble_eq_true rfl⟩ ?_
  refine xo_2 rfl ?_
  refine xo_8 ?_
  refine xc_34 (i := 196) hS ly3 rfl ⟨Nat.le_of_ble_eq_true rfl, Nat.le_of_ble_eq_true rfl⟩ ?_
  refine xo_2 rfl ?_
  refine xo_8 ?_
  refine xc_34 (i := 197) hS ly3 rfl ⟨Nat.le_of_ble_eq_true rfl, Nat.le_of_ble_eq_true rfl⟩ ?_
  refine xo_2 rfl ?_
  refine xo_49 (st' := []) rfl rfl (xc_ly hS ly3) rfl (Nat.le_of_ble_eq_true rfl) ?_
  refine t_X3_addPlace hS ?_
  refine jw_mono (jw_bind h) (fun q1 h => ?_)
  show jx_Ex _ _ _ _ [] (jh S q1.2) _
  refine xo_8 ?_
  refine xo_4 (ls' := [.ref 3, .ref 1, .int 0, .retAddr 0]) rfl ?_
  exact t_X3_lay_1_b21 hS 1000 h
/-- Standing.seat, at ['x.now', 'int', 'int'] -/
def f_X8_seat (x1 : Int32) (x2 : Int32) (σ : jT) : Option (Int32 × jT) :=
  some (0, (gA (gA (gA σ 13 25 x1) 13 26 x2) 13 27 0))
theorem t_X8_seat {S : jS} (hS : jCok S) {d : Nat} {Q : Option Value → jx_H → Prop} {x1 : Int32} {x2 : Int32} {σ : jT} (h : jw (f_X8_seat x1 x2 σ) (fun q => Q none (jh S q.2))) : jx_Sp (d) 111 [.ref 12, .int x1, .int x2] (jh S σ) Q := by
  refine ⟨jm_i111, jm_at111, rfl, rfl, ?_⟩
  show jx_Ex _ jm_l111 jm_b111_0 [.ref 12, .int x1, .int x2] [] _ _
  unfold f_X8_seat at h
  refine xo_2 rfl ?_
  refine xc_33 (i := 768) (q := 13) hS ly12 rfl (xc_P hS (by decide)) ?_
  refine xo_9 ?_
  refine xo_0 rfl ?_
  refine xc_41 hS ly13 ⟨Nat.le_of_ble_eq_true rfl, Nat.le_of_ble_eq_true rfl⟩ (by decide) (by decide) ?_
  refine xo_2 rfl ?_
  refine xc_33 (i := 768) (q := 13) hS ly12 rfl (xc_P hS (by decide)) ?_
  refine xo_9 ?_
  refine xo_0 rfl ?_
  refine xc_41 hS ly13 ⟨Nat.le_of_ble_eq_true rfl, Nat.le_of_ble_eq_true rfl⟩ (by decide) (by decide) ?_
  refine xo_2 rfl ?_
  refine xc_33 (i := 768) (q := 13) hS ly12 rfl (xc_P hS (by decide)) ?_
  refine xo_9 ?_
  refine xo_8 ?_
  refine xc_41 hS ly13 ⟨Nat.le_of_ble_eq_true rfl, Nat.le_of_ble_eq_true rfl⟩ (by decide) (by decide) ?_
  exact xo_71 (jw_some h)
/-- Standing.clear, at ['x.now'] -/
def f_X8_clear (σ : jT) : Option (Int32 × jT) :=
  (f_X8_seat (-1) (-1) (gA σ 13 24 0)).bind fun q1 =>
  some (0, q1.2)
theorem t_X8_clear {S : jS} (hS : jCok S) {d : Nat} {Q : Option Value → jx_H → Prop} {σ : jT} (h : jw (f_X8_clear σ) (fun q => Q none (jh S q.2))) : jx_Sp (d + 1) 88 [.ref 12] (jh S σ) Q := by
  refine ⟨jm_i88, jm_at88, rfl, rfl, ?_⟩
  show jx_Ex _ jm_l88 jm_b88_0 [.ref 12] [] _ _
  unfold f_X8_clear at h
  refine xo_2 rfl ?_
  refine xc_33 (i := 768) (q := 13) hS ly12 rfl (xc_P hS (by decide)) ?_
  refine xo_9 ?_
  refine xo_8 ?_
  refine xc_41 hS ly13 ⟨Nat.le_of_ble_eq_true rfl, Nat.le_of_ble_eq_true rfl⟩ (by decide) (by decide) ?_
  refine xo_2 rfl ?_
  refine xo_8 ?_
  refine xo_8 ?_
  refine xo_49 (st' := []) rfl rfl (xc_ly hS ly12) rfl (Nat.le_of_ble_eq_true rfl) ?_
  refine t_X8_seat hS ?_
  refine jw_mono (jw_bind h) (fun q1 h => ?_)
  show jx_Ex _ _ _ _ [] (jh S q1.2) _
  exact xo_71 (jw_some h)
end
