section
-- ===== PART A: goes FIRST, ahead of the names: the tables' words, and 'selects' of the private methods out of them =====
/-- a private method of a class that the tables say can be made, by its rows of tables_1 -/
def lw_okq (q : MethodName × Nat) : Prop := (q.1.cls ≠ "java/lang/invoke/MethodHandle" ∧ q.1.cls ≠ "java/lang/invoke/VarHandle") ∧ Cond.instantiable q.1.cls q.2 ∈ tables_1 ∧ Cond.privateMethod q.1 ∈ tables_1 ∧ Cond.instanceMethod q.1 ∈ tables_1
theorem lw_p0 : lw_okq (⟨"OfDifferentMinds$Land", "addPlace", "()V"⟩, 6) := ⟨⟨by decide +kernel, by decide +kernel⟩, List.mem_of_getElem? (i := 49) (by decide +kernel), List.mem_of_getElem? (i := 347) (by decide +kernel), List.mem_of_getElem? (i := 348) (by decide +kernel)⟩
theorem lw_p1 : lw_okq (⟨"OfDifferentMinds$Land", "addWay", "(I)V"⟩, 6) := ⟨⟨by decide +kernel, by decide +kernel⟩, List.mem_of_getElem? (i := 49) (by decide +kernel), List.mem_of_getElem? (i := 353) (by decide +kernel), List.mem_of_getElem? (i := 354) (by decide +kernel)⟩
theorem lw_p2 : lw_okq (⟨"OfDifferentMinds", "admitAll", "()I"⟩, 14) := ⟨⟨by decide +kernel, by decide +kernel⟩, List.mem_of_getElem? (i := 21) (by decide +kernel), List.mem_of_getElem? (i := 396) (by decide +kernel), List.mem_of_getElem? (i := 397) (by decide +kernel)⟩
theorem lw_p3 : lw_okq (⟨"OfDifferentMinds$Standing", "set", "(III)V"⟩, 1) := ⟨⟨by decide +kernel, by decide +kernel⟩, List.mem_of_getElem? (i := 99) (by decide +kernel), List.mem_of_getElem? (i := 411) (by decide +kernel), List.mem_of_getElem? (i := 412) (by decide +kernel)⟩
theorem lw_p4 : lw_okq (⟨"OfDifferentMinds$Rule", "takeJoined", "(LOfDifferentMinds$Text;II)Z"⟩, 6) := ⟨⟨by decide +kernel, by decide +kernel⟩, List.mem_of_getElem? (i := 74) (by decide +kernel), List.mem_of_getElem? (i := 429) (by decide +kernel), List.mem_of_getElem? (i := 430) (by decide +kernel)⟩
theorem lw_p5 : lw_okq (⟨"OfDifferentMinds$Rule", "takeSigned", "(LOfDifferentMinds$Text;I)Z"⟩, 6) := ⟨⟨by decide +kernel, by decide +kernel⟩, List.mem_of_getElem? (i := 74) (by decide +kernel), List.mem_of_getElem? (i := 433) (by decide +kernel), List.mem_of_getElem? (i := 434) (by decide +kernel)⟩
theorem lw_p6 : lw_okq (⟨"OfDifferentMinds$Rule", "takeInner", "(LOfDifferentMinds$Text;I)Z"⟩, 6) := ⟨⟨by decide +kernel, by decide +kernel⟩, List.mem_of_getElem? (i := 74) (by decide +kernel), List.mem_of_getElem? (i := 439) (by decide +kernel), List.mem_of_getElem? (i := 440) (by decide +kernel)⟩
theorem lw_p7 : lw_okq (⟨"OfDifferentMinds$Rule", "takeThing", "(LOfDifferentMinds$Text;)Z"⟩, 6) := ⟨⟨by decide +kernel, by decide +kernel⟩, List.mem_of_getElem? (i := 74) (by decide +kernel), List.mem_of_getElem? (i := 447) (by decide +kernel), List.mem_of_getElem? (i := 448) (by decide +kernel)⟩
theorem lw_p8 : lw_okq (⟨"OfDifferentMinds$Rule", "write", "(I)V"⟩, 6) := ⟨⟨by decide +kernel, by decide +kernel⟩, List.mem_of_getElem? (i := 74) (by decide +kernel), List.mem_of_getElem? (i := 452) (by decide +kernel), List.mem_of_getElem? (i := 453) (by decide +kernel)⟩
theorem lw_p9 : lw_okq (⟨"OfDifferentMinds", "viewAt", "(II)I"⟩, 14) := ⟨⟨by decide +kernel, by decide +kernel⟩, List.mem_of_getElem? (i := 21) (by decide +kernel), List.mem_of_getElem? (i := 484) (by decide +kernel), List.mem_of_getElem? (i := 485) (by decide +kernel)⟩
theorem lw_p10 : lw_okq (⟨"OfDifferentMinds$Standing", "get", "(II)I"⟩, 1) := ⟨⟨by decide +kernel, by decide +kernel⟩, List.mem_of_getElem? (i := 99) (by decide +kernel), List.mem_of_getElem? (i := 496) (by decide +kernel), List.mem_of_getElem? (i := 497) (by decide +kernel)⟩
theorem lw_p11 : lw_okq (⟨"OfDifferentMinds", "limitSpent", "()V"⟩, 14) := ⟨⟨by decide +kernel, by decide +kernel⟩, List.mem_of_getElem? (i := 21) (by decide +kernel), List.mem_of_getElem? (i := 523) (by decide +kernel), List.mem_of_getElem? (i := 524) (by decide +kernel)⟩
theorem lw_p12 : lw_okq (⟨"OfDifferentMinds", "getOn", "(II)I"⟩, 14) := ⟨⟨by decide +kernel, by decide +kernel⟩, List.mem_of_getElem? (i := 21) (by decide +kernel), List.mem_of_getElem? (i := 552) (by decide +kernel), List.mem_of_getElem? (i := 553) (by decide +kernel)⟩
theorem lw_p13 : lw_okq (⟨"OfDifferentMinds", "areTwo", "(II)Z"⟩, 14) := ⟨⟨by decide +kernel, by decide +kernel⟩, List.mem_of_getElem? (i := 21) (by decide +kernel), List.mem_of_getElem? (i := 556) (by decide +kernel), List.mem_of_getElem? (i := 557) (by decide +kernel)⟩
theorem lw_p14 : lw_okq (⟨"OfDifferentMinds", "noted", "(I)I"⟩, 14) := ⟨⟨by decide +kernel, by decide +kernel⟩, List.mem_of_getElem? (i := 21) (by decide +kernel), List.mem_of_getElem? (i := 573) (by decide +kernel), List.mem_of_getElem? (i := 574) (by decide +kernel)⟩
theorem lw_p15 : lw_okq (⟨"OfDifferentMinds", "getOff", "()I"⟩, 14) := ⟨⟨by decide +kernel, by decide +kernel⟩, List.mem_of_getElem? (i := 21) (by decide +kernel), List.mem_of_getElem? (i := 586) (by decide +kernel), List.mem_of_getElem? (i := 587) (by decide +kernel)⟩
def lw_privs_1 : List (MethodName × Nat) := [(⟨"OfDifferentMinds$Land", "addPlace", "()V"⟩, 6), (⟨"OfDifferentMinds$Land", "addWay", "(I)V"⟩, 6), (⟨"OfDifferentMinds", "admitAll", "()I"⟩, 14), (⟨"OfDifferentMinds$Standing", "set", "(III)V"⟩, 1), (⟨"OfDifferentMinds$Rule", "takeJoined", "(LOfDifferentMinds$Text;II)Z"⟩, 6), (⟨"OfDifferentMinds$Rule", "takeSigned", "(LOfDifferentMinds$Text;I)Z"⟩, 6), (⟨"OfDifferentMinds$Rule", "takeInner", "(LOfDifferentMinds$Text;I)Z"⟩, 6), (⟨"OfDifferentMinds$Rule", "takeThing", "(LOfDifferentMinds$Text;)Z"⟩, 6), (⟨"OfDifferentMinds$Rule", "write", "(I)V"⟩, 6), (⟨"OfDifferentMinds", "viewAt", "(II)I"⟩, 14), (⟨"OfDifferentMinds$Standing", "get", "(II)I"⟩, 1), (⟨"OfDifferentMinds", "limitSpent", "()V"⟩, 14), (⟨"OfDifferentMinds", "getOn", "(II)I"⟩, 14), (⟨"OfDifferentMinds", "areTwo", "(II)Z"⟩, 14), (⟨"OfDifferentMinds", "noted", "(I)I"⟩, 14), (⟨"OfDifferentMinds", "getOff", "()I"⟩, 14)]
theorem lw_r1 : ∀ q ∈ lw_privs_1, lw_okq q := List.forall_mem_cons.mpr ⟨lw_p0, List.forall_mem_cons.mpr ⟨lw_p1, List.forall_mem_cons.mpr ⟨lw_p2, List.forall_mem_cons.mpr ⟨lw_p3, List.forall_mem_cons.mpr ⟨lw_p4, List.forall_mem_cons.mpr ⟨lw_p5, List.forall_mem_cons.mpr ⟨lw_p6, List.forall_mem_cons.mpr ⟨lw_p7, List.forall_mem_cons.mpr ⟨lw_p8, List.forall_mem_cons.mpr ⟨lw_p9, List.forall_mem_cons.mpr ⟨lw_p10, List.forall_mem_cons.mpr ⟨lw_p11, List.forall_mem_cons.mpr ⟨lw_p12, List.forall_mem_cons.mpr ⟨lw_p13, List.forall_mem_cons.mpr ⟨lw_p14, List.forall_mem_cons.mpr ⟨lw_p15, fun _ h => absurd h List.not_mem_nil⟩⟩⟩⟩⟩⟩⟩⟩⟩⟩⟩⟩⟩⟩⟩⟩
theorem lw_p16 : lw_okq (⟨"OfDifferentMinds", "goOn", "(I)I"⟩, 14) := ⟨⟨by decide +kernel, by decide +kernel⟩, List.mem_of_getElem? (i := 21) (by decide +kernel), List.mem_of_getElem? (i := 594) (by decide +kernel), List.mem_of_getElem? (i := 595) (by decide +kernel)⟩
theorem lw_p17 : lw_okq (⟨"OfDifferentMinds$Ride", "wayBy", "(II)I"⟩, 13) := ⟨⟨by decide +kernel, by decide +kernel⟩, List.mem_of_getElem? (i := 147) (by decide +kernel), List.mem_of_getElem? (i := 637) (by decide +kernel), List.mem_of_getElem? (i := 638) (by decide +kernel)⟩
theorem lw_p18 : lw_okq (⟨"OfDifferentMinds$Ride", "goBy", "(I)Z"⟩, 13) := ⟨⟨by decide +kernel, by decide +kernel⟩, List.mem_of_getElem? (i := 147) (by decide +kernel), List.mem_of_getElem? (i := 653) (by decide +kernel), List.mem_of_getElem? (i := 654) (by decide +kernel)⟩
theorem lw_p19 : lw_okq (⟨"OfDifferentMinds$Ride", "wear", "()V"⟩, 13) := ⟨⟨by decide +kernel, by decide +kernel⟩, List.mem_of_getElem? (i := 147) (by decide +kernel), List.mem_of_getElem? (i := 661) (by decide +kernel), List.mem_of_getElem? (i := 662) (by decide +kernel)⟩
theorem lw_p20 : lw_okq (⟨"OfDifferentMinds", "goAfoot", "(II)I"⟩, 14) := ⟨⟨by decide +kernel, by decide +kernel⟩, List.mem_of_getElem? (i := 21) (by decide +kernel), List.mem_of_getElem? (i := 719) (by decide +kernel), List.mem_of_getElem? (i := 720) (by decide +kernel)⟩
theorem lw_p21 : lw_okq (⟨"OfDifferentMinds", "goLeading", "(II)I"⟩, 14) := ⟨⟨by decide +kernel, by decide +kernel⟩, List.mem_of_getElem? (i := 21) (by decide +kernel), List.mem_of_getElem? (i := 733) (by decide +kernel), List.mem_of_getElem? (i := 734) (by decide +kernel)⟩
theorem lw_p22 : lw_okq (⟨"OfDifferentMinds", "sleep", "(I)I"⟩, 14) := ⟨⟨by decide +kernel, by decide +kernel⟩, List.mem_of_getElem? (i := 21) (by decide +kernel), List.mem_of_getElem? (i := 742) (by decide +kernel), List.mem_of_getElem? (i := 743) (by decide +kernel)⟩
theorem lw_p23 : lw_okq (⟨"OfDifferentMinds", "changeMaps", "(II)I"⟩, 14) := ⟨⟨by decide +kernel, by decide +kernel⟩, List.mem_of_getElem? (i := 21) (by decide +kernel), List.mem_of_getElem? (i := 755) (by decide +kernel), List.mem_of_getElem? (i := 756) (by decide +kernel)⟩
theorem lw_p24 : lw_okq (⟨"OfDifferentMinds", "act", "(III)I"⟩, 14) := ⟨⟨by decide +kernel, by decide +kernel⟩, List.mem_of_getElem? (i := 21) (by decide +kernel), List.mem_of_getElem? (i := 780) (by decide +kernel), List.mem_of_getElem? (i := 781) (by decide +kernel)⟩
theorem lw_p25 : lw_okq (⟨"OfDifferentMinds", "canRide", "(III)Z"⟩, 14) := ⟨⟨by decide +kernel, by decide +kernel⟩, List.mem_of_getElem? (i := 21) (by decide +kernel), List.mem_of_getElem? (i := 808) (by decide +kernel), List.mem_of_getElem? (i := 809) (by decide +kernel)⟩
theorem lw_p26 : lw_okq (⟨"OfDifferentMinds", "tellVisits", "()I"⟩, 14) := ⟨⟨by decide +kernel, by decide +kernel⟩, List.mem_of_getElem? (i := 21) (by decide +kernel), List.mem_of_getElem? (i := 826) (by decide +kernel), List.mem_of_getElem? (i := 827) (by decide +kernel)⟩
theorem lw_p27 : lw_okq (⟨"OfDifferentMinds", "stopsAt", "(IIII)Z"⟩, 14) := ⟨⟨by decide +kernel, by decide +kernel⟩, List.mem_of_getElem? (i := 21) (by decide +kernel), List.mem_of_getElem? (i := 843) (by decide +kernel), List.mem_of_getElem? (i := 844) (by decide +kernel)⟩
theorem lw_p28 : lw_okq (⟨"OfDifferentMinds$Atlas", "surveyFrom", "(I)I"⟩, 4) := ⟨⟨by decide +kernel, by decide +kernel⟩, List.mem_of_getElem? (i := 193) (by decide +kernel), List.mem_of_getElem? (i := 860) (by decide +kernel), List.mem_of_getElem? (i := 861) (by decide +kernel)⟩
theorem lw_p29 : lw_okq (⟨"OfDifferentMinds$Atlas", "beginAt", "(I)V"⟩, 4) := ⟨⟨by decide +kernel, by decide +kernel⟩, List.mem_of_getElem? (i := 193) (by decide +kernel), List.mem_of_getElem? (i := 873) (by decide +kernel), List.mem_of_getElem? (i := 874) (by decide +kernel)⟩
theorem lw_p30 : lw_okq (⟨"OfDifferentMinds$Atlas", "wayTo", "(II)I"⟩, 4) := ⟨⟨by decide +kernel, by decide +kernel⟩, List.mem_of_getElem? (i := 193) (by decide +kernel), List.mem_of_getElem? (i := 877) (by decide +kernel), List.mem_of_getElem? (i := 878) (by decide +kernel)⟩
theorem lw_p31 : lw_okq (⟨"OfDifferentMinds$Atlas", "farOf", "(I)I"⟩, 4) := ⟨⟨by decide +kernel, by decide +kernel⟩, List.mem_of_getElem? (i := 193) (by decide +kernel), List.mem_of_getElem? (i := 883) (by decide +kernel), List.mem_of_getElem? (i := 884) (by decide +kernel)⟩
def lw_privs_2 : List (MethodName × Nat) := [(⟨"OfDifferentMinds", "goOn", "(I)I"⟩, 14), (⟨"OfDifferentMinds$Ride", "wayBy", "(II)I"⟩, 13), (⟨"OfDifferentMinds$Ride", "goBy", "(I)Z"⟩, 13), (⟨"OfDifferentMinds$Ride", "wear", "()V"⟩, 13), (⟨"OfDifferentMinds", "goAfoot", "(II)I"⟩, 14), (⟨"OfDifferentMinds", "goLeading", "(II)I"⟩, 14), (⟨"OfDifferentMinds", "sleep", "(I)I"⟩, 14), (⟨"OfDifferentMinds", "changeMaps", "(II)I"⟩, 14), (⟨"OfDifferentMinds", "act", "(III)I"⟩, 14), (⟨"OfDifferentMinds", "canRide", "(III)Z"⟩, 14), (⟨"OfDifferentMinds", "tellVisits", "()I"⟩, 14), (⟨"OfDifferentMinds", "stopsAt", "(IIII)Z"⟩, 14), (⟨"OfDifferentMinds$Atlas", "surveyFrom", "(I)I"⟩, 4), (⟨"OfDifferentMinds$Atlas", "beginAt", "(I)V"⟩, 4), (⟨"OfDifferentMinds$Atlas", "wayTo", "(II)I"⟩, 4), (⟨"OfDifferentMinds$Atlas", "farOf", "(I)I"⟩, 4)]
theorem lw_r2 : ∀ q ∈ lw_privs_2, lw_okq q := List.forall_mem_cons.mpr ⟨lw_p16, List.forall_mem_cons.mpr ⟨lw_p17, List.forall_mem_cons.mpr ⟨lw_p18, List.forall_mem_cons.mpr ⟨lw_p19, List.forall_mem_cons.mpr ⟨lw_p20, List.forall_mem_cons.mpr ⟨lw_p21, List.forall_mem_cons.mpr ⟨lw_p22, List.forall_mem_cons.mpr ⟨lw_p23, List.forall_mem_cons.mpr ⟨lw_p24, List.forall_mem_cons.mpr ⟨lw_p25, List.forall_mem_cons.mpr ⟨lw_p26, List.forall_mem_cons.mpr ⟨lw_p27, List.forall_mem_cons.mpr ⟨lw_p28, List.forall_mem_cons.mpr ⟨lw_p29, List.forall_mem_cons.mpr ⟨lw_p30, List.forall_mem_cons.mpr ⟨lw_p31, fun _ h => absurd h List.not_mem_nil⟩⟩⟩⟩⟩⟩⟩⟩⟩⟩⟩⟩⟩⟩⟩⟩
theorem lw_p32 : lw_okq (⟨"OfDifferentMinds$Atlas", "pairTo", "(II)I"⟩, 4) := ⟨⟨by decide +kernel, by decide +kernel⟩, List.mem_of_getElem? (i := 193) (by decide +kernel), List.mem_of_getElem? (i := 888) (by decide +kernel), List.mem_of_getElem? (i := 889) (by decide +kernel)⟩
theorem lw_p33 : lw_okq (⟨"OfDifferentMinds", "stepsOf", "(III)I"⟩, 14) := ⟨⟨by decide +kernel, by decide +kernel⟩, List.mem_of_getElem? (i := 21) (by decide +kernel), List.mem_of_getElem? (i := 916) (by decide +kernel), List.mem_of_getElem? (i := 917) (by decide +kernel)⟩
theorem lw_p34 : lw_okq (⟨"OfDifferentMinds$Matching", "part", "(IIIZ)V"⟩, 4) := ⟨⟨by decide +kernel, by decide +kernel⟩, List.mem_of_getElem? (i := 212) (by decide +kernel), List.mem_of_getElem? (i := 942) (by decide +kernel), List.mem_of_getElem? (i := 943) (by decide +kernel)⟩
theorem lw_p35 : lw_okq (⟨"OfDifferentMinds", "leavesPrints", "(II)Z"⟩, 14) := ⟨⟨by decide +kernel, by decide +kernel⟩, List.mem_of_getElem? (i := 21) (by decide +kernel), List.mem_of_getElem? (i := 999) (by decide +kernel), List.mem_of_getElem? (i := 1000) (by decide +kernel)⟩
theorem lw_p36 : lw_okq (⟨"OfDifferentMinds", "viewsBetween", "(III)I"⟩, 14) := ⟨⟨by decide +kernel, by decide +kernel⟩, List.mem_of_getElem? (i := 21) (by decide +kernel), List.mem_of_getElem? (i := 1007) (by decide +kernel), List.mem_of_getElem? (i := 1008) (by decide +kernel)⟩
theorem lw_p37 : lw_okq (⟨"OfDifferentMinds", "editionSeen", "(II)I"⟩, 14) := ⟨⟨by decide +kernel, by decide +kernel⟩, List.mem_of_getElem? (i := 21) (by decide +kernel), List.mem_of_getElem? (i := 1018) (by decide +kernel), List.mem_of_getElem? (i := 1019) (by decide +kernel)⟩
theorem lw_p38 : lw_okq (⟨"OfDifferentMinds", "holdersOf", "(III)I"⟩, 14) := ⟨⟨by decide +kernel, by decide +kernel⟩, List.mem_of_getElem? (i := 21) (by decide +kernel), List.mem_of_getElem? (i := 1031) (by decide +kernel), List.mem_of_getElem? (i := 1032) (by decide +kernel)⟩
theorem lw_p39 : lw_okq (⟨"OfDifferentMinds", "rideInCounty", "(I)I"⟩, 14) := ⟨⟨by decide +kernel, by decide +kernel⟩, List.mem_of_getElem? (i := 21) (by decide +kernel), List.mem_of_getElem? (i := 1039) (by decide +kernel), List.mem_of_getElem? (i := 1040) (by decide +kernel)⟩
theorem lw_p40 : lw_okq (⟨"OfDifferentMinds", "draw", "(I)I"⟩, 14) := ⟨⟨by decide +kernel, by decide +kernel⟩, List.mem_of_getElem? (i := 21) (by decide +kernel), List.mem_of_getElem? (i := 1043) (by decide +kernel), List.mem_of_getElem? (i := 1044) (by decide +kernel)⟩
theorem lw_p41 : lw_okq (⟨"OfDifferentMinds", "farthestRidden", "()I"⟩, 14) := ⟨⟨by decide +kernel, by decide +kernel⟩, List.mem_of_getElem? (i := 21) (by decide +kernel), List.mem_of_getElem? (i := 1049) (by decide +kernel), List.mem_of_getElem? (i := 1050) (by decide +kernel)⟩
theorem lw_p42 : lw_okq (⟨"OfDifferentMinds", "convincedOnes", "()I"⟩, 14) := ⟨⟨by decide +kernel, by decide +kernel⟩, List.mem_of_getElem? (i := 21) (by decide +kernel), List.mem_of_getElem? (i := 1076) (by decide +kernel), List.mem_of_getElem? (i := 1077) (by decide +kernel)⟩
theorem lw_p43 : lw_okq (⟨"java/lang/Throwable", "fillInStackTrace", "(I)Ljava/lang/Throwable;"⟩, 6) := ⟨⟨by decide +kernel, by decide +kernel⟩, List.mem_of_getElem? (i := 1129) (by decide +kernel), List.mem_of_getElem? (i := 1127) (by decide +kernel), List.mem_of_getElem? (i := 1128) (by decide +kernel)⟩
theorem lw_p44 : lw_okq (⟨"OfDifferentMinds", "ridersAt", "(I)I"⟩, 14) := ⟨⟨by decide +kernel, by decide +kernel⟩, List.mem_of_getElem? (i := 21) (by decide +kernel), List.mem_of_getElem? (i := 1159) (by decide +kernel), List.mem_of_getElem? (i := 1160) (by decide +kernel)⟩
theorem lw_p45 : lw_okq (⟨"OfDifferentMindsModel", "empty", "()V"⟩, 52) := ⟨⟨by decide +kernel, by decide +kernel⟩, List.mem_of_getElem? (i := 1179) (by decide +kernel), List.mem_of_getElem? (i := 1185) (by decide +kernel), List.mem_of_getElem? (i := 1186) (by decide +kernel)⟩
theorem lw_p46 : lw_okq (⟨"OfDifferentMindsModel", "begin", "([BII)V"⟩, 52) := ⟨⟨by decide +kernel, by decide +kernel⟩, List.mem_of_getElem? (i := 1179) (by decide +kernel), List.mem_of_getElem? (i := 1366) (by decide +kernel), List.mem_of_getElem? (i := 1367) (by decide +kernel)⟩
theorem lw_p47 : lw_okq (⟨"OfDifferentMindsModel", "fine", "()Z"⟩, 52) := ⟨⟨by decide +kernel, by decide +kernel⟩, List.mem_of_getElem? (i := 1179) (by decide +kernel), List.mem_of_getElem? (i := 1370) (by decide +kernel), List.mem_of_getElem? (i := 1371) (by decide +kernel)⟩
def lw_privs_3 : List (MethodName × Nat) := [(⟨"OfDifferentMinds$Atlas", "pairTo", "(II)I"⟩, 4), (⟨"OfDifferentMinds", "stepsOf", "(III)I"⟩, 14), (⟨"OfDifferentMinds$Matching", "part", "(IIIZ)V"⟩, 4), (⟨"OfDifferentMinds", "leavesPrints", "(II)Z"⟩, 14), (⟨"OfDifferentMinds", "viewsBetween", "(III)I"⟩, 14), (⟨"OfDifferentMinds", "editionSeen", "(II)I"⟩, 14), (⟨"OfDifferentMinds", "holdersOf", "(III)I"⟩, 14), (⟨"OfDifferentMinds", "rideInCounty", "(I)I"⟩, 14), (⟨"OfDifferentMinds", "draw", "(I)I"⟩, 14), (⟨"OfDifferentMinds", "farthestRidden", "()I"⟩, 14), (⟨"OfDifferentMinds", "convincedOnes", "()I"⟩, 14), (⟨"java/lang/Throwable", "fillInStackTrace", "(I)Ljava/lang/Throwable;"⟩, 6), (⟨"OfDifferentMinds", "ridersAt", "(I)I"⟩, 14), (⟨"OfDifferentMindsModel", "empty", "()V"⟩, 52), (⟨"OfDifferentMindsModel", "begin", "([BII)V"⟩, 52), (⟨"OfDifferentMindsModel", "fine", "()Z"⟩, 52)]
theorem lw_r3 : ∀ q ∈ lw_privs_3, lw_okq q := List.forall_mem_cons.mpr ⟨lw_p32, List.forall_mem_cons.mpr ⟨lw_p33, List.forall_mem_cons.mpr ⟨lw_p34, List.forall_mem_cons.mpr ⟨lw_p35, List.forall_mem_cons.mpr ⟨lw_p36, List.forall_mem_cons.mpr ⟨lw_p37, List.forall_mem_cons.mpr ⟨lw_p38, List.forall_mem_cons.mpr ⟨lw_p39, List.forall_mem_cons.mpr ⟨lw_p40, List.forall_mem_cons.mpr ⟨lw_p41, List.forall_mem_cons.mpr ⟨lw_p42, List.forall_mem_cons.mpr ⟨lw_p43, List.forall_mem_cons.mpr ⟨lw_p44, List.forall_mem_cons.mpr ⟨lw_p45, List.forall_mem_cons.mpr ⟨lw_p46, List.forall_mem_cons.mpr ⟨lw_p47, fun _ h => absurd h List.not_mem_nil⟩⟩⟩⟩⟩⟩⟩⟩⟩⟩⟩⟩⟩⟩⟩⟩
theorem lw_p48 : lw_okq (⟨"OfDifferentMindsModel", "fault", "(I)V"⟩, 52) := ⟨⟨by decide +kernel, by decide +kernel⟩, List.mem_of_getElem? (i := 1179) (by decide +kernel), List.mem_of_getElem? (i := 1374) (by decide +kernel), List.mem_of_getElem? (i := 1375) (by decide +kernel)⟩
theorem lw_p49 : lw_okq (⟨"OfDifferentMindsModel", "readPlace", "(I)V"⟩, 52) := ⟨⟨by decide +kernel, by decide +kernel⟩, List.mem_of_getElem? (i := 1179) (by decide +kernel), List.mem_of_getElem? (i := 1378) (by decide +kernel), List.mem_of_getElem? (i := 1379) (by decide +kernel)⟩
theorem lw_p50 : lw_okq (⟨"OfDifferentMindsModel", "passes", "(C)Z"⟩, 52) := ⟨⟨by decide +kernel, by decide +kernel⟩, List.mem_of_getElem? (i := 1179) (by decide +kernel), List.mem_of_getElem? (i := 1382) (by decide +kernel), List.mem_of_getElem? (i := 1383) (by decide +kernel)⟩
theorem lw_p51 : lw_okq (⟨"OfDifferentMindsModel", "here", "()I"⟩, 52) := ⟨⟨by decide +kernel, by decide +kernel⟩, List.mem_of_getElem? (i := 1179) (by decide +kernel), List.mem_of_getElem? (i := 1386) (by decide +kernel), List.mem_of_getElem? (i := 1387) (by decide +kernel)⟩
theorem lw_p52 : lw_okq (⟨"OfDifferentMindsModel", "readRider", "(I)V"⟩, 52) := ⟨⟨by decide +kernel, by decide +kernel⟩, List.mem_of_getElem? (i := 1179) (by decide +kernel), List.mem_of_getElem? (i := 1394) (by decide +kernel), List.mem_of_getElem? (i := 1395) (by decide +kernel)⟩
theorem lw_p53 : lw_okq (⟨"OfDifferentMindsModel", "number", "(I)I"⟩, 52) := ⟨⟨by decide +kernel, by decide +kernel⟩, List.mem_of_getElem? (i := 1179) (by decide +kernel), List.mem_of_getElem? (i := 1398) (by decide +kernel), List.mem_of_getElem? (i := 1399) (by decide +kernel)⟩
theorem lw_p54 : lw_okq (⟨"OfDifferentMindsModel", "digit", "(II)I"⟩, 52) := ⟨⟨by decide +kernel, by decide +kernel⟩, List.mem_of_getElem? (i := 1179) (by decide +kernel), List.mem_of_getElem? (i := 1402) (by decide +kernel), List.mem_of_getElem? (i := 1403) (by decide +kernel)⟩
theorem lw_p55 : lw_okq (⟨"OfDifferentMindsModel", "need", "(C)V"⟩, 52) := ⟨⟨by decide +kernel, by decide +kernel⟩, List.mem_of_getElem? (i := 1179) (by decide +kernel), List.mem_of_getElem? (i := 1406) (by decide +kernel), List.mem_of_getElem? (i := 1407) (by decide +kernel)⟩
theorem lw_p56 : lw_okq (⟨"OfDifferentMindsModel", "held", "(I)I"⟩, 52) := ⟨⟨by decide +kernel, by decide +kernel⟩, List.mem_of_getElem? (i := 1179) (by decide +kernel), List.mem_of_getElem? (i := 1414) (by decide +kernel), List.mem_of_getElem? (i := 1415) (by decide +kernel)⟩
theorem lw_p57 : lw_okq (⟨"OfDifferentMindsModel", "sum", "(I)I"⟩, 52) := ⟨⟨by decide +kernel, by decide +kernel⟩, List.mem_of_getElem? (i := 1179) (by decide +kernel), List.mem_of_getElem? (i := 1418) (by decide +kernel), List.mem_of_getElem? (i := 1419) (by decide +kernel)⟩
theorem lw_p58 : lw_okq (⟨"OfDifferentMindsModel", "product", "(I)I"⟩, 52) := ⟨⟨by decide +kernel, by decide +kernel⟩, List.mem_of_getElem? (i := 1179) (by decide +kernel), List.mem_of_getElem? (i := 1422) (by decide +kernel), List.mem_of_getElem? (i := 1423) (by decide +kernel)⟩
theorem lw_p59 : lw_okq (⟨"OfDifferentMindsModel", "thing", "(I)I"⟩, 52) := ⟨⟨by decide +kernel, by decide +kernel⟩, List.mem_of_getElem? (i := 1179) (by decide +kernel), List.mem_of_getElem? (i := 1426) (by decide +kernel), List.mem_of_getElem? (i := 1427) (by decide +kernel)⟩
theorem lw_p60 : lw_okq (⟨"OfDifferentMindsModel", "isPlace", "(I)Z"⟩, 52) := ⟨⟨by decide +kernel, by decide +kernel⟩, List.mem_of_getElem? (i := 1179) (by decide +kernel), List.mem_of_getElem? (i := 1437) (by decide +kernel), List.mem_of_getElem? (i := 1438) (by decide +kernel)⟩
theorem lw_p61 : lw_okq (⟨"OfDifferentMindsModel", "lost", "()I"⟩, 52) := ⟨⟨by decide +kernel, by decide +kernel⟩, List.mem_of_getElem? (i := 1179) (by decide +kernel), List.mem_of_getElem? (i := 1441) (by decide +kernel), List.mem_of_getElem? (i := 1442) (by decide +kernel)⟩
theorem lw_p62 : lw_okq (⟨"OfDifferentMindsModel", "isRider", "(I)Z"⟩, 52) := ⟨⟨by decide +kernel, by decide +kernel⟩, List.mem_of_getElem? (i := 1179) (by decide +kernel), List.mem_of_getElem? (i := 1449) (by decide +kernel), List.mem_of_getElem? (i := 1450) (by decide +kernel)⟩
theorem lw_p63 : lw_okq (⟨"OfDifferentMindsModel", "viewOf", "([III)I"⟩, 52) := ⟨⟨by decide +kernel, by decide +kernel⟩, List.mem_of_getElem? (i := 1179) (by decide +kernel), List.mem_of_getElem? (i := 1453) (by decide +kernel), List.mem_of_getElem? (i := 1454) (by decide +kernel)⟩
def lw_privs_4 : List (MethodName × Nat) := [(⟨"OfDifferentMindsModel", "fault", "(I)V"⟩, 52), (⟨"OfDifferentMindsModel", "readPlace", "(I)V"⟩, 52), (⟨"OfDifferentMindsModel", "passes", "(C)Z"⟩, 52), (⟨"OfDifferentMindsModel", "here", "()I"⟩, 52), (⟨"OfDifferentMindsModel", "readRider", "(I)V"⟩, 52), (⟨"OfDifferentMindsModel", "number", "(I)I"⟩, 52), (⟨"OfDifferentMindsModel", "digit", "(II)I"⟩, 52), (⟨"OfDifferentMindsModel", "need", "(C)V"⟩, 52), (⟨"OfDifferentMindsModel", "held", "(I)I"⟩, 52), (⟨"OfDifferentMindsModel", "sum", "(I)I"⟩, 52), (⟨"OfDifferentMindsModel", "product", "(I)I"⟩, 52), (⟨"OfDifferentMindsModel", "thing", "(I)I"⟩, 52), (⟨"OfDifferentMindsModel", "isPlace", "(I)Z"⟩, 52), (⟨"OfDifferentMindsModel", "lost", "()I"⟩, 52), (⟨"OfDifferentMindsModel", "isRider", "(I)Z"⟩, 52), (⟨"OfDifferentMindsModel", "viewOf", "([III)I"⟩, 52)]
theorem lw_r4 : ∀ q ∈ lw_privs_4, lw_okq q := List.forall_mem_cons.mpr ⟨lw_p48, List.forall_mem_cons.mpr ⟨lw_p49, List.forall_mem_cons.mpr ⟨lw_p50, List.forall_mem_cons.mpr ⟨lw_p51, List.forall_mem_cons.mpr ⟨lw_p52, List.forall_mem_cons.mpr ⟨lw_p53, List.forall_mem_cons.mpr ⟨lw_p54, List.forall_mem_cons.mpr ⟨lw_p55, List.forall_mem_cons.mpr ⟨lw_p56, List.forall_mem_cons.mpr ⟨lw_p57, List.forall_mem_cons.mpr ⟨lw_p58, List.forall_mem_cons.mpr ⟨lw_p59, List.forall_mem_cons.mpr ⟨lw_p60, List.forall_mem_cons.mpr ⟨lw_p61, List.forall_mem_cons.mpr ⟨lw_p62, List.forall_mem_cons.mpr ⟨lw_p63, fun _ h => absurd h List.not_mem_nil⟩⟩⟩⟩⟩⟩⟩⟩⟩⟩⟩⟩⟩⟩⟩⟩
theorem lw_p64 : lw_okq (⟨"OfDifferentMindsModel", "refusesMount", "(II)I"⟩, 52) := ⟨⟨by decide +kernel, by decide +kernel⟩, List.mem_of_getElem? (i := 1179) (by decide +kernel), List.mem_of_getElem? (i := 1474) (by decide +kernel), List.mem_of_getElem? (i := 1475) (by decide +kernel)⟩
theorem lw_p65 : lw_okq (⟨"OfDifferentMindsModel", "areTwo", "(II)Z"⟩, 52) := ⟨⟨by decide +kernel, by decide +kernel⟩, List.mem_of_getElem? (i := 1179) (by decide +kernel), List.mem_of_getElem? (i := 1478) (by decide +kernel), List.mem_of_getElem? (i := 1479) (by decide +kernel)⟩
theorem lw_p66 : lw_okq (⟨"OfDifferentMindsModel", "isRidden", "()Z"⟩, 52) := ⟨⟨by decide +kernel, by decide +kernel⟩, List.mem_of_getElem? (i := 1179) (by decide +kernel), List.mem_of_getElem? (i := 1482) (by decide +kernel), List.mem_of_getElem? (i := 1483) (by decide +kernel)⟩
theorem lw_p67 : lw_okq (⟨"OfDifferentMindsModel", "remember", "([I)V"⟩, 52) := ⟨⟨by decide +kernel, by decide +kernel⟩, List.mem_of_getElem? (i := 1179) (by decide +kernel), List.mem_of_getElem? (i := 1486) (by decide +kernel), List.mem_of_getElem? (i := 1487) (by decide +kernel)⟩
theorem lw_p68 : lw_okq (⟨"OfDifferentMindsModel", "goMount", "(II)V"⟩, 52) := ⟨⟨by decide +kernel, by decide +kernel⟩, List.mem_of_getElem? (i := 1179) (by decide +kernel), List.mem_of_getElem? (i := 1493) (by decide +kernel), List.mem_of_getElem? (i := 1494) (by decide +kernel)⟩
theorem lw_p69 : lw_okq (⟨"OfDifferentMindsModel", "goDown", "()V"⟩, 52) := ⟨⟨by decide +kernel, by decide +kernel⟩, List.mem_of_getElem? (i := 1179) (by decide +kernel), List.mem_of_getElem? (i := 1501) (by decide +kernel), List.mem_of_getElem? (i := 1502) (by decide +kernel)⟩
theorem lw_p70 : lw_okq (⟨"OfDifferentMindsModel", "goRide", "([II)I"⟩, 52) := ⟨⟨by decide +kernel, by decide +kernel⟩, List.mem_of_getElem? (i := 1179) (by decide +kernel), List.mem_of_getElem? (i := 1509) (by decide +kernel), List.mem_of_getElem? (i := 1510) (by decide +kernel)⟩
theorem lw_p71 : lw_okq (⟨"OfDifferentMindsModel", "step", "([I)Z"⟩, 52) := ⟨⟨by decide +kernel, by decide +kernel⟩, List.mem_of_getElem? (i := 1179) (by decide +kernel), List.mem_of_getElem? (i := 1513) (by decide +kernel), List.mem_of_getElem? (i := 1514) (by decide +kernel)⟩
theorem lw_p72 : lw_okq (⟨"OfDifferentMindsModel", "goesOn", "([I)Z"⟩, 52) := ⟨⟨by decide +kernel, by decide +kernel⟩, List.mem_of_getElem? (i := 1179) (by decide +kernel), List.mem_of_getElem? (i := 1517) (by decide +kernel), List.mem_of_getElem? (i := 1518) (by decide +kernel)⟩
theorem lw_p73 : lw_okq (⟨"OfDifferentMindsModel", "goStep", "([III)V"⟩, 52) := ⟨⟨by decide +kernel, by decide +kernel⟩, List.mem_of_getElem? (i := 1179) (by decide +kernel), List.mem_of_getElem? (i := 1521) (by decide +kernel), List.mem_of_getElem? (i := 1522) (by decide +kernel)⟩
theorem lw_p74 : lw_okq (⟨"OfDifferentMindsModel", "leftOf", "([II)I"⟩, 52) := ⟨⟨by decide +kernel, by decide +kernel⟩, List.mem_of_getElem? (i := 1179) (by decide +kernel), List.mem_of_getElem? (i := 1525) (by decide +kernel), List.mem_of_getElem? (i := 1526) (by decide +kernel)⟩
theorem lw_p75 : lw_okq (⟨"OfDifferentMindsModel", "wayBy", "(IIIIII)I"⟩, 52) := ⟨⟨by decide +kernel, by decide +kernel⟩, List.mem_of_getElem? (i := 1179) (by decide +kernel), List.mem_of_getElem? (i := 1529) (by decide +kernel), List.mem_of_getElem? (i := 1530) (by decide +kernel)⟩
theorem lw_p76 : lw_okq (⟨"OfDifferentMindsModel", "tell", "(I)V"⟩, 52) := ⟨⟨by decide +kernel, by decide +kernel⟩, List.mem_of_getElem? (i := 1179) (by decide +kernel), List.mem_of_getElem? (i := 1533) (by decide +kernel), List.mem_of_getElem? (i := 1534) (by decide +kernel)⟩
theorem lw_p77 : lw_okq (⟨"OfDifferentMindsModel", "refusesWalk", "(II)I"⟩, 52) := ⟨⟨by decide +kernel, by decide +kernel⟩, List.mem_of_getElem? (i := 1179) (by decide +kernel), List.mem_of_getElem? (i := 1541) (by decide +kernel), List.mem_of_getElem? (i := 1542) (by decide +kernel)⟩
theorem lw_p78 : lw_okq (⟨"OfDifferentMindsModel", "isWay", "(II)Z"⟩, 52) := ⟨⟨by decide +kernel, by decide +kernel⟩, List.mem_of_getElem? (i := 1179) (by decide +kernel), List.mem_of_getElem? (i := 1545) (by decide +kernel), List.mem_of_getElem? (i := 1546) (by decide +kernel)⟩
theorem lw_p79 : lw_okq (⟨"OfDifferentMindsModel", "goWalk", "(II)I"⟩, 52) := ⟨⟨by decide +kernel, by decide +kernel⟩, List.mem_of_getElem? (i := 1179) (by decide +kernel), List.mem_of_getElem? (i := 1549) (by decide +kernel), List.mem_of_getElem? (i := 1550) (by decide +kernel)⟩
def lw_privs_5 : List (MethodName × Nat) := [(⟨"OfDifferentMindsModel", "refusesMount", "(II)I"⟩, 52), (⟨"OfDifferentMindsModel", "areTwo", "(II)Z"⟩, 52), (⟨"OfDifferentMindsModel", "isRidden", "()Z"⟩, 52), (⟨"OfDifferentMindsModel", "remember", "([I)V"⟩, 52), (⟨"OfDifferentMindsModel", "goMount", "(II)V"⟩, 52), (⟨"OfDifferentMindsModel", "goDown", "()V"⟩, 52), (⟨"OfDifferentMindsModel", "goRide", "([II)I"⟩, 52), (⟨"OfDifferentMindsModel", "step", "([I)Z"⟩, 52), (⟨"OfDifferentMindsModel", "goesOn", "([I)Z"⟩, 52), (⟨"OfDifferentMindsModel", "goStep", "([III)V"⟩, 52), (⟨"OfDifferentMindsModel", "leftOf", "([II)I"⟩, 52), (⟨"OfDifferentMindsModel", "wayBy", "(IIIIII)I"⟩, 52), (⟨"OfDifferentMindsModel", "tell", "(I)V"⟩, 52), (⟨"OfDifferentMindsModel", "refusesWalk", "(II)I"⟩, 52), (⟨"OfDifferentMindsModel", "isWay", "(II)Z"⟩, 52), (⟨"OfDifferentMindsModel", "goWalk", "(II)I"⟩, 52)]
theorem lw_r5 : ∀ q ∈ lw_privs_5, lw_okq q := List.forall_mem_cons.mpr ⟨lw_p64, List.forall_mem_cons.mpr ⟨lw_p65, List.forall_mem_cons.mpr ⟨lw_p66, List.forall_mem_cons.mpr ⟨lw_p67, List.forall_mem_cons.mpr ⟨lw_p68, List.forall_mem_cons.mpr ⟨lw_p69, List.forall_mem_cons.mpr ⟨lw_p70, List.forall_mem_cons.mpr ⟨lw_p71, List.forall_mem_cons.mpr ⟨lw_p72, List.forall_mem_cons.mpr ⟨lw_p73, List.forall_mem_cons.mpr ⟨lw_p74, List.forall_mem_cons.mpr ⟨lw_p75, List.forall_mem_cons.mpr ⟨lw_p76, List.forall_mem_cons.mpr ⟨lw_p77, List.forall_mem_cons.mpr ⟨lw_p78, List.forall_mem_cons.mpr ⟨lw_p79, fun _ h => absurd h List.not_mem_nil⟩⟩⟩⟩⟩⟩⟩⟩⟩⟩⟩⟩⟩⟩⟩⟩
theorem lw_p80 : lw_okq (⟨"OfDifferentMindsModel", "refusesLead", "(II)I"⟩, 52) := ⟨⟨by decide +kernel, by decide +kernel⟩, List.mem_of_getElem? (i := 1179) (by decide +kernel), List.mem_of_getElem? (i := 1557) (by decide +kernel), List.mem_of_getElem? (i := 1558) (by decide +kernel)⟩
theorem lw_p81 : lw_okq (⟨"OfDifferentMindsModel", "goLead", "(II)I"⟩, 52) := ⟨⟨by decide +kernel, by decide +kernel⟩, List.mem_of_getElem? (i := 1179) (by decide +kernel), List.mem_of_getElem? (i := 1561) (by decide +kernel), List.mem_of_getElem? (i := 1562) (by decide +kernel)⟩
theorem lw_p82 : lw_okq (⟨"OfDifferentMindsModel", "refusesRest", "(I)I"⟩, 52) := ⟨⟨by decide +kernel, by decide +kernel⟩, List.mem_of_getElem? (i := 1179) (by decide +kernel), List.mem_of_getElem? (i := 1569) (by decide +kernel), List.mem_of_getElem? (i := 1570) (by decide +kernel)⟩
theorem lw_p83 : lw_okq (⟨"OfDifferentMindsModel", "isAtInn", "(I)Z"⟩, 52) := ⟨⟨by decide +kernel, by decide +kernel⟩, List.mem_of_getElem? (i := 1179) (by decide +kernel), List.mem_of_getElem? (i := 1573) (by decide +kernel), List.mem_of_getElem? (i := 1574) (by decide +kernel)⟩
theorem lw_p84 : lw_okq (⟨"OfDifferentMindsModel", "goRest", "(I)I"⟩, 52) := ⟨⟨by decide +kernel, by decide +kernel⟩, List.mem_of_getElem? (i := 1179) (by decide +kernel), List.mem_of_getElem? (i := 1580) (by decide +kernel), List.mem_of_getElem? (i := 1581) (by decide +kernel)⟩
theorem lw_p85 : lw_okq (⟨"OfDifferentMindsModel", "refusesDeal", "(II)I"⟩, 52) := ⟨⟨by decide +kernel, by decide +kernel⟩, List.mem_of_getElem? (i := 1179) (by decide +kernel), List.mem_of_getElem? (i := 1588) (by decide +kernel), List.mem_of_getElem? (i := 1589) (by decide +kernel)⟩
theorem lw_p86 : lw_okq (⟨"OfDifferentMindsModel", "goDeal", "(II)I"⟩, 52) := ⟨⟨by decide +kernel, by decide +kernel⟩, List.mem_of_getElem? (i := 1179) (by decide +kernel), List.mem_of_getElem? (i := 1592) (by decide +kernel), List.mem_of_getElem? (i := 1593) (by decide +kernel)⟩
theorem lw_p87 : lw_okq (⟨"OfDifferentMindsModel", "readAct", "(I)V"⟩, 52) := ⟨⟨by decide +kernel, by decide +kernel⟩, List.mem_of_getElem? (i := 1179) (by decide +kernel), List.mem_of_getElem? (i := 1600) (by decide +kernel), List.mem_of_getElem? (i := 1601) (by decide +kernel)⟩
theorem lw_p88 : lw_okq (⟨"OfDifferentMindsModel", "act", "(III)Z"⟩, 52) := ⟨⟨by decide +kernel, by decide +kernel⟩, List.mem_of_getElem? (i := 1179) (by decide +kernel), List.mem_of_getElem? (i := 1604) (by decide +kernel), List.mem_of_getElem? (i := 1605) (by decide +kernel)⟩
theorem lw_p89 : lw_okq (⟨"OfDifferentMindsModel", "capSpent", "()V"⟩, 52) := ⟨⟨by decide +kernel, by decide +kernel⟩, List.mem_of_getElem? (i := 1179) (by decide +kernel), List.mem_of_getElem? (i := 1612) (by decide +kernel), List.mem_of_getElem? (i := 1613) (by decide +kernel)⟩
theorem lw_p90 : lw_okq (⟨"OfDifferentMindsModel", "canRide", "(III)Z"⟩, 52) := ⟨⟨by decide +kernel, by decide +kernel⟩, List.mem_of_getElem? (i := 1179) (by decide +kernel), List.mem_of_getElem? (i := 1624) (by decide +kernel), List.mem_of_getElem? (i := 1625) (by decide +kernel)⟩
theorem lw_p91 : lw_okq (⟨"OfDifferentMindsModel", "mountThen", "(IIIZ)V"⟩, 52) := ⟨⟨by decide +kernel, by decide +kernel⟩, List.mem_of_getElem? (i := 1179) (by decide +kernel), List.mem_of_getElem? (i := 1628) (by decide +kernel), List.mem_of_getElem? (i := 1629) (by decide +kernel)⟩
theorem lw_p92 : lw_okq (⟨"OfDifferentMindsModel", "freshen", "()V"⟩, 52) := ⟨⟨by decide +kernel, by decide +kernel⟩, List.mem_of_getElem? (i := 1179) (by decide +kernel), List.mem_of_getElem? (i := 1632) (by decide +kernel), List.mem_of_getElem? (i := 1633) (by decide +kernel)⟩
theorem lw_p93 : lw_okq (⟨"OfDifferentMindsModel", "stopOf", "(IIIZ)I"⟩, 52) := ⟨⟨by decide +kernel, by decide +kernel⟩, List.mem_of_getElem? (i := 1179) (by decide +kernel), List.mem_of_getElem? (i := 1649) (by decide +kernel), List.mem_of_getElem? (i := 1650) (by decide +kernel)⟩
theorem lw_p94 : lw_okq (⟨"OfDifferentMindsModel", "layStops", "()V"⟩, 52) := ⟨⟨by decide +kernel, by decide +kernel⟩, List.mem_of_getElem? (i := 1179) (by decide +kernel), List.mem_of_getElem? (i := 1657) (by decide +kernel), List.mem_of_getElem? (i := 1658) (by decide +kernel)⟩
theorem lw_p95 : lw_okq (⟨"OfDifferentMindsModel", "ridesBy", "(IIIII)I"⟩, 52) := ⟨⟨by decide +kernel, by decide +kernel⟩, List.mem_of_getElem? (i := 1179) (by decide +kernel), List.mem_of_getElem? (i := 1661) (by decide +kernel), List.mem_of_getElem? (i := 1662) (by decide +kernel)⟩
def lw_privs_6 : List (MethodName × Nat) := [(⟨"OfDifferentMindsModel", "refusesLead", "(II)I"⟩, 52), (⟨"OfDifferentMindsModel", "goLead", "(II)I"⟩, 52), (⟨"OfDifferentMindsModel", "refusesRest", "(I)I"⟩, 52), (⟨"OfDifferentMindsModel", "isAtInn", "(I)Z"⟩, 52), (⟨"OfDifferentMindsModel", "goRest", "(I)I"⟩, 52), (⟨"OfDifferentMindsModel", "refusesDeal", "(II)I"⟩, 52), (⟨"OfDifferentMindsModel", "goDeal", "(II)I"⟩, 52), (⟨"OfDifferentMindsModel", "readAct", "(I)V"⟩, 52), (⟨"OfDifferentMindsModel", "act", "(III)Z"⟩, 52), (⟨"OfDifferentMindsModel", "capSpent", "()V"⟩, 52), (⟨"OfDifferentMindsModel", "canRide", "(III)Z"⟩, 52), (⟨"OfDifferentMindsModel", "mountThen", "(IIIZ)V"⟩, 52), (⟨"OfDifferentMindsModel", "freshen", "()V"⟩, 52), (⟨"OfDifferentMindsModel", "stopOf", "(IIIZ)I"⟩, 52), (⟨"OfDifferentMindsModel", "layStops", "()V"⟩, 52), (⟨"OfDifferentMindsModel", "ridesBy", "(IIIII)I"⟩, 52)]
theorem lw_r6 : ∀ q ∈ lw_privs_6, lw_okq q := List.forall_mem_cons.mpr ⟨lw_p80, List.forall_mem_cons.mpr ⟨lw_p81, List.forall_mem_cons.mpr ⟨lw_p82, List.forall_mem_cons.mpr ⟨lw_p83, List.forall_mem_cons.mpr ⟨lw_p84, List.forall_mem_cons.mpr ⟨lw_p85, List.forall_mem_cons.mpr ⟨lw_p86, List.forall_mem_cons.mpr ⟨lw_p87, List.forall_mem_cons.mpr ⟨lw_p88, List.forall_mem_cons.mpr ⟨lw_p89, List.forall_mem_cons.mpr ⟨lw_p90, List.forall_mem_cons.mpr ⟨lw_p91, List.forall_mem_cons.mpr ⟨lw_p92, List.forall_mem_cons.mpr ⟨lw_p93, List.forall_mem_cons.mpr ⟨lw_p94, List.forall_mem_cons.mpr ⟨lw_p95, fun _ h => absurd h List.not_mem_nil⟩⟩⟩⟩⟩⟩⟩⟩⟩⟩⟩⟩⟩⟩⟩⟩
theorem lw_p96 : lw_okq (⟨"OfDifferentMindsModel", "stopAt", "(III)I"⟩, 52) := ⟨⟨by decide +kernel, by decide +kernel⟩, List.mem_of_getElem? (i := 1179) (by decide +kernel), List.mem_of_getElem? (i := 1665) (by decide +kernel), List.mem_of_getElem? (i := 1666) (by decide +kernel)⟩
theorem lw_p97 : lw_okq (⟨"OfDifferentMindsModel", "stepsOf", "(III)I"⟩, 52) := ⟨⟨by decide +kernel, by decide +kernel⟩, List.mem_of_getElem? (i := 1179) (by decide +kernel), List.mem_of_getElem? (i := 1681) (by decide +kernel), List.mem_of_getElem? (i := 1682) (by decide +kernel)⟩
theorem lw_p98 : lw_okq (⟨"OfDifferentMindsModel", "areThose", "(I)Z"⟩, 52) := ⟨⟨by decide +kernel, by decide +kernel⟩, List.mem_of_getElem? (i := 1179) (by decide +kernel), List.mem_of_getElem? (i := 1689) (by decide +kernel), List.mem_of_getElem? (i := 1690) (by decide +kernel)⟩
theorem lw_p99 : lw_okq (⟨"OfDifferentMindsModel", "goMatches", "(IIIII)V"⟩, 52) := ⟨⟨by decide +kernel, by decide +kernel⟩, List.mem_of_getElem? (i := 1179) (by decide +kernel), List.mem_of_getElem? (i := 1694) (by decide +kernel), List.mem_of_getElem? (i := 1695) (by decide +kernel)⟩
theorem lw_p100 : lw_okq (⟨"OfDifferentMindsModel", "wayOfClaim", "(II)I"⟩, 52) := ⟨⟨by decide +kernel, by decide +kernel⟩, List.mem_of_getElem? (i := 1179) (by decide +kernel), List.mem_of_getElem? (i := 1714) (by decide +kernel), List.mem_of_getElem? (i := 1715) (by decide +kernel)⟩
theorem lw_p101 : lw_okq (⟨"OfDifferentMindsModel", "claims", "(II)Z"⟩, 52) := ⟨⟨by decide +kernel, by decide +kernel⟩, List.mem_of_getElem? (i := 1179) (by decide +kernel), List.mem_of_getElem? (i := 1722) (by decide +kernel), List.mem_of_getElem? (i := 1723) (by decide +kernel)⟩
theorem lw_p102 : lw_okq (⟨"OfDifferentMindsModel", "isPrinted", "(II)Z"⟩, 52) := ⟨⟨by decide +kernel, by decide +kernel⟩, List.mem_of_getElem? (i := 1179) (by decide +kernel), List.mem_of_getElem? (i := 1734) (by decide +kernel), List.mem_of_getElem? (i := 1735) (by decide +kernel)⟩
theorem lw_p103 : lw_okq (⟨"OfDifferentMindsModel", "areLike", "(II)Z"⟩, 52) := ⟨⟨by decide +kernel, by decide +kernel⟩, List.mem_of_getElem? (i := 1179) (by decide +kernel), List.mem_of_getElem? (i := 1746) (by decide +kernel), List.mem_of_getElem? (i := 1747) (by decide +kernel)⟩
theorem lw_p104 : lw_okq (⟨"OfDifferentMindsModel", "draw", "(I)I"⟩, 52) := ⟨⟨by decide +kernel, by decide +kernel⟩, List.mem_of_getElem? (i := 1179) (by decide +kernel), List.mem_of_getElem? (i := 1758) (by decide +kernel), List.mem_of_getElem? (i := 1759) (by decide +kernel)⟩
def lw_privs_7 : List (MethodName × Nat) := [(⟨"OfDifferentMindsModel", "stopAt", "(III)I"⟩, 52), (⟨"OfDifferentMindsModel", "stepsOf", "(III)I"⟩, 52), (⟨"OfDifferentMindsModel", "areThose", "(I)Z"⟩, 52), (⟨"OfDifferentMindsModel", "goMatches", "(IIIII)V"⟩, 52), (⟨"OfDifferentMindsModel", "wayOfClaim", "(II)I"⟩, 52), (⟨"OfDifferentMindsModel", "claims", "(II)Z"⟩, 52), (⟨"OfDifferentMindsModel", "isPrinted", "(II)Z"⟩, 52), (⟨"OfDifferentMindsModel", "areLike", "(II)Z"⟩, 52), (⟨"OfDifferentMindsModel", "draw", "(I)I"⟩, 52)]
theorem lw_r7 : ∀ q ∈ lw_privs_7, lw_okq q := List.forall_mem_cons.mpr ⟨lw_p96, List.forall_mem_cons.mpr ⟨lw_p97, List.forall_mem_cons.mpr ⟨lw_p98, List.forall_mem_cons.mpr ⟨lw_p99, List.forall_mem_cons.mpr ⟨lw_p100, List.forall_mem_cons.mpr ⟨lw_p101, List.forall_mem_cons.mpr ⟨lw_p102, List.forall_mem_cons.mpr ⟨lw_p103, List.forall_mem_cons.mpr ⟨lw_p104, fun _ h => absurd h List.not_mem_nil⟩⟩⟩⟩⟩⟩⟩⟩⟩
def lw_privs : List (MethodName × Nat) := lw_privs_1 ++ (lw_privs_2 ++ (lw_privs_3 ++ (lw_privs_4 ++ (lw_privs_5 ++ (lw_privs_6 ++ (lw_privs_7))))))
def lw_tbl : List Cond := k2_sels lw_privs ++ tables_1
theorem lw_privs_ok : ∀ q ∈ lw_privs, lw_okq q := by
  show ∀ q ∈ lw_privs_1 ++ (lw_privs_2 ++ (lw_privs_3 ++ (lw_privs_4 ++ (lw_privs_5 ++ (lw_privs_6 ++ (lw_privs_7)))))), lw_okq q
  exact List.forall_mem_append.mpr ⟨lw_r1, List.forall_mem_append.mpr ⟨lw_r2, List.forall_mem_append.mpr ⟨lw_r3, List.forall_mem_append.mpr ⟨lw_r4, List.forall_mem_append.mpr ⟨lw_r5, List.forall_mem_append.mpr ⟨lw_r6, lw_r7⟩⟩⟩⟩⟩⟩
-- ===== end of PART A; then your names; then what follows =====
end
section
/-! ===== the classes, their fields, the names of the methods; links as numbers ===== -/
def lw_g : List Cond := lw_tbl.filter goodWord
def jx_T0 : u_T := fun k => match k with
  | 0 => ("OfDifferentMinds$Atlas", "land", "LOfDifferentMinds$Land;", true)
  | 1 => ("OfDifferentMinds$Atlas", "ride", "LOfDifferentMinds$Ride;", true)
  | 2 => ("OfDifferentMinds$Atlas", "ends", "[I", true)
  | _ => ("OfDifferentMinds$Atlas", "far", "[I", true)
def jx_T1 : u_T := fun k => match k with
  | _ => ("OfDifferentMinds$Grammar", "", "I", false)
def jx_T2 : u_T := fun k => match k with
  | 0 => ("OfDifferentMinds$History", "past", "[LOfDifferentMinds$Standing;", true)
  | 1 => ("OfDifferentMinds$History", "kept", "[LOfDifferentMinds$Standing;", true)
  | 2 => ("OfDifferentMinds$History", "next", "I", false)
  | 3 => ("OfDifferentMinds$History", "size", "I", false)
  | _ => ("OfDifferentMinds$History", "keptOnes", "I", false)
def jx_T3 : u_T := fun k => match k with
  | 0 => ("OfDifferentMinds$Land", "ways", "[I", true)
  | 1 => ("OfDifferentMinds$Land", "leads", "[I", true)
  | 2 => ("OfDifferentMinds$Land", "minds", "[I", true)
  | 3 => ("OfDifferentMinds$Land", "places", "I", false)
  | 4 => ("OfDifferentMinds$Land", "inns", "I", false)
  | _ => ("OfDifferentMinds$Land", "riders", "I", false)
def jx_T4 : u_T := fun k => match k with
  | 0 => ("OfDifferentMinds$Matching", "steps", "[I", true)
  | 1 => ("OfDifferentMinds$Matching", "with", "[I", true)
  | 2 => ("OfDifferentMinds$Matching", "bestWith", "[I", true)
  | _ => ("OfDifferentMinds$Matching", "most", "I", false)
def jx_T5 : u_T := fun k => match k with
  | 0 => ("OfDifferentMinds$Ride", "land", "LOfDifferentMinds$Land;", true)
  | 1 => ("OfDifferentMinds$Ride", "rule", "LOfDifferentMinds$Rule;", true)
  | 2 => ("OfDifferentMinds$Ride", "now", "LOfDifferentMinds$Standing;", true)
  | 3 => ("OfDifferentMinds$Ride", "who", "[I", true)
  | 4 => ("OfDifferentMinds$Ride", "left", "[I", true)
  | 5 => ("OfDifferentMinds$Ride", "by", "[I", true)
  | 6 => ("OfDifferentMinds$Ride", "own", "[I", true)
  | 7 => ("OfDifferentMinds$Ride", "map", "[I", true)
  | 8 => ("OfDifferentMinds$Ride", "place", "I", false)
  | 9 => ("OfDifferentMinds$Ride", "begun", "I", false)
  | 10 => ("OfDifferentMinds$Ride", "taken", "I", false)
  | 11 => ("OfDifferentMinds$Ride", "latest", "I", false)
  | _ => ("OfDifferentMinds$Ride", "stopped", "Z", false)
def jx_T6 : u_T := fun k => match k with
  | 0 => ("OfDifferentMinds$Row", "numbers", "[I", true)
  | _ => ("OfDifferentMinds$Row", "size", "I", false)
def jx_T7 : u_T := fun k => match k with
  | 0 => ("OfDifferentMinds$Rule", "code", "[I", true)
  | 1 => ("OfDifferentMinds$Rule", "draft", "[I", true)
  | 2 => ("OfDifferentMinds$Rule", "stack", "[I", true)
  | 3 => ("OfDifferentMinds$Rule", "things", "[I", true)
  | 4 => ("OfDifferentMinds$Rule", "length", "I", false)
  | _ => ("OfDifferentMinds$Rule", "drafted", "I", false)
def jx_T8 : u_T := fun k => match k with
  | _ => ("OfDifferentMinds$Standing", "numbers", "[I", true)
def jx_T9 : u_T := fun k => match k with
  | 0 => ("OfDifferentMinds$Text", "signs", "[I", true)
  | 1 => ("OfDifferentMinds$Text", "length", "I", false)
  | 2 => ("OfDifferentMinds$Text", "most", "I", false)
  | _ => ("OfDifferentMinds$Text", "next", "I", false)
def jx_T10 : u_T := fun k => match k with
  | 0 => ("OfDifferentMinds", "text", "LOfDifferentMinds$Text;", true)
  | 1 => ("OfDifferentMinds", "land", "LOfDifferentMinds$Land;", true)
  | 2 => ("OfDifferentMinds", "rule", "LOfDifferentMinds$Rule;", true)
  | 3 => ("OfDifferentMinds", "now", "LOfDifferentMinds$Standing;", true)
  | 4 => ("OfDifferentMinds", "history", "LOfDifferentMinds$History;", true)
  | 5 => ("OfDifferentMinds", "told", "LOfDifferentMinds$Row;", true)
  | 6 => ("OfDifferentMinds", "trial", "LOfDifferentMinds$Ride;", true)
  | 7 => ("OfDifferentMinds", "atlas", "LOfDifferentMinds$Atlas;", true)
  | 8 => ("OfDifferentMinds", "matching", "LOfDifferentMinds$Matching;", true)
  | 9 => ("OfDifferentMinds", "print", "[I", true)
  | 10 => ("OfDifferentMinds", "ridden", "[I", true)
  | 11 => ("OfDifferentMinds", "visits", "[I", true)
  | 12 => ("OfDifferentMinds", "printed", "I", false)
  | _ => ("OfDifferentMinds", "drawn", "I", false)
def jx_T11 : u_T := fun k => match k with
  | 0 => ("OfDifferentMindsModel", "now", "[I", true)
  | 1 => ("OfDifferentMindsModel", "places", "I", false)
  | 2 => ("OfDifferentMindsModel", "ways", "[I", true)
  | 3 => ("OfDifferentMindsModel", "leads", "[I", true)
  | 4 => ("OfDifferentMindsModel", "inns", "I", false)
  | 5 => ("OfDifferentMindsModel", "riders", "I", false)
  | 6 => ("OfDifferentMindsModel", "minds", "[I", true)
  | 7 => ("OfDifferentMindsModel", "digits", "[I", true)
  | 8 => ("OfDifferentMindsModel", "text", "[B", true)
  | 9 => ("OfDifferentMindsModel", "typed", "I", false)
  | 10 => ("OfDifferentMindsModel", "row", "[I", true)
  | 11 => ("OfDifferentMindsModel", "rowMany", "I", false)
  | 12 => ("OfDifferentMindsModel", "thrown", "I", false)
  | 13 => ("OfDifferentMindsModel", "read", "[B", false)
  | 14 => ("OfDifferentMindsModel", "length", "I", false)
  | 15 => ("OfDifferentMindsModel", "top", "I", false)
  | 16 => ("OfDifferentMindsModel", "at", "I", false)
  | 17 => ("OfDifferentMindsModel", "wrong", "I", false)
  | 18 => ("OfDifferentMindsModel", "newWays", "[I", true)
  | 19 => ("OfDifferentMindsModel", "newLeads", "[I", true)
  | 20 => ("OfDifferentMindsModel", "letterAt", "[I", true)
  | 21 => ("OfDifferentMindsModel", "newInns", "I", false)
  | 22 => ("OfDifferentMindsModel", "fresh", "[I", true)
  | 23 => ("OfDifferentMindsModel", "rule", "[B", true)
  | 24 => ("OfDifferentMindsModel", "ruleSize", "I", false)
  | 25 => ("OfDifferentMindsModel", "isAsked", "Z", false)
  | 26 => ("OfDifferentMindsModel", "asked", "[I", true)
  | 27 => ("OfDifferentMindsModel", "convinced", "I", false)
  | 28 => ("OfDifferentMindsModel", "undos", "[I", true)
  | 29 => ("OfDifferentMindsModel", "undoMany", "I", false)
  | 30 => ("OfDifferentMindsModel", "aside", "[I", true)
  | 31 => ("OfDifferentMindsModel", "lastConvinced", "I", false)
  | 32 => ("OfDifferentMindsModel", "acts", "[I", true)
  | 33 => ("OfDifferentMindsModel", "allSteps", "I", false)
  | 34 => ("OfDifferentMindsModel", "then", "[I", true)
  | 35 => ("OfDifferentMindsModel", "visits", "[I", true)
  | 36 => ("OfDifferentMindsModel", "stopSteps", "I", false)
  | 37 => ("OfDifferentMindsModel", "freshStop", "[I", true)
  | 38 => ("OfDifferentMindsModel", "rides", "[I", true)
  | 39 => ("OfDifferentMindsModel", "with", "[I", true)
  | 40 => ("OfDifferentMindsModel", "bestWith", "[I", true)
  | 41 => ("OfDifferentMindsModel", "mostSteps", "I", false)
  | 42 => ("OfDifferentMindsModel", "prints", "[I", true)
  | 43 => ("OfDifferentMindsModel", "printMany", "I", false)
  | 44 => ("OfDifferentMindsModel", "edition", "[I", true)
  | 45 => ("OfDifferentMindsModel", "many", "[I", true)
  | 46 => ("OfDifferentMindsModel", "drawn", "I", false)
  | 47 => ("OfDifferentMindsModel", "rode", "[I", true)
  | 48 => ("OfDifferentMindsModel", "came", "I", false)
  | 49 => ("OfDifferentMindsModel", "kept", "[I", true)
  | 50 => ("OfDifferentMindsModel", "isKept", "[Z", true)
  | _ => ("OfDifferentMindsModel", "keptCame", "[I", true)
def jx_T12 : u_T := fun k => match k with
  | _ => ("java/util/NoSuchElementException", "", "I", false)
def jx_cl : List vw_C := [("OfDifferentMinds$Atlas", jx_T0, 4), ("OfDifferentMinds$Grammar", jx_T1, 0), ("OfDifferentMinds$History", jx_T2, 5), ("OfDifferentMinds$Land", jx_T3, 6), ("OfDifferentMinds$Matching", jx_T4, 4), ("OfDifferentMinds$Ride", jx_T5, 13), ("OfDifferentMinds$Row", jx_T6, 2), ("OfDifferentMinds$Rule", jx_T7, 6), ("OfDifferentMinds$Standing", jx_T8, 1), ("OfDifferentMinds$Text", jx_T9, 4), ("OfDifferentMinds", jx_T10, 14), ("OfDifferentMindsModel", jx_T11, 52), ("java/util/NoSuchElementException", jx_T12, 0)]
def jx_tl : List (List FieldType) := [[.object "OfDifferentMinds$Land", .object "OfDifferentMinds$Ride", .array .int, .array .int],
  [],
  [.array (.object "OfDifferentMinds$Standing"), .array (.object "OfDifferentMinds$Standing"), .int, .int, .int],
  [.array .int, .array .int, .array .int, .int, .int, .int],
  [.array .int, .array .int, .array .int, .int],
  [.object "OfDifferentMinds$Land", .object "OfDifferentMinds$Rule", .object "OfDifferentMinds$Standing", .array .int, .array .int, .array .int, .array .int, .array .int, .int, .int, .int, .int, .boolean],
  [.array .int, .int],
  [.array .int, .array .int, .array .int, .array .int, .int, .int],
  [.array .int],
  [.array .int, .int, .int, .int],
  [.object "OfDifferentMinds$Text", .object "OfDifferentMinds$Land", .object "OfDifferentMinds$Rule", .object "OfDifferentMinds$Standing", .object "OfDifferentMinds$History", .object "OfDifferentMinds$Row", .object "OfDifferentMinds$Ride", .object "OfDifferentMinds$Atlas", .object "OfDifferentMinds$Matching", .array .int, .array .int, .array .int, .int, .int],
  [.array .int, .int, .array .int, .array .int, .int, .int, .array .int, .array .int, .array .byte, .int, .array .int, .int, .int, .array .byte, .int, .int, .int, .int, .array .int, .array .int, .array .int, .int, .array .int, .array .byte, .int, .boolean, .array .int, .int, .array .int, .int, .array .int, .int, .array .int, .int, .array .int, .array .int, .int, .array .int, .array .int, .array .int, .array .int, .int, .array .int, .int, .array .int, .array .int, .int, .array .int, .int, .array .int, .array .boolean, .array .int]]
def jx_ty (c k : Nat) : FieldType := (jx_tl.getD c []).getD k .int
def jx_nm (c : Nat) : String := match c with
  | 0 => "OfDifferentMinds$Atlas"
  | 1 => "OfDifferentMinds$Grammar"
  | 2 => "OfDifferentMinds$History"
  | 3 => "OfDifferentMinds$Land"
  | 4 => "OfDifferentMinds$Matching"
  | 5 => "OfDifferentMinds$Ride"
  | 6 => "OfDifferentMinds$Row"
  | 7 => "OfDifferentMinds$Rule"
  | 8 => "OfDifferentMinds$Standing"
  | 9 => "OfDifferentMinds$Text"
  | 10 => "OfDifferentMinds"
  | 11 => "OfDifferentMindsModel"
  | 12 => "java/util/NoSuchElementException"
  | 13 => "java/lang/Integer"
  | _ => "java/lang/Math"
def jx_ys : List MethodName := [
  ⟨"OfDifferentMinds$Atlas", "<init>", "(LOfDifferentMinds$Land;LOfDifferentMinds$Ride;)V"⟩,
  ⟨"OfDifferentMinds$Atlas", "survey", "(I)I"⟩,
  ⟨"OfDifferentMinds$Atlas", "surveyFrom", "(I)I"⟩,
  ⟨"OfDifferentMinds$Atlas", "beginAt", "(I)V"⟩,
  ⟨"OfDifferentMinds$Atlas", "farOf", "(I)I"⟩,
  ⟨"OfDifferentMinds$Atlas", "fewest", "(IIZ)I"⟩,
  ⟨"OfDifferentMinds$Atlas", "pairTo", "(II)I"⟩,
  ⟨"OfDifferentMinds$Atlas", "tellRides", "(ILOfDifferentMinds$Row;)V"⟩,
  ⟨"OfDifferentMinds$Atlas", "wayTo", "(II)I"⟩,
  ⟨"OfDifferentMinds$Atlas", "tellWays", "(ILOfDifferentMinds$Row;)V"⟩,
  ⟨"OfDifferentMinds$Grammar", "inRoads", "(LOfDifferentMinds$Text;)I"⟩,
  ⟨"OfDifferentMinds$Grammar", "inRoadLines", "(LOfDifferentMinds$Text;)I"⟩,
  ⟨"OfDifferentMinds$Grammar", "takeRoadLine", "(LOfDifferentMinds$Text;)Z"⟩,
  ⟨"OfDifferentMinds$Grammar", "inRiders", "(LOfDifferentMinds$Text;II)I"⟩,
  ⟨"OfDifferentMinds$Grammar", "inRiderLine", "(LOfDifferentMinds$Text;I)I"⟩,
  ⟨"OfDifferentMinds$Grammar", "inJourney", "(LOfDifferentMinds$Text;)I"⟩,
  ⟨"OfDifferentMinds$Grammar", "takeAct", "(LOfDifferentMinds$Text;)Z"⟩,
  ⟨"OfDifferentMinds$Grammar", "inPrints", "(LOfDifferentMinds$Text;I)I"⟩,
  ⟨"OfDifferentMinds$History", "<init>", "()V"⟩,
  ⟨"OfDifferentMinds$History", "size", "()I"⟩,
  ⟨"OfDifferentMinds$History", "forgetAll", "()V"⟩,
  ⟨"OfDifferentMinds$History", "note", "(LOfDifferentMinds$Standing;)V"⟩,
  ⟨"OfDifferentMinds$History", "push", "()V"⟩,
  ⟨"OfDifferentMinds$History", "back", "(LOfDifferentMinds$Standing;)Z"⟩,
  ⟨"OfDifferentMinds$History", "keepUnder", "(ILOfDifferentMinds$Standing;)Z"⟩,
  ⟨"OfDifferentMinds$History", "bringBack", "(ILOfDifferentMinds$Standing;)Z"⟩,
  ⟨"OfDifferentMinds$Land", "<init>", "()V"⟩,
  ⟨"OfDifferentMinds$Land", "places", "()I"⟩,
  ⟨"OfDifferentMinds$Land", "riderCount", "()I"⟩,
  ⟨"OfDifferentMinds$Land", "inns", "()I"⟩,
  ⟨"OfDifferentMinds$Land", "hasPlace", "(I)Z"⟩,
  ⟨"OfDifferentMinds$Land", "hasRider", "(I)Z"⟩,
  ⟨"OfDifferentMinds$Land", "hasRiders", "(I)Z"⟩,
  ⟨"OfDifferentMinds$Land", "waysAt", "(I)I"⟩,
  ⟨"OfDifferentMinds$Land", "isInn", "(I)Z"⟩,
  ⟨"OfDifferentMinds$Land", "leadsTo", "(II)I"⟩,
  ⟨"OfDifferentMinds$Land", "viewOf", "(II)I"⟩,
  ⟨"OfDifferentMinds$Land", "mindOf", "(I)I"⟩,
  ⟨"OfDifferentMinds$Land", "setMind", "(II)V"⟩,
  ⟨"OfDifferentMinds$Land", "admit", "(I)V"⟩,
  ⟨"OfDifferentMinds$Land", "lay", "(LOfDifferentMinds$Text;)V"⟩,
  ⟨"OfDifferentMinds$Land", "addPlace", "()V"⟩,
  ⟨"OfDifferentMinds$Land", "addWay", "(I)V"⟩,
  ⟨"OfDifferentMinds$Matching", "<init>", "()V"⟩,
  ⟨"OfDifferentMinds$Matching", "setSteps", "(III)V"⟩,
  ⟨"OfDifferentMinds$Matching", "best", "(I)I"⟩,
  ⟨"OfDifferentMinds$Matching", "part", "(IIIZ)V"⟩,
  ⟨"OfDifferentMinds$Matching", "tell", "(ILOfDifferentMinds$Row;)V"⟩,
  ⟨"OfDifferentMinds$Ride", "<init>", "(LOfDifferentMinds$Land;LOfDifferentMinds$Rule;LOfDifferentMinds$Standing;)V"⟩,
  ⟨"OfDifferentMinds$Ride", "beginFresh", "(III)V"⟩,
  ⟨"OfDifferentMinds$Ride", "begin", "(III)V"⟩,
  ⟨"OfDifferentMinds$Ride", "resume", "()V"⟩,
  ⟨"OfDifferentMinds$Ride", "settle", "()V"⟩,
  ⟨"OfDifferentMinds$Ride", "spot", "()I"⟩,
  ⟨"OfDifferentMinds$Ride", "taken", "()I"⟩,
  ⟨"OfDifferentMinds$Ride", "latest", "()I"⟩,
  ⟨"OfDifferentMinds$Ride", "hasStopped", "()Z"⟩,
  ⟨"OfDifferentMinds$Ride", "leftBeside", "(I)I"⟩,
  ⟨"OfDifferentMinds$Ride", "wayBy", "(II)I"⟩,
  ⟨"OfDifferentMinds$Ride", "wayClaiming", "(II)I"⟩,
  ⟨"OfDifferentMinds$Ride", "stepClaiming", "(II)Z"⟩,
  ⟨"OfDifferentMinds$Ride", "step", "()Z"⟩,
  ⟨"OfDifferentMinds$Ride", "goBy", "(I)Z"⟩,
  ⟨"OfDifferentMinds$Ride", "wear", "()V"⟩,
  ⟨"OfDifferentMinds$Ride", "go", "(I)V"⟩,
  ⟨"OfDifferentMinds$Ride", "goOut", "()V"⟩,
  ⟨"OfDifferentMinds$Ride", "comesTo", "(I)Z"⟩,
  ⟨"OfDifferentMinds$Row", "<init>", "()V"⟩,
  ⟨"OfDifferentMinds$Row", "clear", "()V"⟩,
  ⟨"OfDifferentMinds$Row", "put", "(I)V"⟩,
  ⟨"OfDifferentMinds$Row", "tell", "(I)V"⟩,
  ⟨"OfDifferentMinds$Row", "tell", "(II)V"⟩,
  ⟨"OfDifferentMinds$Row", "tell", "(III)V"⟩,
  ⟨"OfDifferentMinds$Row", "size", "()I"⟩,
  ⟨"OfDifferentMinds$Row", "at", "(I)I"⟩,
  ⟨"OfDifferentMinds$Rule", "<init>", "()V"⟩,
  ⟨"OfDifferentMinds$Rule", "setFacts", "(IIIII)V"⟩,
  ⟨"OfDifferentMinds$Rule", "tells", "(II)I"⟩,
  ⟨"OfDifferentMinds$Rule", "joined", "(III)I"⟩,
  ⟨"OfDifferentMinds$Rule", "read", "(LOfDifferentMinds$Text;)I"⟩,
  ⟨"OfDifferentMinds$Rule", "write", "(I)V"⟩,
  ⟨"OfDifferentMinds$Rule", "takeJoined", "(LOfDifferentMinds$Text;II)Z"⟩,
  ⟨"OfDifferentMinds$Rule", "rankOf", "(I)I"⟩,
  ⟨"OfDifferentMinds$Rule", "takeSigned", "(LOfDifferentMinds$Text;I)Z"⟩,
  ⟨"OfDifferentMinds$Rule", "takeInner", "(LOfDifferentMinds$Text;I)Z"⟩,
  ⟨"OfDifferentMinds$Rule", "takeThing", "(LOfDifferentMinds$Text;)Z"⟩,
  ⟨"OfDifferentMinds$Rule", "thingOf", "(I)I"⟩,
  ⟨"OfDifferentMinds$Standing", "<init>", "()V"⟩,
  ⟨"OfDifferentMinds$Standing", "clear", "()V"⟩,
  ⟨"OfDifferentMinds$Standing", "copy", "(LOfDifferentMinds$Standing;)V"⟩,
  ⟨"OfDifferentMinds$Standing", "get", "(II)I"⟩,
  ⟨"OfDifferentMinds$Standing", "set", "(III)V"⟩,
  ⟨"OfDifferentMinds$Standing", "admit", "(II)V"⟩,
  ⟨"OfDifferentMinds$Standing", "spentOf", "(I)I"⟩,
  ⟨"OfDifferentMinds$Standing", "setSpent", "(II)V"⟩,
  ⟨"OfDifferentMinds$Standing", "placeOf", "(I)I"⟩,
  ⟨"OfDifferentMinds$Standing", "setPlace", "(II)V"⟩,
  ⟨"OfDifferentMinds$Standing", "convincerOf", "(I)I"⟩,
  ⟨"OfDifferentMinds$Standing", "setConvincer", "(II)V"⟩,
  ⟨"OfDifferentMinds$Standing", "mapOf", "(I)I"⟩,
  ⟨"OfDifferentMinds$Standing", "guidingMap", "(I)I"⟩,
  ⟨"OfDifferentMinds$Standing", "digit", "(II)I"⟩,
  ⟨"OfDifferentMinds$Standing", "changeMaps", "(II)V"⟩,
  ⟨"OfDifferentMinds$Standing", "horse", "()I"⟩,
  ⟨"OfDifferentMinds$Standing", "setHorse", "(I)V"⟩,
  ⟨"OfDifferentMinds$Standing", "first", "()I"⟩,
  ⟨"OfDifferentMinds$Standing", "second", "()I"⟩,
  ⟨"OfDifferentMinds$Standing", "steps", "()I"⟩,
  ⟨"OfDifferentMinds$Standing", "setSteps", "(I)V"⟩,
  ⟨"OfDifferentMinds$Standing", "isMounted", "()Z"⟩,
  ⟨"OfDifferentMinds$Standing", "isUp", "(I)Z"⟩,
  ⟨"OfDifferentMinds$Standing", "seat", "(II)V"⟩,
  ⟨"OfDifferentMinds$Text", "<init>", "()V"⟩,
  ⟨"OfDifferentMinds$Text", "length", "()I"⟩,
  ⟨"OfDifferentMinds$Text", "at", "(I)I"⟩,
  ⟨"OfDifferentMinds$Text", "add", "(I)I"⟩,
  ⟨"OfDifferentMinds$Text", "cut", "(I)Z"⟩,
  ⟨"OfDifferentMinds$Text", "clear", "()V"⟩,
  ⟨"OfDifferentMinds$Text", "open", "(I)V"⟩,
  ⟨"OfDifferentMinds$Text", "position", "()I"⟩,
  ⟨"OfDifferentMinds$Text", "peek", "()I"⟩,
  ⟨"OfDifferentMinds$Text", "isOver", "()Z"⟩,
  ⟨"OfDifferentMinds$Text", "isCutShort", "()Z"⟩,
  ⟨"OfDifferentMinds$Text", "next", "()I"⟩,
  ⟨"OfDifferentMinds$Text", "take", "(I)Z"⟩,
  ⟨"OfDifferentMinds$Text", "takeOf", "(II)Z"⟩,
  ⟨"OfDifferentMinds$Text", "number", "(I)I"⟩,
  ⟨"OfDifferentMinds$Text", "rest", "()I"⟩,
  ⟨"OfDifferentMinds", "<init>", "()V"⟩,
  ⟨"OfDifferentMinds", "sign", "(I)I"⟩,
  ⟨"OfDifferentMinds", "end", "(I)Z"⟩,
  ⟨"OfDifferentMinds", "roads", "()I"⟩,
  ⟨"OfDifferentMinds", "riders", "()I"⟩,
  ⟨"OfDifferentMinds", "admitAll", "()I"⟩,
  ⟨"OfDifferentMinds", "rule", "()I"⟩,
  ⟨"OfDifferentMinds", "place", "(II)I"⟩,
  ⟨"OfDifferentMinds", "ridersAt", "(I)I"⟩,
  ⟨"OfDifferentMinds", "rider", "(II)I"⟩,
  ⟨"OfDifferentMinds", "viewAt", "(II)I"⟩,
  ⟨"OfDifferentMinds", "view", "(II)I"⟩,
  ⟨"OfDifferentMinds", "sheet", "(IIII)I"⟩,
  ⟨"OfDifferentMinds", "entryMind", "(II)I"⟩,
  ⟨"OfDifferentMinds", "limitSpent", "()V"⟩,
  ⟨"OfDifferentMinds", "mount", "(II)I"⟩,
  ⟨"OfDifferentMinds", "dismount", "()I"⟩,
  ⟨"OfDifferentMinds", "ride", "(I)I"⟩,
  ⟨"OfDifferentMinds", "walk", "(II)I"⟩,
  ⟨"OfDifferentMinds", "lead", "(II)I"⟩,
  ⟨"OfDifferentMinds", "rest", "(I)I"⟩,
  ⟨"OfDifferentMinds", "deal", "(II)I"⟩,
  ⟨"OfDifferentMinds", "noted", "(I)I"⟩,
  ⟨"OfDifferentMinds", "areTwo", "(II)Z"⟩,
  ⟨"OfDifferentMinds", "getOn", "(II)I"⟩,
  ⟨"OfDifferentMinds", "getOff", "()I"⟩,
  ⟨"OfDifferentMinds", "goOn", "(I)I"⟩,
  ⟨"OfDifferentMinds", "goAfoot", "(II)I"⟩,
  ⟨"OfDifferentMinds", "goLeading", "(II)I"⟩,
  ⟨"OfDifferentMinds", "sleep", "(I)I"⟩,
  ⟨"OfDifferentMinds", "changeMaps", "(II)I"⟩,
  ⟨"OfDifferentMinds", "journey", "()I"⟩,
  ⟨"OfDifferentMinds", "act", "(III)I"⟩,
  ⟨"OfDifferentMinds", "undo", "()I"⟩,
  ⟨"OfDifferentMinds", "where", "(I)I"⟩,
  ⟨"OfDifferentMinds", "canRide", "(III)Z"⟩,
  ⟨"OfDifferentMinds", "stops", "(III)I"⟩,
  ⟨"OfDifferentMinds", "trail", "(III)I"⟩,
  ⟨"OfDifferentMinds", "tellVisits", "()I"⟩,
  ⟨"OfDifferentMinds", "reaches", "(IIII)I"⟩,
  ⟨"OfDifferentMinds", "pairs", "(II)I"⟩,
  ⟨"OfDifferentMinds", "stopsAt", "(IIII)Z"⟩,
  ⟨"OfDifferentMinds", "changes", "(II)I"⟩,
  ⟨"OfDifferentMinds", "stations", "(I)I"⟩,
  ⟨"OfDifferentMinds", "foot", "(II)I"⟩,
  ⟨"OfDifferentMinds", "stepsOf", "(III)I"⟩,
  ⟨"OfDifferentMinds", "record", "(I)I"⟩,
  ⟨"OfDifferentMinds", "matches", "(II)I"⟩,
  ⟨"OfDifferentMinds", "partner", "(II)I"⟩,
  ⟨"OfDifferentMinds", "agree", "(II)I"⟩,
  ⟨"OfDifferentMinds", "convinces", "(III)I"⟩,
  ⟨"OfDifferentMinds", "claim", "(II)I"⟩,
  ⟨"OfDifferentMinds", "lie", "(II)I"⟩,
  ⟨"OfDifferentMinds", "prints", "()I"⟩,
  ⟨"OfDifferentMinds", "fits", "()I"⟩,
  ⟨"OfDifferentMinds", "leavesPrints", "(II)Z"⟩,
  ⟨"OfDifferentMinds", "views", "()I"⟩,
  ⟨"OfDifferentMinds", "viewsBetween", "(III)I"⟩,
  ⟨"OfDifferentMinds", "editions", "(I)I"⟩,
  ⟨"OfDifferentMinds", "editionSeen", "(II)I"⟩,
  ⟨"OfDifferentMinds", "kinds", "(II)I"⟩,
  ⟨"OfDifferentMinds", "holdersOf", "(III)I"⟩,
  ⟨"OfDifferentMinds", "county", "(II)I"⟩,
  ⟨"OfDifferentMinds", "rideInCounty", "(I)I"⟩,
  ⟨"OfDifferentMinds", "draw", "(I)I"⟩,
  ⟨"OfDifferentMinds", "farthestRidden", "()I"⟩,
  ⟨"OfDifferentMinds", "keep", "(I)Z"⟩,
  ⟨"OfDifferentMinds", "again", "(I)Z"⟩,
  ⟨"OfDifferentMinds", "count", "(I)I"⟩,
  ⟨"OfDifferentMinds", "convincedOnes", "()I"⟩,
  ⟨"OfDifferentMinds", "row", "(I)I"⟩,
  ⟨"OfDifferentMindsModel", "<init>", "()V"⟩,
  ⟨"OfDifferentMindsModel", "empty", "()V"⟩,
  ⟨"OfDifferentMindsModel", "thrown", "()I"⟩,
  ⟨"OfDifferentMindsModel", "in", "(III)Z"⟩,
  ⟨"OfDifferentMindsModel", "has", "(II)Z"⟩,
  ⟨"OfDifferentMindsModel", "lost", "()I"⟩,
  ⟨"OfDifferentMindsModel", "tell", "(I)V"⟩,
  ⟨"OfDifferentMindsModel", "isPlace", "(I)Z"⟩,
  ⟨"OfDifferentMindsModel", "isRider", "(I)Z"⟩,
  ⟨"OfDifferentMindsModel", "areTwo", "(II)Z"⟩,
  ⟨"OfDifferentMindsModel", "isOn", "([II)Z"⟩,
  ⟨"OfDifferentMindsModel", "isRidden", "()Z"⟩,
  ⟨"OfDifferentMindsModel", "sign", "(I)I"⟩,
  ⟨"OfDifferentMindsModel", "end", "(I)Z"⟩,
  ⟨"OfDifferentMindsModel", "begin", "([BII)V"⟩,
  ⟨"OfDifferentMindsModel", "here", "()I"⟩,
  ⟨"OfDifferentMindsModel", "fine", "()Z"⟩,
  ⟨"OfDifferentMindsModel", "fault", "(I)V"⟩,
  ⟨"OfDifferentMindsModel", "passes", "(C)Z"⟩,
  ⟨"OfDifferentMindsModel", "need", "(C)V"⟩,
  ⟨"OfDifferentMindsModel", "digit", "(II)I"⟩,
  ⟨"OfDifferentMindsModel", "number", "(I)I"⟩,
  ⟨"OfDifferentMindsModel", "readPlace", "(I)V"⟩,
  ⟨"OfDifferentMindsModel", "roads", "()I"⟩,
  ⟨"OfDifferentMindsModel", "readRider", "(I)V"⟩,
  ⟨"OfDifferentMindsModel", "riders", "()I"⟩,
  ⟨"OfDifferentMindsModel", "held", "(I)I"⟩,
  ⟨"OfDifferentMindsModel", "sum", "(I)I"⟩,
  ⟨"OfDifferentMindsModel", "product", "(I)I"⟩,
  ⟨"OfDifferentMindsModel", "letterOf", "(I)I"⟩,
  ⟨"OfDifferentMindsModel", "thing", "(I)I"⟩,
  ⟨"OfDifferentMindsModel", "rule", "()I"⟩,
  ⟨"OfDifferentMindsModel", "wayBy", "(IIIIII)I"⟩,
  ⟨"OfDifferentMindsModel", "viewOf", "([III)I"⟩,
  ⟨"OfDifferentMindsModel", "leftOf", "([II)I"⟩,
  ⟨"OfDifferentMindsModel", "goesOn", "([I)Z"⟩,
  ⟨"OfDifferentMindsModel", "goStep", "([III)V"⟩,
  ⟨"OfDifferentMindsModel", "step", "([I)Z"⟩,
  ⟨"OfDifferentMindsModel", "place", "(II)I"⟩,
  ⟨"OfDifferentMindsModel", "rider", "(II)I"⟩,
  ⟨"OfDifferentMindsModel", "view", "(II)I"⟩,
  ⟨"OfDifferentMindsModel", "sheet", "(IIII)I"⟩,
  ⟨"OfDifferentMindsModel", "lay", "([I[II)V"⟩,
  ⟨"OfDifferentMindsModel", "remember", "([I)V"⟩,
  ⟨"OfDifferentMindsModel", "refusesMount", "(II)I"⟩,
  ⟨"OfDifferentMindsModel", "goMount", "(II)V"⟩,
  ⟨"OfDifferentMindsModel", "mount", "(II)I"⟩,
  ⟨"OfDifferentMindsModel", "goDown", "()V"⟩,
  ⟨"OfDifferentMindsModel", "dismount", "()I"⟩,
  ⟨"OfDifferentMindsModel", "goRide", "([II)I"⟩,
  ⟨"OfDifferentMindsModel", "ride", "(I)I"⟩,
  ⟨"OfDifferentMindsModel", "isWay", "(II)Z"⟩,
  ⟨"OfDifferentMindsModel", "refusesWalk", "(II)I"⟩,
  ⟨"OfDifferentMindsModel", "goWalk", "(II)I"⟩,
  ⟨"OfDifferentMindsModel", "walk", "(II)I"⟩,
  ⟨"OfDifferentMindsModel", "refusesLead", "(II)I"⟩,
  ⟨"OfDifferentMindsModel", "goLead", "(II)I"⟩,
  ⟨"OfDifferentMindsModel", "lead", "(II)I"⟩,
  ⟨"OfDifferentMindsModel", "isAtInn", "(I)Z"⟩,
  ⟨"OfDifferentMindsModel", "refusesRest", "(I)I"⟩,
  ⟨"OfDifferentMindsModel", "goRest", "(I)I"⟩,
  ⟨"OfDifferentMindsModel", "rest", "(I)I"⟩,
  ⟨"OfDifferentMindsModel", "refusesDeal", "(II)I"⟩,
  ⟨"OfDifferentMindsModel", "goDeal", "(II)I"⟩,
  ⟨"OfDifferentMindsModel", "deal", "(II)I"⟩,
  ⟨"OfDifferentMindsModel", "journey", "()I"⟩,
  ⟨"OfDifferentMindsModel", "readAct", "(I)V"⟩,
  ⟨"OfDifferentMindsModel", "act", "(III)Z"⟩,
  ⟨"OfDifferentMindsModel", "undo", "()I"⟩,
  ⟨"OfDifferentMindsModel", "capSpent", "()V"⟩,
  ⟨"OfDifferentMindsModel", "where", "(I)I"⟩,
  ⟨"OfDifferentMindsModel", "mountThen", "(IIIZ)V"⟩,
  ⟨"OfDifferentMindsModel", "freshen", "()V"⟩,
  ⟨"OfDifferentMindsModel", "canRide", "(III)Z"⟩,
  ⟨"OfDifferentMindsModel", "stops", "(III)I"⟩,
  ⟨"OfDifferentMindsModel", "trail", "(III)I"⟩,
  ⟨"OfDifferentMindsModel", "reaches", "(IIII)I"⟩,
  ⟨"OfDifferentMindsModel", "stopOf", "(IIIZ)I"⟩,
  ⟨"OfDifferentMindsModel", "pairs", "(II)I"⟩,
  ⟨"OfDifferentMindsModel", "stopAt", "(III)I"⟩,
  ⟨"OfDifferentMindsModel", "layStops", "()V"⟩,
  ⟨"OfDifferentMindsModel", "ridesBy", "(IIIII)I"⟩,
  ⟨"OfDifferentMindsModel", "changes", "(II)I"⟩,
  ⟨"OfDifferentMindsModel", "stations", "(I)I"⟩,
  ⟨"OfDifferentMindsModel", "foot", "(II)I"⟩,
  ⟨"OfDifferentMindsModel", "stepsOf", "(III)I"⟩,
  ⟨"OfDifferentMindsModel", "record", "(I)I"⟩,
  ⟨"OfDifferentMindsModel", "goMatches", "(IIIII)V"⟩,
  ⟨"OfDifferentMindsModel", "areThose", "(I)Z"⟩,
  ⟨"OfDifferentMindsModel", "matches", "(II)I"⟩,
  ⟨"OfDifferentMindsModel", "partner", "(II)I"⟩,
  ⟨"OfDifferentMindsModel", "agree", "(II)I"⟩,
  ⟨"OfDifferentMindsModel", "convinces", "(III)I"⟩,
  ⟨"OfDifferentMindsModel", "claims", "(II)Z"⟩,
  ⟨"OfDifferentMindsModel", "wayOfClaim", "(II)I"⟩,
  ⟨"OfDifferentMindsModel", "claim", "(II)I"⟩,
  ⟨"OfDifferentMindsModel", "lie", "(II)I"⟩,
  ⟨"OfDifferentMindsModel", "prints", "()I"⟩,
  ⟨"OfDifferentMindsModel", "isPrinted", "(II)Z"⟩,
  ⟨"OfDifferentMindsModel", "fits", "()I"⟩,
  ⟨"OfDifferentMindsModel", "views", "()I"⟩,
  ⟨"OfDifferentMindsModel", "areLike", "(II)Z"⟩,
  ⟨"OfDifferentMindsModel", "editions", "(I)I"⟩,
  ⟨"OfDifferentMindsModel", "kinds", "(II)I"⟩,
  ⟨"OfDifferentMindsModel", "draw", "(I)I"⟩,
  ⟨"OfDifferentMindsModel", "county", "(II)I"⟩,
  ⟨"OfDifferentMindsModel", "keep", "(I)Z"⟩,
  ⟨"OfDifferentMindsModel", "again", "(I)Z"⟩,
  ⟨"OfDifferentMindsModel", "count", "(I)I"⟩,
  ⟨"OfDifferentMindsModel", "row", "(I)I"⟩,
  ⟨"java/lang/Integer", "bitCount", "(I)I"⟩,
  ⟨"java/lang/Math", "max", "(II)I"⟩,
  ⟨"java/lang/Math", "min", "(II)I"⟩]
/-- kind (0 virtual, 1 constructor, 2 static) and class of each method -/
def jx_kc : List (Nat × Nat) := [(1, 0), (0, 0), (0, 0), (0, 0), (0, 0), (0, 0), (0, 0), (0, 0), (0, 0), (0, 0), (2, 1), (2, 1), (2, 1), (2, 1), (2, 1), (2, 1), (2, 1), (2, 1), (1, 2), (0, 2), (0, 2), (0, 2), (0, 2), (0, 2), (0, 2), (0, 2), (1, 3), (0, 3), (0, 3), (0, 3), (0, 3), (0, 3), (0, 3), (0, 3), (0, 3), (0, 3), (0, 3), (0, 3), (0, 3), (0, 3), (0, 3), (0, 3), (0, 3), (1, 4), (0, 4), (0, 4), (0, 4), (0, 4), (1, 5), (0, 5), (0, 5), (0, 5), (0, 5), (0, 5), (0, 5), (0, 5), (0, 5), (0, 5), (0, 5), (0, 5), (0, 5), (0, 5), (0, 5), (0, 5), (0, 5), (0, 5), (0, 5), (1, 6), (0, 6), (0, 6), (0, 6), (0, 6), (0, 6), (0, 6), (0, 6), (1, 7), (0, 7), (0, 7), (2, 7), (0, 7), (0, 7), (0, 7), (2, 7), (0, 7), (0, 7), (0, 7), (2, 7), (1, 8), (0, 8), (0, 8), (0, 8), (0, 8), (0, 8), (0, 8), (0, 8), (0, 8), (0, 8), (0, 8), (0, 8), (0, 8), (0, 8), (0, 8), (0, 8), (0, 8), (0, 8), (0, 8), (0, 8), (0, 8), (0, 8), (0, 8), (0, 8), (0, 8), (1, 9), (0, 9), (0, 9), (0, 9), (0, 9), (0, 9), (0, 9), (0, 9), (0, 9), (0, 9), (0, 9), (0, 9), (0, 9), (0, 9), (0, 9), (0, 9), (1, 10), (0, 10), (0, 10), (0, 10), (0, 10), (0, 10), (0, 10), (0, 10), (0, 10), (0, 10), (0, 10), (0, 10), (0, 10), (2, 10), (0, 10), (0, 10), (0, 10), (0, 10), (0, 10), (0, 10), (0, 10), (0, 10), (0, 10), (0, 10), (0, 10), (0, 10), (0, 10), (0, 10), (0, 10), (0, 10), (0, 10), (0, 10), (0, 10), (0, 10), (0, 10), (0, 10), (0, 10), (0, 10), (0, 10), (0, 10), (0, 10), (0, 10), (0, 10), (0, 10), (0, 10), (0, 10), (0, 10), (0, 10), (0, 10), (0, 10), (0, 10), (0, 10), (0, 10), (0, 10), (0, 10), (0, 10), (0, 10), (0, 10), (0, 10), (0, 10), (0, 10), (0, 10), (0, 10), (0, 10), (0, 10), (0, 10), (0, 10), (0, 10), (0, 10), (0, 10), (0, 10), (1, 11), (0, 11), (0, 11), (2, 11), (2, 11), (0, 11), (0, 11), (0, 11), (0, 11), (0, 11), (2, 11), (0, 11), (0, 11), (0, 11), (0, 11), (0, 11), (0, 11), (0, 11), (0, 11), (0, 11), (0, 11), (0, 11), (0, 11), (0, 11), (0, 11), (0, 11), (0, 11), (0, 11), (0, 11), (2, 11), (0, 11), (0, 11), (0, 11), (0, 11), (0, 11), (0, 11), (0, 11), (0, 11), (0, 11), (0, 11), (0, 11), (0, 11), (2, 11), (0, 11), (0, 11), (0, 11), (0, 11), (0, 11), (0, 11), (0, 11), (0, 11), (0, 11), (0, 11), (0, 11), (0, 11), (0, 11), (0, 11), (0, 11), (0, 11), (0, 11), (0, 11), (0, 11), (0, 11), (0, 11), (0, 11), (0, 11), (0, 11), (0, 11), (0, 11), (0, 11), (0, 11), (0, 11), (0, 11), (0, 11), (0, 11), (0, 11), (0, 11), (0, 11), (0, 11), (0, 11), (0, 11), (0, 11), (0, 11), (0, 11), (0, 11), (0, 11), (0, 11), (0, 11), (0, 11), (0, 11), (0, 11), (0, 11), (0, 11), (0, 11), (0, 11), (0, 11), (0, 11), (0, 11), (0, 11), (0, 11), (0, 11), (0, 11), (0, 11), (0, 11), (0, 11), (0, 11), (0, 11), (0, 11), (0, 11), (0, 11), (2, 13), (2, 14), (2, 14)]
/-- owner, index, class, field, place -/
def jx_FL : List (Nat × Nat × Nat × Nat × Nat) := [
  (0, 9, 0, 0, 303),
  (0, 15, 0, 1, 304),
  (0, 19, 0, 2, 305),
  (0, 23, 0, 3, 306),
  (2, 13, 2, 0, 222),
  (2, 18, 2, 1, 223),
  (2, 21, 2, 3, 225),
  (2, 25, 2, 4, 226),
  (2, 28, 2, 2, 224),
  (3, 9, 3, 0, 159),
  (3, 15, 3, 1, 160),
  (3, 18, 3, 2, 161),
  (3, 21, 3, 3, 162),
  (3, 25, 3, 5, 164),
  (3, 28, 3, 4, 163),
  (4, 9, 4, 0, 322),
  (4, 15, 4, 1, 323),
  (4, 18, 4, 2, 324),
  (4, 21, 4, 3, 325),
  (5, 9, 5, 0, 257),
  (5, 15, 5, 1, 258),
  (5, 19, 5, 2, 259),
  (5, 23, 5, 3, 260),
  (5, 27, 5, 4, 261),
  (5, 30, 5, 5, 262),
  (5, 33, 5, 6, 263),
  (5, 36, 5, 7, 264),
  (5, 50, 5, 8, 265),
  (5, 54, 5, 9, 266),
  (5, 57, 5, 10, 267),
  (5, 60, 5, 11, 268),
  (5, 63, 5, 12, 269),
  (6, 11, 6, 0, 244),
  (6, 15, 6, 1, 245),
  (7, 9, 7, 0, 184),
  (7, 15, 7, 1, 185),
  (7, 18, 7, 2, 186),
  (7, 21, 7, 3, 187),
  (7, 24, 7, 4, 188),
  (7, 32, 7, 5, 189),
  (8, 11, 8, 0, 209),
  (9, 9, 9, 0, 139),
  (9, 15, 9, 1, 140),
  (9, 19, 9, 2, 141),
  (9, 22, 9, 3, 142),
  (10, 10, 10, 0, 335),
  (10, 19, 10, 1, 336),
  (10, 26, 10, 2, 337),
  (10, 33, 10, 3, 338),
  (10, 40, 10, 4, 339),
  (10, 47, 10, 5, 340),
  (10, 56, 10, 6, 341),
  (10, 65, 10, 7, 342),
  (10, 72, 10, 8, 343),
  (10, 76, 10, 9, 344),
  (10, 80, 10, 10, 345),
  (10, 83, 10, 11, 346),
  (10, 110, 10, 12, 347),
  (10, 433, 10, 13, 348),
  (11, 9, 11, 0, 1293),
  (11, 13, 11, 2, 1295),
  (11, 16, 11, 3, 1296),
  (11, 19, 11, 6, 1299),
  (11, 22, 11, 7, 1300),
  (11, 25, 11, 8, 1301),
  (11, 29, 11, 10, 1303),
  (11, 32, 11, 18, 1311),
  (11, 35, 11, 19, 1312),
  (11, 38, 11, 20, 1313),
  (11, 41, 11, 22, 1315),
  (11, 44, 11, 23, 1316),
  (11, 47, 11, 26, 1319),
  (11, 50, 11, 28, 1321),
  (11, 53, 11, 30, 1323),
  (11, 56, 11, 32, 1325),
  (11, 59, 11, 34, 1327),
  (11, 62, 11, 35, 1328),
  (11, 65, 11, 37, 1330),
  (11, 68, 11, 38, 1331),
  (11, 71, 11, 39, 1332),
  (11, 74, 11, 40, 1333),
  (11, 77, 11, 42, 1335),
  (11, 80, 11, 44, 1337),
  (11, 83, 11, 45, 1338),
  (11, 86, 11, 47, 1340),
  (11, 89, 11, 49, 1342),
  (11, 92, 11, 50, 1343),
  (11, 96, 11, 51, 1344),
  (11, 102, 11, 12, 1305),
  (11, 106, 11, 11, 1304),
  (11, 109, 11, 1, 1294),
  (11, 116, 11, 5, 1298),
  (11, 123, 11, 9, 1302),
  (11, 126, 11, 13, 1306),
  (11, 129, 11, 14, 1307),
  (11, 132, 11, 15, 1308),
  (11, 135, 11, 16, 1309),
  (11, 138, 11, 17, 1310),
  (11, 161, 11, 21, 1314),
  (11, 171, 11, 4, 1297),
  (11, 174, 11, 43, 1336),
  (11, 177, 11, 29, 1322),
  (11, 191, 11, 48, 1341),
  (11, 209, 11, 25, 1318),
  (11, 213, 11, 24, 1317),
  (11, 228, 11, 27, 1320),
  (11, 282, 11, 31, 1324),
  (11, 330, 11, 33, 1326),
  (11, 349, 11, 36, 1329),
  (11, 371, 11, 41, 1334),
  (11, 398, 11, 46, 1339)]
/-- owner, index, method, place -/
def jx_ML : List (Nat × Nat × Nat × Nat) := [
  (0, 26, 29, 959),
  (0, 32, 27, 963),
  (0, 35, 2, 964),
  (0, 39, 28, 968),
  (0, 42, 49, 969),
  (0, 48, 65, 970),
  (0, 51, 56, 971),
  (0, 55, 53, 972),
  (0, 58, 30, 991),
  (0, 62, 3, 977),
  (0, 66, 8, 981),
  (0, 70, 6, 992),
  (0, 73, 4, 987),
  (0, 76, 68, 1000),
  (0, 81, 311, 1001),
  (0, 86, 69, 1002),
  (0, 89, 33, 985),
  (0, 92, 35, 986),
  (1, 9, 11, 401),
  (1, 15, 113, 439),
  (1, 21, 114, 443),
  (1, 25, 118, 404),
  (1, 29, 12, 408),
  (1, 33, 119, 423),
  (1, 36, 124, 411),
  (1, 40, 127, 427),
  (1, 43, 125, 419),
  (1, 47, 14, 493),
  (1, 51, 126, 496),
  (1, 54, 16, 878),
  (1, 57, 120, 881),
  (1, 60, 123, 882),
  (2, 17, 87, 221),
  (2, 31, 89, 651),
  (2, 35, 311, 685),
  (3, 31, 30, 587),
  (3, 35, 31, 626),
  (3, 38, 41, 451),
  (3, 41, 113, 455),
  (3, 47, 114, 456),
  (3, 51, 42, 457),
  (4, 25, 309, 1040),
  (4, 31, 46, 1046),
  (4, 41, 68, 1055),
  (4, 46, 69, 1056),
  (5, 39, 37, 723),
  (5, 45, 99, 724),
  (5, 67, 49, 719),
  (5, 71, 93, 725),
  (5, 74, 97, 726),
  (5, 77, 100, 727),
  (5, 80, 105, 706),
  (5, 84, 106, 710),
  (5, 87, 103, 714),
  (5, 90, 50, 715),
  (5, 93, 107, 728),
  (5, 96, 104, 774),
  (5, 100, 108, 778),
  (5, 103, 96, 782),
  (5, 107, 94, 786),
  (5, 110, 98, 787),
  (5, 113, 33, 745),
  (5, 116, 76, 746),
  (5, 122, 77, 750),
  (5, 126, 36, 740),
  (5, 129, 58, 741),
  (5, 132, 59, 1090),
  (5, 135, 62, 757),
  (5, 139, 35, 761),
  (5, 142, 63, 765),
  (5, 145, 310, 769),
  (5, 150, 61, 736),
  (6, 19, 68, 811),
  (6, 22, 69, 815),
  (7, 28, 78, 754),
  (7, 35, 118, 531),
  (7, 41, 113, 532),
  (7, 44, 81, 533),
  (7, 48, 119, 566),
  (7, 51, 127, 567),
  (7, 60, 83, 537),
  (7, 64, 120, 542),
  (7, 67, 82, 563),
  (7, 71, 123, 547),
  (7, 74, 80, 556),
  (7, 77, 124, 541),
  (7, 81, 84, 543),
  (7, 84, 85, 551),
  (7, 88, 126, 555),
  (7, 91, 86, 560),
  (8, 15, 111, 465),
  (8, 25, 91, 515),
  (8, 29, 90, 600),
  (8, 33, 97, 596),
  (8, 37, 99, 604),
  (9, 25, 120, 415),
  (9, 29, 121, 431),
  (9, 33, 122, 435),
  (10, 9, 112, 135),
  (10, 18, 26, 155),
  (10, 25, 75, 180),
  (10, 32, 87, 205),
  (10, 39, 18, 215),
  (10, 46, 67, 240),
  (10, 53, 48, 253),
  (10, 62, 0, 299),
  (10, 71, 43, 318),
  (10, 86, 115, 382),
  (10, 90, 116, 390),
  (10, 94, 10, 398),
  (10, 100, 40, 447),
  (10, 104, 88, 461),
  (10, 107, 20, 469),
  (10, 114, 117, 473),
  (10, 115, 27, 477),
  (10, 119, 113, 485),
  (10, 122, 28, 486),
  (10, 125, 13, 490),
  (10, 129, 133, 500),
  (10, 132, 118, 504),
  (10, 136, 121, 505),
  (10, 140, 126, 506),
  (10, 143, 124, 507),
  (10, 146, 310, 508),
  (10, 152, 92, 511),
  (10, 156, 39, 519),
  (10, 158, 79, 527),
  (10, 161, 30, 579),
  (10, 171, 33, 583),
  (10, 174, 34, 850),
  (10, 177, 136, 1263),
  (10, 180, 35, 831),
  (10, 183, 95, 672),
  (10, 186, 31, 575),
  (10, 191, 37, 635),
  (10, 194, 93, 631),
  (10, 197, 97, 1184),
  (10, 200, 138, 588),
  (10, 203, 110, 827),
  (10, 206, 100, 592),
  (10, 209, 36, 608),
  (10, 212, 141, 616),
  (10, 215, 38, 622),
  (10, 218, 142, 627),
  (10, 221, 311, 619),
  (10, 224, 94, 639),
  (10, 227, 21, 647),
  (10, 231, 152, 656),
  (10, 234, 150, 677),
  (10, 237, 153, 690),
  (10, 240, 154, 698),
  (10, 243, 22, 681),
  (10, 246, 53, 795),
  (10, 249, 56, 799),
  (10, 252, 55, 803),
  (10, 255, 72, 807),
  (10, 259, 155, 823),
  (10, 262, 156, 837),
  (10, 265, 157, 846),
  (10, 268, 158, 859),
  (10, 271, 151, 660),
  (10, 275, 109, 664),
  (10, 278, 103, 668),
  (10, 281, 111, 676),
  (10, 284, 51, 702),
  (10, 287, 64, 732),
  (10, 290, 52, 770),
  (10, 293, 54, 791),
  (10, 296, 96, 832),
  (10, 299, 104, 841),
  (10, 302, 98, 854),
  (10, 305, 101, 863),
  (10, 308, 102, 867),
  (10, 310, 15, 875),
  (10, 313, 123, 883),
  (10, 316, 160, 884),
  (10, 320, 71, 888),
  (10, 322, 23, 896),
  (10, 326, 19, 900),
  (10, 329, 163, 912),
  (10, 333, 50, 916),
  (10, 336, 65, 917),
  (10, 339, 70, 921),
  (10, 341, 61, 929),
  (10, 344, 166, 930),
  (10, 347, 66, 938),
  (10, 350, 68, 946),
  (10, 351, 169, 947),
  (10, 355, 1, 955),
  (10, 358, 5, 973),
  (10, 362, 7, 996),
  (10, 366, 29, 1007),
  (10, 369, 9, 1012),
  (10, 372, 173, 1020),
  (10, 375, 32, 1028),
  (10, 378, 44, 1032),
  (10, 381, 45, 1036),
  (10, 384, 47, 1051),
  (10, 386, 309, 1065),
  (10, 391, 57, 1070),
  (10, 394, 59, 1078),
  (10, 397, 60, 1086),
  (10, 400, 17, 1095),
  (10, 404, 114, 1098),
  (10, 407, 183, 1103),
  (10, 410, 185, 1111),
  (10, 413, 69, 1117),
  (10, 416, 76, 1115),
  (10, 420, 77, 1116),
  (10, 423, 187, 1122),
  (10, 426, 99, 1126),
  (10, 429, 74, 1127),
  (10, 430, 189, 1135),
  (10, 436, 191, 1143),
  (10, 439, 193, 1153),
  (10, 442, 192, 1147),
  (10, 445, 49, 1152),
  (10, 449, 24, 1161),
  (10, 453, 25, 1169),
  (10, 456, 105, 1177),
  (10, 459, 106, 1178),
  (10, 462, 107, 1179),
  (10, 465, 197, 1180),
  (10, 468, 73, 1185),
  (11, 99, 200, 1289),
  (11, 112, 202, 1463),
  (11, 119, 207, 1553),
  (11, 141, 215, 1474),
  (11, 145, 214, 1490),
  (11, 149, 217, 1486),
  (11, 153, 216, 1478),
  (11, 157, 219, 1506),
  (11, 164, 213, 1470),
  (11, 168, 221, 1482),
  (11, 180, 220, 1502),
  (11, 184, 218, 1510),
  (11, 188, 223, 1498),
  (11, 194, 226, 1522),
  (11, 197, 227, 1526),
  (11, 200, 229, 1530),
  (11, 203, 225, 1518),
  (11, 206, 228, 1534),
  (11, 216, 232, 1557),
  (11, 220, 233, 1629),
  (11, 224, 231, 1633),
  (11, 231, 311, 1572),
  (11, 236, 234, 1621),
  (11, 240, 235, 1625),
  (11, 244, 206, 1541),
  (11, 247, 204, 1545),
  (11, 250, 209, 1561),
  (11, 254, 310, 1573),
  (11, 257, 241, 1594),
  (11, 261, 208, 1582),
  (11, 265, 210, 1586),
  (11, 268, 243, 1578),
  (11, 271, 242, 1590),
  (11, 275, 244, 1597),
  (11, 279, 246, 1605),
  (11, 285, 236, 1617),
  (11, 288, 248, 1613),
  (11, 291, 205, 1637),
  (11, 294, 250, 1649),
  (11, 297, 251, 1645),
  (11, 300, 252, 1653),
  (11, 303, 254, 1661),
  (11, 306, 255, 1665),
  (11, 309, 203, 1681),
  (11, 312, 257, 1677),
  (11, 315, 258, 1673),
  (11, 318, 259, 1684),
  (11, 321, 261, 1692),
  (11, 324, 262, 1696),
  (11, 327, 265, 1704),
  (11, 333, 266, 1708),
  (11, 336, 268, 1716),
  (11, 339, 271, 1736),
  (11, 342, 272, 1728),
  (11, 345, 270, 1732),
  (11, 353, 276, 1753),
  (11, 357, 278, 1769),
  (11, 361, 279, 1761),
  (11, 364, 280, 1765),
  (11, 368, 284, 1785),
  (11, 374, 286, 1798),
  (11, 378, 287, 1793),
  (11, 381, 309, 1797),
  (11, 386, 293, 1818),
  (11, 389, 292, 1826),
  (11, 392, 297, 1838),
  (11, 395, 300, 1850),
  (11, 402, 303, 1862)]
def jx_KL : List (Nat × Nat × Nat × Nat) := [(2, 11, 8, 219), (10, 7, 9, 133), (10, 16, 3, 153), (10, 23, 7, 178), (10, 30, 8, 203), (10, 37, 2, 213), (10, 44, 6, 238), (10, 51, 5, 251), (10, 60, 0, 297), (10, 69, 4, 316)]
def jx_CL : List (Nat × Nat × Int32 × Nat) := [(10, 448, 1103515245, 1151), (11, 352, 1000000, 1752), (11, 401, 1103515245, 1866), (13, 265, 1431655765, 1043), (13, 266, 858993459, 1044), (13, 267, 252645135, 1045)]
def jx_OL : List (Nat × Nat × Nat) := [(0, 3, 302), (2, 3, 218), (3, 3, 158), (4, 3, 321), (5, 3, 256), (6, 3, 243), (7, 3, 183), (8, 5, 208), (9, 3, 138), (10, 1, 130), (11, 3, 1288)]
def jx_AL : List (Nat × Nat × Nat) := [(4, 35, 1050), (7, 54, 568), (8, 19, 655)]
theorem jx_mem {w : Cond} {i : Nat} (h : lw_tbl[i]? = some w) (hg : goodWord w = true) : w ∈ lw_g := List.mem_filter.mpr ⟨List.mem_of_getElem? h, hg⟩
theorem jx_FL_ok : ∀ q ∈ jx_FL, Cond.fieldLink (jx_nm q.1) q.2.1 (jx_nm q.2.2.1) ((jx_cl.getD q.2.2.1 ("", jx_T0, 0)).2.1 q.2.2.2.1).2.1 ((jx_cl.getD q.2.2.1 ("", jx_T0, 0)).2.1 q.2.2.2.1).2.2.1 ∈ lw_g := by
  have h : jx_FL.all (fun q => decide (lw_tbl[q.2.2.2.2]? = some (Cond.fieldLink (jx_nm q.1) q.2.1 (jx_nm q.2.2.1) ((jx_cl.getD q.2.2.1 ("", jx_T0, 0)).2.1 q.2.2.2.1).2.1 ((jx_cl.getD q.2.2.1 ("", jx_T0, 0)).2.1 q.2.2.2.1).2.2.1))) = true := by decide +kernel
  intro q hq
  exact jx_mem (of_decide_eq_true (List.all_eq_true.mp h q hq)) rfl
theorem jx_ML_ok : ∀ q ∈ jx_ML, Cond.methodLink (jx_nm q.1) q.2.1 (jx_ys.getD q.2.2.1 ⟨"", "", ""⟩) ∈ lw_g := by
  have h : jx_ML.all (fun q => decide (lw_tbl[q.2.2.2]? = some (Cond.methodLink (jx_nm q.1) q.2.1 (jx_ys.getD q.2.2.1 ⟨"", "", ""⟩)))) = true := by decide +kernel
  intro q hq
  exact jx_mem (of_decide_eq_true (List.all_eq_true.mp h q hq)) rfl
theorem jx_KL_ok : ∀ q ∈ jx_KL, Cond.classLink (jx_nm q.1) q.2.1 (jx_nm q.2.2.1) ∈ lw_g := by
  have h : jx_KL.all (fun q => decide (lw_tbl[q.2.2.2]? = some (Cond.classLink (jx_nm q.1) q.2.1 (jx_nm q.2.2.1)))) = true := by decide +kernel
  intro q hq
  exact jx_mem (of_decide_eq_true (List.all_eq_true.mp h q hq)) rfl
theorem jx_CL_ok : ∀ q ∈ jx_CL, Cond.constant (jx_nm q.1) q.2.1 q.2.2.1 ∈ lw_g := by
  have h : jx_CL.all (fun q => decide (lw_tbl[q.2.2.2]? = some (Cond.constant (jx_nm q.1) q.2.1 q.2.2.1))) = true := by decide +kernel
  intro q hq
  exact jx_mem (of_decide_eq_true (List.all_eq_true.mp h q hq)) rfl
theorem jx_OL_ok : ∀ q ∈ jx_OL, Cond.methodLink (jx_nm q.1) q.2.1 Lib.objectInit ∈ lw_g := by
  have h : jx_OL.all (fun q => decide (lw_tbl[q.2.2]? = some (Cond.methodLink (jx_nm q.1) q.2.1 Lib.objectInit))) = true := by decide +kernel
  intro q hq
  exact jx_mem (of_decide_eq_true (List.all_eq_true.mp h q hq)) rfl
theorem jx_AL_ok : ∀ q ∈ jx_AL, Cond.methodLink (jx_nm q.1) q.2.1 arraycopyName ∈ lw_g := by
  have h : jx_AL.all (fun q => decide (lw_tbl[q.2.2]? = some (Cond.methodLink (jx_nm q.1) q.2.1 arraycopyName))) = true := by decide +kernel
  intro q hq
  exact jx_mem (of_decide_eq_true (List.all_eq_true.mp h q hq)) rfl
theorem jx_lay0 : ∀ w ∈ u_ws "OfDifferentMinds$Atlas" jx_T0 4, w ∈ lw_g := by
  have h : ((u_ws "OfDifferentMinds$Atlas" jx_T0 4).zip ([307, 309, 311, 313] : List Nat)).all (fun q => decide (lw_tbl[q.2]? = some q.1) && goodWord q.1) = true := by decide +kernel
  intro w hw
  obtain ⟨k, hk⟩ := List.getElem?_of_mem hw
  have hl : k < 4 := by
    have := (List.getElem?_eq_some_iff.mp hk).1
    simpa [u_ws] using this
  have hz := List.all_eq_true.mp h (w, ([307, 309, 311, 313] : List Nat).getD k 0) (by
    refine List.mem_of_getElem? (i := k) ?_
    rw [List.getElem?_zip_eq_some]
    refine ⟨hk, ?_⟩
    rw [List.getD_eq_getElem?_getD, List.getElem?_eq_getElem (by simpa using hl)]
    rfl)
  simp only [Bool.and_eq_true, decide_eq_true_eq] at hz
  exact jx_mem hz.1 hz.2
theorem jx_nd0 : ∀ a, a < 4 → ∀ b, b < 4 → a ≠ b → (jx_T0 a).2.1 ≠ (jx_T0 b).2.1 := by decide +kernel
theorem jx_tk0 : ∀ k, k < 4 → parseFieldDescriptor (jx_T0 k).2.2.1 = some (jx_ty 0 k) := by decide +kernel
theorem jx_lay1 : ∀ w ∈ u_ws "OfDifferentMinds$Grammar" jx_T1 0, w ∈ lw_g := by
  have h : ((u_ws "OfDifferentMinds$Grammar" jx_T1 0).zip ([] : List Nat)).all (fun q => decide (lw_tbl[q.2]? = some q.1) && goodWord q.1) = true := by decide +kernel
  intro w hw
  obtain ⟨k, hk⟩ := List.getElem?_of_mem hw
  have hl : k < 0 := by
    have := (List.getElem?_eq_some_iff.mp hk).1
    simpa [u_ws] using this
  have hz := List.all_eq_true.mp h (w, ([] : List Nat).getD k 0) (by
    refine List.mem_of_getElem? (i := k) ?_
    rw [List.getElem?_zip_eq_some]
    refine ⟨hk, ?_⟩
    rw [List.getD_eq_getElem?_getD, List.getElem?_eq_getElem (by simpa using hl)]
    rfl)
  simp only [Bool.and_eq_true, decide_eq_true_eq] at hz
  exact jx_mem hz.1 hz.2
theorem jx_nd1 : ∀ a, a < 0 → ∀ b, b < 0 → a ≠ b → (jx_T1 a).2.1 ≠ (jx_T1 b).2.1 := by decide +kernel
theorem jx_tk1 : ∀ k, k < 0 → parseFieldDescriptor (jx_T1 k).2.2.1 = some (jx_ty 1 k) := by decide +kernel
theorem jx_lay2 : ∀ w ∈ u_ws "OfDifferentMinds$History" jx_T2 5, w ∈ lw_g := by
  have h : ((u_ws "OfDifferentMinds$History" jx_T2 5).zip ([227, 229, 231, 233, 235] : List Nat)).all (fun q => decide (lw_tbl[q.2]? = some q.1) && goodWord q.1) = true := by decide +kernel
  intro w hw
  obtain ⟨k, hk⟩ := List.getElem?_of_mem hw
  have hl : k < 5 := by
    have := (List.getElem?_eq_some_iff.mp hk).1
    simpa [u_ws] using this
  have hz := List.all_eq_true.mp h (w, ([227, 229, 231, 233, 235] : List Nat).getD k 0) (by
    refine List.mem_of_getElem? (i := k) ?_
    rw [List.getElem?_zip_eq_some]
    refine ⟨hk, ?_⟩
    rw [List.getD_eq_getElem?_getD, List.getElem?_eq_getElem (by simpa using hl)]
    rfl)
  simp only [Bool.and_eq_true, decide_eq_true_eq] at hz
  exact jx_mem hz.1 hz.2
theorem jx_nd2 : ∀ a, a < 5 → ∀ b, b < 5 → a ≠ b → (jx_T2 a).2.1 ≠ (jx_T2 b).2.1 := by decide +kernel
theorem jx_tk2 : ∀ k, k < 5 → parseFieldDescriptor (jx_T2 k).2.2.1 = some (jx_ty 2 k) := by decide +kernel
theorem jx_lay3 : ∀ w ∈ u_ws "OfDifferentMinds$Land" jx_T3 6, w ∈ lw_g := by
  have h : ((u_ws "OfDifferentMinds$Land" jx_T3 6).zip ([165, 167, 169, 171, 173, 175] : List Nat)).all (fun q => decide (lw_tbl[q.2]? = some q.1) && goodWord q.1) = true := by decide +kernel
  intro w hw
  obtain ⟨k, hk⟩ := List.getElem?_of_mem hw
  have hl : k < 6 := by
    have := (List.getElem?_eq_some_iff.mp hk).1
    simpa [u_ws] using this
  have hz := List.all_eq_true.mp h (w, ([165, 167, 169, 171, 173, 175] : List Nat).getD k 0) (by
    refine List.mem_of_getElem? (i := k) ?_
    rw [List.getElem?_zip_eq_some]
    refine ⟨hk, ?_⟩
    rw [List.getD_eq_getElem?_getD, List.getElem?_eq_getElem (by simpa using hl)]
    rfl)
  simp only [Bool.and_eq_true, decide_eq_true_eq] at hz
  exact jx_mem hz.1 hz.2
theorem jx_nd3 : ∀ a, a < 6 → ∀ b, b < 6 → a ≠ b → (jx_T3 a).2.1 ≠ (jx_T3 b).2.1 := by decide +kernel
theorem jx_tk3 : ∀ k, k < 6 → parseFieldDescriptor (jx_T3 k).2.2.1 = some (jx_ty 3 k) := by decide +kernel
theorem jx_lay4 : ∀ w ∈ u_ws "OfDifferentMinds$Matching" jx_T4 4, w ∈ lw_g := by
  have h : ((u_ws "OfDifferentMinds$Matching" jx_T4 4).zip ([326, 328, 330, 332] : List Nat)).all (fun q => decide (lw_tbl[q.2]? = some q.1) && goodWord q.1) = true := by decide +kernel
  intro w hw
  obtain ⟨k, hk⟩ := List.getElem?_of_mem hw
  have hl : k < 4 := by
    have := (List.getElem?_eq_some_iff.mp hk).1
    simpa [u_ws] using this
  have hz := List.all_eq_true.mp h (w, ([326, 328, 330, 332] : List Nat).getD k 0) (by
    refine List.mem_of_getElem? (i := k) ?_
    rw [List.getElem?_zip_eq_some]
    refine ⟨hk, ?_⟩
    rw [List.getD_eq_getElem?_getD, List.getElem?_eq_getElem (by simpa using hl)]
    rfl)
  simp only [Bool.and_eq_true, decide_eq_true_eq] at hz
  exact jx_mem hz.1 hz.2
theorem jx_nd4 : ∀ a, a < 4 → ∀ b, b < 4 → a ≠ b → (jx_T4 a).2.1 ≠ (jx_T4 b).2.1 := by decide +kernel
theorem jx_tk4 : ∀ k, k < 4 → parseFieldDescriptor (jx_T4 k).2.2.1 = some (jx_ty 4 k) := by decide +kernel
theorem jx_lay5 : ∀ w ∈ u_ws "OfDifferentMinds$Ride" jx_T5 13, w ∈ lw_g := by
  have h : ((u_ws "OfDifferentMinds$Ride" jx_T5 13).zip ([270, 272, 274, 276, 278, 280, 282, 284, 286, 288, 290, 292, 294] : List Nat)).all (fun q => decide (lw_tbl[q.2]? = some q.1) && goodWord q.1) = true := by decide +kernel
  intro w hw
  obtain ⟨k, hk⟩ := List.getElem?_of_mem hw
  have hl : k < 13 := by
    have := (List.getElem?_eq_some_iff.mp hk).1
    simpa [u_ws] using this
  have hz := List.all_eq_true.mp h (w, ([270, 272, 274, 276, 278, 280, 282, 284, 286, 288, 290, 292, 294] : List Nat).getD k 0) (by
    refine List.mem_of_getElem? (i := k) ?_
    rw [List.getElem?_zip_eq_some]
    refine ⟨hk, ?_⟩
    rw [List.getD_eq_getElem?_getD, List.getElem?_eq_getElem (by simpa using hl)]
    rfl)
  simp only [Bool.and_eq_true, decide_eq_true_eq] at hz
  exact jx_mem hz.1 hz.2
theorem jx_nd5 : ∀ a, a < 13 → ∀ b, b < 13 → a ≠ b → (jx_T5 a).2.1 ≠ (jx_T5 b).2.1 := by decide +kernel
theorem jx_tk5 : ∀ k, k < 13 → parseFieldDescriptor (jx_T5 k).2.2.1 = some (jx_ty 5 k) := by decide +kernel
theorem jx_lay6 : ∀ w ∈ u_ws "OfDifferentMinds$Row" jx_T6 2, w ∈ lw_g := by
  have h : ((u_ws "OfDifferentMinds$Row" jx_T6 2).zip ([246, 248] : List Nat)).all (fun q => decide (lw_tbl[q.2]? = some q.1) && goodWord q.1) = true := by decide +kernel
  intro w hw
  obtain ⟨k, hk⟩ := List.getElem?_of_mem hw
  have hl : k < 2 := by
    have := (List.getElem?_eq_some_iff.mp hk).1
    simpa [u_ws] using this
  have hz := List.all_eq_true.mp h (w, ([246, 248] : List Nat).getD k 0) (by
    refine List.mem_of_getElem? (i := k) ?_
    rw [List.getElem?_zip_eq_some]
    refine ⟨hk, ?_⟩
    rw [List.getD_eq_getElem?_getD, List.getElem?_eq_getElem (by simpa using hl)]
    rfl)
  simp only [Bool.and_eq_true, decide_eq_true_eq] at hz
  exact jx_mem hz.1 hz.2
theorem jx_nd6 : ∀ a, a < 2 → ∀ b, b < 2 → a ≠ b → (jx_T6 a).2.1 ≠ (jx_T6 b).2.1 := by decide +kernel
theorem jx_tk6 : ∀ k, k < 2 → parseFieldDescriptor (jx_T6 k).2.2.1 = some (jx_ty 6 k) := by decide +kernel
theorem jx_lay7 : ∀ w ∈ u_ws "OfDifferentMinds$Rule" jx_T7 6, w ∈ lw_g := by
  have h : ((u_ws "OfDifferentMinds$Rule" jx_T7 6).zip ([190, 192, 194, 196, 198, 200] : List Nat)).all (fun q => decide (lw_tbl[q.2]? = some q.1) && goodWord q.1) = true := by decide +kernel
  intro w hw
  obtain ⟨k, hk⟩ := List.getElem?_of_mem hw
  have hl : k < 6 := by
    have := (List.getElem?_eq_some_iff.mp hk).1
    simpa [u_ws] using this
  have hz := List.all_eq_true.mp h (w, ([190, 192, 194, 196, 198, 200] : List Nat).getD k 0) (by
    refine List.mem_of_getElem? (i := k) ?_
    rw [List.getElem?_zip_eq_some]
    refine ⟨hk, ?_⟩
    rw [List.getD_eq_getElem?_getD, List.getElem?_eq_getElem (by simpa using hl)]
    rfl)
  simp only [Bool.and_eq_true, decide_eq_true_eq] at hz
  exact jx_mem hz.1 hz.2
theorem jx_nd7 : ∀ a, a < 6 → ∀ b, b < 6 → a ≠ b → (jx_T7 a).2.1 ≠ (jx_T7 b).2.1 := by decide +kernel
theorem jx_tk7 : ∀ k, k < 6 → parseFieldDescriptor (jx_T7 k).2.2.1 = some (jx_ty 7 k) := by decide +kernel
theorem jx_lay8 : ∀ w ∈ u_ws "OfDifferentMinds$Standing" jx_T8 1, w ∈ lw_g := by
  have h : ((u_ws "OfDifferentMinds$Standing" jx_T8 1).zip ([210] : List Nat)).all (fun q => decide (lw_tbl[q.2]? = some q.1) && goodWord q.1) = true := by decide +kernel
  intro w hw
  obtain ⟨k, hk⟩ := List.getElem?_of_mem hw
  have hl : k < 1 := by
    have := (List.getElem?_eq_some_iff.mp hk).1
    simpa [u_ws] using this
  have hz := List.all_eq_true.mp h (w, ([210] : List Nat).getD k 0) (by
    refine List.mem_of_getElem? (i := k) ?_
    rw [List.getElem?_zip_eq_some]
    refine ⟨hk, ?_⟩
    rw [List.getD_eq_getElem?_getD, List.getElem?_eq_getElem (by simpa using hl)]
    rfl)
  simp only [Bool.and_eq_true, decide_eq_true_eq] at hz
  exact jx_mem hz.1 hz.2
theorem jx_nd8 : ∀ a, a < 1 → ∀ b, b < 1 → a ≠ b → (jx_T8 a).2.1 ≠ (jx_T8 b).2.1 := by decide +kernel
theorem jx_tk8 : ∀ k, k < 1 → parseFieldDescriptor (jx_T8 k).2.2.1 = some (jx_ty 8 k) := by decide +kernel
theorem jx_lay9 : ∀ w ∈ u_ws "OfDifferentMinds$Text" jx_T9 4, w ∈ lw_g := by
  have h : ((u_ws "OfDifferentMinds$Text" jx_T9 4).zip ([143, 145, 147, 149] : List Nat)).all (fun q => decide (lw_tbl[q.2]? = some q.1) && goodWord q.1) = true := by decide +kernel
  intro w hw
  obtain ⟨k, hk⟩ := List.getElem?_of_mem hw
  have hl : k < 4 := by
    have := (List.getElem?_eq_some_iff.mp hk).1
    simpa [u_ws] using this
  have hz := List.all_eq_true.mp h (w, ([143, 145, 147, 149] : List Nat).getD k 0) (by
    refine List.mem_of_getElem? (i := k) ?_
    rw [List.getElem?_zip_eq_some]
    refine ⟨hk, ?_⟩
    rw [List.getD_eq_getElem?_getD, List.getElem?_eq_getElem (by simpa using hl)]
    rfl)
  simp only [Bool.and_eq_true, decide_eq_true_eq] at hz
  exact jx_mem hz.1 hz.2
theorem jx_nd9 : ∀ a, a < 4 → ∀ b, b < 4 → a ≠ b → (jx_T9 a).2.1 ≠ (jx_T9 b).2.1 := by decide +kernel
theorem jx_tk9 : ∀ k, k < 4 → parseFieldDescriptor (jx_T9 k).2.2.1 = some (jx_ty 9 k) := by decide +kernel
theorem jx_lay10 : ∀ w ∈ u_ws "OfDifferentMinds" jx_T10 14, w ∈ lw_g := by
  have h : ((u_ws "OfDifferentMinds" jx_T10 14).zip ([349, 351, 353, 355, 357, 359, 361, 363, 365, 367, 369, 371, 373, 375] : List Nat)).all (fun q => decide (lw_tbl[q.2]? = some q.1) && goodWord q.1) = true := by decide +kernel
  intro w hw
  obtain ⟨k, hk⟩ := List.getElem?_of_mem hw
  have hl : k < 14 := by
    have := (List.getElem?_eq_some_iff.mp hk).1
    simpa [u_ws] using this
  have hz := List.all_eq_true.mp h (w, ([349, 351, 353, 355, 357, 359, 361, 363, 365, 367, 369, 371, 373, 375] : List Nat).getD k 0) (by
    refine List.mem_of_getElem? (i := k) ?_
    rw [List.getElem?_zip_eq_some]
    refine ⟨hk, ?_⟩
    rw [List.getD_eq_getElem?_getD, List.getElem?_eq_getElem (by simpa using hl)]
    rfl)
  simp only [Bool.and_eq_true, decide_eq_true_eq] at hz
  exact jx_mem hz.1 hz.2
theorem jx_nd10 : ∀ a, a < 14 → ∀ b, b < 14 → a ≠ b → (jx_T10 a).2.1 ≠ (jx_T10 b).2.1 := by decide +kernel
theorem jx_tk10 : ∀ k, k < 14 → parseFieldDescriptor (jx_T10 k).2.2.1 = some (jx_ty 10 k) := by decide +kernel
theorem jx_lay11 : ∀ w ∈ u_ws "OfDifferentMindsModel" jx_T11 52, w ∈ lw_g := by
  have h : ((u_ws "OfDifferentMindsModel" jx_T11 52).zip ([1345, 1347, 1349, 1351, 1353, 1355, 1357, 1359, 1361, 1363, 1365, 1367, 1369, 1371, 1373, 1375, 1377, 1379, 1381, 1383, 1385, 1387, 1389, 1391, 1393, 1395, 1397, 1399, 1401, 1403, 1405, 1407, 1409, 1411, 1413, 1415, 1417, 1419, 1421, 1423, 1425, 1427, 1429, 1431, 1433, 1435, 1437, 1439, 1441, 1443, 1445, 1447] : List Nat)).all (fun q => decide (lw_tbl[q.2]? = some q.1) && goodWord q.1) = true := by decide +kernel
  intro w hw
  obtain ⟨k, hk⟩ := List.getElem?_of_mem hw
  have hl : k < 52 := by
    have := (List.getElem?_eq_some_iff.mp hk).1
    simpa [u_ws] using this
  have hz := List.all_eq_true.mp h (w, ([1345, 1347, 1349, 1351, 1353, 1355, 1357, 1359, 1361, 1363, 1365, 1367, 1369, 1371, 1373, 1375, 1377, 1379, 1381, 1383, 1385, 1387, 1389, 1391, 1393, 1395, 1397, 1399, 1401, 1403, 1405, 1407, 1409, 1411, 1413, 1415, 1417, 1419, 1421, 1423, 1425, 1427, 1429, 1431, 1433, 1435, 1437, 1439, 1441, 1443, 1445, 1447] : List Nat).getD k 0) (by
    refine List.mem_of_getElem? (i := k) ?_
    rw [List.getElem?_zip_eq_some]
    refine ⟨hk, ?_⟩
    rw [List.getD_eq_getElem?_getD, List.getElem?_eq_getElem (by simpa using hl)]
    rfl)
  simp only [Bool.and_eq_true, decide_eq_true_eq] at hz
  exact jx_mem hz.1 hz.2
theorem jx_nd11 : ∀ a, a < 52 → ∀ b, b < 52 → a ≠ b → (jx_T11 a).2.1 ≠ (jx_T11 b).2.1 := by decide +kernel
theorem jx_tk11 : ∀ k, k < 52 → parseFieldDescriptor (jx_T11 k).2.2.1 = some (jx_ty 11 k) := by decide +kernel
theorem jx_lay12 : ∀ w ∈ u_ws "java/util/NoSuchElementException" jx_T12 0, w ∈ lw_g := by
  have h : ((u_ws "java/util/NoSuchElementException" jx_T12 0).zip ([] : List Nat)).all (fun q => decide (lw_tbl[q.2]? = some q.1) && goodWord q.1) = true := by decide +kernel
  intro w hw
  obtain ⟨k, hk⟩ := List.getElem?_of_mem hw
  have hl : k < 0 := by
    have := (List.getElem?_eq_some_iff.mp hk).1
    simpa [u_ws] using this
  have hz := List.all_eq_true.mp h (w, ([] : List Nat).getD k 0) (by
    refine List.mem_of_getElem? (i := k) ?_
    rw [List.getElem?_zip_eq_some]
    refine ⟨hk, ?_⟩
    rw [List.getD_eq_getElem?_getD, List.getElem?_eq_getElem (by simpa using hl)]
    rfl)
  simp only [Bool.and_eq_true, decide_eq_true_eq] at hz
  exact jx_mem hz.1 hz.2
theorem jx_nd12 : ∀ a, a < 0 → ∀ b, b < 0 → a ≠ b → (jx_T12 a).2.1 ≠ (jx_T12 b).2.1 := by decide +kernel
theorem jx_tk12 : ∀ k, k < 0 → parseFieldDescriptor (jx_T12 k).2.2.1 = some (jx_ty 12 k) := by decide +kernel
/-- what is known of a class of the worlds -/
def jx_okC (c : Nat) (q : vw_C) : Prop := q.1 = jx_nm c ∧ q.2.2 ≤ 64 ∧ (∀ w ∈ u_ws q.1 q.2.1 q.2.2, w ∈ lw_g) ∧ (∀ a, a < q.2.2 → ∀ b, b < q.2.2 → a ≠ b → (q.2.1 a).2.1 ≠ (q.2.1 b).2.1) ∧ (∀ k, k < q.2.2 → parseFieldDescriptor (q.2.1 k).2.2.1 = some (jx_ty c k)) ∧ (∀ k, k < q.2.2 → (q.2.1 k).1 = q.1)
theorem jx_cl_ok : ∀ (c : Nat) (q : vw_C), jx_cl[c]? = some q → jx_okC c q := by
  intro c q h
  match c, h with
  | 0, h => cases h; exact ⟨rfl, by decide, jx_lay0, jx_nd0, jx_tk0, by decide +kernel⟩
  | 1, h => cases h; exact ⟨rfl, by decide, jx_lay1, jx_nd1, jx_tk1, by decide +kernel⟩
  | 2, h => cases h; exact ⟨rfl, by decide, jx_lay2, jx_nd2, jx_tk2, by decide +kernel⟩
  | 3, h => cases h; exact ⟨rfl, by decide, jx_lay3, jx_nd3, jx_tk3, by decide +kernel⟩
  | 4, h => cases h; exact ⟨rfl, by decide, jx_lay4, jx_nd4, jx_tk4, by decide +kernel⟩
  | 5, h => cases h; exact ⟨rfl, by decide, jx_lay5, jx_nd5, jx_tk5, by decide +kernel⟩
  | 6, h => cases h; exact ⟨rfl, by decide, jx_lay6, jx_nd6, jx_tk6, by decide +kernel⟩
  | 7, h => cases h; exact ⟨rfl, by decide, jx_lay7, jx_nd7, jx_tk7, by decide +kernel⟩
  | 8, h => cases h; exact ⟨rfl, by decide, jx_lay8, jx_nd8, jx_tk8, by decide +kernel⟩
  | 9, h => cases h; exact ⟨rfl, by decide, jx_lay9, jx_nd9, jx_tk9, by decide +kernel⟩
  | 10, h => cases h; exact ⟨rfl, by decide, jx_lay10, jx_nd10, jx_tk10, by decide +kernel⟩
  | 11, h => cases h; exact ⟨rfl, by decide, jx_lay11, jx_nd11, jx_tk11, by decide +kernel⟩
  | 12, h => cases h; exact ⟨rfl, by decide, jx_lay12, jx_nd12, jx_tk12, by decide +kernel⟩
  | k + 13, h => simp [jx_cl] at h
theorem jx_new_ok : ∀ (c : Nat) (q : vw_C), jx_cl[c]? = some q → c ≠ 1 → c < 12 → Cond.instantiable q.1 q.2.2 ∈ lw_g ∧ Cond.initialized q.1 ∈ lw_g := by
  intro c q h h1 h12
  match c, h, h1, h12 with
  | 0, h, h1, h12 => cases h; exact ⟨jx_mem (i := 298) (by decide +kernel) rfl, jx_mem (i := 114) (by decide +kernel) rfl⟩
  | 1, h, h1, h12 => exact absurd rfl h1
  | 2, h, h1, h12 => cases h; exact ⟨jx_mem (i := 214) (by decide +kernel) rfl, jx_mem (i := 111) (by decide +kernel) rfl⟩
  | 3, h, h1, h12 => cases h; exact ⟨jx_mem (i := 154) (by decide +kernel) rfl, jx_mem (i := 108) (by decide +kernel) rfl⟩
  | 4, h, h1, h12 => cases h; exact ⟨jx_mem (i := 317) (by decide +kernel) rfl, jx_mem (i := 115) (by decide +kernel) rfl⟩
  | 5, h, h1, h12 => cases h; exact ⟨jx_mem (i := 252) (by decide +kernel) rfl, jx_mem (i := 113) (by decide +kernel) rfl⟩
  | 6, h, h1, h12 => cases h; exact ⟨jx_mem (i := 239) (by decide +kernel) rfl, jx_mem (i := 112) (by decide +kernel) rfl⟩
  | 7, h, h1, h12 => cases h; exact ⟨jx_mem (i := 179) (by decide +kernel) rfl, jx_mem (i := 109) (by decide +kernel) rfl⟩
  | 8, h, h1, h12 => cases h; exact ⟨jx_mem (i := 204) (by decide +kernel) rfl, jx_mem (i := 110) (by decide +kernel) rfl⟩
  | 9, h, h1, h12 => cases h; exact ⟨jx_mem (i := 134) (by decide +kernel) rfl, jx_mem (i := 107) (by decide +kernel) rfl⟩
  | 10, h, h1, h12 => cases h; exact ⟨jx_mem (i := 126) (by decide +kernel) rfl, jx_mem (i := 106) (by decide +kernel) rfl⟩
  | 11, h, h1, h12 => cases h; exact ⟨jx_mem (i := 1284) (by decide +kernel) rfl, jx_mem (i := 116) (by decide +kernel) rfl⟩
  | k + 12, h, h1, h12 => omega
theorem jx_wo1 : Cond.instanceMethod Lib.objectInit ∈ lw_g := jx_mem (i := 131) (by decide +kernel) rfl
theorem jx_wo2 : Cond.code Lib.objectInit ⟨#[0xb1]⟩ 1 none ∈ lw_g := jx_mem (i := 132) (by first | decide +kernel | rfl) rfl
theorem jx_wa3 : Cond.initialized "java/lang/System" ∈ lw_g := jx_mem (i := 119) (by decide +kernel) rfl
theorem jx_wa2 : Cond.static arraycopyName ∈ lw_g := jx_mem (i := 569) (by decide +kernel) rfl
theorem jx_wa1 : Cond.native arraycopyName ∈ lw_g := jx_mem (i := 570) (by decide +kernel) rfl
theorem jx_wm0 : Cond.initialized "java/lang/Math" ∈ lw_g := jx_mem (i := 118) (by decide +kernel) rfl
theorem jx_wmax1 : Cond.static Lib.Math.max.name ∈ lw_g := jx_mem (i := 509) (by decide +kernel) rfl
theorem jx_wmax2 : Cond.code Lib.Math.max.name Lib.Math.max.code 2 (some .int) ∈ lw_g := jx_mem (i := 510) (by decide +kernel) rfl
theorem jx_wmin1 : Cond.static Lib.Math.min.name ∈ lw_g := jx_mem (i := 620) (by decide +kernel) rfl
theorem jx_wmin2 : Cond.code Lib.Math.min.name Lib.Math.min.code 2 (some .int) ∈ lw_g := jx_mem (i := 621) (by decide +kernel) rfl
theorem jx_wi : Cond.arrayClass .int ∈ lw_g := jx_mem (i := 152) (by decide +kernel) rfl
theorem jx_wb : Cond.arrayClass .byte ∈ lw_g := jx_mem (i := 1262) (by decide +kernel) rfl
theorem jx_wz : Cond.arrayClass .boolean ∈ lw_g := jx_mem (i := 1450) (by decide +kernel) rfl
end
section
/-! ===== a small machine over plain numbers: what the claim's methods do, as a function =====
a cell's number is its place in the row 'lay' of kinds; fields of cell o are at 64*o+k (numbers in G, references in P); rows in A -/
abbrev jx_E : Type := Nat × Nat × (Nat × Nat × Nat × Nat) × Int32 × List (Int32 × Nat)
abbrev jx_H : Type := List (Nat × Nat) × (Nat → Value) × (Nat → Int32) × (Nat → Nat → Int32)
abbrev jx_B : Type := List (Nat × List jx_E)
abbrev jx_C : Type := List jx_E × List Value × List Value × jx_H
abbrev jx_K : Type := Nat × List Value × List jx_E × List Value × List Value
abbrev jx_R : Type := jx_C ⊕ (jx_K ⊕ Option Value)
/-- name, bytes, locals, what it returns, kind (0 virtual, 1 constructor, 2 static), arguments (this counted), class, blocks -/
abbrev jx_M : Type := MethodName × ByteArray × Nat × Option FieldType × Nat × Nat × Nat × jx_B
def jx_up {α : Type} (f : Nat → α) (k : Nat) (x : α) : Nat → α := fun j => if j = k then x else f j
def jx_up2 {α : Type} (f : Nat → Nat → α) (o k : Nat) (x : α) : Nat → Nat → α := fun p j => if p = o ∧ j = k then x else f p j
def jx_at : jx_B → Nat → List jx_E
  | [], _ => []
  | b :: r, t => if b.1 = t then b.2 else jx_at r t
abbrev jx_in (i : Int32) (n : Nat) : Prop := ¬ (i < 0 ∨ n ≤ i.toNatClampNeg)
abbrev jx_c8 (st : List Value) : Prop := (st.map fun v => v.category).sum ≤ 8
def jx_max (z y : Int32) : Int32 := if z < y then y else z
def jx_min (z y : Int32) : Int32 := if y < z then y else z
/-- how many fields the classes have -/
def jx_N (c : Nat) : Nat := (jx_cl.getD c ("", fun _ => ("", "", "", false), 0)).2.2
def jx_n (r : List jx_E) (ls st : List Value) (h : jx_H) : Option jx_R := some (.inl (r, ls, st, h))
def jx_lk : List (Int32 × Nat) → Int32 → Nat → Nat
  | [], _, d => d
  | q :: r, x, d => if x = q.1 then q.2 else jx_lk r x d
def jx_s (bl : jx_B) (e : jx_E) (r : List jx_E) (ls st : List Value) (h : jx_H) : Option jx_R :=
  match e with
  | (_, op, (a, b, c, d), x, L) =>
  match op with
  | 0 => match ls[a]? with
    | some (.int v) => jx_n r ls (.int v :: st) h
    | _ => none
  | 1 => match ls[a]? with
    | some (.int v) => jx_n r ls (.int v :: st) h
    | _ => none
  | 2 => match ls[a]? with
    | some (.ref v) => jx_n r ls (.ref v :: st) h
    | _ => none
  | 3 => match ls[a]? with
    | some (.ref v) => jx_n r ls (.ref v :: st) h
    | _ => none
  | 4 => match st with
    | .int v :: s => jx_n r (ls.set a (.int v)) s h
    | _ => none
  | 5 => match st with
    | .int v :: s => jx_n r (ls.set a (.int v)) s h
    | _ => none
  | 6 => match st with
    | .ref v :: s => jx_n r (ls.set a (.ref v)) s h
    | _ => none
  | 7 => match st with
    | .ref v :: s => jx_n r (ls.set a (.ref v)) s h
    | _ => none
  | 8 => jx_n r ls (.int x :: st) h
  | 9 => jx_n r ls (.int x :: st) h
  | 10 => jx_n r ls (.int x :: st) h
  | 11 => jx_n r ls (.int x :: st) h
  | 12 => jx_n r ls (.int x :: st) h
  | 13 => match ls[a]? with
    | some (.int v) => jx_n r (ls.set a (.int (v + x))) st h
    | _ => none
  | 14 => match st with
    | .int y :: .int z :: s => jx_n r ls (.int (z + y) :: s) h
    | _ => none
  | 15 => match st with
    | .int y :: .int z :: s => jx_n r ls (.int (z - y) :: s) h
    | _ => none
  | 16 => match st with
    | .int y :: .int z :: s => jx_n r ls (.int (z * y) :: s) h
    | _ => none
  | 17 => match st with
    | .int y :: .int z :: s => if y = 0 then none else jx_n r ls (.int (z / y) :: s) h
    | _ => none
  | 18 => match st with
    | .int y :: .int z :: s => if y = 0 then none else jx_n r ls (.int (z - z / y * y) :: s) h
    | _ => none
  | 19 => match st with
    | .int y :: s => jx_n r ls (.int (-y) :: s) h
    | _ => none
  | 20 => match st with
    | .int y :: .int z :: s => jx_n r ls (.int (z &&& y) :: s) h
    | _ => none
  | 21 => match st with
    | .int y :: .int z :: s => jx_n r ls (.int (z ||| y) :: s) h
    | _ => none
  | 22 => match st with
    | .int y :: .int z :: s => jx_n r ls (.int (z ^^^ y) :: s) h
    | _ => none
  | 23 => match st with
    | .int y :: .int z :: s => jx_n r ls (.int (z <<< (y &&& 31)) :: s) h
    | _ => none
  | 24 => match st with
    | .int y :: .int z :: s => jx_n r ls (.int (z >>> (y &&& 31)) :: s) h
    | _ => none
  | 25 => match st with
    | .int y :: .int z :: s => jx_n r ls (.int (z.toUInt32 >>> (y.toUInt32 &&& Int32.toUInt32 31)).toInt32 :: s) h
    | _ => none
  | 26 => match st with
    | .int y :: s => jx_n r ls (.int y.toInt8.toInt32 :: s) h
    | _ => none
  | 27 => match st with
    | .int y :: s => jx_n r ls (.int y.toInt16.toInt32 :: s) h
    | _ => none
  | 28 => match st with
    | .int y :: s => jx_n r ls (.int y :: .int y :: s) h
    | .ref y :: s => jx_n r ls (.ref y :: .ref y :: s) h
    | _ => none
  | 29 => match st with
    | .int y :: .ref z :: s => jx_n r ls (.int y :: .ref z :: .int y :: .ref z :: s) h
    | _ => none
  | 30 => match st with
    | .int y :: .ref z :: s => jx_n r ls (.int y :: .ref z :: .int y :: s) h
    | _ => none
  | 31 => match st with
    | .int _ :: s => jx_n r ls s h
    | _ => none
  | 32 => match st with
    | .ref o :: s => if h.1[o]? = some (10 + a, jx_N a) then jx_n r ls (.int (h.2.2.1 (64 * o + b)) :: s) h else none
    | _ => none
  | 33 => match st with
    | .ref o :: s => if h.1[o]? = some (10 + a, jx_N a) then jx_n r ls (h.2.1 (64 * o + b) :: s) h else none
    | _ => none
  | 34 => match st with
    | .int v :: .ref o :: s => if h.1[o]? = some (10 + a, jx_N a) then jx_n r ls s (h.1, h.2.1, jx_up h.2.2.1 (64 * o + b) v, h.2.2.2) else none
    | _ => none
  | 35 => match st with
    | .int v :: .ref o :: s => if h.1[o]? = some (10 + a, jx_N a) ∧ (v = 0 ∨ v = 1) then jx_n r ls s (h.1, h.2.1, jx_up h.2.2.1 (64 * o + b) v, h.2.2.2) else none
    | _ => none
  | 36 => match st with
    | .ref v :: .ref o :: s => if h.1[o]? = some (10 + a, jx_N a) then jx_n r ls s (h.1, jx_up h.2.1 (64 * o + b) (.ref v), h.2.2.1, h.2.2.2) else none
    | _ => none
  | 37 => match st with
    | .ref v :: .ref o :: s => if h.1[o]? = some (10 + a, jx_N a) then jx_n r ls s (h.1, jx_up h.2.1 (64 * o + b) (.ref v), h.2.2.1, h.2.2.2) else none
    | _ => none
  | 38 => match st with
    | .int i :: .ref o :: s => match h.1[o]? with
      | some (0, n) => if jx_in i n then jx_n r ls (.int (h.2.2.2 o i.toNatClampNeg) :: s) h else none
      | _ => none
    | _ => none
  | 39 => match st with
    | .int i :: .ref o :: s => match h.1[o]? with
      | some (1, n) => if jx_in i n then jx_n r ls (.int (h.2.2.2 o i.toNatClampNeg) :: s) h else none
      | some (2, n) => if jx_in i n then jx_n r ls (.int (h.2.2.2 o i.toNatClampNeg) :: s) h else none
      | _ => none
    | _ => none
  | 41 => match st with
    | .int v :: .int i :: .ref o :: s => match h.1[o]? with
      | some (0, n) => if jx_in i n then jx_n r ls s (h.1, h.2.1, h.2.2.1, jx_up2 h.2.2.2 o i.toNatClampNeg v) else none
      | _ => none
    | _ => none
  | 42 => match st with
    | .int v :: .int i :: .ref o :: s => match h.1[o]? with
      | some (1, n) => if jx_in i n then jx_n r ls s (h.1, h.2.1, h.2.2.1, jx_up2 h.2.2.2 o i.toNatClampNeg v.toInt8.toInt32) else none
      | some (2, n) => if jx_in i n then jx_n r ls s (h.1, h.2.1, h.2.2.1, jx_up2 h.2.2.2 o i.toNatClampNeg (v &&& 1)) else none
      | _ => none
    | _ => none
  | 44 => match st with
    | .int i :: .ref o :: s => match h.1[o]? with
      | some (4, n) => if jx_in i n ∧ n ≤ 64 then (match h.2.1 (64 * o + i.toNatClampNeg) with | .ref q => jx_n r ls (.ref q :: s) h | _ => none) else none
      | _ => none
    | _ => none
  | 45 => match st with
    | .ref v :: .int i :: .ref o :: s => match h.1[o]? with
      | some (4, n) => if jx_in i n ∧ n ≤ 64 ∧ h.1[v]? = some (10 + 8, jx_N 8) then jx_n r ls s (h.1, jx_up h.2.1 (64 * o + i.toNatClampNeg) (.ref v), h.2.2.1, h.2.2.2) else none
      | _ => none
    | _ => none
  | 46 => match st with
    | .int n :: s => if ¬ n < 0 ∧ n.toNatClampNeg ≤ 1000 then jx_n r ls (.ref h.1.length :: s) (h.1 ++ [(a, n.toNatClampNeg)], h.2.1, h.2.2.1, fun o => if o = h.1.length then fun _ => 0 else h.2.2.2 o) else none
    | _ => none
  | 47 => match st with
    | .int n :: s => if ¬ n < 0 ∧ n.toNatClampNeg ≤ 64 then jx_n r ls (.ref h.1.length :: s) (h.1 ++ [(4, n.toNatClampNeg)], fun q => if 64 * h.1.length ≤ q then .null else h.2.1 q, h.2.2.1, h.2.2.2) else none
    | _ => none
  | 48 => jx_n r ls (.ref h.1.length :: st) (h.1 ++ [(10 + a, jx_N a)], fun q => if 64 * h.1.length ≤ q then .null else h.2.1 q, fun q => if 64 * h.1.length ≤ q then 0 else h.2.2.1 q, h.2.2.2)
  | 49 => match (st.take b).reverse with
    | .ref o :: as => if h.1[o]? = some (10 + c, jx_N c) ∧ as.length + 1 = b ∧ jx_c8 (st.drop b) then some (.inr (.inl (a, .ref o :: as, r, ls, st.drop b))) else none
    | _ => none
  | 50 => if (st.take b).length = b ∧ jx_c8 (st.drop b) then some (.inr (.inl (a, (st.take b).reverse, r, ls, st.drop b))) else none
  | 51 => match (st.take b).reverse with
    | .ref o :: as => if as.length + 1 = b ∧ jx_c8 (st.drop b) then some (.inr (.inl (a, .ref o :: as, r, ls, st.drop b))) else none
    | _ => none
  | 52 => match st with
    | .ref _ :: s => if jx_c8 s then jx_n r ls s h else none
    | _ => none
  | 53 => match st with
    | .int n :: .int dp :: .ref q :: .int sp :: .ref o :: s => match h.1[o]?, h.1[q]? with
      | some (0, n0), some (0, n1) => if ¬ sp < 0 ∧ ¬ dp < 0 ∧ ¬ n < 0 ∧ sp.toNatClampNeg + n.toNatClampNeg ≤ n0 ∧ dp.toNatClampNeg + n.toNatClampNeg ≤ n1 ∧ jx_c8 s
        then jx_n r ls s (h.1, h.2.1, h.2.2.1, fun z => if z = q then va_cpy (h.2.2.2 o) (h.2.2.2 q) sp.toNatClampNeg dp.toNatClampNeg n.toNatClampNeg else h.2.2.2 z) else none
      | _, _ => none
    | _ => none
  | 54 => jx_n (jx_at bl a) ls st h
  | 55 => match st with
    | .int z :: s => jx_n (if z = 0 then jx_at bl a else r) ls s h
    | _ => none
  | 56 => match st with
    | .int z :: s => jx_n (if ¬ z = 0 then jx_at bl a else r) ls s h
    | _ => none
  | 57 => match st with
    | .int z :: s => jx_n (if z < 0 then jx_at bl a else r) ls s h
    | _ => none
  | 58 => match st with
    | .int z :: s => jx_n (if 0 ≤ z then jx_at bl a else r) ls s h
    | _ => none
  | 59 => match st with
    | .int z :: s => jx_n (if 0 < z then jx_at bl a else r) ls s h
    | _ => none
  | 60 => match st with
    | .int z :: s => jx_n (if z ≤ 0 then jx_at bl a else r) ls s h
    | _ => none
  | 61 => match st with
    | .int y :: .int z :: s => jx_n (if z = y then jx_at bl a else r) ls s h
    | _ => none
  | 62 => match st with
    | .int y :: .int z :: s => jx_n (if ¬ z = y then jx_at bl a else r) ls s h
    | _ => none
  | 63 => match st with
    | .int y :: .int z :: s => jx_n (if z < y then jx_at bl a else r) ls s h
    | _ => none
  | 64 => match st with
    | .int y :: .int z :: s => jx_n (if y ≤ z then jx_at bl a else r) ls s h
    | _ => none
  | 65 => match st with
    | .int y :: .int z :: s => jx_n (if y < z then jx_at bl a else r) ls s h
    | _ => none
  | 66 => match st with
    | .int y :: .int z :: s => jx_n (if z ≤ y then jx_at bl a else r) ls s h
    | _ => none
  | 67 => match st with
    | .int z :: s => jx_n (jx_at bl (jx_lk L z a)) ls s h
    | _ => none
  | 68 => match st with
    | .int z :: s => jx_n (jx_at bl (jx_lk L z a)) ls s h
    | _ => none
  | 69 => match st with
    | [.int z] => some (.inr (.inr (some (.int z))))
    | _ => none
  | 70 => match st with
    | [.int z] => if z = 0 ∨ z = 1 then some (.inr (.inr (some (.int z)))) else none
    | _ => none
  | 71 => match st with
    | [] => some (.inr (.inr none))
    | _ => none
  | 72 => match st with
    | .int y :: .int z :: s => if jx_c8 s then jx_n r ls (.int (jx_max z y) :: s) h else none
    | _ => none
  | 73 => match st with
    | .int y :: .int z :: s => if jx_c8 s then jx_n r ls (.int (jx_min z y) :: s) h else none
    | _ => none
  | _ => none
/-- the instruction that an entry stands for, and its length -/
def jx_ins (e : jx_E) : Instr × Nat :=
  match e with
  | (pc, op, (a, b, c, d), x, L) =>
  match op with
  | 0 => (.iload_n (Fin.ofNat 4 a), 1)
  | 1 => (.iload a, 2)
  | 2 => (.aload_n (Fin.ofNat 4 a), 1)
  | 3 => (.aload a, 2)
  | 4 => (.istore_n (Fin.ofNat 4 a), 1)
  | 5 => (.istore a, 2)
  | 6 => (.astore_n (Fin.ofNat 4 a), 1)
  | 7 => (.astore a, 2)
  | 8 => (.iconst x.toInt, 1)
  | 9 => (.bipush x.toInt, 2)
  | 10 => (.sipush x.toInt, 3)
  | 11 => (.ldc d, 2)
  | 12 => (.ldc_w d, 3)
  | 13 => (.iinc a x.toInt, 3)
  | 14 => (.iadd, 1)
  | 15 => (.isub, 1)
  | 16 => (.imul, 1)
  | 17 => (.idiv, 1)
  | 18 => (.irem, 1)
  | 19 => (.ineg, 1)
  | 20 => (.iand, 1)
  | 21 => (.ior, 1)
  | 22 => (.ixor, 1)
  | 23 => (.ishl, 1)
  | 24 => (.ishr, 1)
  | 25 => (.iushr, 1)
  | 26 => (.i2b, 1)
  | 27 => (.i2s, 1)
  | 28 => (.dup, 1)
  | 29 => (.dup2, 1)
  | 30 => (.dup_x1, 1)
  | 31 => (.pop, 1)
  | 32 => (.getfield d, 3)
  | 33 => (.getfield d, 3)
  | 34 => (.putfield d, 3)
  | 35 => (.putfield d, 3)
  | 36 => (.putfield d, 3)
  | 37 => (.putfield d, 3)
  | 38 => (.iaload, 1)
  | 39 => (.baload, 1)
  | 41 => (.iastore, 1)
  | 42 => (.bastore, 1)
  | 44 => (.aaload, 1)
  | 45 => (.aastore, 1)
  | 46 => (.newarray (if a = 0 then .int else if a = 1 then .byte else .boolean), 2)
  | 47 => (.anewarray d, 3)
  | 48 => (.new d, 3)
  | 49 => (.invokevirtual d, 3)
  | 50 => (.invokestatic d, 3)
  | 51 => (.invokespecial d, 3)
  | 52 => (.invokespecial d, 3)
  | 53 => (.invokestatic d, 3)
  | 54 => (.goto ((a : Int) - pc), 3)
  | 55 => (.ifCond .eq ((a : Int) - pc), 3)
  | 56 => (.ifCond .ne ((a : Int) - pc), 3)
  | 57 => (.ifCond .lt ((a : Int) - pc), 3)
  | 58 => (.ifCond .ge ((a : Int) - pc), 3)
  | 59 => (.ifCond .gt ((a : Int) - pc), 3)
  | 60 => (.ifCond .le ((a : Int) - pc), 3)
  | 61 => (.if_icmp .eq ((a : Int) - pc), 3)
  | 62 => (.if_icmp .ne ((a : Int) - pc), 3)
  | 63 => (.if_icmp .lt ((a : Int) - pc), 3)
  | 64 => (.if_icmp .ge ((a : Int) - pc), 3)
  | 65 => (.if_icmp .gt ((a : Int) - pc), 3)
  | 66 => (.if_icmp .le ((a : Int) - pc), 3)
  | 67 => (.tableswitch ((a : Int) - pc) x.toInt (x.toInt + L.length - 1) (L.map fun q => (q.2 : Int) - pc).toArray, d)
  | 68 => (.lookupswitch ((a : Int) - pc) (L.map fun q => (q.1.toInt, (q.2 : Int) - pc)).toArray, d)
  | 69 => (.ireturn, 1)
  | 70 => (.ireturn, 1)
  | 71 => (.return_, 1)
  | 72 => (.invokestatic d, 3)
  | 73 => (.invokestatic d, 3)
  | _ => (.nop, 1)
/-- the small machine, with d calls deep and n steps long at most -/
def jx_x (MS : List jx_M) : Nat → Nat → jx_B → List jx_E → List Value → List Value → jx_H → Option (Option Value × jx_H)
  | _, 0, _, _, _, _, _ => none
  | d, n + 1, bl, rem, ls, st, h =>
    match rem with
    | [] => none
    | e :: r =>
      match jx_s bl e r ls st h with
      | none => none
      | some (.inl q) => jx_x MS d n bl q.1 q.2.1 q.2.2.1 q.2.2.2
      | some (.inr (.inr v)) => some (v, h)
      | some (.inr (.inl k)) =>
        match d, MS[k.1]? with
        | d' + 1, some i =>
          if k.2.1.length = i.2.2.2.2.2.1 ∧ k.2.1.all (fun v => decide (v.category = 1)) = true then
            match jx_x MS d' n i.2.2.2.2.2.2.2 (jx_at i.2.2.2.2.2.2.2 0) (k.2.1 ++ List.replicate (i.2.2.1 - k.2.1.length) (.retAddr 0)) [] h with
            | some y => jx_x MS d n bl k.2.2.1 k.2.2.2.1 (y.1.toList ++ k.2.2.2.2) y.2
            | none => none
          else none
        | _, _ => none
end
section
/-! ===== the small machine's heap, as the machine's ===== -/
def jx_V (base : Nat) : Value → Value
  | .ref a => .ref (base + a)
  | v => v
def jx_oq (base : Nat) : Value → Option Nat
  | .ref a => some (base + a)
  | _ => none
def jx_isr (c k : Nat) : Bool := match jx_ty c k with
  | .int => false
  | .boolean => false
  | _ => true
def jx_f (base : Nat) (h : jx_H) (c o k : Nat) : Value := if k < 64 then (if jx_isr c k = true then jx_V base (h.2.1 (64 * o + k)) else .int (h.2.2.1 (64 * o + k))) else .null
def jx_e (base : Nat) (cA : Nat → ClassId) (O : Nat → va_E) (h : jx_H) (i : Nat) : va_E :=
  match h.1[i]? with
  | some (k, n) => if k < 3 then .inl (cA k, n, .inl (h.2.2.2 i)) else if k = 4 then .inl (cA 4, n, .inr (.inr (.inr (.inr (fun j => if j < 64 then jx_oq base (h.2.1 (64 * i + j)) else none))))) else if k < 10 then O i else .inr (k - 10, (List.range n).map (jx_f base h (k - 10) i))
  | none => O i
def jx_ws (base : Nat) (cA : Nat → ClassId) (O : Nat → va_E) (h : jx_H) : va_W := (List.range h.1.length).map fun i => (base + i, jx_e base cA O h i)
/-- how many cells lie above the world's, of which nothing is said -/
def jx_G (O : Nat → va_E) : Nat := match O 1000000 with
  | .inr q => q.1
  | _ => 0
def jx_SC : String := "OfDifferentMinds$Standing"
def jx_ta (cA : Nat → ClassId) : List (ClassId × FieldType) := [(cA 0, .int), (cA 1, .byte), (cA 2, .boolean), (cA 4, .object jx_SC)]
def jx_KK (D : va_G) (cA : Nat → ClassId) (U : State) : Prop := va_K D jx_cl (jx_ta cA) U ∧ va_AO jx_SC U
theorem jx_KK.moved {D : va_G} {cA : Nat → ClassId} {u U : State} (hvm : u.vm.Alike U.vm) (h : jx_KK D cA u) : jx_KK D cA U := ⟨h.1.moved hvm, h.2.moved hvm⟩
theorem jx_ws_get {base : Nat} {cA : Nat → ClassId} {O : Nat → va_E} {h : jx_H} {i : Nat} (hi : i < h.1.length) : (jx_ws base cA O h)[i]? = some (base + i, jx_e base cA O h i) := by
  unfold jx_ws
  rw [List.getElem?_map, List.getElem?_range hi]
  rfl
theorem jx_ws_inv {base : Nat} {cA : Nat → ClassId} {O : Nat → va_E} {h : jx_H} {i : Nat} {q : Nat × va_E} (hq : (jx_ws base cA O h)[i]? = some q) : i < h.1.length ∧ q = (base + i, jx_e base cA O h i) := by
  have hl : i < h.1.length := by
    have := (List.getElem?_eq_some_iff.mp hq).1
    simpa [jx_ws] using this
  rw [jx_ws_get hl] at hq
  exact ⟨hl, (Option.some.inj hq).symm⟩
theorem jx_ws_D {base : Nat} {cA : Nat → ClassId} {O : Nat → va_E} {h : jx_H} : va_D (fun q => base ≤ q) (jx_ws base cA O h) := by
  refine ⟨fun i j p q hi hj he => ?_, fun k q hk => ?_⟩
  · obtain ⟨-, rfl⟩ := jx_ws_inv hi
    obtain ⟨-, rfl⟩ := jx_ws_inv hj
    simp only at he
    omega
  · obtain ⟨-, rfl⟩ := jx_ws_inv hk
    exact Nat.le_add_right _ _
theorem jx_lt {h : jx_H} {o : Nat} {q : Nat × Nat} (ho : h.1[o]? = some q) : o < h.1.length := (List.getElem?_eq_some_iff.mp ho).1
theorem jx_e_arr {base : Nat} {cA : Nat → ClassId} {O : Nat → va_E} {h : jx_H} {o k n : Nat} (ho : h.1[o]? = some (k, n)) (hk : k < 3) : jx_e base cA O h o = .inl (cA k, n, .inl (h.2.2.2 o)) := by
  unfold jx_e
  rw [ho]
  simp [hk]
theorem jx_e_q {base : Nat} {cA : Nat → ClassId} {O : Nat → va_E} {h : jx_H} {o n : Nat} (ho : h.1[o]? = some (4, n)) : jx_e base cA O h o = .inl (cA 4, n, .inr (.inr (.inr (.inr (fun j => if j < 64 then jx_oq base (h.2.1 (64 * o + j)) else none))))) := by
  unfold jx_e
  rw [ho]
  simp
theorem jx_e_obj {base : Nat} {cA : Nat → ClassId} {O : Nat → va_E} {h : jx_H} {o c n : Nat} (ho : h.1[o]? = some (10 + c, n)) : jx_e base cA O h o = .inr (c, (List.range n).map (jx_f base h c o)) := by
  unfold jx_e
  rw [ho]
  have h1 : ¬ 10 + c < 3 := by omega
  have h2 : ¬ 10 + c = 4 := by omega
  have h3 : ¬ 10 + c < 10 := by omega
  simp [h1, h2, h3]
/-- a world whose row of kinds is the same, and whose cells but one are -/
theorem jx_P_set {D : va_G} {base : Nat} {cA : Nat → ClassId} {O : Nat → va_E} {h h1 : jx_H} {o : Nat} {H H1 : Heap} (hP : va_P D jx_cl (jx_ws base cA O h) H) (hl : h1.1 = h.1) (ho : o < h.1.length) (hne : ∀ i, i ≠ o → jx_e base cA O h1 i = jx_e base cA O h i) (hat : va_at D jx_cl (base + o, jx_e base cA O h1 o) H1) (hoq : ∀ q : Nat, q ≠ base + o → H1[q]? = H[q]?) : va_P D jx_cl (jx_ws base cA O h1) H1 := by
  intro k q hk
  obtain ⟨hkl, rfl⟩ := jx_ws_inv hk
  rw [hl] at hkl
  by_cases hko : k = o
  · subst hko; exact hat
  · rw [hne k hko]
    exact (hP k _ (jx_ws_get hkl)).kept (hoq _ (by simp only; omega))
/-- a world with one more cell -/
theorem jx_P_push {D : va_G} {base : Nat} {cA : Nat → ClassId} {O : Nat → va_E} {h h1 : jx_H} {q0 : Nat × Nat} {H H1 : Heap} (hP : va_P D jx_cl (jx_ws base cA O h) H) (hz : H.size = base + h.1.length) (hl : h1.1 = h.1 ++ [q0]) (hne : ∀ i, i < h.1.length → jx_e base cA O h1 i = jx_e base cA O h i) (hat : va_at D jx_cl (base + h.1.length, jx_e base cA O h1 h.1.length) H1) (hoq : ∀ q : Nat, q < H.size → H1[q]? = H[q]?) : va_P D jx_cl (jx_ws base cA O h1) H1 := by
  intro k q hk
  obtain ⟨hkl, rfl⟩ := jx_ws_inv hk
  rw [hl, List.length_append, List.length_singleton] at hkl
  by_cases hko : k = h.1.length
  · subst hko; exact hat
  · have hk2 : k < h.1.length := by omega
    rw [hne k hk2]
    exact (hP k _ (jx_ws_get hk2)).kept (hoq _ (by simp only; omega))
theorem jx_e_congr {base : Nat} {cA : Nat → ClassId} {O : Nat → va_E} {h h1 : jx_H} {i : Nat} (hl : h1.1[i]? = h.1[i]?) (hA : h1.2.2.2 i = h.2.2.2 i) (hP : ∀ j, j < 64 → h1.2.1 (64 * i + j) = h.2.1 (64 * i + j)) (hG : ∀ j, j < 64 → h1.2.2.1 (64 * i + j) = h.2.2.1 (64 * i + j)) : jx_e base cA O h1 i = jx_e base cA O h i := by
  have hf : ∀ c, jx_f base h1 c i = jx_f base h c i := by
    intro c
    funext k
    unfold jx_f
    by_cases hk : k < 64
    · simp only [hk, if_true, hP k hk, hG k hk]
    · simp only [hk, if_false]
  have hq : (fun j => if j < 64 then jx_oq base (h1.2.1 (64 * i + j)) else none) = (fun j => if j < 64 then jx_oq base (h.2.1 (64 * i + j)) else none) := by
    funext j
    by_cases hk : j < 64
    · simp only [hk, if_true, hP j hk]
    · simp only [hk, if_false]
  unfold jx_e
  rw [hl, hA]
  simp only [hf, hq]
/-- the locals -/
def jx_L (base : Nat) (ls : List Value) (lsA : Array Slot) (nL : Nat) : Prop := ls.length = nL ∧ ∃ lv : List (Nat × Value), lv_has lsA nL lv ∧ ∀ (i : Nat) (v : Value), ls[i]? = some v → v ≠ .retAddr 0 → v.category = 1 ∧ (i, jx_V base v) ∈ lv
theorem jx_V_cat (base : Nat) (v : Value) : (jx_V base v).category = v.category := by cases v <;> rfl
theorem jx_L_get {base : Nat} {ls : List Value} {lsA : Array Slot} {nL i : Nat} {v : Value} (h : jx_L base ls lsA nL) (hi : ls[i]? = some v) (hv : v ≠ .retAddr 0) : lsA[i]? = some (.val (jx_V base v)) := by
  obtain ⟨-, lv, h1, h2⟩ := h
  exact h1.2.2 _ (h2 i v hi hv).2
theorem jx_L_set {base : Nat} {ls : List Value} {lsA' : Array Slot} {nL i : Nat} {v : Value} {lv : List (Nat × Value)} (hlen : ls.length = nL) (h2 : ∀ (i : Nat) (v : Value), ls[i]? = some v → v ≠ .retAddr 0 → v.category = 1 ∧ (i, jx_V base v) ∈ lv) (hi : i < nL) (hc : v.category = 1)
    (h' : lv_has lsA' nL ((i, jx_V base v) :: lv.filter (fun q => !(q.1 == i) && !(q.1 + 1 == i && q.2.category == 2)))) : jx_L base (ls.set i v) lsA' nL := by
  refine ⟨by rw [List.length_set]; exact hlen, _, h', fun j w hj hw => ?_⟩
  by_cases hji : j = i
  · subst hji
    rw [List.getElem?_set_self (by omega)] at hj
    cases hj
    exact ⟨hc, List.mem_cons_self⟩
  · rw [List.getElem?_set_ne (Ne.symm hji)] at hj
    obtain ⟨a, b⟩ := h2 j w hj hw
    refine ⟨a, List.mem_cons_of_mem _ (List.mem_filter.mpr ⟨b, ?_⟩)⟩
    have : (jx_V base w).category = 1 := by rw [jx_V_cat]; exact a
    simp [hji, this]
theorem jx_L_idx {base : Nat} {ls : List Value} {lsA : Array Slot} {nL i : Nat} {v : Value} (h : jx_L base ls lsA nL) (hi : ls[i]? = some v) : i < nL := by
  have := (List.getElem?_eq_some_iff.mp hi).1
  rw [h.1] at this
  exact this
/-- what stands at a method's walk and doesn't change -/
def jx_Cx (p : Program) (s : State) (m : MethodId) (args : Array Value) (meth : Method) (c : Code) (base : Nat) (D : va_G) (cA : Nat → ClassId) (cc : ByteArray) (nL own : Nat) : Prop :=
  p.tables.exec = Jvm.exec ∧ c.code = cc ∧ c.maxLocals = nL ∧ s.vm.findClass (jx_nm own) = some m.cls ∧ (∀ w ∈ lw_g, w.before args s = true) ∧ jx_KK D cA s ∧ base ≤ s.heap.size
/-- the walk goes on from here -/
def jx_Go (p : Program) (l : Launch) (e : Env) (R : Room) (s : State) (m : MethodId) (args : Array Value) (below : List Frame) (meth : Method) (c : Code) (base : Nat) (D : va_G) (cA : Nat → ClassId) (O : Nat → va_E) (nL : Nat) (Q : State → Prop) (cells slots pc : Nat) (ls st : List Value) (h : jx_H) : Prop :=
  ∀ (H : Heap) (locs : List Loc) (lsA : Array Slot), va_P D jx_cl (jx_ws base cA O h) H → H.size = base + h.1.length + jx_G O → va_S (fun q => base ≤ q) s.heap H locs → jx_L base ls lsA nL → W p l e R s m args below meth c H locs cells slots Q (F0 m pc lsA (st.map (jx_V base)))
end
section
/-! ===== one instruction of the small machine is one of the machine ===== -/
section JXO
variable {p : Program} {l : Launch} {e : Env} {R : Room} {s : State} {m : MethodId} {args : Array Value} {below : List Frame} {meth : Method} {c : Code} {base : Nat} {D : va_G} {cA : Nat → ClassId} {O : Nat → va_E} {cc : ByteArray} {nL own : Nat} {Q : State → Prop} {cells slots pc : Nat} {ls st : List Value} {h : jx_H}
theorem jx_iload_n (C : jx_Cx p s m args meth c base D cA cc nL own) {i : Nat} {v : Int32} (hi : i < 4) (hd : decode cc pc = .ok (.iload_n (Fin.ofNat 4 i), 1)) (hl : ls[i]? = some (.int v)) (kk : jx_Go p l e R s m args below meth c base D cA O nL Q cells slots (pc + 1) ls (.int v :: st) h) : jx_Go p l e R s m args below meth c base D cA O nL Q cells slots pc ls st h := fun H locs lsA hP hz hS hL =>
  lv_iload_n C.1 C.2.1 hd (by simp [Fin.ofNat, Nat.mod_eq_of_lt hi]) (jx_L_get hL hl (fun q => by cases q)) (kk H locs lsA hP hz hS hL)
theorem jx_iload (C : jx_Cx p s m args meth c base D cA cc nL own) {i : Nat} {v : Int32} (hd : decode cc pc = .ok (.iload i, 2)) (hl : ls[i]? = some (.int v)) (kk : jx_Go p l e R s m args below meth c base D cA O nL Q cells slots (pc + 2) ls (.int v :: st) h) : jx_Go p l e R s m args below meth c base D cA O nL Q cells slots pc ls st h := fun H locs lsA hP hz hS hL =>
  lv_iload C.1 C.2.1 hd (jx_L_get hL hl (fun q => by cases q)) (kk H locs lsA hP hz hS hL)
theorem jx_aload_n (C : jx_Cx p s m args meth c base D cA cc nL own) {i : Nat} {v : Nat} (hi : i < 4) (hd : decode cc pc = .ok (.aload_n (Fin.ofNat 4 i), 1)) (hl : ls[i]? = some (.ref v)) (kk : jx_Go p l e R s m args below meth c base D cA O nL Q cells slots (pc + 1) ls (.ref v :: st) h) : jx_Go p l e R s m args below meth c base D cA O nL Q cells slots pc ls st h := fun H locs lsA hP hz hS hL =>
  lv_aload_n C.1 C.2.1 hd (by simp [Fin.ofNat, Nat.mod_eq_of_lt hi]) (jx_L_get hL hl (fun q => by cases q)) (kk H locs lsA hP hz hS hL)
theorem jx_aload (C : jx_Cx p s m args meth c base D cA cc nL own) {i : Nat} {v : Nat} (hd : decode cc pc = .ok (.aload i, 2)) (hl : ls[i]? = some (.ref v)) (kk : jx_Go p l e R s m args below meth c base D cA O nL Q cells slots (pc + 2) ls (.ref v :: st) h) : jx_Go p l e R s m args below meth c base D cA O nL Q cells slots pc ls st h := fun H locs lsA hP hz hS hL =>
  lv_aload C.1 C.2.1 hd (jx_L_get hL hl (fun q => by cases q)) (kk H locs lsA hP hz hS hL)
theorem jx_istore_n (C : jx_Cx p s m args meth c base D cA cc nL own) {i : Nat} {v : Int32} (hi : i < 4) (hd : decode cc pc = .ok (.istore_n (Fin.ofNat 4 i), 1)) (hn : i < nL) (kk : jx_Go p l e R s m args below meth c base D cA O nL Q cells slots (pc + 1) (ls.set i (.int v)) st h) : jx_Go p l e R s m args below meth c base D cA O nL Q cells slots pc ls (.int v :: st) h := fun H locs lsA hP hz hS hL => by
  obtain ⟨hl1, lv, hl2, hl3⟩ := hL
  exact lv_istore_n C.1 C.2.1 hd (by simp [Fin.ofNat, Nat.mod_eq_of_lt hi]) hl2 hn rfl (fun ls' hl' => kk H locs ls' hP hz hS (jx_L_set (v := .int v) hl1 hl3 hn rfl hl'))
theorem jx_istore (C : jx_Cx p s m args meth c base D cA cc nL own) {i : Nat} {v : Int32} (hd : decode cc pc = .ok (.istore i, 2)) (hn : i < nL) (kk : jx_Go p l e R s m args below meth c base D cA O nL Q cells slots (pc + 2) (ls.set i (.int v)) st h) : jx_Go p l e R s m args below meth c base D cA O nL Q cells slots pc ls (.int v :: st) h := fun H locs lsA hP hz hS hL => by
  obtain ⟨hl1, lv, hl2, hl3⟩ := hL
  exact lv_istore C.1 C.2.1 hd hl2 hn rfl (fun ls' hl' => kk H locs ls' hP hz hS (jx_L_set (v := .int v) hl1 hl3 hn rfl hl'))
theorem jx_astore_n (C : jx_Cx p s m args meth c base D cA cc nL own) {i : Nat} {v : Nat} (hi : i < 4) (hd : decode cc pc = .ok (.astore_n (Fin.ofNat 4 i), 1)) (hn : i < nL) (kk : jx_Go p l e R s m args below meth c base D cA O nL Q cells slots (pc + 1) (ls.set i (.ref v)) st h) : jx_Go p l e R s m args below meth c base D cA O nL Q cells slots pc ls (.ref v :: st) h := fun H locs lsA hP hz hS hL => by
  obtain ⟨hl1, lv, hl2, hl3⟩ := hL
  exact lv_astore_n C.1 C.2.1 hd (by simp [Fin.ofNat, Nat.mod_eq_of_lt hi]) hl2 hn rfl (fun ls' hl' => kk H locs ls' hP hz hS (jx_L_set (v := .ref v) hl1 hl3 hn rfl hl'))
theorem jx_astore (C : jx_Cx p s m args meth c base D cA cc nL own) {i : Nat} {v : Nat} (hd : decode cc pc = .ok (.astore i, 2)) (hn : i < nL) (kk : jx_Go p l e R s m args below meth c base D cA O nL Q cells slots (pc + 2) (ls.set i (.ref v)) st h) : jx_Go p l e R s m args below meth c base D cA O nL Q cells slots pc ls (.ref v :: st) h := fun H locs lsA hP hz hS hL => by
  obtain ⟨hl1, lv, hl2, hl3⟩ := hL
  exact lv_astore C.1 C.2.1 hd hl2 hn rfl (fun ls' hl' => kk H locs ls' hP hz hS (jx_L_set (v := .ref v) hl1 hl3 hn rfl hl'))
theorem jx_iinc (C : jx_Cx p s m args meth c base D cA cc nL own) {i : Nat} {v x : Int32} (hd : decode cc pc = .ok (.iinc i x.toInt, 3)) (hl : ls[i]? = some (.int v)) (kk : jx_Go p l e R s m args below meth c base D cA O nL Q cells slots (pc + 3) (ls.set i (.int (v + x))) st h) : jx_Go p l e R s m args below meth c base D cA O nL Q cells slots pc ls st h := fun H locs lsA hP hz hS hL => by
  have hn := jx_L_idx hL hl
  obtain ⟨hl1, lv, hl2, hl3⟩ := hL
  obtain ⟨k, hk⟩ := List.getElem?_of_mem (hl3 i _ hl (fun q => by cases q)).2
  exact lv_iinc C.1 C.2.1 hd hl2 hk (by rw [Int32.ofInt_toInt]) hn rfl (fun ls' hl' => kk H locs ls' hP hz hS (jx_L_set (v := .int (v + x)) hl1 hl3 hn rfl hl'))
theorem jx_iconst (C : jx_Cx p s m args meth c base D cA cc nL own) {x : Int32} (hd : decode cc pc = .ok (.iconst x.toInt, 1)) (kk : jx_Go p l e R s m args below meth c base D cA O nL Q cells slots (pc + 1) ls (.int x :: st) h) : jx_Go p l e R s m args below meth c base D cA O nL Q cells slots pc ls st h := fun H locs lsA hP hz hS hL =>
  lv_iconst C.1 C.2.1 hd (by rw [Int32.ofInt_toInt]) (kk H locs lsA hP hz hS hL)
theorem jx_bipush (C : jx_Cx p s m args meth c base D cA cc nL own) {x : Int32} (hx : (Int8.ofInt x.toInt).toInt32 = x) (hd : decode cc pc = .ok (.bipush x.toInt, 2)) (kk : jx_Go p l e R s m args below meth c base D cA O nL Q cells slots (pc + 2) ls (.int x :: st) h) : jx_Go p l e R s m args below meth c base D cA O nL Q cells slots pc ls st h := fun H locs lsA hP hz hS hL =>
  lv_bipush C.1 C.2.1 hd hx (kk H locs lsA hP hz hS hL)
theorem jx_sipush (C : jx_Cx p s m args meth c base D cA cc nL own) {x : Int32} (hx : (Int16.ofInt x.toInt).toInt32 = x) (hd : decode cc pc = .ok (.sipush x.toInt, 3)) (kk : jx_Go p l e R s m args below meth c base D cA O nL Q cells slots (pc + 3) ls (.int x :: st) h) : jx_Go p l e R s m args below meth c base D cA O nL Q cells slots pc ls st h := fun H locs lsA hP hz hS hL =>
  lv_sipush C.1 C.2.1 hd hx (kk H locs lsA hP hz hS hL)
theorem jx_ldc (C : jx_Cx p s m args meth c base D cA cc nL own) {x : Int32} {d : Nat} (hw : Cond.constant (jx_nm own) d x ∈ lw_g) (hd : decode cc pc = .ok (.ldc d, 2)) (kk : jx_Go p l e R s m args below meth c base D cA O nL Q cells slots (pc + 2) ls (.int x :: st) h) : jx_Go p l e R s m args below meth c base D cA O nL Q cells slots pc ls st h := fun H locs lsA hP hz hS hL =>
  lv_ldc C.1 C.2.1 C.2.2.2.1 (C.2.2.2.2.1 _ hw) hd (kk H locs lsA hP hz hS hL)
theorem jx_ldc_w (C : jx_Cx p s m args meth c base D cA cc nL own) {x : Int32} {d : Nat} (hw : Cond.constant (jx_nm own) d x ∈ lw_g) (hd : decode cc pc = .ok (.ldc_w d, 3)) (kk : jx_Go p l e R s m args below meth c base D cA O nL Q cells slots (pc + 3) ls (.int x :: st) h) : jx_Go p l e R s m args below meth c base D cA O nL Q cells slots pc ls st h := fun H locs lsA hP hz hS hL =>
  lv_ldcw C.1 C.2.1 C.2.2.2.1 (C.2.2.2.2.1 _ hw) hd (kk H locs lsA hP hz hS hL)
theorem jx_iadd (C : jx_Cx p s m args meth c base D cA cc nL own) {y z : Int32} (hd : decode cc pc = .ok (.iadd, 1)) (kk : jx_Go p l e R s m args below meth c base D cA O nL Q cells slots (pc + 1) ls (.int (z + y) :: st) h) : jx_Go p l e R s m args below meth c base D cA O nL Q cells slots pc ls (.int y :: .int z :: st) h := fun H locs lsA hP hz hS hL =>
  lv_iadd C.1 C.2.1 hd (kk H locs lsA hP hz hS hL)
theorem jx_isub (C : jx_Cx p s m args meth c base D cA cc nL own) {y z : Int32} (hd : decode cc pc = .ok (.isub, 1)) (kk : jx_Go p l e R s m args below meth c base D cA O nL Q cells slots (pc + 1) ls (.int (z - y) :: st) h) : jx_Go p l e R s m args below meth c base D cA O nL Q cells slots pc ls (.int y :: .int z :: st) h := fun H locs lsA hP hz hS hL =>
  lv_isub C.1 C.2.1 hd (kk H locs lsA hP hz hS hL)
theorem jx_imul (C : jx_Cx p s m args meth c base D cA cc nL own) {y z : Int32} (hd : decode cc pc = .ok (.imul, 1)) (kk : jx_Go p l e R s m args below meth c base D cA O nL Q cells slots (pc + 1) ls (.int (z * y) :: st) h) : jx_Go p l e R s m args below meth c base D cA O nL Q cells slots pc ls (.int y :: .int z :: st) h := fun H locs lsA hP hz hS hL =>
  lv_imul C.1 C.2.1 hd (kk H locs lsA hP hz hS hL)
theorem jx_iand (C : jx_Cx p s m args meth c base D cA cc nL own) {y z : Int32} (hd : decode cc pc = .ok (.iand, 1)) (kk : jx_Go p l e R s m args below meth c base D cA O nL Q cells slots (pc + 1) ls (.int (z &&& y) :: st) h) : jx_Go p l e R s m args below meth c base D cA O nL Q cells slots pc ls (.int y :: .int z :: st) h := fun H locs lsA hP hz hS hL =>
  lv_iand C.1 C.2.1 hd (kk H locs lsA hP hz hS hL)
theorem jx_ior (C : jx_Cx p s m args meth c base D cA cc nL own) {y z : Int32} (hd : decode cc pc = .ok (.ior, 1)) (kk : jx_Go p l e R s m args below meth c base D cA O nL Q cells slots (pc + 1) ls (.int (z ||| y) :: st) h) : jx_Go p l e R s m args below meth c base D cA O nL Q cells slots pc ls (.int y :: .int z :: st) h := fun H locs lsA hP hz hS hL =>
  lv_ior C.1 C.2.1 hd (kk H locs lsA hP hz hS hL)
theorem jx_ixor (C : jx_Cx p s m args meth c base D cA cc nL own) {y z : Int32} (hd : decode cc pc = .ok (.ixor, 1)) (kk : jx_Go p l e R s m args below meth c base D cA O nL Q cells slots (pc + 1) ls (.int (z ^^^ y) :: st) h) : jx_Go p l e R s m args below meth c base D cA O nL Q cells slots pc ls (.int y :: .int z :: st) h := fun H locs lsA hP hz hS hL =>
  lv_ixor C.1 C.2.1 hd (kk H locs lsA hP hz hS hL)
theorem jx_ishl (C : jx_Cx p s m args meth c base D cA cc nL own) {y z : Int32} (hd : decode cc pc = .ok (.ishl, 1)) (kk : jx_Go p l e R s m args below meth c base D cA O nL Q cells slots (pc + 1) ls (.int (z <<< (y &&& 31)) :: st) h) : jx_Go p l e R s m args below meth c base D cA O nL Q cells slots pc ls (.int y :: .int z :: st) h := fun H locs lsA hP hz hS hL =>
  lv_ishl C.1 C.2.1 hd (kk H locs lsA hP hz hS hL)
theorem jx_ishr (C : jx_Cx p s m args meth c base D cA cc nL own) {y z : Int32} (hd : decode cc pc = .ok (.ishr, 1)) (kk : jx_Go p l e R s m args below meth c base D cA O nL Q cells slots (pc + 1) ls (.int (z >>> (y &&& 31)) :: st) h) : jx_Go p l e R s m args below meth c base D cA O nL Q cells slots pc ls (.int y :: .int z :: st) h := fun H locs lsA hP hz hS hL =>
  lv_ishr C.1 C.2.1 hd (kk H locs lsA hP hz hS hL)
theorem jx_iushr (C : jx_Cx p s m args meth c base D cA cc nL own) {y z : Int32} (hd : decode cc pc = .ok (.iushr, 1)) (kk : jx_Go p l e R s m args below meth c base D cA O nL Q cells slots (pc + 1) ls (.int (z.toUInt32 >>> (y.toUInt32 &&& Int32.toUInt32 31)).toInt32 :: st) h) : jx_Go p l e R s m args below meth c base D cA O nL Q cells slots pc ls (.int y :: .int z :: st) h := fun H locs lsA hP hz hS hL =>
  lv_iushr C.1 C.2.1 hd rfl (kk H locs lsA hP hz hS hL)
theorem jx_idiv (C : jx_Cx p s m args meth c base D cA cc nL own) {y z : Int32} (hy : ¬ y = 0) (hd : decode cc pc = .ok (.idiv, 1)) (kk : jx_Go p l e R s m args below meth c base D cA O nL Q cells slots (pc + 1) ls (.int (z / y) :: st) h) : jx_Go p l e R s m args below meth c base D cA O nL Q cells slots pc ls (.int y :: .int z :: st) h := fun H locs lsA hP hz hS hL =>
  lv_idiv C.1 C.2.1 hd hy (kk H locs lsA hP hz hS hL)
theorem jx_irem (C : jx_Cx p s m args meth c base D cA cc nL own) {y z : Int32} (hy : ¬ y = 0) (hd : decode cc pc = .ok (.irem, 1)) (kk : jx_Go p l e R s m args below meth c base D cA O nL Q cells slots (pc + 1) ls (.int (z - z / y * y) :: st) h) : jx_Go p l e R s m args below meth c base D cA O nL Q cells slots pc ls (.int y :: .int z :: st) h := fun H locs lsA hP hz hS hL =>
  lv_irem C.1 C.2.1 hd hy (kk H locs lsA hP hz hS hL)
theorem jx_ineg (C : jx_Cx p s m args meth c base D cA cc nL own) {y : Int32} (hd : decode cc pc = .ok (.ineg, 1)) (kk : jx_Go p l e R s m args below meth c base D cA O nL Q cells slots (pc + 1) ls (.int (-y) :: st) h) : jx_Go p l e R s m args below meth c base D cA O nL Q cells slots pc ls (.int y :: st) h := fun H locs lsA hP hz hS hL =>
  lv_ineg C.1 C.2.1 hd (kk H locs lsA hP hz hS hL)
theorem jx_i2b (C : jx_Cx p s m args meth c base D cA cc nL own) {y : Int32} (hd : decode cc pc = .ok (.i2b, 1)) (kk : jx_Go p l e R s m args below meth c base D cA O nL Q cells slots (pc + 1) ls (.int y.toInt8.toInt32 :: st) h) : jx_Go p l e R s m args below meth c base D cA O nL Q cells slots pc ls (.int y :: st) h := fun H locs lsA hP hz hS hL =>
  lv_i2b C.1 C.2.1 hd rfl (kk H locs lsA hP hz hS hL)
theorem jx_i2s (C : jx_Cx p s m args meth c base D cA cc nL own) {y : Int32} (hd : decode cc pc = .ok (.i2s, 1)) (kk : jx_Go p l e R s m args below meth c base D cA O nL Q cells slots (pc + 1) ls (.int y.toInt16.toInt32 :: st) h) : jx_Go p l e R s m args below meth c base D cA O nL Q cells slots pc ls (.int y :: st) h := fun H locs lsA hP hz hS hL =>
  lv_i2s C.1 C.2.1 hd rfl (kk H locs lsA hP hz hS hL)
theorem jx_dup (C : jx_Cx p s m args meth c base D cA cc nL own) {v : Value} (hv : v.category = 1) (hd : decode cc pc = .ok (.dup, 1)) (kk : jx_Go p l e R s m args below meth c base D cA O nL Q cells slots (pc + 1) ls (v :: v :: st) h) : jx_Go p l e R s m args below meth c base D cA O nL Q cells slots pc ls (v :: st) h := fun H locs lsA hP hz hS hL =>
  lv_dup C.1 C.2.1 hd (by rw [jx_V_cat]; exact hv) (kk H locs lsA hP hz hS hL)
theorem jx_dup2 (C : jx_Cx p s m args meth c base D cA cc nL own) {v w : Value} (hv : v.category = 1) (hw : w.category = 1) (hd : decode cc pc = .ok (.dup2, 1)) (kk : jx_Go p l e R s m args below meth c base D cA O nL Q cells slots (pc + 1) ls (v :: w :: v :: w :: st) h) : jx_Go p l e R s m args below meth c base D cA O nL Q cells slots pc ls (v :: w :: st) h := fun H locs lsA hP hz hS hL =>
  lv_dup2_11 C.1 C.2.1 hd (by rw [jx_V_cat]; exact hv) (by rw [jx_V_cat]; exact hw) (kk H locs lsA hP hz hS hL)
theorem jx_dup_x1 (C : jx_Cx p s m args meth c base D cA cc nL own) {v w : Value} (hv : v.category = 1) (hw : w.category = 1) (hd : decode cc pc = .ok (.dup_x1, 1)) (kk : jx_Go p l e R s m args below meth c base D cA O nL Q cells slots (pc + 1) ls (v :: w :: v :: st) h) : jx_Go p l e R s m args below meth c base D cA O nL Q cells slots pc ls (v :: w :: st) h := fun H locs lsA hP hz hS hL =>
  lv_dup_x1 C.1 C.2.1 hd (by rw [jx_V_cat]; exact hv) (by rw [jx_V_cat]; exact hw) (kk H locs lsA hP hz hS hL)
theorem jx_pop (C : jx_Cx p s m args meth c base D cA cc nL own) {v : Value} (hv : v.category = 1) (hd : decode cc pc = .ok (.pop, 1)) (kk : jx_Go p l e R s m args below meth c base D cA O nL Q cells slots (pc + 1) ls st h) : jx_Go p l e R s m args below meth c base D cA O nL Q cells slots pc ls (v :: st) h := fun H locs lsA hP hz hS hL =>
  lv_pop C.1 C.2.1 hd (by rw [jx_V_cat]; exact hv) (kk H locs lsA hP hz hS hL)
theorem jx_goto (C : jx_Cx p s m args meth c base D cA cc nL own) {a : Nat} (hd : decode cc pc = .ok (.goto ((a : Int) - pc), 3)) (kk : jx_Go p l e R s m args below meth c base D cA O nL Q cells slots a ls st h) : jx_Go p l e R s m args below meth c base D cA O nL Q cells slots pc ls st h := fun H locs lsA hP hz hS hL =>
  lv_goto C.1 C.2.1 hd (by omega) (kk H locs lsA hP hz hS hL)
theorem jx_if_eq (C : jx_Cx p s m args meth c base D cA cc nL own) {a : Nat} {z : Int32} (hd : decode cc pc = .ok (.ifCond .eq ((a : Int) - pc), 3)) (kt : z = 0 → jx_Go p l e R s m args below meth c base D cA O nL Q cells slots a ls st h) (kf : ¬ (z = 0) → jx_Go p l e R s m args below meth c base D cA O nL Q cells slots (pc + 3) ls st h) : jx_Go p l e R s m args below meth c base D cA O nL Q cells slots pc ls (.int z :: st) h := fun H locs lsA hP hz hS hL =>
  lv_if_eq C.1 C.2.1 hd (by omega) (fun q => kt q H locs lsA hP hz hS hL) (fun q => kf q H locs lsA hP hz hS hL)
theorem jx_icmp_eq (C : jx_Cx p s m args meth c base D cA cc nL own) {a : Nat} {y z : Int32} (hd : decode cc pc = .ok (.if_icmp .eq ((a : Int) - pc), 3)) (kt : z = y → jx_Go p l e R s m args below meth c base D cA O nL Q cells slots a ls st h) (kf : ¬ (z = y) → jx_Go p l e R s m args below meth c base D cA O nL Q cells slots (pc + 3) ls st h) : jx_Go p l e R s m args below meth c base D cA O nL Q cells slots pc ls (.int y :: .int z :: st) h := fun H locs lsA hP hz hS hL =>
  lv_icmp_eq C.1 C.2.1 hd (by omega) (fun q => kt q H locs lsA hP hz hS hL) (fun q => kf q H locs lsA hP hz hS hL)
theorem jx_if_ne (C : jx_Cx p s m args meth c base D cA cc nL own) {a : Nat} {z : Int32} (hd : decode cc pc = .ok (.ifCond .ne ((a : Int) - pc), 3)) (kt : ¬ z = 0 → jx_Go p l e R s m args below meth c base D cA O nL Q cells slots a ls st h) (kf : ¬ (¬ z = 0) → jx_Go p l e R s m args below meth c base D cA O nL Q cells slots (pc + 3) ls st h) : jx_Go p l e R s m args below meth c base D cA O nL Q cells slots pc ls (.int z :: st) h := fun H locs lsA hP hz hS hL =>
  lv_if_ne C.1 C.2.1 hd (by omega) (fun q => kt q H locs lsA hP hz hS hL) (fun q => kf (fun r => r q) H locs lsA hP hz hS hL)
theorem jx_icmp_ne (C : jx_Cx p s m args meth c base D cA cc nL own) {a : Nat} {y z : Int32} (hd : decode cc pc = .ok (.if_icmp .ne ((a : Int) - pc), 3)) (kt : ¬ z = y → jx_Go p l e R s m args below meth c base D cA O nL Q cells slots a ls st h) (kf : ¬ (¬ z = y) → jx_Go p l e R s m args below meth c base D cA O nL Q cells slots (pc + 3) ls st h) : jx_Go p l e R s m args below meth c base D cA O nL Q cells slots pc ls (.int y :: .int z :: st) h := fun H locs lsA hP hz hS hL =>
  lv_icmp_ne C.1 C.2.1 hd (by omega) (fun q => kt q H locs lsA hP hz hS hL) (fun q => kf (fun r => r q) H locs lsA hP hz hS hL)
theorem jx_if_lt (C : jx_Cx p s m args meth c base D cA cc nL own) {a : Nat} {z : Int32} (hd : decode cc pc = .ok (.ifCond .lt ((a : Int) - pc), 3)) (kt : z < 0 → jx_Go p l e R s m args below meth c base D cA O nL Q cells slots a ls st h) (kf : ¬ (z < 0) → jx_Go p l e R s m args below meth c base D cA O nL Q cells slots (pc + 3) ls st h) : jx_Go p l e R s m args below meth c base D cA O nL Q cells slots pc ls (.int z :: st) h := fun H locs lsA hP hz hS hL =>
  lv_if_lt C.1 C.2.1 hd (by omega) (fun q => kt q H locs lsA hP hz hS hL) (fun q => kf q H locs lsA hP hz hS hL)
theorem jx_icmp_lt (C : jx_Cx p s m args meth c base D cA cc nL own) {a : Nat} {y z : Int32} (hd : decode cc pc = .ok (.if_icmp .lt ((a : Int) - pc), 3)) (kt : z < y → jx_Go p l e R s m args below meth c base D cA O nL Q cells slots a ls st h) (kf : ¬ (z < y) → jx_Go p l e R s m args below meth c base D cA O nL Q cells slots (pc + 3) ls st h) : jx_Go p l e R s m args below meth c base D cA O nL Q cells slots pc ls (.int y :: .int z :: st) h := fun H locs lsA hP hz hS hL =>
  lv_icmp_lt C.1 C.2.1 hd (by omega) (fun q => kt q H locs lsA hP hz hS hL) (fun q => kf q H locs lsA hP hz hS hL)
theorem jx_if_ge (C : jx_Cx p s m args meth c base D cA cc nL own) {a : Nat} {z : Int32} (hd : decode cc pc = .ok (.ifCond .ge ((a : Int) - pc), 3)) (kt : 0 ≤ z → jx_Go p l e R s m args below meth c base D cA O nL Q cells slots a ls st h) (kf : ¬ (0 ≤ z) → jx_Go p l e R s m args below meth c base D cA O nL Q cells slots (pc + 3) ls st h) : jx_Go p l e R s m args below meth c base D cA O nL Q cells slots pc ls (.int z :: st) h := fun H locs lsA hP hz hS hL =>
  lv_if_ge C.1 C.2.1 hd (by omega) (fun q => kt q H locs lsA hP hz hS hL) (fun q => kf q H locs lsA hP hz hS hL)
theorem jx_icmp_ge (C : jx_Cx p s m args meth c base D cA cc nL own) {a : Nat} {y z : Int32} (hd : decode cc pc = .ok (.if_icmp .ge ((a : Int) - pc), 3)) (kt : y ≤ z → jx_Go p l e R s m args below meth c base D cA O nL Q cells slots a ls st h) (kf : ¬ (y ≤ z) → jx_Go p l e R s m args below meth c base D cA O nL Q cells slots (pc + 3) ls st h) : jx_Go p l e R s m args below meth c base D cA O nL Q cells slots pc ls (.int y :: .int z :: st) h := fun H locs lsA hP hz hS hL =>
  lv_icmp_ge C.1 C.2.1 hd (by omega) (fun q => kt q H locs lsA hP hz hS hL) (fun q => kf q H locs lsA hP hz hS hL)
theorem jx_if_gt (C : jx_Cx p s m args meth c base D cA cc nL own) {a : Nat} {z : Int32} (hd : decode cc pc = .ok (.ifCond .gt ((a : Int) - pc), 3)) (kt : 0 < z → jx_Go p l e R s m args below meth c base D cA O nL Q cells slots a ls st h) (kf : ¬ (0 < z) → jx_Go p l e R s m args below meth c base D cA O nL Q cells slots (pc + 3) ls st h) : jx_Go p l e R s m args below meth c base D cA O nL Q cells slots pc ls (.int z :: st) h := fun H locs lsA hP hz hS hL =>
  lv_if_gt C.1 C.2.1 hd (by omega) (fun q => kt q H locs lsA hP hz hS hL) (fun q => kf q H locs lsA hP hz hS hL)
theorem jx_icmp_gt (C : jx_Cx p s m args meth c base D cA cc nL own) {a : Nat} {y z : Int32} (hd : decode cc pc = .ok (.if_icmp .gt ((a : Int) - pc), 3)) (kt : y < z → jx_Go p l e R s m args below meth c base D cA O nL Q cells slots a ls st h) (kf : ¬ (y < z) → jx_Go p l e R s m args below meth c base D cA O nL Q cells slots (pc + 3) ls st h) : jx_Go p l e R s m args below meth c base D cA O nL Q cells slots pc ls (.int y :: .int z :: st) h := fun H locs lsA hP hz hS hL =>
  lv_icmp_gt C.1 C.2.1 hd (by omega) (fun q => kt q H locs lsA hP hz hS hL) (fun q => kf q H locs lsA hP hz hS hL)
theorem jx_if_le (C : jx_Cx p s m args meth c base D cA cc nL own) {a : Nat} {z : Int32} (hd : decode cc pc = .ok (.ifCond .le ((a : Int) - pc), 3)) (kt : z ≤ 0 → jx_Go p l e R s m args below meth c base D cA O nL Q cells slots a ls st h) (kf : ¬ (z ≤ 0) → jx_Go p l e R s m args below meth c base D cA O nL Q cells slots (pc + 3) ls st h) : jx_Go p l e R s m args below meth c base D cA O nL Q cells slots pc ls (.int z :: st) h := fun H locs lsA hP hz hS hL =>
  lv_if_le C.1 C.2.1 hd (by omega) (fun q => kt q H locs lsA hP hz hS hL) (fun q => kf q H locs lsA hP hz hS hL)
theorem jx_icmp_le (C : jx_Cx p s m args meth c base D cA cc nL own) {a : Nat} {y z : Int32} (hd : decode cc pc = .ok (.if_icmp .le ((a : Int) - pc), 3)) (kt : z ≤ y → jx_Go p l e R s m args below meth c base D cA O nL Q cells slots a ls st h) (kf : ¬ (z ≤ y) → jx_Go p l e R s m args below meth c base D cA O nL Q cells slots (pc + 3) ls st h) : jx_Go p l e R s m args below meth c base D cA O nL Q cells slots pc ls (.int y :: .int z :: st) h := fun H locs lsA hP hz hS hL =>
  lv_icmp_le C.1 C.2.1 hd (by omega) (fun q => kt q H locs lsA hP hz hS hL) (fun q => kf q H locs lsA hP hz hS hL)
theorem jx_cls {c : Nat} (hc : c < 12) : ∃ T, jx_cl[c]? = some (jx_nm c, T, jx_N c) := by
  have hq : jx_cl[c]? = some (jx_cl[c]'(Nat.lt_of_lt_of_le hc (by decide))) := List.getElem?_eq_getElem _
  have hk := jx_cl_ok c _ hq
  refine ⟨(jx_cl[c]'(Nat.lt_of_lt_of_le hc (by decide))).2.1, ?_⟩
  rw [hq]
  have h2 : jx_N c = (jx_cl[c]'(Nat.lt_of_lt_of_le hc (by decide))).2.2 := by
    unfold jx_N
    rw [List.getD_eq_getElem?_getD, hq]
    rfl
  rw [h2, ← hk.1]
theorem jx_obj_at {a o : Nat} (ho : h.1[o]? = some (10 + a, jx_N a)) : (jx_ws base cA O h)[o]? = some (base + o, .inr (a, (List.range (jx_N a)).map (jx_f base h a o))) := by
  rw [jx_ws_get (jx_lt ho), jx_e_obj ho]
theorem jx_get (C : jx_Cx p s m args meth c base D cA cc nL own) {a b d o : Nat} (ha : a < 12) (hb : b < jx_N a) (ho : h.1[o]? = some (10 + a, jx_N a)) (hw : Cond.fieldLink (jx_nm own) d (jx_nm a) ((jx_cl.getD a ("", jx_T0, 0)).2.1 b).2.1 ((jx_cl.getD a ("", jx_T0, 0)).2.1 b).2.2.1 ∈ lw_g) (hd : decode cc pc = .ok (.getfield d, 3))
    {v : Value} (hv : jx_f base h a o b = jx_V base v) (kk : jx_Go p l e R s m args below meth c base D cA O nL Q cells slots (pc + 3) ls (v :: st) h) : jx_Go p l e R s m args below meth c base D cA O nL Q cells slots pc ls (.ref o :: st) h := fun H locs lsA hP hz hS hL => by
  obtain ⟨T, hT⟩ := jx_cls ha
  have hok := jx_cl_ok a _ hT
  have hD : (jx_cl.getD a ("", jx_T0, 0)).2.1 = T := by rw [List.getD_eq_getElem?_getD, hT]; rfl
  rw [hD] at hw
  refine va_get C.1 C.2.1 C.2.2.2.2.1 hok.2.2.1 C.2.2.2.1 C.2.2.2.2.2.1.1 hP o (jx_obj_at ho) hT b hb (C.2.2.2.2.1 _ hw) (fun x hx => by rw [hok.2.2.2.2.2 b hb] at hx; exact hx) (v := jx_V base v) ?_ hd (kk H locs lsA hP hz hS hL)
  rw [List.getElem?_map, List.getElem?_range hb]
  exact congrArg some hv
end JXO
end
section
/-! ===== stores, rows, new cells ===== -/
section JXP
variable {p : Program} {l : Launch} {e : Env} {R : Room} {s : State} {m : MethodId} {args : Array Value} {below : List Frame} {meth : Method} {c : Code} {base : Nat} {D : va_G} {cA : Nat → ClassId} {O : Nat → va_E} {cc : ByteArray} {nL own : Nat} {Q : State → Prop} {cells slots pc : Nat} {ls st : List Value} {h : jx_H}
theorem jx_range_set {n k : Nat} (f g : Nat → Value) (hk : k < n) (hfg : ∀ j, j ≠ k → g j = f j) : (List.range n).map g = ((List.range n).map f).set k (g k) := by
  refine List.ext_getElem? fun i => ?_
  by_cases hik : i = k
  · subst hik
    rw [List.getElem?_set_self (by simpa using hk), List.getElem?_map, List.getElem?_range hk]
    rfl
  · rw [List.getElem?_set_ne (Ne.symm hik), List.getElem?_map, List.getElem?_map]
    by_cases hin : i < n
    · rw [List.getElem?_range hin]
      simp [hfg i hik]
    · rw [List.getElem?_eq_none (by simpa using hin)]
      rfl
theorem jx_put (C : jx_Cx p s m args meth c base D cA cc nL own) {a b d o : Nat} (ha : a < 12) (hb : b < jx_N a) (ho : h.1[o]? = some (10 + a, jx_N a)) (hw : Cond.fieldLink (jx_nm own) d (jx_nm a) ((jx_cl.getD a ("", jx_T0, 0)).2.1 b).2.1 ((jx_cl.getD a ("", jx_T0, 0)).2.1 b).2.2.1 ∈ lw_g) (hd : decode cc pc = .ok (.putfield d, 3))
    (hfin : ((jx_cl.getD a ("", jx_T0, 0)).2.1 b).2.2.2 = false ∨ (((jx_cl.getD a ("", jx_T0, 0)).2.1 b).2.2.2 = true ∧ meth.name = "<init>" ∧ own = a))
    {v : Value} {h1 : jx_H} (hn : narrow (jx_ty a b) (jx_V base v) = jx_V base v) (hfit : fits (jx_ty a b) (jx_V base v) = true) (hl1 : h1.1 = h.1) (hA1 : h1.2.2.2 = h.2.2.2) (hne : ∀ q, q ≠ 64 * o + b → h1.2.1 q = h.2.1 q ∧ h1.2.2.1 q = h.2.2.1 q) (hv : jx_f base h1 a o b = jx_V base v)
    (kk : jx_Go p l e R s m args below meth c base D cA O nL Q cells slots (pc + 3) ls st h1) : jx_Go p l e R s m args below meth c base D cA O nL Q cells slots pc ls (v :: .ref o :: st) h := fun H locs lsA hP hz hS hL => by
  obtain ⟨T, hT⟩ := jx_cls ha
  have hok := jx_cl_ok a _ hT
  have hD : (jx_cl.getD a ("", jx_T0, 0)).2.1 = T := by rw [List.getD_eq_getElem?_getD, hT]; rfl
  rw [hD] at hw hfin
  have hN : jx_N a ≤ 64 := hok.2.1
  have hb64 : b < 64 := by omega
  obtain ⟨r, e1, cell, q1, q2, q3, q4⟩ := hP o _ (jx_obj_at ho)
  have hr : r = (jx_nm a, T, jx_N a) := Option.some.inj (e1.symm.trans hT)
  subst hr
  have hKs := C.2.2.2.2.2.1.1
  obtain ⟨hSl, hfc, kC, hkC, hkind⟩ := hKs.1 a _ hT
  obtain ⟨cf, kf, fi, f, hi, hsl⟩ := hSl b hb
  have hap := va_apart (own := jx_nm own) C.2.2.2.2.1 hok.2.2.1 (jx_ty a) hok.2.2.2.2.1 hok.2.2.2.1 hKs hT
  have hlays := u_lays (args := args) C.2.2.2.2.1 hok.2.2.1 hb
  have hst := (u_facts hfc hkC hlays hi).1
  have hi2 : s.fieldFound? (jx_nm a) (T b).2.1 (T b).2.2.1 = some (cf, kf, fi, f) := by
    have := hok.2.2.2.2.2 b hb
    simp only at this
    rw [this] at hi
    exact hi
  have fin : ∀ H' : Heap, H'[base + o]? = some (cell.setSlot f.slot (jx_V base v)) → H'.size = H.size → (∀ q, q ≠ base + o → H'[q]? = H[q]?) → W p l e R s m args below meth c H' (locs ++ [⟨base + o, f.slot⟩]) cells slots Q (F0 m (pc + 3) lsA (st.map (jx_V base))) := by
    intro H' g1 g2 g3
    refine kk H' _ lsA ?_ (by rw [g2, hz, hl1]) ?_ hL
    · refine jx_P_set hP hl1 (jx_lt ho) (fun i hio => ?_) ?_ g3
      · refine jx_e_congr (by rw [hl1]) (by rw [hA1]) (fun j hj => (hne _ (by omega)).1) (fun j hj => (hne _ (by omega)).2)
      · rw [jx_e_obj (by rw [hl1]; exact ho)]
        refine ⟨_, hT, ?_⟩
        rw [jx_range_set (jx_f base h a o) (jx_f base h1 a o) hb (fun j hj => ?_), hv]
        · rw [hsl] at g1
          exact t_OB.to (V := updV (vp_V ((List.range (jx_N a)).map (jx_f base h a o))) b (jx_V base v)) ⟨_, g1, q2, q3, t_set q4 hap hb (jx_V base v)⟩ (fun j _ => vp_updV_set (by simpa using hb) (jx_V base v) j)
        · unfold jx_f
          by_cases hj64 : j < 64
          · have := hne (64 * o + j) (by omega)
            simp only [hj64, if_true, this.1, this.2]
          · simp only [hj64, if_false]
    · exact hS.put g2 g3 (Nat.le_add_right _ _)
  rcases hfin with hf | ⟨hf, hm, ho2⟩
  · have hlay := C.2.2.2.2.1 _ (hok.2.2.1 _ (u_in_lay hb))
    unfold u_lay at hlay
    rw [if_neg (by rw [hf]; decide)] at hlay
    have h6 := u_store hfc hkC hkind hlay hi (hok.2.2.2.2.1 b hb) hn hfit
    exact W.putK C.1 C.2.1 (f := f) ⟨C.2.2.2.1, C.2.2.2.2.1 _ hw, ⟨_, _, _, hi2⟩, hst⟩ (by rw [q2]; exact h6) q1 q3 (by rw [hsl]; exact k2_hasslot (q4 b hb)) rfl rfl hd fin
  · subst ho2
    have hlay := C.2.2.2.2.1 _ (hok.2.2.1 _ (u_in_lay hb))
    unfold u_lay at hlay
    rw [if_pos hf] at hlay
    have hcf : m.cls = cf := by
      obtain ⟨_, _, c', _, _, _, -, -, hf', -, -, -, hown2, -⟩ := Cond.laysFinal_spec hlay
      have e1 : c' = cf := by have := hi.symm.trans hf'; simp at this; exact this.1.symm
      have e2 := hok.2.2.2.2.2 b hb
      simp only at e2
      rw [e2] at hown2
      rw [← e1]; exact Option.some.inj (C.2.2.2.1.symm.trans hown2)
    have h6 := u_fits hfc hkC hkind (Or.inr hlay) hi (hok.2.2.2.2.1 b hb) hn hfit
    exact W.putFinK C.1 C.2.1 C.2.2.2.1 (C.2.2.2.2.1 _ hw) hi2 hst hcf hm (by rw [q2]; exact h6) q1 q3 (by rw [hsl]; exact k2_hasslot (q4 b hb)) rfl rfl hd fin
theorem jx_iaload (C : jx_Cx p s m args meth c base D cA cc nL own) {n o : Nat} {i : Int32} (ho : h.1[o]? = some (0, n)) (hin : jx_in i n) (hd : decode cc pc = .ok (.iaload, 1)) (kk : jx_Go p l e R s m args below meth c base D cA O nL Q cells slots (pc + 1) ls (.int (h.2.2.2 o i.toNatClampNeg) :: st) h) : jx_Go p l e R s m args below meth c base D cA O nL Q cells slots pc ls (.int i :: .ref o :: st) h := fun H locs lsA hP hz hS hL =>
  va_iald C.1 C.2.1 C.2.2.2.2.2.1.1 hP o 0 (by rw [jx_ws_get (jx_lt ho), jx_e_arr ho (by decide)]) rfl hin hd (kk H locs lsA hP hz hS hL)
theorem jx_baload (C : jx_Cx p s m args meth c base D cA cc nL own) {n o : Nat} {i : Int32} (ho : h.1[o]? = some (1, n)) (hin : jx_in i n) (hd : decode cc pc = .ok (.baload, 1)) (kk : jx_Go p l e R s m args below meth c base D cA O nL Q cells slots (pc + 1) ls (.int (h.2.2.2 o i.toNatClampNeg) :: st) h) : jx_Go p l e R s m args below meth c base D cA O nL Q cells slots pc ls (.int i :: .ref o :: st) h := fun H locs lsA hP hz hS hL =>
  va_bald C.1 C.2.1 C.2.2.2.2.2.1.1 hP o 1 (by rw [jx_ws_get (jx_lt ho), jx_e_arr ho (by decide)]) rfl hin hd (kk H locs lsA hP hz hS hL)
theorem jx_zaload (C : jx_Cx p s m args meth c base D cA cc nL own) {n o : Nat} {i : Int32} (ho : h.1[o]? = some (2, n)) (hin : jx_in i n) (hd : decode cc pc = .ok (.baload, 1)) (kk : jx_Go p l e R s m args below meth c base D cA O nL Q cells slots (pc + 1) ls (.int (h.2.2.2 o i.toNatClampNeg) :: st) h) : jx_Go p l e R s m args below meth c base D cA O nL Q cells slots pc ls (.int i :: .ref o :: st) h := fun H locs lsA hP hz hS hL =>
  va_zald C.1 C.2.1 C.2.2.2.2.2.1.1 hP o 2 (by rw [jx_ws_get (jx_lt ho), jx_e_arr ho (by decide)]) rfl hin hd (kk H locs lsA hP hz hS hL)
theorem jx_iastore (C : jx_Cx p s m args meth c base D cA cc nL own) {n o : Nat} {i v : Int32} (ho : h.1[o]? = some (0, n)) (hin : jx_in i n) (hd : decode cc pc = .ok (.iastore, 1)) (kk : jx_Go p l e R s m args below meth c base D cA O nL Q cells slots (pc + 1) ls st (h.1, h.2.1, h.2.2.1, jx_up2 h.2.2.2 o i.toNatClampNeg v)) : jx_Go p l e R s m args below meth c base D cA O nL Q cells slots pc ls (.int v :: .int i :: .ref o :: st) h := fun H locs lsA hP hz hS hL => by
  have ha : (jx_ws base cA O h)[o]? = some (base + o, .inl (cA 0, n, .inl (h.2.2.2 o))) := by rw [jx_ws_get (jx_lt ho), jx_e_arr ho (by decide)]
  refine W.iast C.1 C.2.1 (hP o _ ha) ((C.2.2.2.2.2.1.1.2 0 _ rfl).1 n (fun j => .int (h.2.2.2 o j))) (fun q => by cases q) (by show ¬ (i < 0 ∨ (arrV _ _ _).slots.size ≤ _); rw [arrV_size]; exact hin) rfl rfl hd fun H1 e1 z1 oq => ?_
  refine kk H1 _ lsA ?_ (by rw [z1, hz]) (hS.put z1 oq (Nat.le_add_right _ _)) hL
  refine jx_P_set hP rfl (jx_lt ho) (fun j hj => jx_e_congr rfl ?_ (fun _ _ => rfl) (fun _ _ => rfl)) ?_ oq
  · funext q
    simp [jx_up2, hj]
  · rw [jx_e_arr (h := (h.1, h.2.1, h.2.2.1, jx_up2 h.2.2.2 o i.toNatClampNeg v)) ho (by decide)]
    show H1[base + o]? = some (vp_cell _ _)
    rw [e1, vp_cell_i, vp_cell_i, arrV_store]
    congr 2
    funext q
    by_cases hq : q = i.toNatClampNeg
    · subst hq
      simp [updV, jx_up2, vp_nar, narrow]
    · simp [updV, jx_up2, hq]
theorem jx_bastore (C : jx_Cx p s m args meth c base D cA cc nL own) {n o : Nat} {i v : Int32} (ho : h.1[o]? = some (1, n)) (hin : jx_in i n) (hd : decode cc pc = .ok (.bastore, 1)) (kk : jx_Go p l e R s m args below meth c base D cA O nL Q cells slots (pc + 1) ls st (h.1, h.2.1, h.2.2.1, jx_up2 h.2.2.2 o i.toNatClampNeg v.toInt8.toInt32)) : jx_Go p l e R s m args below meth c base D cA O nL Q cells slots pc ls (.int v :: .int i :: .ref o :: st) h := fun H locs lsA hP hz hS hL => by
  have ha : (jx_ws base cA O h)[o]? = some (base + o, .inl (cA 1, n, .inl (h.2.2.2 o))) := by rw [jx_ws_get (jx_lt ho), jx_e_arr ho (by decide)]
  refine W.bast C.1 C.2.1 (hP o _ ha) ((C.2.2.2.2.2.1.1.2 1 _ rfl).1 n (fun j => .int (h.2.2.2 o j))) (fun q => by cases q) (by show ¬ (i < 0 ∨ (arrV _ _ _).slots.size ≤ _); rw [arrV_size]; exact hin) rfl rfl hd fun H1 e1 z1 oq => ?_
  refine kk H1 _ lsA ?_ (by rw [z1, hz]) (hS.put z1 oq (Nat.le_add_right _ _)) hL
  refine jx_P_set hP rfl (jx_lt ho) (fun j hj => jx_e_congr rfl ?_ (fun _ _ => rfl) (fun _ _ => rfl)) ?_ oq
  · funext q
    simp [jx_up2, hj]
  · rw [jx_e_arr (h := (h.1, h.2.1, h.2.2.1, jx_up2 h.2.2.2 o i.toNatClampNeg v.toInt8.toInt32)) ho (by decide)]
    show H1[base + o]? = some (vp_cell _ _)
    rw [e1, vp_cell_i, vp_cell_i, arrV_store]
    congr 2
    funext q
    by_cases hq : q = i.toNatClampNeg
    · subst hq
      simp [updV, jx_up2, vp_nar, narrow]
    · simp [updV, jx_up2, hq]
theorem jx_zastore (C : jx_Cx p s m args meth c base D cA cc nL own) {n o : Nat} {i v : Int32} (ho : h.1[o]? = some (2, n)) (hin : jx_in i n) (hd : decode cc pc = .ok (.bastore, 1)) (kk : jx_Go p l e R s m args below meth c base D cA O nL Q cells slots (pc + 1) ls st (h.1, h.2.1, h.2.2.1, jx_up2 h.2.2.2 o i.toNatClampNeg (v &&& 1))) : jx_Go p l e R s m args below meth c base D cA O nL Q cells slots pc ls (.int v :: .int i :: .ref o :: st) h := fun H locs lsA hP hz hS hL => by
  have ha : (jx_ws base cA O h)[o]? = some (base + o, .inl (cA 2, n, .inl (h.2.2.2 o))) := by rw [jx_ws_get (jx_lt ho), jx_e_arr ho (by decide)]
  refine W.zast C.1 C.2.1 (hP o _ ha) ((C.2.2.2.2.2.1.1.2 2 _ rfl).1 n (fun j => .int (h.2.2.2 o j))) (fun q => by cases q) (by show ¬ (i < 0 ∨ (arrV _ _ _).slots.size ≤ _); rw [arrV_size]; exact hin) rfl rfl hd fun H1 e1 z1 oq => ?_
  refine kk H1 _ lsA ?_ (by rw [z1, hz]) (hS.put z1 oq (Nat.le_add_right _ _)) hL
  refine jx_P_set hP rfl (jx_lt ho) (fun j hj => jx_e_congr rfl ?_ (fun _ _ => rfl) (fun _ _ => rfl)) ?_ oq
  · funext q
    simp [jx_up2, hj]
  · rw [jx_e_arr (h := (h.1, h.2.1, h.2.2.1, jx_up2 h.2.2.2 o i.toNatClampNeg (v &&& 1))) ho (by decide)]
    show H1[base + o]? = some (vp_cell _ _)
    rw [e1, vp_cell_i, vp_cell_i, arrV_store]
    congr 2
    funext q
    by_cases hq : q = i.toNatClampNeg
    · subst hq
      simp [updV, jx_up2, vp_nar, narrow]
    · simp [updV, jx_up2, hq]
theorem jx_aaload (C : jx_Cx p s m args meth c base D cA cc nL own) {n o r : Nat} {i : Int32} (ho : h.1[o]? = some (4, n)) (hin : jx_in i n) (hn : n ≤ 64) (hv : h.2.1 (64 * o + i.toNatClampNeg) = .ref r) (hd : decode cc pc = .ok (.aaload, 1)) (kk : jx_Go p l e R s m args below meth c base D cA O nL Q cells slots (pc + 1) ls (.ref r :: st) h) : jx_Go p l e R s m args below meth c base D cA O nL Q cells slots pc ls (.int i :: .ref o :: st) h := fun H locs lsA hP hz hS hL => by
  have ha : (jx_ws base cA O h)[o]? = some (base + o, .inl (cA 4, n, .inr (.inr (.inr (.inr (fun j => if j < 64 then jx_oq base (h.2.1 (64 * o + j)) else none)))))) := by rw [jx_ws_get (jx_lt ho), jx_e_q ho]
  refine va_aldq (C := jx_SC) C.1 C.2.1 C.2.2.2.2.2.1.1 hP o 3 ha rfl hin hd ?_
  have hlt : i.toNatClampNeg < n := Nat.not_le.mp fun q => hin (Or.inr q)
  have h64 : i.toNatClampNeg < 64 := by omega
  simp only [h64, if_true, hv, jx_oq, va_rf]
  exact kk H locs lsA hP hz hS hL
theorem jx_aastore (C : jx_Cx p s m args meth c base D cA cc nL own) {n o r : Nat} {i : Int32} (ho : h.1[o]? = some (4, n)) (hin : jx_in i n) (hn : n ≤ 64) (hr : h.1[r]? = some (10 + 8, jx_N 8)) (hd : decode cc pc = .ok (.aastore, 1)) (kk : jx_Go p l e R s m args below meth c base D cA O nL Q cells slots (pc + 1) ls st (h.1, jx_up h.2.1 (64 * o + i.toNatClampNeg) (.ref r), h.2.2.1, h.2.2.2)) : jx_Go p l e R s m args below meth c base D cA O nL Q cells slots pc ls (.ref r :: .int i :: .ref o :: st) h := fun H locs lsA hP hz hS hL => by
  have ha : (jx_ws base cA O h)[o]? = some (base + o, .inl (cA 4, n, .inr (.inr (.inr (.inr (fun j => if j < 64 then jx_oq base (h.2.1 (64 * o + j)) else none)))))) := by rw [jx_ws_get (jx_lt ho), jx_e_q ho]
  have hK := C.2.2.2.2.2.1.1
  have hlt : i.toNatClampNeg < n := Nat.not_le.mp fun q => hin (Or.inr q)
  have h64 : i.toNatClampNeg < 64 := by omega
  have h0 : ¬ i < 0 := fun q => hin (Or.inl q)
  obtain ⟨T, hT⟩ := jx_cls (c := 8) (by decide)
  obtain ⟨r', hr', cellV, g1, g2, g3, -⟩ := hP r _ (jx_obj_at hr)
  have hcls := (hK.1 8 _ hT).2
  obtain ⟨kA, comp, k1, k2, k3, -⟩ := (hK.2 3 _ rfl).2
  have hcomp : comp = D.1 8 := Option.some.inj (k3.symm.trans hcls.1)
  subst hcomp
  obtain ⟨kC, hkC, -⟩ := hcls.2
  refine W.aast C.1 C.2.1 (hP o _ ha) (fun q h => by cases h) (fun h => by cases h) k1 k2 rfl hkC ⟨h0, by show _ < (arrV _ _ _).slots.size; rw [arrV_size]; exact hlt⟩ g1 (fun q h => by rw [g3] at h; cases h) (by rw [g2]; exact hkC) (by rw [g2]; exact va_assign hcls) rfl rfl hd fun H1 e1 z1 oq => ?_
  refine kk H1 _ lsA ?_ (by rw [z1, hz]) (hS.put z1 oq (Nat.le_add_right _ _)) hL
  refine jx_P_set hP rfl (jx_lt ho) (fun j hj => jx_e_congr rfl rfl (fun k hk => ?_) (fun _ _ => rfl)) ?_ oq
  · have hne : ¬ 64 * j + k = 64 * o + i.toNatClampNeg := by omega
    simp [jx_up, hne]
  · rw [jx_e_q (h := (h.1, jx_up h.2.1 (64 * o + i.toNatClampNeg) (.ref r), h.2.2.1, h.2.2.2)) ho]
    show H1[base + o]? = some (vp_cell _ _)
    rw [e1, vp_cell_q, vp_cell_q, arrV_store]
    congr 2
    funext q
    by_cases hq : q = i.toNatClampNeg
    · subst hq
      simp [updV, jx_up, jx_oq, va_rf, h64]
    · simp [updV, jx_up, hq]
end JXP
end
section
/-! ===== new cells, System.arraycopy, switches ===== -/
section JXN
variable {p : Program} {l : Launch} {e : Env} {R : Room} {s : State} {m : MethodId} {args : Array Value} {below : List Frame} {meth : Method} {c : Code} {base : Nat} {D : va_G} {cA : Nat → ClassId} {O : Nat → va_E} {cc : ByteArray} {nL own : Nat} {Q : State → Prop} {cells slots pc : Nat} {ls st : List Value} {h : jx_H}
theorem jx_S_push {A : Nat → Prop} {H0 H H1 : Heap} {locs : List Loc} (hS : va_S A H0 H locs) (z1 : H1.size = H.size + 1) (o1 : ∀ q, q < H.size → H1[q]? = H[q]?) : va_S A H0 H1 locs :=
  ⟨Nat.le_trans hS.1 (by omega), fun x h1 h2 => (o1 x (Nat.lt_of_lt_of_le h1 hS.1)).trans (hS.2.1 x h1 h2), hS.2.2⟩
theorem jx_def_ok : ∀ c, c < 12 → ∀ k, k < 64 → defaultValue (jx_ty c k) = if jx_isr c k = true then .null else .int 0 := by decide +kernel
theorem jx_newi (C : jx_Cx p s m args meth c base D cA cc nL own) (hG : jx_G O = 0) {n : Int32} (hn : ¬ n < 0) (h1000 : n.toNatClampNeg ≤ 1000) (hc : cells + 1 ≤ R.cells) (hs : slots + n.toNatClampNeg ≤ R.slots) (hd : decode cc pc = .ok (.newarray .int, 2))
    (kk : jx_Go p l e R s m args below meth c base D cA O nL Q (cells + 1) (slots + n.toNatClampNeg) (pc + 2) ls (.ref h.1.length :: st) (h.1 ++ [(0, n.toNatClampNeg)], h.2.1, h.2.2.1, fun o => if o = h.1.length then fun _ => 0 else h.2.2.2 o)) : jx_Go p l e R s m args below meth c base D cA O nL Q cells slots pc ls (.int n :: st) h := fun H locs lsA hP hz0 hS hL => by
  have hz : H.size = base + h.1.length := by omega
  have hK := C.2.2.2.2.2.1.1
  refine va_newaK (atype := .int) C.1 C.2.1 (C.2.2.2.2.1 _ jx_wi) rfl hd rfl hn rfl (by show n.toNatClampNeg * 4 ≤ 536870912; omega) hc hs hz fun H1 cA' e1 z1 o1 hAr hNm => ?_
  have hcA : cA' = cA 0 := Option.some.inj (hNm.symm.trans (hK.2 0 _ rfl).2)
  subst hcA
  refine kk H1 locs lsA ?_ (by rw [z1, hG]; show base + h.1.length + 1 = base + (h.1 ++ [_]).length + 0; rw [List.length_append, List.length_singleton]; omega) (jx_S_push hS (by rw [z1, hz]) (by rw [hz]; exact o1)) hL
  refine jx_P_push (q0 := (0, n.toNatClampNeg)) hP hz rfl (fun i hi => jx_e_congr ?_ ?_ (fun _ _ => rfl) (fun _ _ => rfl)) ?_ (by rw [hz]; exact o1)
  · exact List.getElem?_append_left hi
  · have : ¬ i = h.1.length := by omega
    simp [this]
  · rw [jx_e_arr (h := (h.1 ++ [(0, n.toNatClampNeg)], h.2.1, h.2.2.1, fun o => if o = h.1.length then fun _ => 0 else h.2.2.2 o)) (k := 0) (n := n.toNatClampNeg) (by show (h.1 ++ [_])[h.1.length]? = _; rw [List.getElem?_append_right (Nat.le_refl _), Nat.sub_self]; rfl) (by decide)]
    show H1[base + h.1.length]? = some (vp_cell _ _)
    rw [e1, vp_cell_i]
    simp
    rfl
theorem jx_newb (C : jx_Cx p s m args meth c base D cA cc nL own) (hG : jx_G O = 0) {n : Int32} (hn : ¬ n < 0) (h1000 : n.toNatClampNeg ≤ 1000) (hc : cells + 1 ≤ R.cells) (hs : slots + n.toNatClampNeg ≤ R.slots) (hd : decode cc pc = .ok (.newarray .byte, 2))
    (kk : jx_Go p l e R s m args below meth c base D cA O nL Q (cells + 1) (slots + n.toNatClampNeg) (pc + 2) ls (.ref h.1.length :: st) (h.1 ++ [(1, n.toNatClampNeg)], h.2.1, h.2.2.1, fun o => if o = h.1.length then fun _ => 0 else h.2.2.2 o)) : jx_Go p l e R s m args below meth c base D cA O nL Q cells slots pc ls (.int n :: st) h := fun H locs lsA hP hz0 hS hL => by
  have hz : H.size = base + h.1.length := by omega
  have hK := C.2.2.2.2.2.1.1
  refine va_newaK (atype := .byte) C.1 C.2.1 (C.2.2.2.2.1 _ jx_wb) rfl hd rfl hn rfl (by show n.toNatClampNeg * 1 ≤ 536870912; omega) hc hs hz fun H1 cA' e1 z1 o1 hAr hNm => ?_
  have hcA : cA' = cA 1 := Option.some.inj (hNm.symm.trans (hK.2 1 _ rfl).2)
  subst hcA
  refine kk H1 locs lsA ?_ (by rw [z1, hG]; show base + h.1.length + 1 = base + (h.1 ++ [_]).length + 0; rw [List.length_append, List.length_singleton]; omega) (jx_S_push hS (by rw [z1, hz]) (by rw [hz]; exact o1)) hL
  refine jx_P_push (q0 := (1, n.toNatClampNeg)) hP hz rfl (fun i hi => jx_e_congr ?_ ?_ (fun _ _ => rfl) (fun _ _ => rfl)) ?_ (by rw [hz]; exact o1)
  · exact List.getElem?_append_left hi
  · have : ¬ i = h.1.length := by omega
    simp [this]
  · rw [jx_e_arr (h := (h.1 ++ [(1, n.toNatClampNeg)], h.2.1, h.2.2.1, fun o => if o = h.1.length then fun _ => 0 else h.2.2.2 o)) (k := 1) (n := n.toNatClampNeg) (by show (h.1 ++ [_])[h.1.length]? = _; rw [List.getElem?_append_right (Nat.le_refl _), Nat.sub_self]; rfl) (by decide)]
    show H1[base + h.1.length]? = some (vp_cell _ _)
    rw [e1, vp_cell_i]
    simp
    rfl
theorem jx_newz (C : jx_Cx p s m args meth c base D cA cc nL own) (hG : jx_G O = 0) {n : Int32} (hn : ¬ n < 0) (h1000 : n.toNatClampNeg ≤ 1000) (hc : cells + 1 ≤ R.cells) (hs : slots + n.toNatClampNeg ≤ R.slots) (hd : decode cc pc = .ok (.newarray .boolean, 2))
    (kk : jx_Go p l e R s m args below meth c base D cA O nL Q (cells + 1) (slots + n.toNatClampNeg) (pc + 2) ls (.ref h.1.length :: st) (h.1 ++ [(2, n.toNatClampNeg)], h.2.1, h.2.2.1, fun o => if o = h.1.length then fun _ => 0 else h.2.2.2 o)) : jx_Go p l e R s m args below meth c base D cA O nL Q cells slots pc ls (.int n :: st) h := fun H locs lsA hP hz0 hS hL => by
  have hz : H.size = base + h.1.length := by omega
  have hK := C.2.2.2.2.2.1.1
  refine va_newaK (atype := .boolean) C.1 C.2.1 (C.2.2.2.2.1 _ jx_wz) rfl hd rfl hn rfl (by show n.toNatClampNeg * 1 ≤ 536870912; omega) hc hs hz fun H1 cA' e1 z1 o1 hAr hNm => ?_
  have hcA : cA' = cA 2 := Option.some.inj (hNm.symm.trans (hK.2 2 _ rfl).2)
  subst hcA
  refine kk H1 locs lsA ?_ (by rw [z1, hG]; show base + h.1.length + 1 = base + (h.1 ++ [_]).length + 0; rw [List.length_append, List.length_singleton]; omega) (jx_S_push hS (by rw [z1, hz]) (by rw [hz]; exact o1)) hL
  refine jx_P_push (q0 := (2, n.toNatClampNeg)) hP hz rfl (fun i hi => jx_e_congr ?_ ?_ (fun _ _ => rfl) (fun _ _ => rfl)) ?_ (by rw [hz]; exact o1)
  · exact List.getElem?_append_left hi
  · have : ¬ i = h.1.length := by omega
    simp [this]
  · rw [jx_e_arr (h := (h.1 ++ [(2, n.toNatClampNeg)], h.2.1, h.2.2.1, fun o => if o = h.1.length then fun _ => 0 else h.2.2.2 o)) (k := 2) (n := n.toNatClampNeg) (by show (h.1 ++ [_])[h.1.length]? = _; rw [List.getElem?_append_right (Nat.le_refl _), Nat.sub_self]; rfl) (by decide)]
    show H1[base + h.1.length]? = some (vp_cell _ _)
    rw [e1, vp_cell_i]
    simp
    rfl
theorem jx_anew (C : jx_Cx p s m args meth c base D cA cc nL own) (hG : jx_G O = 0) {n : Int32} {d : Nat} (hw : Cond.classLink (jx_nm own) d jx_SC ∈ lw_g) (hn : ¬ n < 0) (h64 : n.toNatClampNeg ≤ 64) (hc : cells + 1 ≤ R.cells) (hs : slots + n.toNatClampNeg ≤ R.slots) (hd : decode cc pc = .ok (.anewarray d, 3))
    (kk : jx_Go p l e R s m args below meth c base D cA O nL Q (cells + 1) (slots + n.toNatClampNeg) (pc + 3) ls (.ref h.1.length :: st) (h.1 ++ [(4, n.toNatClampNeg)], fun q => if 64 * h.1.length ≤ q then .null else h.2.1 q, h.2.2.1, h.2.2.2)) : jx_Go p l e R s m args below meth c base D cA O nL Q cells slots pc ls (.int n :: st) h := fun H locs lsA hP hz0 hS hL => by
  have hz : H.size = base + h.1.length := by omega
  have hK := C.2.2.2.2.2.1
  refine W.anew (C := jx_SC) C.1 C.2.1 C.2.2.2.1 (C.2.2.2.2.1 _ hw) (va_AO.use hK.2) rfl hd rfl hn (by omega) hc hs fun cA' kA comp f1 f2 f3 f4 => ?_
  generalize hH1 : H.push ({ cls := cA', slots := Array.replicate n.toNatClampNeg .null, vm := .none } : Cell) = H1
  have z1 : H1.size = H.size + 1 := by rw [← hH1, Array.size_push]
  have e1 : H1[H.size]? = some (arrV cA' n.toNatClampNeg (fun _ => .null)) := by rw [← hH1, Array.getElem?_push_size, ← arrV_new]
  have o1 : ∀ q : Nat, q < H.size → H1[q]? = H[q]? := fun q hq => by rw [← hH1, Array.getElem?_push, if_neg (Nat.ne_of_lt hq)]
  obtain ⟨kA2, comp2, g1, g2, g3, g4⟩ := (hK.1.2 3 _ rfl).2
  have hcA : cA' = cA 4 := Option.some.inj (f1.symm.trans g4)
  subst hcA
  have hgo := kk H1 locs lsA ?_ (by rw [z1, hz, hG]; show base + h.1.length + 1 = base + (h.1 ++ [_]).length + 0; rw [List.length_append, List.length_singleton]; omega) (jx_S_push hS z1 o1) hL
  · simp only [List.map_cons, jx_V] at hgo
    rw [← hz] at hgo
    exact hgo
  refine jx_P_push (q0 := (4, n.toNatClampNeg)) hP hz rfl (fun i hi => jx_e_congr ?_ rfl (fun j hj => ?_) (fun _ _ => rfl)) ?_ o1
  · exact List.getElem?_append_left hi
  · have : ¬ 64 * h.1.length ≤ 64 * i + j := by omega
    simp [this]
  · rw [jx_e_q (h := (h.1 ++ [(4, n.toNatClampNeg)], fun q => if 64 * h.1.length ≤ q then .null else h.2.1 q, h.2.2.1, h.2.2.2)) (n := n.toNatClampNeg) (by show (h.1 ++ [_])[h.1.length]? = _; rw [List.getElem?_append_right (Nat.le_refl _), Nat.sub_self]; rfl)]
    show H1[base + h.1.length]? = some (vp_cell _ _)
    rw [← hz, e1, vp_cell_q]
    congr 2
    funext j
    by_cases hj : j < 64
    · have : 64 * h.1.length ≤ 64 * h.1.length + j := by omega
      simp [hj, jx_oq, va_rf]
    · simp [hj, va_rf]
theorem jx_new (C : jx_Cx p s m args meth c base D cA cc nL own) (hG : jx_G O = 0) {a d : Nat} (ha : a < 12) (ha1 : a ≠ 1) (hw : Cond.classLink (jx_nm own) d (jx_nm a) ∈ lw_g) (hc : cells + 1 ≤ R.cells) (hs : slots + jx_N a ≤ R.slots) (hd : decode cc pc = .ok (.new d, 3))
    (kk : jx_Go p l e R s m args below meth c base D cA O nL Q (cells + 1) (slots + jx_N a) (pc + 3) ls (.ref h.1.length :: st) (h.1 ++ [(10 + a, jx_N a)], fun q => if 64 * h.1.length ≤ q then .null else h.2.1 q, fun q => if 64 * h.1.length ≤ q then 0 else h.2.2.1 q, h.2.2.2)) : jx_Go p l e R s m args below meth c base D cA O nL Q cells slots pc ls st h := fun H locs lsA hP hz0 hS hL => by
  have hz : H.size = base + h.1.length := by omega
  have hK := C.2.2.2.2.2.1
  obtain ⟨T, hT⟩ := jx_cls ha
  have hok := jx_cl_ok a _ hT
  have hnw := jx_new_ok a _ hT ha1 ha
  have hKn := hK.1.1 a _ hT
  refine W.newcK C.1 C.2.1 C.2.2.2.1 (C.2.2.2.2.1 _ hw) (C.2.2.2.2.1 _ hnw.1) (C.2.2.2.2.1 _ hnw.2) rfl hd hc hs hKn.2.1 hz fun H1 kC hkC e1 z1 o1 => ?_
  refine kk H1 locs lsA ?_ (by rw [z1, hG]; show base + h.1.length + 1 = base + (h.1 ++ [_]).length + 0; rw [List.length_append, List.length_singleton]; omega) (jx_S_push hS (by rw [z1, hz]) (by rw [hz]; exact o1)) hL
  refine jx_P_push (q0 := (10 + a, jx_N a)) hP hz rfl (fun i hi => jx_e_congr ?_ rfl (fun j hj => ?_) (fun j hj => ?_)) ?_ (by rw [hz]; exact o1)
  · exact List.getElem?_append_left hi
  · have : ¬ 64 * h.1.length ≤ 64 * i + j := by omega
    simp [this]
  · have : ¬ 64 * h.1.length ≤ 64 * i + j := by omega
    simp [this]
  · rw [jx_e_obj (h := (h.1 ++ [(10 + a, jx_N a)], fun q => if 64 * h.1.length ≤ q then .null else h.2.1 q, fun q => if 64 * h.1.length ≤ q then 0 else h.2.2.1 q, h.2.2.2)) (c := a) (n := jx_N a) (by show (h.1 ++ [_])[h.1.length]? = _; rw [List.getElem?_append_right (Nat.le_refl _), Nat.sub_self]; rfl)]
    refine ⟨_, hT, (u_born (jx_ty a) C.2.2.2.2.1 hok.2.2.1 hKn hkC e1 hok.2.2.2.2.1).to (fun k hk => ?_)⟩
    have hk64 : k < 64 := Nat.lt_of_lt_of_le hk hok.2.1
    have hk2 : k < jx_N a := hk
    rw [jx_def_ok a ha k hk64]
    simp [vp_V, List.getD_eq_getElem?_getD, hk2, jx_f, hk64, jx_V]
theorem jx_oinit (C : jx_Cx p s m args meth c base D cA cc nL own) {d o : Nat} (hw : Cond.methodLink (jx_nm own) d Lib.objectInit ∈ lw_g) (h8 : jx_c8 st) (hfr : 1 ≤ R.frames) (hlo : 64 ≤ R.locals) (hd : decode cc pc = .ok (.invokespecial d, 3)) (kk : jx_Go p l e R s m args below meth c base D cA O nL Q cells slots (pc + 3) ls st h) : jx_Go p l e R s m args below meth c base D cA O nL Q cells slots pc ls (.ref o :: st) h := fun H locs lsA hP hz hS hL => by
  obtain ⟨hl1, lv, hl2, hl3⟩ := id hL
  refine W.objInit C.1 C.2.1 C.2.2.2.1 (C.2.2.2.2.1 _ hw) (C.2.2.2.2.1 _ jx_wo1) (C.2.2.2.2.1 _ jx_wo2) (g := F0 m pc lsA (.ref (base + o) :: st.map (jx_V base))) rfl (by show lsA.size = c.maxLocals; rw [hl2.1, C.2.2.1]) (a := base + o) (rest := st.map (jx_V base)) rfl hd hfr ?_ (kk H locs lsA hP hz hS hL)
  have e1 : ((st.map (jx_V base)).map fun v => v.category) = st.map fun v => v.category := by
    rw [List.map_map]
    exact List.map_congr_left fun v _ => jx_V_cat base v
  show 2 * 0 + ((st.map (jx_V base)).map fun v => v.category).sum + 12 ≤ R.locals
  rw [e1]
  have : (st.map fun v => v.category).sum ≤ 8 := h8
  omega
theorem jx_acopy (C : jx_Cx p s m args meth c base D cA cc nL own) {d o q n0 n1 : Nat} {sp dp n : Int32} (hw : Cond.methodLink (jx_nm own) d arraycopyName ∈ lw_g) (ho : h.1[o]? = some (0, n0)) (hq : h.1[q]? = some (0, n1)) (h1 : ¬ sp < 0) (h2 : ¬ dp < 0) (h3 : ¬ n < 0) (h4 : sp.toNatClampNeg + n.toNatClampNeg ≤ n0) (h5 : dp.toNatClampNeg + n.toNatClampNeg ≤ n1) (h8 : jx_c8 st) (hfr : 1 ≤ R.frames) (hlo : 64 ≤ R.locals) (hd : decode cc pc = .ok (.invokestatic d, 3))
    (kk : jx_Go p l e R s m args below meth c base D cA O nL Q cells slots (pc + 3) ls st (h.1, h.2.1, h.2.2.1, fun z => if z = q then va_cpy (h.2.2.2 o) (h.2.2.2 q) sp.toNatClampNeg dp.toNatClampNeg n.toNatClampNeg else h.2.2.2 z)) : jx_Go p l e R s m args below meth c base D cA O nL Q cells slots pc ls (.int n :: .int dp :: .ref q :: .int sp :: .ref o :: st) h := fun H locs lsA hP hz hS hL => by
  have hK := C.2.2.2.2.2.1.1
  obtain ⟨hl1, lv, hl2, hl3⟩ := id hL
  have ha0 : (jx_ws base cA O h)[o]? = some (base + o, .inl (cA 0, n0, .inl (h.2.2.2 o))) := by rw [jx_ws_get (jx_lt ho), jx_e_arr ho (by decide)]
  have ha1 : (jx_ws base cA O h)[q]? = some (base + q, .inl (cA 0, n1, .inl (h.2.2.2 q))) := by rw [jx_ws_get (jx_lt hq), jx_e_arr hq (by decide)]
  have nn : ∀ z : Int32, ¬ z < 0 → z.toInt = (z.toNatClampNeg : Int) := by
    intro z hz
    have hz0 : (0 : Int) ≤ z.toInt := by
      have := Int32.not_lt.mp hz
      simpa using Int32.le_iff_toInt_le.mp this
    show z.toInt = ((z.toInt.toNat : Nat) : Int)
    omega
  have e8 : ((st.map (jx_V base)).map fun v => v.category) = st.map fun v => v.category := by
    rw [List.map_map]
    exact List.map_congr_left fun v _ => jx_V_cat base v
  have h8' : (st.map fun v => v.category).sum ≤ 8 := h8
  have hnf : nativeFrameWords "java/lang/System" "arraycopy" 5 + 11 ≤ 56 := by decide +kernel
  intro T hT X
  have hc0 : H[base + o]? = some (vp_cell (cA 0) (n0, .inl (h.2.2.2 o))) := hP o _ ha0
  have hc1 : H[base + q]? = some (vp_cell (cA 0) (n1, .inl (h.2.2.2 q))) := hP q _ ha1
  obtain ⟨-, k0, hk0, cm0, hkk0⟩ := (hK.2 0 _ rfl).1 n0 (fun j => .int (h.2.2.2 o j))
  obtain ⟨-, k1, hk1, cm1, hkk1⟩ := (hK.2 0 _ rfl).1 n1 (fun j => .int (h.2.2.2 q j))
  obtain ⟨vm', X', step⟩ := X.arraycopy C.1 C.2.2.2.1 (C.2.2.2.2.1 _ hw) (C.2.2.2.2.1 _ jx_wa1) (C.2.2.2.2.1 _ jx_wa2) (C.2.2.2.2.1 _ jx_wa3) (src := base + o) (dst := base + q) (cs := vp_cell (cA 0) (n0, .inl (h.2.2.2 o))) (cd := vp_cell (cA 0) (n1, .inl (h.2.2.2 q))) (srcPos := sp) (destPos := dp) (n := n) (by rw [hT]; exact hc0) (by rw [hT]; exact hc1)
    (fun _ h => by cases h) (fun _ h => by cases h) (fun h => by cases h) (fun h => by cases h) hk0 hk1 hkk0 hkk1 (by simp [refKind]) h1 h2 h3
    (by rw [nn sp h1, nn n h3]; show ¬ _ > ((arrV (cA 0) n0 (fun j => .int (h.2.2.2 o j))).slots.size : Int); rw [arrV_size]; omega)
    (by rw [nn dp h2, nn n h3]; show ¬ _ > ((arrV (cA 0) n1 (fun j => .int (h.2.2.2 q j))).slots.size : Int); rw [arrV_size]; omega)
    (fun vm₁ _ i hi => by
      have e : (vp_cell (cA 0) (n0, .inl (h.2.2.2 o))).slots.getD (sp.toNatClampNeg + i) .null = .int (h.2.2.2 o (sp.toNatClampNeg + i)) := by
        show (arrV (cA 0) n0 (fun j => .int (h.2.2.2 o j))).slots.getD _ _ = _
        rw [Array.getD_eq_getD_getElem?, arrV_read _ _ (by omega)]
        rfl
      refine ⟨?_, ?_⟩
      · rw [e]
        rfl
      · rw [e]
        exact trivial)
    (g := F0 m pc lsA (.int n :: .int dp :: .ref (base + q) :: .int sp :: .ref (base + o) :: st.map (jx_V base))) rfl (by show lsA.size = c.maxLocals; rw [hl2.1, C.2.2.1]) (rest := st.map (jx_V base)) rfl (by rw [C.2.1]; exact hd) hfr (by show 2 * 0 + _ + _ ≤ _; rw [e8]; omega)
  have e1 : copied (vp_cell (cA 0) (n0, .inl (h.2.2.2 o))) (vp_cell (cA 0) (n1, .inl (h.2.2.2 q))) sp dp n = vp_cell (cA 0) (n1, .inl (va_cpy (h.2.2.2 o) (h.2.2.2 q) sp.toNatClampNeg dp.toNatClampNeg n.toNatClampNeg)) := va_copied (fun z => .int z) (cA 0) (cA 0) (h.2.2.2 o) (h.2.2.2 q) h4
  rw [e1] at X' step
  have hl : base + q < H.size := (Array.getElem?_eq_some_iff.mp hc1).1
  have hheap : ((T.setVm vm').setCell (base + q) (vp_cell (cA 0) (n1, .inl (va_cpy (h.2.2.2 o) (h.2.2.2 q) sp.toNatClampNeg dp.toNatClampNeg n.toNatClampNeg)))).heap = H.setIfInBounds (base + q) (vp_cell (cA 0) (n1, .inl (va_cpy (h.2.2.2 o) (h.2.2.2 q) sp.toNatClampNeg dp.toNatClampNeg n.toNatClampNeg))) := by rw [← hT]; rfl
  have oq : ∀ z : Nat, z ≠ base + q → (H.setIfInBounds (base + q) (vp_cell (cA 0) (n1, .inl (va_cpy (h.2.2.2 o) (h.2.2.2 q) sp.toNatClampNeg dp.toNatClampNeg n.toNatClampNeg))))[z]? = H[z]? := fun z hz => by simp [Array.getElem?_setIfInBounds, Ne.symm hz]
  obtain ⟨t, a1, b1⟩ := kk _ _ lsA (jx_P_set hP rfl (jx_lt hq) (fun j hj => jx_e_congr rfl (by simp [hj]) (fun _ _ => rfl) (fun _ _ => rfl)) (by
      rw [jx_e_arr (h := (h.1, h.2.1, h.2.2.1, fun z => if z = q then va_cpy (h.2.2.2 o) (h.2.2.2 q) sp.toNatClampNeg dp.toNatClampNeg n.toNatClampNeg else h.2.2.2 z)) hq (by decide)]
      show (H.setIfInBounds (base + q) _)[base + q]? = some (vp_cell _ _)
      simp [Array.getElem?_setIfInBounds, hl]) oq) (by simp; exact hz) ⟨by simp; exact hS.1, fun z g1 g2 => by
      rw [oq z (fun e => g2 (by rw [e]; exact Nat.le_add_right _ _))]
      exact hS.2.1 z g1 g2, fun z hz => by
      rcases List.mem_append.mp hz with h | h
      · exact hS.2.2 z h
      · obtain ⟨w, -, hw⟩ := List.mem_map.mp h
        rw [← hw]
        exact Nat.le_add_right _ _⟩ hL _ hheap X'
  exact ⟨t, step t a1, b1⟩
theorem jx_lk_off {pc a : Nat} : ∀ (L : List (Int32 × Nat)) (z : Int32), Op.lookupswitch.offset (L.map fun q => (q.1.toInt, (q.2 : Int) - pc)) ((a : Int) - pc) z.toInt = (jx_lk L z a : Int) - pc
  | [], z => rfl
  | q :: L, z => by
    by_cases hq : z = q.1
    · subst hq
      simp [jx_lk, Op.lookupswitch.offset]
    · have h1 : ¬ z.toInt = q.1.toInt := fun h => hq (Int32.toInt_inj.mp h)
      rw [List.map_cons, lv_osw hq rfl, jx_lk_off L z]
      simp [jx_lk, hq]
theorem jx_lsw (C : jx_Cx p s m args meth c base D cA cc nL own) {a d : Nat} {z : Int32} {L : List (Int32 × Nat)} (hs : ((L.map fun q => (q.1.toInt, (q.2 : Int) - pc)).zip ((L.map fun q => (q.1.toInt, (q.2 : Int) - pc)).drop 1)).all (fun (a, next) => a.1 < next.1) = true) (hd : decode cc pc = .ok (.lookupswitch ((a : Int) - pc) (L.map fun q => (q.1.toInt, (q.2 : Int) - pc)).toArray, d))
    (kk : jx_Go p l e R s m args below meth c base D cA O nL Q cells slots (jx_lk L z a) ls st h) : jx_Go p l e R s m args below meth c base D cA O nL Q cells slots pc ls (.int z :: st) h := fun H locs lsA hP hz hS hL =>
  lv_lookup C.1 C.2.1 hd hs (jx_lk_off L z) (by omega) (kk H locs lsA hP hz hS hL)
theorem jx_tk (x : Int32) : ∀ (L : List (Int32 × Nat)) (k : Nat) (z : Int32) (a : Nat), (∀ (i : Nat) (q : Int32 × Nat), L[i]? = some q → q.1.toInt = x.toInt + k + i) → (if z.toInt < x.toInt + k ∨ x.toInt + k + L.length - 1 < z.toInt then jx_lk L z a = a else ∃ q, L[(z.toInt - (x.toInt + k)).toNat]? = some q ∧ jx_lk L z a = q.2)
  | [], k, z, a, hL => by
    rw [if_pos]
    · rfl
    · simp only [List.length_nil]
      omega
  | q :: L, k, z, a, hL => by
    have h0 : q.1.toInt = x.toInt + k := by
      have := hL 0 q rfl
      omega
    have ih := jx_tk x L (k + 1) z a (fun i r hr => by
      have := hL (i + 1) r (by simpa using hr)
      omega)
    by_cases hz : z = q.1
    · have hzi : z.toInt = x.toInt + k := by rw [hz]; exact h0
      rw [if_neg (by simp only [List.length_cons]; omega)]
      refine ⟨q, ?_, by simp [jx_lk, hz]⟩
      rw [show (z.toInt - (x.toInt + k)).toNat = 0 by omega]
      rfl
    · have hzi : ¬ z.toInt = x.toInt + k := fun h => hz (Int32.toInt_inj.mp (h.trans h0.symm))
      have e1 : jx_lk (q :: L) z a = jx_lk L z a := by simp [jx_lk, hz]
      rw [e1]
      by_cases hc : z.toInt < x.toInt + (k + 1 : Nat) ∨ x.toInt + (k + 1 : Nat) + L.length - 1 < z.toInt
      · rw [if_pos hc] at ih
        rw [if_pos (by simp only [List.length_cons]; omega)]
        exact ih
      · rw [if_neg hc] at ih
        rw [if_neg (by simp only [List.length_cons]; omega)]
        obtain ⟨r, h1, h2⟩ := ih
        refine ⟨r, ?_, h2⟩
        rw [show (z.toInt - (x.toInt + k)).toNat = (z.toInt - (x.toInt + (k + 1 : Nat))).toNat + 1 by omega]
        simpa using h1
theorem jx_tsw (C : jx_Cx p s m args meth c base D cA cc nL own) {a d : Nat} {x z : Int32} {L : List (Int32 × Nat)} (hL0 : ∀ (i : Nat) (q : Int32 × Nat), L[i]? = some q → q.1.toInt = x.toInt + i) (hd : decode cc pc = .ok (.tableswitch ((a : Int) - pc) x.toInt (x.toInt + L.length - 1) (L.map fun q => (q.2 : Int) - pc).toArray, d))
    (kk : jx_Go p l e R s m args below meth c base D cA O nL Q cells slots (jx_lk L z a) ls st h) : jx_Go p l e R s m args below meth c base D cA O nL Q cells slots pc ls (.int z :: st) h := fun H locs lsA hP hz hS hL => by
  have hk := jx_tk x L 0 z a (fun i q hq => by have := hL0 i q hq; omega)
  by_cases hc : z.toInt < x.toInt ∨ x.toInt + L.length - 1 < z.toInt
  · rw [if_pos (by omega)] at hk
    rw [hk] at kk
    exact lv_tableOut C.1 C.2.1 hd hc (by omega) (kk H locs lsA hP hz hS hL)
  · rw [if_neg (by omega)] at hk
    obtain ⟨q, h1, h2⟩ := hk
    rw [h2] at kk
    refine lv_tableIn C.1 C.2.1 hd (by omega) (by omega) (off := (q.2 : Int) - pc) ?_ (by omega) (kk H locs lsA hP hz hS hL)
    have h3 : L[(z.toInt - x.toInt).toNat]? = some q := by
      rw [show (z.toInt - x.toInt).toNat = (z.toInt - (x.toInt + (0 : Nat))).toNat by omega]
      exact h1
    simp [h3]
theorem jx_mmax (C : jx_Cx p s m args meth c base D cA cc nL own) {d : Nat} {y z : Int32} (hw : Cond.methodLink (jx_nm own) d Lib.Math.max.name ∈ lw_g) (h8 : jx_c8 st) (hfr : 1 ≤ R.frames) (hlo : 64 ≤ R.locals) (hc : cells ≤ R.cells) (hs : slots ≤ R.slots) (hd : decode cc pc = .ok (.invokestatic d, 3)) (kk : jx_Go p l e R s m args below meth c base D cA O nL Q cells slots (pc + 3) ls (.int (jx_max z y) :: st) h) : jx_Go p l e R s m args below meth c base D cA O nL Q cells slots pc ls (.int y :: .int z :: st) h := fun H locs lsA hP hz hS hL => by
  obtain ⟨hl1, lv, hl2, hl3⟩ := id hL
  have e1 : ((st.map (jx_V base)).map fun v => v.category) = st.map fun v => v.category := by
    rw [List.map_map]
    exact List.map_congr_left fun v _ => jx_V_cat base v
  have h8' : (st.map fun v => v.category).sum ≤ 8 := h8
  exact va_mmax (rest := st.map (jx_V base)) C.1 C.2.1 (by rw [hl2.1, C.2.2.1]) C.2.2.2.1 (C.2.2.2.2.1 _ hw) (C.2.2.2.2.1 _ jx_wmax1) (C.2.2.2.2.1 _ jx_wm0) (C.2.2.2.2.1 _ jx_wmax2) hfr (by rw [e1]; omega) hc hs hd (kk H locs lsA hP hz hS hL)
theorem jx_mmin (C : jx_Cx p s m args meth c base D cA cc nL own) {d : Nat} {y z : Int32} (hw : Cond.methodLink (jx_nm own) d Lib.Math.min.name ∈ lw_g) (h8 : jx_c8 st) (hfr : 1 ≤ R.frames) (hlo : 64 ≤ R.locals) (hc : cells ≤ R.cells) (hs : slots ≤ R.slots) (hd : decode cc pc = .ok (.invokestatic d, 3)) (kk : jx_Go p l e R s m args below meth c base D cA O nL Q cells slots (pc + 3) ls (.int (jx_min z y) :: st) h) : jx_Go p l e R s m args below meth c base D cA O nL Q cells slots pc ls (.int y :: .int z :: st) h := fun H locs lsA hP hz hS hL => by
  obtain ⟨hl1, lv, hl2, hl3⟩ := id hL
  have e1 : ((st.map (jx_V base)).map fun v => v.category) = st.map fun v => v.category := by
    rw [List.map_map]
    exact List.map_congr_left fun v _ => jx_V_cat base v
  have h8' : (st.map fun v => v.category).sum ≤ 8 := h8
  exact va_mmin (rest := st.map (jx_V base)) C.1 C.2.1 (by rw [hl2.1, C.2.2.1]) C.2.2.2.1 (C.2.2.2.2.1 _ hw) (C.2.2.2.2.1 _ jx_wmin1) (C.2.2.2.2.1 _ jx_wm0) (C.2.2.2.2.1 _ jx_wmin2) hfr (by rw [e1]; omega) hc hs hd (kk H locs lsA hP hz hS hL)
end JXN
end
section
/-! ===== a text of entries stands for a method's bytes ===== -/
def jx_side (own nL rt kd : Nat) (e : jx_E) : Bool :=
  match e with
  | (_, op, (a, b, c0, d), x, L) =>
  match op with
  | 0 => decide (a < 4)
  | 2 => decide (a < 4)
  | 4 => decide (a < 4) && decide (a < nL)
  | 5 => decide (a < nL)
  | 6 => decide (a < 4) && decide (a < nL)
  | 7 => decide (a < nL)
  | 9 => decide ((Int8.ofInt x.toInt).toInt32 = x)
  | 10 => decide ((Int16.ofInt x.toInt).toInt32 = x)
  | 11 => jx_CL.any (fun q => decide (q.1 = own ∧ q.2.1 = d ∧ q.2.2.1 = x))
  | 12 => jx_CL.any (fun q => decide (q.1 = own ∧ q.2.1 = d ∧ q.2.2.1 = x))
  | 32 => decide (a < 12 ∧ b < jx_N a) && !jx_isr a b && jx_FL.any (fun q => decide (q.1 = own ∧ q.2.1 = d ∧ q.2.2.1 = a ∧ q.2.2.2.1 = b))
  | 33 => decide (a < 12 ∧ b < jx_N a) && jx_isr a b && jx_FL.any (fun q => decide (q.1 = own ∧ q.2.1 = d ∧ q.2.2.1 = a ∧ q.2.2.2.1 = b))
  | 34 => decide (a < 12 ∧ b < jx_N a ∧ jx_ty a b = .int ∧ ((jx_cl.getD a ("", jx_T0, 0)).2.1 b).2.2.2 = false) && jx_FL.any (fun q => decide (q.1 = own ∧ q.2.1 = d ∧ q.2.2.1 = a ∧ q.2.2.2.1 = b))
  | 35 => decide (a < 12 ∧ b < jx_N a ∧ jx_ty a b = .boolean ∧ ((jx_cl.getD a ("", jx_T0, 0)).2.1 b).2.2.2 = false) && jx_FL.any (fun q => decide (q.1 = own ∧ q.2.1 = d ∧ q.2.2.1 = a ∧ q.2.2.2.1 = b))
  | 36 => decide (a < 12 ∧ b < jx_N a ∧ ((jx_cl.getD a ("", jx_T0, 0)).2.1 b).2.2.2 = false) && jx_isr a b && jx_FL.any (fun q => decide (q.1 = own ∧ q.2.1 = d ∧ q.2.2.1 = a ∧ q.2.2.2.1 = b))
  | 37 => decide (a < 12 ∧ b < jx_N a ∧ ((jx_cl.getD a ("", jx_T0, 0)).2.1 b).2.2.2 = true ∧ kd = 1 ∧ own = a) && jx_isr a b && jx_FL.any (fun q => decide (q.1 = own ∧ q.2.1 = d ∧ q.2.2.1 = a ∧ q.2.2.2.1 = b))
  | 46 => decide (a < 3)
  | 47 => jx_KL.any (fun q => decide (q.1 = own ∧ q.2.1 = d ∧ q.2.2.1 = 8))
  | 48 => decide (a < 12 ∧ a ≠ 1) && jx_KL.any (fun q => decide (q.1 = own ∧ q.2.1 = d ∧ q.2.2.1 = a))
  | 49 => jx_ML.any (fun q => decide (q.1 = own ∧ q.2.1 = d ∧ q.2.2.1 = a)) && decide (jx_kc[a]? = some (0, c0))
  | 50 => jx_ML.any (fun q => decide (q.1 = own ∧ q.2.1 = d ∧ q.2.2.1 = a)) && decide ((jx_kc[a]?).map (fun q => q.1) = some 2)
  | 51 => jx_ML.any (fun q => decide (q.1 = own ∧ q.2.1 = d ∧ q.2.2.1 = a)) && decide ((jx_kc[a]?).map (fun q => q.1) = some 1)
  | 52 => jx_OL.any (fun q => decide (q.1 = own ∧ q.2.1 = d))
  | 53 => jx_AL.any (fun q => decide (q.1 = own ∧ q.2.1 = d))
  | 67 => (L.zipIdx).all (fun q => decide (q.1.1.toInt = x.toInt + q.2))
  | 68 => ((L.map fun q => (q.1.toInt, (q.2 : Int) - e.1)).zip ((L.map fun q => (q.1.toInt, (q.2 : Int) - e.1)).drop 1)).all (fun (a, next) => a.1 < next.1)
  | 69 => decide (rt = 1)
  | 70 => decide (rt = 2)
  | 71 => decide (rt = 0)
  | 72 => jx_ML.any (fun q => decide (q.1 = own ∧ q.2.1 = d ∧ q.2.2.1 = a)) && decide (jx_ys.getD a ⟨"", "", ""⟩ = Lib.Math.max.name)
  | 73 => jx_ML.any (fun q => decide (q.1 = own ∧ q.2.1 = d ∧ q.2.2.1 = a)) && decide (jx_ys.getD a ⟨"", "", ""⟩ = Lib.Math.min.name)
  | _ => true
def jx_okE (cc : ByteArray) (own nL rt kd : Nat) (e : jx_E) : Bool := decide (decode cc e.1 = .ok (jx_ins e)) && jx_side own nL rt kd e
def jx_okR (cc : ByteArray) (own nL rt kd : Nat) : Nat → List jx_E → Bool
  | _, [] => true
  | pc, e :: r => decide (e.1 = pc) && jx_okE cc own nL rt kd e && jx_okR cc own nL rt kd (pc + (jx_ins e).2) r
def jx_sz (L : List (Nat × Nat)) : Nat := (L.map (fun q => q.2)).sum
theorem jx_nil {α : Type} {a x : List α} (h : a = a ++ x) : x = [] := by
  have := congrArg List.length h
  rw [List.length_append] at this
  exact List.length_eq_zero_iff.mp (by omega)
theorem jx_app {α : Type} {a x y : List α} (h : a ++ y = a ++ x) : x = y := (List.append_cancel_left h).symm
theorem jx_at_ok {cc : ByteArray} {own nL rt kd : Nat} : ∀ {bl : jx_B}, (∀ b ∈ bl, jx_okR cc own nL rt kd b.1 b.2 = true) → ∀ t, jx_okR cc own nL rt kd t (jx_at bl t) = true
  | [], _, _ => rfl
  | b :: r, h, t => by
    unfold jx_at
    by_cases hb : b.1 = t
    · rw [if_pos hb, ← hb]
      exact h b List.mem_cons_self
    · rw [if_neg hb]
      exact jx_at_ok (fun q hq => h q (List.mem_cons_of_mem _ hq)) t
theorem jx_fl_in {own d a b : Nat} (h : jx_FL.any (fun q => decide (q.1 = own ∧ q.2.1 = d ∧ q.2.2.1 = a ∧ q.2.2.2.1 = b)) = true) : Cond.fieldLink (jx_nm own) d (jx_nm a) ((jx_cl.getD a ("", jx_T0, 0)).2.1 b).2.1 ((jx_cl.getD a ("", jx_T0, 0)).2.1 b).2.2.1 ∈ lw_g := by
  obtain ⟨q, hq, h1⟩ := List.any_eq_true.mp h
  obtain ⟨rfl, rfl, rfl, rfl⟩ := of_decide_eq_true h1
  exact jx_FL_ok q hq
theorem jx_ml_in {own d a : Nat} (h : jx_ML.any (fun q => decide (q.1 = own ∧ q.2.1 = d ∧ q.2.2.1 = a)) = true) : Cond.methodLink (jx_nm own) d (jx_ys.getD a ⟨"", "", ""⟩) ∈ lw_g := by
  obtain ⟨q, hq, h1⟩ := List.any_eq_true.mp h
  obtain ⟨rfl, rfl, rfl⟩ := of_decide_eq_true h1
  exact jx_ML_ok q hq
theorem jx_kl_in {own d a : Nat} (h : jx_KL.any (fun q => decide (q.1 = own ∧ q.2.1 = d ∧ q.2.2.1 = a)) = true) : Cond.classLink (jx_nm own) d (jx_nm a) ∈ lw_g := by
  obtain ⟨q, hq, h1⟩ := List.any_eq_true.mp h
  obtain ⟨rfl, rfl, rfl⟩ := of_decide_eq_true h1
  exact jx_KL_ok q hq
theorem jx_cl_in {own d : Nat} {x : Int32} (h : jx_CL.any (fun q => decide (q.1 = own ∧ q.2.1 = d ∧ q.2.2.1 = x)) = true) : Cond.constant (jx_nm own) d x ∈ lw_g := by
  obtain ⟨q, hq, h1⟩ := List.any_eq_true.mp h
  obtain ⟨rfl, rfl, rfl⟩ := of_decide_eq_true h1
  exact jx_CL_ok q hq
theorem jx_ol_in {own d : Nat} (h : jx_OL.any (fun q => decide (q.1 = own ∧ q.2.1 = d)) = true) : Cond.methodLink (jx_nm own) d Lib.objectInit ∈ lw_g := by
  obtain ⟨q, hq, h1⟩ := List.any_eq_true.mp h
  obtain ⟨rfl, rfl⟩ := of_decide_eq_true h1
  exact jx_OL_ok q hq
theorem jx_al_in {own d : Nat} (h : jx_AL.any (fun q => decide (q.1 = own ∧ q.2.1 = d)) = true) : Cond.methodLink (jx_nm own) d arraycopyName ∈ lw_g := by
  obtain ⟨q, hq, h1⟩ := List.any_eq_true.mp h
  obtain ⟨rfl, rfl⟩ := of_decide_eq_true h1
  exact jx_AL_ok q hq
theorem jx_ref_ok {c k : Nat} (h : jx_isr c k = true) (hc : c < 12) (hk : k < jx_N c) (a : Nat) : narrow (jx_ty c k) (.ref a) = .ref a ∧ fits (jx_ty c k) (.ref a) = true := by
  have key : ∀ c, c < 12 → ∀ k, k < 64 → jx_isr c k = true → (match jx_ty c k with | .object _ => true | .array _ => true | _ => false) = true := by decide +kernel
  obtain ⟨T, hT⟩ := jx_cls hc
  have hN : jx_N c ≤ 64 := (jx_cl_ok c _ hT).2.1
  have h1 := key c hc k (by omega) h
  cases ht : jx_ty c k <;> rw [ht] at h1 <;> simp at h1 <;> exact ⟨rfl, rfl⟩
section JXQ
variable {p : Program} {l : Launch} {e : Env} {R : Room} {s : State} {m : MethodId} {args : Array Value} {below : List Frame} {meth : Method} {c : Code} {base : Nat} {D : va_G} {cA : Nat → ClassId} {O : Nat → va_E} {cc : ByteArray} {nL own rt kd : Nat} {Q : State → Prop} {cells slots pc : Nat} {ls st : List Value} {h : jx_H}
set_option maxHeartbeats 4000000 in
theorem jx_one (C : jx_Cx p s m args meth c base D cA cc nL own) {bl : jx_B} {e0 : jx_E} {r r' : List jx_E} {ls' st' : List Value} {h1 : jx_H} (hs : jx_s bl e0 r ls st h = some (.inl (r', ls', st', h1))) (hok : jx_okR cc own nL rt kd pc (e0 :: r) = true) (hbl : ∀ b ∈ bl, jx_okR cc own nL rt kd b.1 b.2 = true)
    (hin : kd = 1 → meth.name = "<init>") (hfr : 1 ≤ R.frames) (hlo : 64 ≤ R.locals) (x0 : List (Nat × Nat)) (hG : x0 ≠ [] → jx_G O = 0) (hx : h1.1 = h.1 ++ x0) (hcl : cells + x0.length ≤ R.cells) (hsl : slots + jx_sz x0 ≤ R.slots)
    (kk : ∀ pc', jx_okR cc own nL rt kd pc' r' = true → jx_Go p l e R s m args below meth c base D cA O nL Q (cells + x0.length) (slots + jx_sz x0) pc' ls' st' h1) : jx_Go p l e R s m args below meth c base D cA O nL Q cells slots pc ls st h := by
  simp only [jx_okR, jx_okE, Bool.and_eq_true, decide_eq_true_eq] at hok
  obtain ⟨⟨hpc, hd, hsd⟩, hr⟩ := hok
  have hat := jx_at_ok hbl
  obtain ⟨pc0, op, ⟨a, b, c0, d⟩, x, L⟩ := e0
  simp only at hpc
  subst hpc
  match op, hs, hd, hsd, hr with
  | 0, hs, hd, hsd, hr =>
    simp only [jx_s, jx_n] at hs
    split at hs
    · rename_i v hv
      cases hs; obtain rfl := jx_nil hx
      exact jx_iload_n C (by simpa [jx_side] using hsd) hd hv (kk _ hr)
    · cases hs
  | 1, hs, hd, hsd, hr =>
    simp only [jx_s, jx_n] at hs
    split at hs
    · rename_i v hv
      cases hs; obtain rfl := jx_nil hx
      exact jx_iload C hd hv (kk _ hr)
    · cases hs
  | 2, hs, hd, hsd, hr =>
    simp only [jx_s, jx_n] at hs
    split at hs
    · rename_i v hv
      cases hs; obtain rfl := jx_nil hx
      exact jx_aload_n C (by simpa [jx_side] using hsd) hd hv (kk _ hr)
    · cases hs
  | 3, hs, hd, hsd, hr =>
    simp only [jx_s, jx_n] at hs
    split at hs
    · rename_i v hv
      cases hs; obtain rfl := jx_nil hx
      exact jx_aload C hd hv (kk _ hr)
    · cases hs
  | 4, hs, hd, hsd, hr =>
    simp only [jx_s, jx_n] at hs
    split at hs
    · cases hs; obtain rfl := jx_nil hx
      exact jx_istore_n C (by simp [jx_side] at hsd; exact hsd.1) hd (by simp [jx_side] at hsd; exact hsd.2) (kk _ hr)
    · cases hs
  | 5, hs, hd, hsd, hr =>
    simp only [jx_s, jx_n] at hs
    split at hs
    · cases hs; obtain rfl := jx_nil hx
      exact jx_istore C hd (by simpa [jx_side] using hsd) (kk _ hr)
    · cases hs
  | 6, hs, hd, hsd, hr =>
    simp only [jx_s, jx_n] at hs
    split at hs
    · cases hs; obtain rfl := jx_nil hx
      exact jx_astore_n C (by simp [jx_side] at hsd; exact hsd.1) hd (by simp [jx_side] at hsd; exact hsd.2) (kk _ hr)
    · cases hs
  | 7, hs, hd, hsd, hr =>
    simp only [jx_s, jx_n] at hs
    split at hs
    · cases hs; obtain rfl := jx_nil hx
      exact jx_astore C hd (by simpa [jx_side] using hsd) (kk _ hr)
    · cases hs
  | 8, hs, hd, hsd, hr =>
    simp only [jx_s, jx_n] at hs
    cases hs
    obtain rfl := jx_nil hx
    exact jx_iconst C hd (kk _ hr)
  | 9, hs, hd, hsd, hr =>
    simp only [jx_s, jx_n] at hs
    cases hs
    obtain rfl := jx_nil hx
    exact jx_bipush C (by simpa [jx_side] using hsd) hd (kk _ hr)
  | 10, hs, hd, hsd, hr =>
    simp only [jx_s, jx_n] at hs
    cases hs
    obtain rfl := jx_nil hx
    exact jx_sipush C (by simpa [jx_side] using hsd) hd (kk _ hr)
  | 11, hs, hd, hsd, hr =>
    simp only [jx_s, jx_n] at hs
    cases hs
    obtain rfl := jx_nil hx
    exact jx_ldc C (jx_cl_in hsd) hd (kk _ hr)
  | 12, hs, hd, hsd, hr =>
    simp only [jx_s, jx_n] at hs
    cases hs
    obtain rfl := jx_nil hx
    exact jx_ldc_w C (jx_cl_in hsd) hd (kk _ hr)
  | 13, hs, hd, hsd, hr =>
    simp only [jx_s, jx_n] at hs
    split at hs
    · rename_i v hv
      cases hs; obtain rfl := jx_nil hx
      exact jx_iinc C hd hv (kk _ hr)
    · cases hs
  | 14, hs, hd, hsd, hr =>
    simp only [jx_s, jx_n] at hs
    split at hs
    · cases hs; obtain rfl := jx_nil hx
      exact jx_iadd C hd (kk _ hr)
    · cases hs
  | 15, hs, hd, hsd, hr =>
    simp only [jx_s, jx_n] at hs
    split at hs
    · cases hs; obtain rfl := jx_nil hx
      exact jx_isub C hd (kk _ hr)
    · cases hs
  | 16, hs, hd, hsd, hr =>
    simp only [jx_s, jx_n] at hs
    split at hs
    · cases hs; obtain rfl := jx_nil hx
      exact jx_imul C hd (kk _ hr)
    · cases hs
  | 20, hs, hd, hsd, hr =>
    simp only [jx_s, jx_n] at hs
    split at hs
    · cases hs; obtain rfl := jx_nil hx
      exact jx_iand C hd (kk _ hr)
    · cases hs
  | 21, hs, hd, hsd, hr =>
    simp only [jx_s, jx_n] at hs
    split at hs
    · cases hs; obtain rfl := jx_nil hx
      exact jx_ior C hd (kk _ hr)
    · cases hs
  | 22, hs, hd, hsd, hr =>
    simp only [jx_s, jx_n] at hs
    split at hs
    · cases hs; obtain rfl := jx_nil hx
      exact jx_ixor C hd (kk _ hr)
    · cases hs
  | 23, hs, hd, hsd, hr =>
    simp only [jx_s, jx_n] at hs
    split at hs
    · cases hs; obtain rfl := jx_nil hx
      exact jx_ishl C hd (kk _ hr)
    · cases hs
  | 24, hs, hd, hsd, hr =>
    simp only [jx_s, jx_n] at hs
    split at hs
    · cases hs; obtain rfl := jx_nil hx
      exact jx_ishr C hd (kk _ hr)
    · cases hs
  | 25, hs, hd, hsd, hr =>
    simp only [jx_s, jx_n] at hs
    split at hs
    · cases hs; obtain rfl := jx_nil hx
      exact jx_iushr C hd (kk _ hr)
    · cases hs
  | 19, hs, hd, hsd, hr =>
    simp only [jx_s, jx_n] at hs
    split at hs
    · cases hs; obtain rfl := jx_nil hx
      exact jx_ineg C hd (kk _ hr)
    · cases hs
  | 26, hs, hd, hsd, hr =>
    simp only [jx_s, jx_n] at hs
    split at hs
    · cases hs; obtain rfl := jx_nil hx
      exact jx_i2b C hd (kk _ hr)
    · cases hs
  | 27, hs, hd, hsd, hr =>
    simp only [jx_s, jx_n] at hs
    split at hs
    · cases hs; obtain rfl := jx_nil hx
      exact jx_i2s C hd (kk _ hr)
    · cases hs
  | 17, hs, hd, hsd, hr =>
    simp only [jx_s, jx_n] at hs
    split at hs
    · split at hs
      · cases hs
      · rename_i hy
        cases hs; obtain rfl := jx_nil hx
        exact jx_idiv C hy hd (kk _ hr)
    · cases hs
  | 18, hs, hd, hsd, hr =>
    simp only [jx_s, jx_n] at hs
    split at hs
    · split at hs
      · cases hs
      · rename_i hy
        cases hs; obtain rfl := jx_nil hx
        exact jx_irem C hy hd (kk _ hr)
    · cases hs
  | 28, hs, hd, hsd, hr =>
    simp only [jx_s, jx_n] at hs
    split at hs
    · cases hs; obtain rfl := jx_nil hx
      exact jx_dup C rfl hd (kk _ hr)
    · cases hs; obtain rfl := jx_nil hx
      exact jx_dup C rfl hd (kk _ hr)
    · cases hs
  | 29, hs, hd, hsd, hr =>
    simp only [jx_s, jx_n] at hs
    split at hs
    · cases hs; obtain rfl := jx_nil hx
      exact jx_dup2 C rfl rfl hd (kk _ hr)
    · cases hs
  | 30, hs, hd, hsd, hr =>
    simp only [jx_s, jx_n] at hs
    split at hs
    · cases hs; obtain rfl := jx_nil hx
      exact jx_dup_x1 C rfl rfl hd (kk _ hr)
    · cases hs
  | 31, hs, hd, hsd, hr =>
    simp only [jx_s, jx_n] at hs
    split at hs
    · cases hs; obtain rfl := jx_nil hx
      exact jx_pop C rfl hd (kk _ hr)
    · cases hs
  | 32, hs, hd, hsd, hr =>
    simp only [jx_s, jx_n] at hs
    simp only [jx_side, Bool.and_eq_true, decide_eq_true_eq, Bool.not_eq_true'] at hsd
    obtain ⟨⟨⟨ha, hb⟩, hi⟩, hf⟩ := hsd
    split at hs
    · split at hs
      · rename_i ho
        cases hs; obtain rfl := jx_nil hx
        have hb64 : b < 64 := by
          obtain ⟨T, hT⟩ := jx_cls ha
          exact Nat.lt_of_lt_of_le hb (jx_cl_ok a _ hT).2.1
        exact jx_get C ha hb ho (jx_fl_in hf) hd (by simp [jx_f, hb64, hi, jx_V]) (kk _ hr)
      · cases hs
    · cases hs
  | 33, hs, hd, hsd, hr =>
    simp only [jx_s, jx_n] at hs
    simp only [jx_side, Bool.and_eq_true, decide_eq_true_eq, Bool.not_eq_true'] at hsd
    obtain ⟨⟨⟨ha, hb⟩, hi⟩, hf⟩ := hsd
    split at hs
    · split at hs
      · rename_i ho
        cases hs; obtain rfl := jx_nil hx
        have hb64 : b < 64 := by
          obtain ⟨T, hT⟩ := jx_cls ha
          exact Nat.lt_of_lt_of_le hb (jx_cl_ok a _ hT).2.1
        exact jx_get C ha hb ho (jx_fl_in hf) hd (by simp [jx_f, hb64, hi, jx_V]) (kk _ hr)
      · cases hs
    · cases hs
  | 34, hs, hd, hsd, hr =>
    simp only [jx_s, jx_n] at hs
    simp only [jx_side, Bool.and_eq_true, decide_eq_true_eq] at hsd
    obtain ⟨⟨ha, hb, hty, hfi⟩, hf⟩ := hsd
    split at hs
    · split at hs
      · rename_i ho
        cases hs; obtain rfl := jx_nil hx
        have hb64 : b < 64 := by
          obtain ⟨T, hT⟩ := jx_cls ha
          exact Nat.lt_of_lt_of_le hb (jx_cl_ok a _ hT).2.1
        have hi : jx_isr a b = false := by simp [jx_isr, hty]
        have k2 := kk _ hr
        refine jx_put C ha hb ho (jx_fl_in hf) hd (Or.inl hfi) ?_ ?_ ?_ ?_ ?_ ?_ k2
        · rw [hty]; rfl
        · rw [hty]; rfl
        · rfl
        · rfl
        · exact fun q hq => ⟨rfl, by simp [jx_up, hq]⟩
        · simp [jx_f, hb64, hi, jx_V, jx_up]
      · cases hs
    · cases hs
  | 35, hs, hd, hsd, hr =>
    simp only [jx_s, jx_n] at hs
    simp only [jx_side, Bool.and_eq_true, decide_eq_true_eq] at hsd
    obtain ⟨⟨ha, hb, hty, hfi⟩, hf⟩ := hsd
    split at hs
    · split at hs
      · rename_i hov
        obtain ⟨ho, hv01⟩ := hov
        cases hs; obtain rfl := jx_nil hx
        have hb64 : b < 64 := by
          obtain ⟨T, hT⟩ := jx_cls ha
          exact Nat.lt_of_lt_of_le hb (jx_cl_ok a _ hT).2.1
        have hi : jx_isr a b = false := by simp [jx_isr, hty]
        have k2 := kk _ hr
        refine jx_put C ha hb ho (jx_fl_in hf) hd (Or.inl hfi) ?_ ?_ ?_ ?_ ?_ ?_ k2
        · rw [hty]; rcases hv01 with rfl | rfl <;> rfl
        · rw [hty]; rcases hv01 with rfl | rfl <;> rfl
        · rfl
        · rfl
        · exact fun q hq => ⟨rfl, by simp [jx_up, hq]⟩
        · simp [jx_f, hb64, hi, jx_V, jx_up]
      · cases hs
    · cases hs
  | 36, hs, hd, hsd, hr =>
    simp only [jx_s, jx_n] at hs
    simp only [jx_side, Bool.and_eq_true, decide_eq_true_eq] at hsd
    obtain ⟨⟨⟨ha, hb, hfi⟩, hi⟩, hf⟩ := hsd
    split at hs
    · split at hs
      · rename_i ho
        cases hs; obtain rfl := jx_nil hx
        have hb64 : b < 64 := by
          obtain ⟨T, hT⟩ := jx_cls ha
          exact Nat.lt_of_lt_of_le hb (jx_cl_ok a _ hT).2.1
        have k2 := kk _ hr
        refine jx_put C ha hb ho (jx_fl_in hf) hd (Or.inl hfi) ?_ ?_ ?_ ?_ ?_ ?_ k2
        · exact (jx_ref_ok hi ha hb _).1
        · exact (jx_ref_ok hi ha hb _).2
        · rfl
        · rfl
        · exact fun q hq => ⟨by simp [jx_up, hq], rfl⟩
        · simp [jx_f, hb64, hi, jx_V, jx_up]
      · cases hs
    · cases hs
  | 37, hs, hd, hsd, hr =>
    simp only [jx_s, jx_n] at hs
    simp only [jx_side, Bool.and_eq_true, decide_eq_true_eq] at hsd
    obtain ⟨⟨⟨ha, hb, hfi, hkd, hoa⟩, hi⟩, hf⟩ := hsd
    split at hs
    · split at hs
      · rename_i ho
        cases hs; obtain rfl := jx_nil hx
        have hb64 : b < 64 := by
          obtain ⟨T, hT⟩ := jx_cls ha
          exact Nat.lt_of_lt_of_le hb (jx_cl_ok a _ hT).2.1
        have k2 := kk _ hr
        refine jx_put C ha hb ho (jx_fl_in hf) hd (Or.inr ⟨hfi, hin hkd, hoa⟩) ?_ ?_ ?_ ?_ ?_ ?_ k2
        · exact (jx_ref_ok hi ha hb _).1
        · exact (jx_ref_ok hi ha hb _).2
        · rfl
        · rfl
        · exact fun q hq => ⟨by simp [jx_up, hq], rfl⟩
        · simp [jx_f, hb64, hi, jx_V, jx_up]
      · cases hs
    · cases hs
  | 38, hs, hd, hsd, hr =>
    simp only [jx_s, jx_n] at hs
    split at hs
    · split at hs
      · rename_i n ho
        split at hs
        · rename_i hin
          cases hs; obtain rfl := jx_nil hx
          exact jx_iaload C ho hin hd (kk _ hr)
        · cases hs
      · cases hs
    · cases hs
  | 39, hs, hd, hsd, hr =>
    simp only [jx_s, jx_n] at hs
    split at hs
    · split at hs
      · rename_i n ho
        split at hs
        · rename_i hin
          cases hs; obtain rfl := jx_nil hx
          exact jx_baload C ho hin hd (kk _ hr)
        · cases hs
      · rename_i n ho
        split at hs
        · rename_i hin
          cases hs; obtain rfl := jx_nil hx
          exact jx_zaload C ho hin hd (kk _ hr)
        · cases hs
      · cases hs
    · cases hs
  | 40, hs, hd, hsd, hr => cases hs
  | 41, hs, hd, hsd, hr =>
    simp only [jx_s, jx_n] at hs
    split at hs
    · split at hs
      · rename_i n ho
        split at hs
        · rename_i hin
          cases hs; obtain rfl := jx_nil hx
          exact jx_iastore C ho hin hd (kk _ hr)
        · cases hs
      · cases hs
    · cases hs
  | 42, hs, hd, hsd, hr =>
    simp only [jx_s, jx_n] at hs
    split at hs
    · split at hs
      · rename_i n ho
        split at hs
        · rename_i hin
          cases hs; obtain rfl := jx_nil hx
          exact jx_bastore C ho hin hd (kk _ hr)
        · cases hs
      · rename_i n ho
        split at hs
        · rename_i hin
          cases hs; obtain rfl := jx_nil hx
          exact jx_zastore C ho hin hd (kk _ hr)
        · cases hs
      · cases hs
    · cases hs
  | 43, hs, hd, hsd, hr => cases hs
  | 44, hs, hd, hsd, hr =>
    simp only [jx_s, jx_n] at hs
    split at hs
    · split at hs
      · rename_i n ho
        split at hs
        · rename_i hin
          split at hs
          · rename_i hv
            cases hs; obtain rfl := jx_nil hx
            exact jx_aaload C ho hin.1 hin.2 hv hd (kk _ hr)
          · cases hs
        · cases hs
      · cases hs
    · cases hs
  | 45, hs, hd, hsd, hr =>
    simp only [jx_s, jx_n] at hs
    split at hs
    · split at hs
      · rename_i n ho
        split at hs
        · rename_i hin
          cases hs; obtain rfl := jx_nil hx
          exact jx_aastore C ho hin.1 hin.2.1 hin.2.2 hd (kk _ hr)
        · cases hs
      · cases hs
    · cases hs
  | 46, hs, hd, hsd, hr =>
    simp only [jx_s, jx_n] at hs
    have ha3 : a < 3 := by simpa [jx_side] using hsd
    split at hs
    · split at hs
      · rename_i ho
        cases hs
        obtain rfl := jx_app hx
        match a, ha3, hd with
        | 0, _, hd => exact jx_newi C (hG (by simp)) ho.1 ho.2 hcl hsl hd (kk _ hr)
        | 1, _, hd => exact jx_newb C (hG (by simp)) ho.1 ho.2 hcl hsl hd (kk _ hr)
        | 2, _, hd => exact jx_newz C (hG (by simp)) ho.1 ho.2 hcl hsl hd (kk _ hr)
      · cases hs
    · cases hs
  | 47, hs, hd, hsd, hr =>
    simp only [jx_s, jx_n] at hs
    split at hs
    · split at hs
      · rename_i ho
        cases hs
        obtain rfl := jx_app hx
        exact jx_anew C (hG (by simp)) (jx_kl_in hsd) ho.1 ho.2 hcl hsl hd (kk _ hr)
      · cases hs
    · cases hs
  | 48, hs, hd, hsd, hr =>
    simp only [jx_s, jx_n] at hs
    simp only [jx_side, Bool.and_eq_true, decide_eq_true_eq] at hsd
    cases hs
    obtain rfl := jx_app hx
    exact jx_new C (hG (by simp)) hsd.1.1 hsd.1.2 (jx_kl_in hsd.2) hcl hsl hd (kk _ hr)
  | 49, hs, hd, hsd, hr =>
    simp only [jx_s] at hs
    split at hs
    · split at hs <;> cases hs
    · cases hs
  | 50, hs, hd, hsd, hr =>
    simp only [jx_s] at hs
    split at hs <;> cases hs
  | 51, hs, hd, hsd, hr =>
    simp only [jx_s] at hs
    split at hs
    · split at hs <;> cases hs
    · cases hs
  | 52, hs, hd, hsd, hr =>
    simp only [jx_s, jx_n] at hs
    split at hs
    · split at hs
      · rename_i h8
        cases hs; obtain rfl := jx_nil hx
        exact jx_oinit C (jx_ol_in hsd) h8 hfr hlo hd (kk _ hr)
      · cases hs
    · cases hs
  | 53, hs, hd, hsd, hr =>
    simp only [jx_s, jx_n] at hs
    split at hs
    · split at hs
      · rename_i ho1 ho2
        split at hs
        · rename_i ho
          cases hs; obtain rfl := jx_nil hx
          exact jx_acopy C (jx_al_in hsd) ho1 ho2 ho.1 ho.2.1 ho.2.2.1 ho.2.2.2.1 ho.2.2.2.2.1 ho.2.2.2.2.2 hfr hlo hd (kk _ hr)
        · cases hs
      · cases hs
    · cases hs
  | 54, hs, hd, hsd, hr =>
    simp only [jx_s, jx_n] at hs
    cases hs
    obtain rfl := jx_nil hx
    exact jx_goto C hd (kk _ (hat a))
  | 55, hs, hd, hsd, hr =>
    simp only [jx_s, jx_n] at hs
    split at hs
    · cases hs; obtain rfl := jx_nil hx
      exact jx_if_eq C hd (fun q => by rw [if_pos q] at kk; exact kk _ (hat a)) (fun q => by rw [if_neg q] at kk; exact kk _ hr)
    · cases hs
  | 56, hs, hd, hsd, hr =>
    simp only [jx_s, jx_n] at hs
    split at hs
    · cases hs; obtain rfl := jx_nil hx
      exact jx_if_ne C hd (fun q => by rw [if_pos q] at kk; exact kk _ (hat a)) (fun q => by rw [if_neg q] at kk; exact kk _ hr)
    · cases hs
  | 57, hs, hd, hsd, hr =>
    simp only [jx_s, jx_n] at hs
    split at hs
    · cases hs; obtain rfl := jx_nil hx
      exact jx_if_lt C hd (fun q => by rw [if_pos q] at kk; exact kk _ (hat a)) (fun q => by rw [if_neg q] at kk; exact kk _ hr)
    · cases hs
  | 58, hs, hd, hsd, hr =>
    simp only [jx_s, jx_n] at hs
    split at hs
    · cases hs; obtain rfl := jx_nil hx
      exact jx_if_ge C hd (fun q => by rw [if_pos q] at kk; exact kk _ (hat a)) (fun q => by rw [if_neg q] at kk; exact kk _ hr)
    · cases hs
  | 59, hs, hd, hsd, hr =>
    simp only [jx_s, jx_n] at hs
    split at hs
    · cases hs; obtain rfl := jx_nil hx
      exact jx_if_gt C hd (fun q => by rw [if_pos q] at kk; exact kk _ (hat a)) (fun q => by rw [if_neg q] at kk; exact kk _ hr)
    · cases hs
  | 60, hs, hd, hsd, hr =>
    simp only [jx_s, jx_n] at hs
    split at hs
    · cases hs; obtain rfl := jx_nil hx
      exact jx_if_le C hd (fun q => by rw [if_pos q] at kk; exact kk _ (hat a)) (fun q => by rw [if_neg q] at kk; exact kk _ hr)
    · cases hs
  | 61, hs, hd, hsd, hr =>
    simp only [jx_s, jx_n] at hs
    split at hs
    · cases hs; obtain rfl := jx_nil hx
      exact jx_icmp_eq C hd (fun q => by rw [if_pos q] at kk; exact kk _ (hat a)) (fun q => by rw [if_neg q] at kk; exact kk _ hr)
    · cases hs
  | 62, hs, hd, hsd, hr =>
    simp only [jx_s, jx_n] at hs
    split at hs
    · cases hs; obtain rfl := jx_nil hx
      exact jx_icmp_ne C hd (fun q => by rw [if_pos q] at kk; exact kk _ (hat a)) (fun q => by rw [if_neg q] at kk; exact kk _ hr)
    · cases hs
  | 63, hs, hd, hsd, hr =>
    simp only [jx_s, jx_n] at hs
    split at hs
    · cases hs; obtain rfl := jx_nil hx
      exact jx_icmp_lt C hd (fun q => by rw [if_pos q] at kk; exact kk _ (hat a)) (fun q => by rw [if_neg q] at kk; exact kk _ hr)
    · cases hs
  | 64, hs, hd, hsd, hr =>
    simp only [jx_s, jx_n] at hs
    split at hs
    · cases hs; obtain rfl := jx_nil hx
      exact jx_icmp_ge C hd (fun q => by rw [if_pos q] at kk; exact kk _ (hat a)) (fun q => by rw [if_neg q] at kk; exact kk _ hr)
    · cases hs
  | 65, hs, hd, hsd, hr =>
    simp only [jx_s, jx_n] at hs
    split at hs
    · cases hs; obtain rfl := jx_nil hx
      exact jx_icmp_gt C hd (fun q => by rw [if_pos q] at kk; exact kk _ (hat a)) (fun q => by rw [if_neg q] at kk; exact kk _ hr)
    · cases hs
  | 66, hs, hd, hsd, hr =>
    simp only [jx_s, jx_n] at hs
    split at hs
    · cases hs; obtain rfl := jx_nil hx
      exact jx_icmp_le C hd (fun q => by rw [if_pos q] at kk; exact kk _ (hat a)) (fun q => by rw [if_neg q] at kk; exact kk _ hr)
    · cases hs
  | 67, hs, hd, hsd, hr =>
    simp only [jx_s, jx_n] at hs
    split at hs
    · cases hs; obtain rfl := jx_nil hx
      refine jx_tsw C (fun i q hq => ?_) hd (kk _ (hat _))
      have h1 := List.all_eq_true.mp hsd (q, i) (List.mem_of_getElem? (i := i) (by rw [List.getElem?_zipIdx, hq]; simp))
      simpa using h1
    · cases hs
  | 68, hs, hd, hsd, hr =>
    simp only [jx_s, jx_n] at hs
    split at hs
    · cases hs; obtain rfl := jx_nil hx
      exact jx_lsw C hsd hd (kk _ (hat _))
    · cases hs
  | 69, hs, hd, hsd, hr =>
    simp only [jx_s] at hs
    split at hs <;> cases hs
  | 70, hs, hd, hsd, hr =>
    simp only [jx_s] at hs
    split at hs
    · split at hs <;> cases hs
    · cases hs
  | 71, hs, hd, hsd, hr =>
    simp only [jx_s] at hs
    split at hs <;> cases hs
  | 72, hs, hd, hsd, hr =>
    simp only [jx_s, jx_n] at hs
    simp only [jx_side, Bool.and_eq_true, decide_eq_true_eq] at hsd
    split at hs
    · split at hs
      · rename_i h8
        cases hs; obtain rfl := jx_nil hx
        have hw := jx_ml_in hsd.1
        rw [hsd.2] at hw
        exact jx_mmax C hw h8 hfr hlo (by simpa using hcl) (by simpa [jx_sz] using hsl) hd (kk _ hr)
      · cases hs
    · cases hs
  | 73, hs, hd, hsd, hr =>
    simp only [jx_s, jx_n] at hs
    simp only [jx_side, Bool.and_eq_true, decide_eq_true_eq] at hsd
    split at hs
    · split at hs
      · rename_i h8
        cases hs; obtain rfl := jx_nil hx
        have hw := jx_ml_in hsd.1
        rw [hsd.2] at hw
        exact jx_mmin C hw h8 hfr hlo (by simpa using hcl) (by simpa [jx_sz] using hsl) hd (kk _ hr)
      · cases hs
    · cases hs
  | n + 74, hs, hd, hsd, hr => cases hs
end JXQ
end
section
/-! ===== what the small machine answers, the machine does ===== -/
def jx_rt (r : Option FieldType) : Nat := match r with
  | none => 0
  | some .int => 1
  | some .boolean => 2
  | _ => 3
def jx_okM (m : Nat) (i : jx_M) : Prop :=
  jx_ys[m]? = some i.1 ∧ i.1.cls = jx_nm i.2.2.2.2.2.2.1 ∧ plainName i.1.cls = true ∧ (i.1.cls ≠ "java/lang/invoke/MethodHandle" ∧ i.1.cls ≠ "java/lang/invoke/VarHandle") ∧
  (parseMethodDescriptor i.1.desc).map (fun d => d.parameters.length) = some (if i.2.2.2.2.1 = 2 then i.2.2.2.2.2.1 else i.2.2.2.2.2.1 - 1) ∧
  Cond.code i.1 i.2.1 i.2.2.1 i.2.2.2.1 ∈ lw_g ∧ Cond.initialized i.1.cls ∈ lw_g ∧
  (i.2.2.2.2.1 = 0 → Cond.instanceMethod i.1 ∈ lw_g ∧ Cond.selects i.1.cls i.1 i.1 ∈ lw_g ∧ i.2.2.2.2.2.2.1 < 12) ∧
  (i.2.2.2.2.1 = 1 → i.1.name = "<init>" ∧ Cond.instanceMethod i.1 ∈ lw_g ∧ i.2.2.2.1 = none) ∧
  (i.2.2.2.2.1 = 2 → Cond.static i.1 ∈ lw_g) ∧ i.2.2.1 ≤ 40 ∧ i.2.2.2.2.2.1 ≤ i.2.2.1 ∧ jx_rt i.2.2.2.1 < 3 ∧ jx_kc[m]? = some (i.2.2.2.2.1, i.2.2.2.2.2.2.1) ∧
  ∀ b ∈ i.2.2.2.2.2.2.2, jx_okR i.2.1 i.2.2.2.2.2.2.1 i.2.2.1 (jx_rt i.2.2.2.1) i.2.2.2.2.1 b.1 b.2 = true
set_option maxHeartbeats 4000000 in
theorem jx_grow1 {bl : jx_B} {e0 : jx_E} {r r' : List jx_E} {ls st ls' st' : List Value} {h h1 : jx_H} (hs : jx_s bl e0 r ls st h = some (.inl (r', ls', st', h1))) : ∃ x, h1.1 = h.1 ++ x := by
  obtain ⟨pc0, op, ⟨a, b, c0, d⟩, x, L⟩ := e0
  unfold jx_s at hs
  simp only [jx_n] at hs
  split at hs
  all_goals (repeat' (split at hs))
  all_goals (first | (cases hs; exact ⟨[], (List.append_nil _).symm⟩) | (cases hs; exact ⟨[_], rfl⟩) | cases hs)
theorem jx_grow {MS : List jx_M} : ∀ (n d : Nat) (bl : jx_B) (rem : List jx_E) (ls st : List Value) (h : jx_H) (v : Option Value) (h' : jx_H), jx_x MS d n bl rem ls st h = some (v, h') → ∃ x, h'.1 = h.1 ++ x
  | 0, d, bl, rem, ls, st, h, v, h', hx => by cases hx
  | n + 1, d, bl, [], ls, st, h, v, h', hx => by cases hx
  | n + 1, d, bl, e :: r, ls, st, h, v, h', hx => by
    unfold jx_x at hx
    simp only at hx
    split at hx
    · cases hx
    · rename_i q hq
      obtain ⟨q1, q2, q3, q4⟩ := q
      obtain ⟨x1, e1⟩ := jx_grow1 hq
      obtain ⟨x2, e2⟩ := jx_grow n _ _ _ _ _ _ _ _ hx
      exact ⟨x1 ++ x2, by rw [e2]; simp only; rw [e1, List.append_assoc]⟩
    · cases hx
      exact ⟨[], (List.append_nil _).symm⟩
    · split at hx
      · split at hx
        · split at hx
          · rename_i y hy
            obtain ⟨x1, e1⟩ := jx_grow n _ _ _ _ _ _ _ _ hy
            obtain ⟨x2, e2⟩ := jx_grow n _ _ _ _ _ _ _ _ hx
            exact ⟨x1 ++ x2, by rw [e2, e1, List.append_assoc]⟩
          · cases hx
        · cases hx
      · cases hx
def jx_Bd (base : Nat) (D : va_G) (cA : Nat → ClassId) (O : Nat → va_E) (h : jx_H) (U : State) : Prop := va_P D jx_cl (jx_ws base cA O h) U.heap ∧ jx_KK D cA U ∧ U.heap.size = base + h.1.length + jx_G O
def jx_Qc (base : Nat) (D : va_G) (cA : Nat → ClassId) (O : Nat → va_E) (v : Option Value) (h' : jx_H) : Array Value → State → Outcome → State → Prop := fun _ st o t =>
  (o = .returned (v.map (jx_V base)) ∧ jx_Bd base D cA O h' t) ∧ va_F (fun q => base ≤ q) st t
def jx_rm (d mc ms : Nat) : Room := { frames := d + 1, cells := mc, slots := ms, locals := 64 * (d + 1) }
def jx_wsM (i : jx_M) : List Cond := Cond.code i.1 i.2.1 i.2.2.1 i.2.2.2.1 :: lw_g
def jx_MetM (l : Launch) (base : Nat) (D : va_G) (cA : Nat → ClassId) (O : Nat → va_E) (d : Nat) (i : jx_M) (as : List Value) (h : jx_H) (v : Option Value) (h' : jx_H) (x : List (Nat × Nat)) : Prop :=
  Met l i.1 (jx_wsM i) (jx_rm d x.length (jx_sz x)) (va_Pc (as.map (jx_V base)) (jx_Bd base D cA O h)) (jx_Qc base D cA O v h') x.length (jx_sz x) (fun q => base ≤ q)
theorem jx_good {m : Nat} {i : jx_M} (h : jx_okM m i) : GoodIn lw_g (jx_wsM i) := by
  intro w hw
  have hm : w ∈ lw_g := by
    rcases List.mem_cons.mp hw with rfl | hw
    · exact h.2.2.2.2.2.1
    · exact hw
  exact ⟨hm, good_of_word (List.mem_filter.mp hm).2⟩
theorem jx_blind {base : Nat} {D : va_G} {cA : Nat → ClassId} {O : Nat → va_E} {as : List Value} {h : jx_H} : FrameBlind (va_Pc as (jx_Bd base D cA O h)) := fun a U g mk q => ⟨q.1, q.2.1, jx_KK.moved (u := U) (U := U.calling g mk a) (Vm.Alike.refl U.vm) q.2.2.1, q.2.2.2⟩
section JXS
variable {p : Program} {l : Launch} {e : Env} {R : Room} {s : State} {m : MethodId} {args : Array Value} {below : List Frame} {meth : Method} {c : Code} {base : Nat} {D : va_G} {cA : Nat → ClassId} {O : Nat → va_E} {cc : ByteArray} {nL own : Nat} {Q : State → Prop} {cells slots pc : Nat} {ls st : List Value} {h : jx_H}
theorem jx_after {H : Heap} {locs : List Loc} {lsA : Array Slot} {st0 rest : List Value} {mc ms : Nat} {v : Option Value} {h1 : jx_H} {av : Array Value} (hr : va_Run p l e R s m args below meth c H locs cells slots mc ms (F0 m pc lsA st0) rest (jx_Qc base D cA O v h1 av) (fun q => base ≤ q)) (hS : va_S (fun q => base ≤ q) s.heap H locs) (hL : jx_L base ls lsA nL) (hrest : rest = st.map (jx_V base))
    (kk : jx_Go p l e R s m args below meth c base D cA O nL Q (cells + mc) (slots + ms) (pc + 3) ls (v.toList ++ st) h1) : W p l e R s m args below meth c H locs cells slots Q (F0 m pc lsA st0) := by
  intro T hT X
  obtain ⟨v', st₀, t, T', L, h0, X', hLo, e1, e2, ⟨⟨hv, hP1, hK1, hz1⟩, hz, hk⟩, stp⟩ := hr T hT X
  have hv2 : v' = v.map (jx_V base) := Outcome.returned.inj hv
  subst hv2
  rw [h0] at hz hk
  obtain ⟨t2, a1, b1⟩ := kk T'.heap (locs ++ L) lsA (by rw [e1]; exact hP1) (by rw [e1]; exact hz1)
    ⟨Nat.le_trans hS.1 (by rw [e1]; exact hz), fun q h1 h2 => by rw [e1, hk q (Nat.lt_of_lt_of_le h1 hS.1) h2]; exact hS.2.1 q h1 h2, fun q hq => by
      rcases List.mem_append.mp hq with h | h
      · exact hS.2.2 q h
      · exact hLo q h⟩ hL T' rfl X'
  refine ⟨t2, stp t2 ?_, b1⟩
  have e3 : (v.toList ++ st).map (jx_V base) = (v.map (jx_V base)).toList ++ rest := by
    rw [hrest, List.map_append]
    cases v <;> rfl
  rw [e3] at a1
  exact a1
theorem jx_cat_map (st : List Value) : ((st.map (jx_V base)).map fun v => v.category) = st.map fun v => v.category := by
  rw [List.map_map]
  exact List.map_congr_left fun v _ => jx_V_cat base v
theorem jx_callB {m0 d' : Nat} {i : jx_M} {x1 : List (Nat × Nat)} {d : Nat} (C : jx_Cx p s m args meth c base D cA cc nL own) (hi : jx_okM m0 i) (hw : Cond.methodLink (jx_nm own) d i.1 ∈ lw_g) (hfr : d' + 1 + 1 ≤ R.frames) (hlo : 64 * (d' + 1 + 1) ≤ R.locals) {n0 : Nat} (hn0 : n0 = (if i.2.2.2.2.1 = 2 then i.2.2.2.2.2.1 else i.2.2.2.2.2.1 - 1)) :
    CallB R s args (jx_nm own) d i.1 i.2.1 i.2.2.1 i.2.2.2.1 (jx_wsM i) (jx_rm d' x1.length (jx_sz x1)) x1.length (jx_sz x1) n0 := by
  have hts := C.2.2.2.2.1
  have h40 := hi.2.2.2.2.2.2.2.2.2.2.1
  refine callB_of (Ts := lw_g) n0 hts (jx_good hi) rfl rfl rfl (hts _ hi.2.2.2.2.2.2.1) (hts _ hw) ⟨hi.2.2.2.1.1, hi.2.2.2.1.2, ?_⟩ ⟨hfr, ?_⟩
  · rw [hn0]; exact hi.2.2.2.2.1
  · show 8 + (i.2.2.1 + 11) + 64 * (d' + 1) ≤ R.locals
    omega
/-- a call of a method of the small machine -/
theorem jx_call {m0 d' : Nat} {i : jx_M} {as : List Value} {h1 : jx_H} {v : Option Value} {x1 : List (Nat × Nat)} {op a b c0 d : Nat} {x : Int32} {L : List (Int32 × Nat)} {bl : jx_B} {r r' : List jx_E} {ls' st' : List Value} (C : jx_Cx p s m args meth c base D cA cc nL own) (hi : jx_okM m0 i)
    (hM : jx_MetM l base D cA O d' i as h v h1 x1) (hs : jx_s bl (pc, op, (a, b, c0, d), x, L) r ls st h = some (.inr (.inl (m0, as, r', ls', st')))) (hlen : as.length = i.2.2.2.2.2.1) (hd : decode cc pc = .ok (jx_ins (pc, op, (a, b, c0, d), x, L))) {rt kd : Nat} (hsd : jx_side own nL rt kd (pc, op, (a, b, c0, d), x, L) = true)
    (hfr : d' + 1 + 1 ≤ R.frames) (hlo : 64 * (d' + 1 + 1) ≤ R.locals) (hcl : cells + x1.length ≤ R.cells) (hsl : slots + jx_sz x1 ≤ R.slots)
    (kk : jx_Go p l e R s m args below meth c base D cA O nL Q (cells + x1.length) (slots + jx_sz x1) (pc + 3) ls' (v.toList ++ st') h1) : r' = r ∧ jx_Go p l e R s m args below meth c base D cA O nL Q cells slots pc ls st h := by
  have hys : jx_ys.getD m0 ⟨"", "", ""⟩ = i.1 := by rw [List.getD_eq_getElem?_getD, hi.1]; rfl
  have hpre : ∀ (H : Heap), va_P D jx_cl (jx_ws base cA O h) H → H.size = base + h.1.length + jx_G O → ∀ U : State, U.heap = H → s.WarmedH U.vm → va_Pc (as.map (jx_V base)) (jx_Bd base D cA O h) (as.map (jx_V base)).toArray U := fun H hP hz U hU hW => ⟨rfl, by rw [hU]; exact hP, jx_KK.moved hW.alike C.2.2.2.2.2.1, by rw [hU]; exact hz⟩
  by_cases h49 : op = 49
  · subst h49
    simp only [jx_s] at hs
    split at hs
    · rename_i o as' hrev
      split at hs
      · rename_i hc
        simp only [Option.some.injEq, Sum.inr.injEq, Sum.inl.injEq, Prod.mk.injEq] at hs
        obtain ⟨rfl, rfl, rfl, rfl, rfl⟩ := hs
        refine ⟨rfl, fun H locs lsA hP hz hS hL => ?_⟩
        have hkc := hi.2.2.2.2.2.2.2.2.2.2.2.2.2.1
        simp only [jx_side, Bool.and_eq_true, decide_eq_true_eq] at hsd
        obtain ⟨hsd, hkd⟩ := hsd
        rw [hkc] at hkd
        obtain ⟨hk0, hc0⟩ : i.2.2.2.2.1 = 0 ∧ c0 = i.2.2.2.2.2.2.1 := by
          simp only [Option.some.injEq, Prod.mk.injEq] at hkd
          exact ⟨hkd.1, hkd.2.symm⟩
        obtain ⟨hi1, hi2, hi3⟩ := hi.2.2.2.2.2.2.2.1 hk0
        have hw := jx_ml_in hsd
        rw [hys] at hw
        have hlb : as'.length + 1 = b := hc.2.1
        have hst : st = as'.reverse ++ .ref o :: st.drop b := by
          have h1 : st.take b = (.ref o :: as').reverse := by rw [← hrev, List.reverse_reverse]
          have h2 := List.take_append_drop b st
          rw [h1, List.reverse_cons, List.append_assoc] at h2
          exact h2.symm
        obtain ⟨hl1, lv, hl2, hl3⟩ := id hL
        refine jx_after (mc := x1.length) (ms := jx_sz x1) (rest := (st.drop b).map (jx_V base)) (va_runV (C := i.1.cls) (b := base + o) (As := as'.map (jx_V base)) (n := as'.length) (index := d) (own := jx_nm own) (Ts := lw_g) (cc := cc) (nL := nL) ⟨C.1, C.2.1, C.2.2.1, C.2.2.2.1, C.2.2.2.2.1⟩ hM ⟨jx_callB C hi hw hfr hlo (by rw [if_neg (by omega)]; rw [List.length_cons] at hlen; omega), C.2.2.2.2.1 _ hi1, C.2.2.2.2.1 _ hi2⟩ ⟨jx_blind, ?_, hpre H hP hz⟩ rfl (by rw [List.length_map]) (by show lsA.size = nL; rw [hl2.1]) ?_ ?_ hd ⟨hcl, hsl⟩) hS hL rfl kk
        · obtain ⟨T, hT⟩ := jx_cls hi3
          rw [hi.2.1, ← hc0]
          rw [← hc0] at hT
          exact va_recv C.2.2.2.2.2.1.1 hP hT (jx_obj_at hc.1)
        · show st.map (jx_V base) = _
          rw [← List.map_reverse]
          conv => lhs; rw [hst]
          rw [List.map_append]
          rfl
        · show 2 * 0 + _ ≤ 8
          rw [jx_cat_map]
          have : ((st.drop b).map fun v => v.category).sum ≤ 8 := hc.2.2
          omega
      · cases hs
    · cases hs
  · by_cases h50 : op = 50
    · subst h50
      simp only [jx_s] at hs
      split at hs
      · rename_i hc
        simp only [Option.some.injEq, Sum.inr.injEq, Sum.inl.injEq, Prod.mk.injEq] at hs
        obtain ⟨rfl, rfl, rfl, rfl, rfl⟩ := hs
        refine ⟨rfl, fun H locs lsA hP hz hS hL => ?_⟩
        have hkc := hi.2.2.2.2.2.2.2.2.2.2.2.2.2.1
        simp only [jx_side, Bool.and_eq_true, decide_eq_true_eq] at hsd
        obtain ⟨hsd, hkd⟩ := hsd
        rw [hkc] at hkd
        have hk0 : i.2.2.2.2.1 = 2 := by simpa using hkd
        have hi1 := hi.2.2.2.2.2.2.2.2.2.1 hk0
        have hw := jx_ml_in hsd
        rw [hys] at hw
        obtain ⟨hl1, lv, hl2, hl3⟩ := id hL
        refine jx_after (mc := x1.length) (ms := jx_sz x1) (rest := (st.drop b).map (jx_V base)) (va_runS (As := (st.take b).reverse.map (jx_V base)) (n := (st.take b).reverse.length) (index := d) (own := jx_nm own) (Ts := lw_g) (cc := cc) (nL := nL) ⟨C.1, C.2.1, C.2.2.1, C.2.2.2.1, C.2.2.2.2.1⟩ hM ⟨jx_callB C hi hw hfr hlo (by rw [if_pos hk0]; exact hlen), C.2.2.2.2.1 _ hi1⟩ ⟨jx_blind, hpre H hP hz⟩ rfl (by rw [List.length_map]) (by show lsA.size = nL; rw [hl2.1]) ?_ ?_ hd ⟨hcl, hsl⟩) hS hL rfl kk
        · show st.map (jx_V base) = _
          rw [← List.map_reverse, List.reverse_reverse, ← List.map_append, List.take_append_drop]
        · show 2 * 0 + _ ≤ 8
          rw [jx_cat_map]
          have : ((st.drop b).map fun v => v.category).sum ≤ 8 := hc.2
          omega
      · cases hs
    · by_cases h51 : op = 51
      · subst h51
        simp only [jx_s] at hs
        split at hs
        · rename_i o as' hrev
          split at hs
          · rename_i hc
            simp only [Option.some.injEq, Sum.inr.injEq, Sum.inl.injEq, Prod.mk.injEq] at hs
            obtain ⟨rfl, rfl, rfl, rfl, rfl⟩ := hs
            refine ⟨rfl, fun H locs lsA hP hz hS hL => ?_⟩
            have hkc := hi.2.2.2.2.2.2.2.2.2.2.2.2.2.1
            simp only [jx_side, Bool.and_eq_true, decide_eq_true_eq] at hsd
            obtain ⟨hsd, hkd⟩ := hsd
            rw [hkc] at hkd
            have hk0 : i.2.2.2.2.1 = 1 := by simpa using hkd
            obtain ⟨hi1, hi2, hi3⟩ := hi.2.2.2.2.2.2.2.2.1 hk0
            have hw := jx_ml_in hsd
            rw [hys] at hw
            have hst : st = as'.reverse ++ .ref o :: st.drop b := by
              have h1 : st.take b = (.ref o :: as').reverse := by rw [← hrev, List.reverse_reverse]
              have h2 := List.take_append_drop b st
              rw [h1, List.reverse_cons, List.append_assoc] at h2
              exact h2.symm
            obtain ⟨hl1, lv, hl2, hl3⟩ := id hL
            have hcb := jx_callB (x1 := x1) C hi hw hfr hlo (n0 := as'.length) (by rw [if_neg (by omega)]; rw [List.length_cons] at hlen; omega)
            rw [hi3] at hcb
            refine jx_after (mc := x1.length) (ms := jx_sz x1) (rest := (st.drop b).map (jx_V base)) (va_runI (b := base + o) (As := as'.map (jx_V base)) (n := as'.length) (index := d) (own := jx_nm own) (Ts := lw_g) (cc := cc) (nL := nL) ⟨C.1, C.2.1, C.2.2.1, C.2.2.2.1, C.2.2.2.2.1⟩ hM ⟨hcb, hi1, C.2.2.2.2.1 _ hi2⟩ ⟨jx_blind, hpre H hP hz⟩ rfl (by rw [List.length_map]) (by show lsA.size = nL; rw [hl2.1]) ?_ ?_ hd ⟨hcl, hsl⟩) hS hL rfl kk
            · show st.map (jx_V base) = _
              rw [← List.map_reverse]
              conv => lhs; rw [hst]
              rw [List.map_append]
              rfl
            · show 2 * 0 + _ ≤ 8
              rw [jx_cat_map]
              have : ((st.drop b).map fun v => v.category).sum ≤ 8 := hc.2
              omega
          · cases hs
        · cases hs
      · exfalso
        unfold jx_s at hs
        simp only [jx_n] at hs
        split at hs
        all_goals (first | (exact absurd rfl h49) | (exact absurd rfl h50) | (exact absurd rfl h51) | (repeat' (split at hs)))
        all_goals (first | cases hs | skip)
end JXS
set_option maxHeartbeats 4000000 in
theorem jx_call_r {bl : jx_B} {e0 : jx_E} {r r' : List jx_E} {ls st ls' st' as : List Value} {h : jx_H} {m0 : Nat} (hs : jx_s bl e0 r ls st h = some (.inr (.inl (m0, as, r', ls', st')))) : r' = r ∧ (jx_ins e0).2 = 3 := by
  obtain ⟨pc0, op, ⟨a, b, c0, d⟩, x, L⟩ := e0
  unfold jx_s at hs
  simp only [jx_n] at hs
  split at hs
  all_goals (repeat' (split at hs))
  all_goals (first | (cases hs; done) | (cases hs; exact ⟨rfl, rfl⟩))
theorem jx_sl_len {base : Nat} : ∀ (as : List Value), as.all (fun v => decide (v.category = 1)) = true → (lg_sl (as.map (jx_V base))).length = as.length
  | [], _ => rfl
  | v :: as, h => by
    simp only [List.all_cons, Bool.and_eq_true, decide_eq_true_eq] at h
    have ih := jx_sl_len (base := base) as h.2
    have h1 : (jx_V base v).category = 1 := by rw [jx_V_cat]; exact h.1
    simp only [lg_sl, List.map_cons, List.flatMap_cons, h1, List.length_append] at ih ⊢
    rw [ih]
    simp
    omega
theorem jx_args_in {base : Nat} : ∀ (as : List Value) (k : Nat), as.all (fun v => decide (v.category = 1)) = true → ∀ (i : Nat) (v : Value), as[i]? = some v → v.category = 1 ∧ (k + i, jx_V base v) ∈ lv_args k (as.map (jx_V base))
  | [], k, _, i, v, hv => by simp at hv
  | w :: as, k, h, i, v, hv => by
    simp only [List.all_cons, Bool.and_eq_true, decide_eq_true_eq] at h
    have h1 : (jx_V base w).category = 1 := by rw [jx_V_cat]; exact h.1
    simp only [List.map_cons, lv_args, h1]
    cases i with
    | zero =>
      cases hv
      exact ⟨h.1, List.mem_cons_self⟩
    | succ i =>
      obtain ⟨a, b⟩ := jx_args_in (base := base) as (k + 1) h.2 i v (by simpa using hv)
      refine ⟨a, List.mem_cons_of_mem _ ?_⟩
      rw [show k + (i + 1) = k + 1 + i by omega]
      simpa using b
theorem jx_L_entry {base nL : Nat} {as : List Value} (ha : as.all (fun v => decide (v.category = 1)) = true) (hl : as.length ≤ nL) : jx_L base (as ++ List.replicate (nL - as.length) (.retAddr 0)) ((lg_sl (as.map (jx_V base)) ++ List.replicate (nL - (lg_sl (as.map (jx_V base))).length) Slot.unset).toArray) nL := by
  have e1 := jx_sl_len (base := base) as ha
  refine ⟨by simp; omega, _, lv_entry (as.map (jx_V base)) (by rw [e1]; exact hl), fun i v hv hne => ?_⟩
  by_cases hi : i < as.length
  · rw [List.getElem?_append_left hi] at hv
    have := jx_args_in (base := base) as 0 ha i v hv
    rw [Nat.zero_add] at this
    exact this
  · rw [List.getElem?_append_right (by omega), List.getElem?_replicate] at hv
    split at hv
    · cases hv
      exact absurd rfl hne
    · cases hv
set_option maxHeartbeats 4000000 in
theorem jx_sound {MS : List jx_M} (hMS : ∀ m i, MS[m]? = some i → jx_okM m i) (l : Launch) {base : Nat} {D : va_G} {cA : Nat → ClassId} {O : Nat → va_E} : ∀ (n d m0 : Nat) (i : jx_M), jx_okM m0 i → ∀ (rem : List jx_E) (ls st : List Value) (h : jx_H) (v : Option Value) (h' : jx_H), jx_x MS d n i.2.2.2.2.2.2.2 rem ls st h = some (v, h') →
    ∀ (p : Program) (e : Env) (R : Room) (s : State) (m : MethodId) (args : Array Value) (below : List Frame) (meth : Method) (c : Code), jx_Cx p s m args meth c base D cA i.2.1 i.2.2.1 i.2.2.2.2.2.2.1 → meth.sig.returnType = i.2.2.2.1 → meth.locks = false → (i.2.2.2.2.1 = 1 → meth.name = "<init>") → d + 1 ≤ R.frames → 64 * (d + 1) ≤ R.locals →
    ∀ (x : List (Nat × Nat)) (cells slots pc : Nat), (x ≠ [] → jx_G O = 0) → h'.1 = h.1 ++ x → R.cells = cells + x.length → R.slots = slots + jx_sz x → jx_okR i.2.1 i.2.2.2.2.2.2.1 i.2.2.1 (jx_rt i.2.2.2.1) i.2.2.2.2.1 pc rem = true →
    jx_Go p l e R s m args below meth c base D cA O i.2.2.1 (MQ below (jx_Qc base D cA O v h') args s R.cells R.slots (fun q => base ≤ q)) cells slots pc ls st h
  | 0, d, m0, i, hi, rem, ls, st, h, v, h', hx => by cases hx
  | n + 1, d, m0, i, hi, [], ls, st, h, v, h', hx => by cases hx
  | n + 1, d, m0, i, hi, e0 :: r, ls, st, h, v, h', hx => by
    intro p e R s m args below meth c C hret hlk hini hfr hlo x cells slots pc hG hg hrc hrs hok
    have ih := jx_sound hMS l (base := base) (D := D) (cA := cA) (O := O) n
    have hbl := hi.2.2.2.2.2.2.2.2.2.2.2.2.2.2
    unfold jx_x at hx
    simp only at hx
    split at hx
    · cases hx
    · rename_i q hq
      obtain ⟨q1, q2, q3, q4⟩ := q
      obtain ⟨x1, e1⟩ := jx_grow1 hq
      obtain ⟨x2, e2⟩ := jx_grow n _ _ _ _ _ _ _ _ hx
      simp only at e2
      have e3 : x = x1 ++ x2 := by
        rw [hg, e1, List.append_assoc] at e2
        exact List.append_cancel_left e2
      subst e3
      have esz : jx_sz (x1 ++ x2) = jx_sz x1 + jx_sz x2 := by simp [jx_sz]
      rw [List.length_append] at hrc
      rw [esz] at hrs
      refine jx_one C hq hok hbl hini (by omega) (by omega) x1 (fun z => hG (fun w => z (List.append_eq_nil_iff.mp w).1)) e1 (by omega) (by omega) (fun pc' hok' => ?_)
      exact ih d m0 i hi q1 q2 q3 q4 v h' hx _ _ _ _ _ _ _ _ _ C hret hlk hini hfr hlo x2 _ _ pc' (fun z => hG (fun w => z (List.append_eq_nil_iff.mp w).2)) e2 (by omega) (by omega) hok'
    · rename_i v' hv
      cases hx
      obtain rfl : x = [] := jx_nil hg
      have hrc' : R.cells = cells := hrc
      have hrs' : R.slots = slots := hrs
      intro H locs lsA hP hz hS hL
      simp only [jx_okR, jx_okE, Bool.and_eq_true, decide_eq_true_eq] at hok
      obtain ⟨⟨hpc, hd, hsd⟩, hr⟩ := hok
      obtain ⟨pc0, op, ⟨a, b, c0, d0⟩, x0, L0⟩ := e0
      simp only at hpc
      subst hpc
      have hq : ∀ (w : Option Value), ∀ t : State, t.heap = H → s.WarmedH t.vm → jx_Qc base D cA O w h args s (.returned (w.map (jx_V base))) t := fun w t ht hW => ⟨⟨rfl, by rw [ht]; exact hP, jx_KK.moved hW.alike C.2.2.2.2.2.1, by rw [ht]; exact hz⟩, hS.F ht⟩
      rw [hrc', hrs']
      by_cases h69 : op = 69
      · subst h69
        simp only [jx_s] at hv
        split at hv
        · cases hv
          have hrt : jx_rt i.2.2.2.1 = 1 := by simpa [jx_side] using hsd
          have hri : i.2.2.2.1 = some .int := by
            unfold jx_rt at hrt
            split at hrt <;> first | rfl | (exfalso; omega) | skip
            all_goals simp_all
          exact W.iret C.1 C.2.1 (by rw [hret, hri]) (hq (some (.int _))) hS.2.2 hd hlk
        · cases hv
      · by_cases h70 : op = 70
        · subst h70
          simp only [jx_s] at hv
          split at hv
          · split at hv
            · rename_i hz01
              cases hv
              have hrt : jx_rt i.2.2.2.1 = 2 := by simpa [jx_side] using hsd
              have hri : i.2.2.2.1 = some .boolean := by
                unfold jx_rt at hrt
                split at hrt <;> first | rfl | (exfalso; omega) | skip
                all_goals simp_all
              refine W.zret (ty := .boolean) C.1 C.2.1 (by rw [hret, hri]) ?_ (hq (some (.int _))) hS.2.2 hd hlk
              rcases hz01 with rfl | rfl <;> rfl
            · cases hv
          · cases hv
        · by_cases h71 : op = 71
          · subst h71
            simp only [jx_s] at hv
            split at hv
            · cases hv
              have hrt : jx_rt i.2.2.2.1 = 0 := by simpa [jx_side] using hsd
              have hri : i.2.2.2.1 = none := by
                unfold jx_rt at hrt
                split at hrt <;> first | assumption | rfl | (exfalso; omega) | skip
                all_goals simp_all
              exact W.vret C.1 C.2.1 (by rw [hret, hri]) (hq none) hS.2.2 hd hlk
            · cases hv
          · exfalso
            unfold jx_s at hv
            simp only [jx_n] at hv
            split at hv
            all_goals (first | (exact absurd rfl h69) | (exact absurd rfl h70) | (exact absurd rfl h71) | (repeat' (split at hv)))
            all_goals (first | cases hv | skip)
    · rename_i k hk
      obtain ⟨k1, k2, k3, k4, k5⟩ := k
      split at hx
      · rename_i d' i1 hMi
        split at hx
        · rename_i hlen
          split at hx
          · rename_i y hy
            obtain ⟨v1, h1⟩ := y
            obtain ⟨x1, e1⟩ := jx_grow n _ _ _ _ _ _ _ _ hy
            obtain ⟨x2, e2⟩ := jx_grow n _ _ _ _ _ _ _ _ hx
            simp only at e2
            have e3 : x = x1 ++ x2 := by
              rw [hg, e1, List.append_assoc] at e2
              exact List.append_cancel_left e2
            subst e3
            have esz : jx_sz (x1 ++ x2) = jx_sz x1 + jx_sz x2 := by simp [jx_sz]
            rw [List.length_append] at hrc
            rw [esz] at hrs
            have hi1 := hMS _ _ hMi
            have hM : jx_MetM l base D cA O d' i1 k2 h v1 h1 x1 := by
              unfold jx_MetM
              refine Met.ofW (cc := i1.2.1) (maxL := i1.2.2.1) (ret := i1.2.2.2.1) hi1.2.2.1 rfl ?_
              intro p e s m args below meth c s₁ B hml hv
              obtain ⟨rfl, hP, hK, hz⟩ := hv
              have hts := atoms_spec (ws := jx_wsM i1) B.pre
              have hown : s.vm.findClass (jx_nm i1.2.2.2.2.2.2.1) = some m.cls := by
                rw [← hi1.2.1]
                exact findClass_of_methodNamed B.named
              have hna : k2.length ≤ i1.2.2.1 := by rw [hlen.1]; exact hi1.2.2.2.2.2.2.2.2.2.2.2.1
              have C1 : jx_Cx p s m (k2.map (jx_V base)).toArray meth c base D cA i1.2.1 i1.2.2.1 i1.2.2.2.2.2.2.1 := ⟨B.exec, B.bytes, hml, hown, fun w hw => hts w (List.mem_cons_of_mem _ hw), hK, by rw [hz]; omega⟩
              have g1 := ih d' _ i1 hi1 _ _ _ h v1 h1 hy p e (jx_rm d' x1.length (jx_sz x1)) s m (k2.map (jx_V base)).toArray below meth c C1 B.returns B.notSynchronized (fun hk => by rw [(name_of_methodNamed B.named B.method).1]; exact (hi1.2.2.2.2.2.2.2.2.1 hk).1) (Nat.le_refl _) (Nat.le_refl _) x1 0 0 0 (fun z => hG (fun w => z (List.append_eq_nil_iff.mp w).1)) e1 (Nat.zero_add _).symm (Nat.zero_add _).symm (jx_at_ok hi1.2.2.2.2.2.2.2.2.2.2.2.2.2.2 0)
              rw [lg_entry_eq]
              exact g1 s.heap [] _ hP hz va_S.rf (jx_L_entry hlen.2 hna)
            simp only [jx_okR, jx_okE, Bool.and_eq_true, decide_eq_true_eq] at hok
            obtain ⟨⟨hpc, hd, hsd⟩, hr⟩ := hok
            obtain ⟨pc0, op, ⟨a, b, c0, d0⟩, x0, L0⟩ := e0
            simp only at hpc
            subst hpc
            refine (jx_call C hi1 hM hk hlen.1 hd hsd (by omega) (by omega) (by omega) (by omega) ?_).2
            obtain ⟨hk3, h3⟩ := jx_call_r hk
            subst hk3
            rw [h3] at hr
            exact ih _ m0 i hi k3 k4 (v1.toList ++ k5) h1 v h' hx _ _ _ _ _ _ _ _ _ C hret hlk hini hfr hlo x2 _ _ (pc0 + 3) (fun z => hG (fun w => z (List.append_eq_nil_iff.mp w).2)) e2 (by omega) (by omega) hr
          · cases hx
        · cases hx
      · cases hx
end
