section
-- ===== PART A: goes FIRST, ahead of the names: the tables' words, and 'selects' of the private methods out of them =====
/-- a private method of a class that the tables say can be made, by its rows of tables_1 -/
def lw_okq (q : MethodName × Nat) : Prop := (q.1.cls ≠ "java/lang/invoke/MethodHandle" ∧ q.1.cls ≠ "java/lang/invoke/VarHandle") ∧ Cond.instantiable q.1.cls q.2 ∈ tables_1 ∧ Cond.privateMethod q.1 ∈ tables_1 ∧ Cond.instanceMethod q.1 ∈ tables_1
theorem lw_p0 : lw_okq (⟨"PoloSeason$Line", "alongBall", "(I)J"⟩, 11) := ⟨⟨by decide +kernel, by decide +kernel⟩, List.mem_of_getElem? (i := 172) (by decide +kernel), List.mem_of_getElem? (i := 254) (by decide +kernel), List.mem_of_getElem? (i := 255) (by decide +kernel)⟩
theorem lw_p1 : lw_okq (⟨"PoloSeason$Line", "goesBefore", "(II)Z"⟩, 11) := ⟨⟨by decide +kernel, by decide +kernel⟩, List.mem_of_getElem? (i := 172) (by decide +kernel), List.mem_of_getElem? (i := 258) (by decide +kernel), List.mem_of_getElem? (i := 259) (by decide +kernel)⟩
theorem lw_p2 : lw_okq (⟨"PoloSeason$Line", "fromBall", "(I)J"⟩, 11) := ⟨⟨by decide +kernel, by decide +kernel⟩, List.mem_of_getElem? (i := 172) (by decide +kernel), List.mem_of_getElem? (i := 265) (by decide +kernel), List.mem_of_getElem? (i := 266) (by decide +kernel)⟩
theorem lw_p3 : lw_okq (⟨"PoloSeason$Line", "meets", "(II)Z"⟩, 11) := ⟨⟨by decide +kernel, by decide +kernel⟩, List.mem_of_getElem? (i := 172) (by decide +kernel), List.mem_of_getElem? (i := 278) (by decide +kernel), List.mem_of_getElem? (i := 279) (by decide +kernel)⟩
theorem lw_p4 : lw_okq (⟨"PoloSeason$Line", "straddles", "(II)Z"⟩, 11) := ⟨⟨by decide +kernel, by decide +kernel⟩, List.mem_of_getElem? (i := 172) (by decide +kernel), List.mem_of_getElem? (i := 282) (by decide +kernel), List.mem_of_getElem? (i := 283) (by decide +kernel)⟩
theorem lw_p5 : lw_okq (⟨"PoloSeason$Line", "turn", "(III)J"⟩, 11) := ⟨⟨by decide +kernel, by decide +kernel⟩, List.mem_of_getElem? (i := 172) (by decide +kernel), List.mem_of_getElem? (i := 286) (by decide +kernel), List.mem_of_getElem? (i := 287) (by decide +kernel)⟩
theorem lw_p6 : lw_okq (⟨"java/lang/Throwable", "fillInStackTrace", "(I)Ljava/lang/Throwable;"⟩, 6) := ⟨⟨by decide +kernel, by decide +kernel⟩, List.mem_of_getElem? (i := 396) (by decide +kernel), List.mem_of_getElem? (i := 394) (by decide +kernel), List.mem_of_getElem? (i := 395) (by decide +kernel)⟩
theorem lw_p7 : lw_okq (⟨"PoloSeason", "requirePlayer", "(I)V"⟩, 7) := ⟨⟨by decide +kernel, by decide +kernel⟩, List.mem_of_getElem? (i := 18) (by decide +kernel), List.mem_of_getElem? (i := 458) (by decide +kernel), List.mem_of_getElem? (i := 459) (by decide +kernel)⟩
theorem lw_p8 : lw_okq (⟨"PoloSeason$Roster", "seat", "(II)V"⟩, 5) := ⟨⟨by decide +kernel, by decide +kernel⟩, List.mem_of_getElem? (i := 26) (by decide +kernel), List.mem_of_getElem? (i := 502) (by decide +kernel), List.mem_of_getElem? (i := 503) (by decide +kernel)⟩
theorem lw_p9 : lw_okq (⟨"PoloSeason", "requireTeam", "(I)V"⟩, 7) := ⟨⟨by decide +kernel, by decide +kernel⟩, List.mem_of_getElem? (i := 18) (by decide +kernel), List.mem_of_getElem? (i := 513) (by decide +kernel), List.mem_of_getElem? (i := 514) (by decide +kernel)⟩
theorem lw_p10 : lw_okq (⟨"PoloSeason", "requireUndrawnCup", "()V"⟩, 7) := ⟨⟨by decide +kernel, by decide +kernel⟩, List.mem_of_getElem? (i := 18) (by decide +kernel), List.mem_of_getElem? (i := 549) (by decide +kernel), List.mem_of_getElem? (i := 550) (by decide +kernel)⟩
theorem lw_p11 : lw_okq (⟨"PoloSeason", "halvesFor", "(II)I"⟩, 7) := ⟨⟨by decide +kernel, by decide +kernel⟩, List.mem_of_getElem? (i := 18) (by decide +kernel), List.mem_of_getElem? (i := 632) (by decide +kernel), List.mem_of_getElem? (i := 633) (by decide +kernel)⟩
theorem lw_p12 : lw_okq (⟨"PoloSeason", "rideTeam", "(I)V"⟩, 7) := ⟨⟨by decide +kernel, by decide +kernel⟩, List.mem_of_getElem? (i := 18) (by decide +kernel), List.mem_of_getElem? (i := 649) (by decide +kernel), List.mem_of_getElem? (i := 650) (by decide +kernel)⟩
theorem lw_p13 : lw_okq (⟨"PoloSeason", "ridePlayer", "(I)V"⟩, 7) := ⟨⟨by decide +kernel, by decide +kernel⟩, List.mem_of_getElem? (i := 18) (by decide +kernel), List.mem_of_getElem? (i := 654) (by decide +kernel), List.mem_of_getElem? (i := 655) (by decide +kernel)⟩
theorem lw_p14 : lw_okq (⟨"PoloSeason$Planner", "collect", "(LPoloSeason$Stable;II)V"⟩, 9) := ⟨⟨by decide +kernel, by decide +kernel⟩, List.mem_of_getElem? (i := 138) (by decide +kernel), List.mem_of_getElem? (i := 663) (by decide +kernel), List.mem_of_getElem? (i := 664) (by decide +kernel)⟩
theorem lw_p15 : lw_okq (⟨"PoloSeason$Stable", "isLame", "(I)Z"⟩, 6) := ⟨⟨by decide +kernel, by decide +kernel⟩, List.mem_of_getElem? (i := 113) (by decide +kernel), List.mem_of_getElem? (i := 680) (by decide +kernel), List.mem_of_getElem? (i := 681) (by decide +kernel)⟩
def lw_privs_1 : List (MethodName × Nat) := [(⟨"PoloSeason$Line", "alongBall", "(I)J"⟩, 11), (⟨"PoloSeason$Line", "goesBefore", "(II)Z"⟩, 11), (⟨"PoloSeason$Line", "fromBall", "(I)J"⟩, 11), (⟨"PoloSeason$Line", "meets", "(II)Z"⟩, 11), (⟨"PoloSeason$Line", "straddles", "(II)Z"⟩, 11), (⟨"PoloSeason$Line", "turn", "(III)J"⟩, 11), (⟨"java/lang/Throwable", "fillInStackTrace", "(I)Ljava/lang/Throwable;"⟩, 6), (⟨"PoloSeason", "requirePlayer", "(I)V"⟩, 7), (⟨"PoloSeason$Roster", "seat", "(II)V"⟩, 5), (⟨"PoloSeason", "requireTeam", "(I)V"⟩, 7), (⟨"PoloSeason", "requireUndrawnCup", "()V"⟩, 7), (⟨"PoloSeason", "halvesFor", "(II)I"⟩, 7), (⟨"PoloSeason", "rideTeam", "(I)V"⟩, 7), (⟨"PoloSeason", "ridePlayer", "(I)V"⟩, 7), (⟨"PoloSeason$Planner", "collect", "(LPoloSeason$Stable;II)V"⟩, 9), (⟨"PoloSeason$Stable", "isLame", "(I)Z"⟩, 6)]
theorem lw_r1 : ∀ q ∈ lw_privs_1, lw_okq q := List.forall_mem_cons.mpr ⟨lw_p0, List.forall_mem_cons.mpr ⟨lw_p1, List.forall_mem_cons.mpr ⟨lw_p2, List.forall_mem_cons.mpr ⟨lw_p3, List.forall_mem_cons.mpr ⟨lw_p4, List.forall_mem_cons.mpr ⟨lw_p5, List.forall_mem_cons.mpr ⟨lw_p6, List.forall_mem_cons.mpr ⟨lw_p7, List.forall_mem_cons.mpr ⟨lw_p8, List.forall_mem_cons.mpr ⟨lw_p9, List.forall_mem_cons.mpr ⟨lw_p10, List.forall_mem_cons.mpr ⟨lw_p11, List.forall_mem_cons.mpr ⟨lw_p12, List.forall_mem_cons.mpr ⟨lw_p13, List.forall_mem_cons.mpr ⟨lw_p14, List.forall_mem_cons.mpr ⟨lw_p15, fun _ h => absurd h List.not_mem_nil⟩⟩⟩⟩⟩⟩⟩⟩⟩⟩⟩⟩⟩⟩⟩⟩
theorem lw_p16 : lw_okq (⟨"PoloSeason$Planner", "fillLowest", "(I)I"⟩, 9) := ⟨⟨by decide +kernel, by decide +kernel⟩, List.mem_of_getElem? (i := 138) (by decide +kernel), List.mem_of_getElem? (i := 684) (by decide +kernel), List.mem_of_getElem? (i := 685) (by decide +kernel)⟩
theorem lw_p17 : lw_okq (⟨"PoloSeason$Planner", "lowestWithRoom", "()I"⟩, 9) := ⟨⟨by decide +kernel, by decide +kernel⟩, List.mem_of_getElem? (i := 138) (by decide +kernel), List.mem_of_getElem? (i := 688) (by decide +kernel), List.mem_of_getElem? (i := 689) (by decide +kernel)⟩
theorem lw_p18 : lw_okq (⟨"PoloSeason$Planner", "levelNow", "(I)I"⟩, 9) := ⟨⟨by decide +kernel, by decide +kernel⟩, List.mem_of_getElem? (i := 138) (by decide +kernel), List.mem_of_getElem? (i := 692) (by decide +kernel), List.mem_of_getElem? (i := 693) (by decide +kernel)⟩
theorem lw_p19 : lw_okq (⟨"PoloSeason$Planner", "splitByThreshold", "(I)V"⟩, 9) := ⟨⟨by decide +kernel, by decide +kernel⟩, List.mem_of_getElem? (i := 138) (by decide +kernel), List.mem_of_getElem? (i := 696) (by decide +kernel), List.mem_of_getElem? (i := 697) (by decide +kernel)⟩
theorem lw_p20 : lw_okq (⟨"PoloSeason$Planner", "firstThatCompletes", "(II)I"⟩, 9) := ⟨⟨by decide +kernel, by decide +kernel⟩, List.mem_of_getElem? (i := 138) (by decide +kernel), List.mem_of_getElem? (i := 700) (by decide +kernel), List.mem_of_getElem? (i := 701) (by decide +kernel)⟩
theorem lw_p21 : lw_okq (⟨"PoloSeason$Planner", "completesWith", "(II)Z"⟩, 9) := ⟨⟨by decide +kernel, by decide +kernel⟩, List.mem_of_getElem? (i := 138) (by decide +kernel), List.mem_of_getElem? (i := 704) (by decide +kernel), List.mem_of_getElem? (i := 705) (by decide +kernel)⟩
theorem lw_p22 : lw_okq (⟨"PoloSeason$Planner", "completes", "(II)Z"⟩, 9) := ⟨⟨by decide +kernel, by decide +kernel⟩, List.mem_of_getElem? (i := 138) (by decide +kernel), List.mem_of_getElem? (i := 708) (by decide +kernel), List.mem_of_getElem? (i := 709) (by decide +kernel)⟩
theorem lw_p23 : lw_okq (⟨"PoloSeason$Tournament", "endRound", "()V"⟩, 10) := ⟨⟨by decide +kernel, by decide +kernel⟩, List.mem_of_getElem? (i := 63) (by decide +kernel), List.mem_of_getElem? (i := 725) (by decide +kernel), List.mem_of_getElem? (i := 726) (by decide +kernel)⟩
theorem lw_p24 : lw_okq (⟨"PoloSeason$Tournament", "isWon", "()Z"⟩, 10) := ⟨⟨by decide +kernel, by decide +kernel⟩, List.mem_of_getElem? (i := 63) (by decide +kernel), List.mem_of_getElem? (i := 734) (by decide +kernel), List.mem_of_getElem? (i := 735) (by decide +kernel)⟩
theorem lw_p25 : lw_okq (⟨"PoloSeason", "requirePony", "(I)V"⟩, 7) := ⟨⟨by decide +kernel, by decide +kernel⟩, List.mem_of_getElem? (i := 18) (by decide +kernel), List.mem_of_getElem? (i := 787) (by decide +kernel), List.mem_of_getElem? (i := 788) (by decide +kernel)⟩
theorem lw_p26 : lw_okq (⟨"PoloSeasonModel", "bad", "(ZI)Z"⟩, 55) := ⟨⟨by decide +kernel, by decide +kernel⟩, List.mem_of_getElem? (i := 867) (by decide +kernel), List.mem_of_getElem? (i := 1051) (by decide +kernel), List.mem_of_getElem? (i := 1052) (by decide +kernel)⟩
theorem lw_p27 : lw_okq (⟨"PoloSeasonModel", "isPlayer", "(I)Z"⟩, 55) := ⟨⟨by decide +kernel, by decide +kernel⟩, List.mem_of_getElem? (i := 867) (by decide +kernel), List.mem_of_getElem? (i := 1059) (by decide +kernel), List.mem_of_getElem? (i := 1060) (by decide +kernel)⟩
theorem lw_p28 : lw_okq (⟨"PoloSeasonModel", "isTeam", "(I)Z"⟩, 55) := ⟨⟨by decide +kernel, by decide +kernel⟩, List.mem_of_getElem? (i := 867) (by decide +kernel), List.mem_of_getElem? (i := 1071) (by decide +kernel), List.mem_of_getElem? (i := 1072) (by decide +kernel)⟩
theorem lw_p29 : lw_okq (⟨"PoloSeasonModel", "strengthOf", "(I)I"⟩, 55) := ⟨⟨by decide +kernel, by decide +kernel⟩, List.mem_of_getElem? (i := 867) (by decide +kernel), List.mem_of_getElem? (i := 1075) (by decide +kernel), List.mem_of_getElem? (i := 1076) (by decide +kernel)⟩
theorem lw_p30 : lw_okq (⟨"PoloSeasonModel", "begins", "()V"⟩, 55) := ⟨⟨by decide +kernel, by decide +kernel⟩, List.mem_of_getElem? (i := 867) (by decide +kernel), List.mem_of_getElem? (i := 1096) (by decide +kernel), List.mem_of_getElem? (i := 1097) (by decide +kernel)⟩
theorem lw_p31 : lw_okq (⟨"PoloSeasonModel", "pairs", "(II)V"⟩, 55) := ⟨⟨by decide +kernel, by decide +kernel⟩, List.mem_of_getElem? (i := 867) (by decide +kernel), List.mem_of_getElem? (i := 1100) (by decide +kernel), List.mem_of_getElem? (i := 1101) (by decide +kernel)⟩
def lw_privs_2 : List (MethodName × Nat) := [(⟨"PoloSeason$Planner", "fillLowest", "(I)I"⟩, 9), (⟨"PoloSeason$Planner", "lowestWithRoom", "()I"⟩, 9), (⟨"PoloSeason$Planner", "levelNow", "(I)I"⟩, 9), (⟨"PoloSeason$Planner", "splitByThreshold", "(I)V"⟩, 9), (⟨"PoloSeason$Planner", "firstThatCompletes", "(II)I"⟩, 9), (⟨"PoloSeason$Planner", "completesWith", "(II)Z"⟩, 9), (⟨"PoloSeason$Planner", "completes", "(II)Z"⟩, 9), (⟨"PoloSeason$Tournament", "endRound", "()V"⟩, 10), (⟨"PoloSeason$Tournament", "isWon", "()Z"⟩, 10), (⟨"PoloSeason", "requirePony", "(I)V"⟩, 7), (⟨"PoloSeasonModel", "bad", "(ZI)Z"⟩, 55), (⟨"PoloSeasonModel", "isPlayer", "(I)Z"⟩, 55), (⟨"PoloSeasonModel", "isTeam", "(I)Z"⟩, 55), (⟨"PoloSeasonModel", "strengthOf", "(I)I"⟩, 55), (⟨"PoloSeasonModel", "begins", "()V"⟩, 55), (⟨"PoloSeasonModel", "pairs", "(II)V"⟩, 55)]
theorem lw_r2 : ∀ q ∈ lw_privs_2, lw_okq q := List.forall_mem_cons.mpr ⟨lw_p16, List.forall_mem_cons.mpr ⟨lw_p17, List.forall_mem_cons.mpr ⟨lw_p18, List.forall_mem_cons.mpr ⟨lw_p19, List.forall_mem_cons.mpr ⟨lw_p20, List.forall_mem_cons.mpr ⟨lw_p21, List.forall_mem_cons.mpr ⟨lw_p22, List.forall_mem_cons.mpr ⟨lw_p23, List.forall_mem_cons.mpr ⟨lw_p24, List.forall_mem_cons.mpr ⟨lw_p25, List.forall_mem_cons.mpr ⟨lw_p26, List.forall_mem_cons.mpr ⟨lw_p27, List.forall_mem_cons.mpr ⟨lw_p28, List.forall_mem_cons.mpr ⟨lw_p29, List.forall_mem_cons.mpr ⟨lw_p30, List.forall_mem_cons.mpr ⟨lw_p31, fun _ h => absurd h List.not_mem_nil⟩⟩⟩⟩⟩⟩⟩⟩⟩⟩⟩⟩⟩⟩⟩⟩
theorem lw_p32 : lw_okq (⟨"PoloSeasonModel", "givenTo", "(II)I"⟩, 55) := ⟨⟨by decide +kernel, by decide +kernel⟩, List.mem_of_getElem? (i := 867) (by decide +kernel), List.mem_of_getElem? (i := 1115) (by decide +kernel), List.mem_of_getElem? (i := 1116) (by decide +kernel)⟩
theorem lw_p33 : lw_okq (⟨"PoloSeasonModel", "rides", "(II)V"⟩, 55) := ⟨⟨by decide +kernel, by decide +kernel⟩, List.mem_of_getElem? (i := 867) (by decide +kernel), List.mem_of_getElem? (i := 1123) (by decide +kernel), List.mem_of_getElem? (i := 1124) (by decide +kernel)⟩
theorem lw_p34 : lw_okq (⟨"PoloSeasonModel", "mounts", "(II)V"⟩, 55) := ⟨⟨by decide +kernel, by decide +kernel⟩, List.mem_of_getElem? (i := 867) (by decide +kernel), List.mem_of_getElem? (i := 1127) (by decide +kernel), List.mem_of_getElem? (i := 1128) (by decide +kernel)⟩
theorem lw_p35 : lw_okq (⟨"PoloSeasonModel", "sharesOf", "(I)V"⟩, 55) := ⟨⟨by decide +kernel, by decide +kernel⟩, List.mem_of_getElem? (i := 867) (by decide +kernel), List.mem_of_getElem? (i := 1131) (by decide +kernel), List.mem_of_getElem? (i := 1132) (by decide +kernel)⟩
theorem lw_p36 : lw_okq (⟨"PoloSeasonModel", "total", "()I"⟩, 55) := ⟨⟨by decide +kernel, by decide +kernel⟩, List.mem_of_getElem? (i := 867) (by decide +kernel), List.mem_of_getElem? (i := 1135) (by decide +kernel), List.mem_of_getElem? (i := 1136) (by decide +kernel)⟩
theorem lw_p37 : lw_okq (⟨"PoloSeasonModel", "sortLed", "()V"⟩, 55) := ⟨⟨by decide +kernel, by decide +kernel⟩, List.mem_of_getElem? (i := 867) (by decide +kernel), List.mem_of_getElem? (i := 1139) (by decide +kernel), List.mem_of_getElem? (i := 1140) (by decide +kernel)⟩
theorem lw_p38 : lw_okq (⟨"PoloSeasonModel", "compared", "()I"⟩, 55) := ⟨⟨by decide +kernel, by decide +kernel⟩, List.mem_of_getElem? (i := 867) (by decide +kernel), List.mem_of_getElem? (i := 1143) (by decide +kernel), List.mem_of_getElem? (i := 1144) (by decide +kernel)⟩
theorem lw_p39 : lw_okq (⟨"PoloSeasonModel", "keepsShare", "()V"⟩, 55) := ⟨⟨by decide +kernel, by decide +kernel⟩, List.mem_of_getElem? (i := 867) (by decide +kernel), List.mem_of_getElem? (i := 1147) (by decide +kernel), List.mem_of_getElem? (i := 1148) (by decide +kernel)⟩
theorem lw_p40 : lw_okq (⟨"PoloSeasonModel", "tries", "(III)Z"⟩, 55) := ⟨⟨by decide +kernel, by decide +kernel⟩, List.mem_of_getElem? (i := 867) (by decide +kernel), List.mem_of_getElem? (i := 1151) (by decide +kernel), List.mem_of_getElem? (i := 1152) (by decide +kernel)⟩
theorem lw_p41 : lw_okq (⟨"PoloSeasonModel", "mayGoOn", "()Z"⟩, 55) := ⟨⟨by decide +kernel, by decide +kernel⟩, List.mem_of_getElem? (i := 867) (by decide +kernel), List.mem_of_getElem? (i := 1155) (by decide +kernel), List.mem_of_getElem? (i := 1156) (by decide +kernel)⟩
theorem lw_p42 : lw_okq (⟨"PoloSeasonModel", "ends", "()V"⟩, 55) := ⟨⟨by decide +kernel, by decide +kernel⟩, List.mem_of_getElem? (i := 867) (by decide +kernel), List.mem_of_getElem? (i := 1159) (by decide +kernel), List.mem_of_getElem? (i := 1160) (by decide +kernel)⟩
theorem lw_p43 : lw_okq (⟨"PoloSeasonModel", "hasLost", "(I)Z"⟩, 55) := ⟨⟨by decide +kernel, by decide +kernel⟩, List.mem_of_getElem? (i := 867) (by decide +kernel), List.mem_of_getElem? (i := 1163) (by decide +kernel), List.mem_of_getElem? (i := 1164) (by decide +kernel)⟩
theorem lw_p44 : lw_okq (⟨"PoloSeasonModel", "isPony", "(I)Z"⟩, 55) := ⟨⟨by decide +kernel, by decide +kernel⟩, List.mem_of_getElem? (i := 867) (by decide +kernel), List.mem_of_getElem? (i := 1183) (by decide +kernel), List.mem_of_getElem? (i := 1184) (by decide +kernel)⟩
theorem lw_p45 : lw_okq (⟨"PoloSeasonModel", "rightOf", "()I"⟩, 55) := ⟨⟨by decide +kernel, by decide +kernel⟩, List.mem_of_getElem? (i := 867) (by decide +kernel), List.mem_of_getElem? (i := 1222) (by decide +kernel), List.mem_of_getElem? (i := 1223) (by decide +kernel)⟩
theorem lw_p46 : lw_okq (⟨"PoloSeasonModel", "along", "(I)J"⟩, 55) := ⟨⟨by decide +kernel, by decide +kernel⟩, List.mem_of_getElem? (i := 867) (by decide +kernel), List.mem_of_getElem? (i := 1226) (by decide +kernel), List.mem_of_getElem? (i := 1227) (by decide +kernel)⟩
theorem lw_p47 : lw_okq (⟨"PoloSeasonModel", "isAhead", "(II)Z"⟩, 55) := ⟨⟨by decide +kernel, by decide +kernel⟩, List.mem_of_getElem? (i := 867) (by decide +kernel), List.mem_of_getElem? (i := 1230) (by decide +kernel), List.mem_of_getElem? (i := 1231) (by decide +kernel)⟩
def lw_privs_3 : List (MethodName × Nat) := [(⟨"PoloSeasonModel", "givenTo", "(II)I"⟩, 55), (⟨"PoloSeasonModel", "rides", "(II)V"⟩, 55), (⟨"PoloSeasonModel", "mounts", "(II)V"⟩, 55), (⟨"PoloSeasonModel", "sharesOf", "(I)V"⟩, 55), (⟨"PoloSeasonModel", "total", "()I"⟩, 55), (⟨"PoloSeasonModel", "sortLed", "()V"⟩, 55), (⟨"PoloSeasonModel", "compared", "()I"⟩, 55), (⟨"PoloSeasonModel", "keepsShare", "()V"⟩, 55), (⟨"PoloSeasonModel", "tries", "(III)Z"⟩, 55), (⟨"PoloSeasonModel", "mayGoOn", "()Z"⟩, 55), (⟨"PoloSeasonModel", "ends", "()V"⟩, 55), (⟨"PoloSeasonModel", "hasLost", "(I)Z"⟩, 55), (⟨"PoloSeasonModel", "isPony", "(I)Z"⟩, 55), (⟨"PoloSeasonModel", "rightOf", "()I"⟩, 55), (⟨"PoloSeasonModel", "along", "(I)J"⟩, 55), (⟨"PoloSeasonModel", "isAhead", "(II)Z"⟩, 55)]
theorem lw_r3 : ∀ q ∈ lw_privs_3, lw_okq q := List.forall_mem_cons.mpr ⟨lw_p32, List.forall_mem_cons.mpr ⟨lw_p33, List.forall_mem_cons.mpr ⟨lw_p34, List.forall_mem_cons.mpr ⟨lw_p35, List.forall_mem_cons.mpr ⟨lw_p36, List.forall_mem_cons.mpr ⟨lw_p37, List.forall_mem_cons.mpr ⟨lw_p38, List.forall_mem_cons.mpr ⟨lw_p39, List.forall_mem_cons.mpr ⟨lw_p40, List.forall_mem_cons.mpr ⟨lw_p41, List.forall_mem_cons.mpr ⟨lw_p42, List.forall_mem_cons.mpr ⟨lw_p43, List.forall_mem_cons.mpr ⟨lw_p44, List.forall_mem_cons.mpr ⟨lw_p45, List.forall_mem_cons.mpr ⟨lw_p46, List.forall_mem_cons.mpr ⟨lw_p47, fun _ h => absurd h List.not_mem_nil⟩⟩⟩⟩⟩⟩⟩⟩⟩⟩⟩⟩⟩⟩⟩⟩
theorem lw_p48 : lw_okq (⟨"PoloSeasonModel", "way", "(I)J"⟩, 55) := ⟨⟨by decide +kernel, by decide +kernel⟩, List.mem_of_getElem? (i := 867) (by decide +kernel), List.mem_of_getElem? (i := 1234) (by decide +kernel), List.mem_of_getElem? (i := 1235) (by decide +kernel)⟩
theorem lw_p49 : lw_okq (⟨"PoloSeasonModel", "far", "(I)J"⟩, 55) := ⟨⟨by decide +kernel, by decide +kernel⟩, List.mem_of_getElem? (i := 867) (by decide +kernel), List.mem_of_getElem? (i := 1238) (by decide +kernel), List.mem_of_getElem? (i := 1239) (by decide +kernel)⟩
theorem lw_p50 : lw_okq (⟨"PoloSeasonModel", "meets", "(II)Z"⟩, 55) := ⟨⟨by decide +kernel, by decide +kernel⟩, List.mem_of_getElem? (i := 867) (by decide +kernel), List.mem_of_getElem? (i := 1246) (by decide +kernel), List.mem_of_getElem? (i := 1247) (by decide +kernel)⟩
def lw_privs_4 : List (MethodName × Nat) := [(⟨"PoloSeasonModel", "way", "(I)J"⟩, 55), (⟨"PoloSeasonModel", "far", "(I)J"⟩, 55), (⟨"PoloSeasonModel", "meets", "(II)Z"⟩, 55)]
theorem lw_r4 : ∀ q ∈ lw_privs_4, lw_okq q := List.forall_mem_cons.mpr ⟨lw_p48, List.forall_mem_cons.mpr ⟨lw_p49, List.forall_mem_cons.mpr ⟨lw_p50, fun _ h => absurd h List.not_mem_nil⟩⟩⟩
def lw_privs : List (MethodName × Nat) := lw_privs_1 ++ (lw_privs_2 ++ (lw_privs_3 ++ (lw_privs_4)))
def lw_tbl : List Cond := k2_sels lw_privs ++ tables_1
theorem lw_privs_ok : ∀ q ∈ lw_privs, lw_okq q := by
  show ∀ q ∈ lw_privs_1 ++ (lw_privs_2 ++ (lw_privs_3 ++ (lw_privs_4))), lw_okq q
  exact List.forall_mem_append.mpr ⟨lw_r1, List.forall_mem_append.mpr ⟨lw_r2, List.forall_mem_append.mpr ⟨lw_r3, lw_r4⟩⟩⟩

/-! ===== BEGIN words of one list among another's, by their places ===== -/
theorem goodIn_r {big : List Cond} (ws : List Cond) (ps : List Nat) (hp : ws = ps.filterMap (fun i => big[i]?)) (h : ws.all goodWord = true) : GoodIn big ws := by
  intro w hw
  have h1 := List.all_eq_true.mp h w hw
  rw [hp] at hw
  obtain ⟨i, -, hi⟩ := List.mem_filterMap.mp hw
  have hm : w ∈ big := by first | exact List.mem_of_getElem? hi | exact List.getElem?_mem hi
  exact ⟨hm, good_of_word h1⟩
theorem goodIn_app {big a b : List Cond} (ha : GoodIn big a) (hb : GoodIn big b) : GoodIn big (a ++ b) := fun w h => (List.mem_append.mp h).elim (ha w) (hb w)
theorem goodIn_ca {big a b : List Cond} {c : Cond} (ha : GoodIn big (c :: a)) (hb : GoodIn big b) : GoodIn big (c :: (a ++ b)) := fun w h => (List.mem_cons.mp h).elim (fun e => ha w (List.mem_cons.mpr (Or.inl e))) (fun h => (List.mem_append.mp h).elim (fun h => ha w (List.mem_cons.mpr (Or.inr h))) (hb w))
theorem goodIn_sub {big ws : List Cond} (hm : ∀ w ∈ ws, w ∈ big) (h : ws.all goodWord = true) : GoodIn big ws := fun w hw => ⟨hm w hw, good_of_word (List.all_eq_true.mp h w hw)⟩
/-! ===== END ===== -/

/-! ===== BEGIN exceptions that leave a method, and their catching by the caller (launches without stack traces) ===== -/
section VXA
/-! The laws vx_back, vx_callV, vx_callS, vx_callSW, vx_throw0, vx_throwS follow proofs of the library, with one case more: JvmDerived/Free/Laws.lean (Back.of_free), Shelf42/LK1.lean (callV, callS), Shelf/KitTraced.lean (throwNew0V, throwNewS). -/
/-- where a method has thrown q: the class by its name, the cell, what was written, the world -/
def vx_T (XC : String → State → State → Prop) (st : State) (q : Addr) (t : State) (mc ms : Nat) (free : Addr → Prop) : Prop :=
  ∃ (E : String) (ce : Cell) (L : List Loc), XC E st t ∧ t.heap[q]? = some ce ∧ ce.vm = .none ∧ st.vm.findClass E = some ce.cls ∧ st.WarmedH t.vm ∧ st.sameButNew ({ t with vm := st.vm } : State) L mc ms ∧ ∀ z ∈ L, free z.base
def vx_Q (Qc : Array Value → State → Outcome → State → Prop) (XC : String → State → State → Prop) (mc ms : Nat) (free : Addr → Prop) : Array Value → State → Outcome → State → Prop := fun a st o t =>
  (Qc a st o t ∧ ∃ L, FrameEnd st o t L mc ms ∧ ∀ q ∈ L, free q.base) ∨ ∃ q, o = .threw q ∧ vx_T XC st q t mc ms free
/-- a callee that returns or throws -/
def vx_Met (l : Launch) (y : MethodName) (ws : List Cond) (rm : Room) (Pc : Array Value → State → Prop) (Qc : Array Value → State → Outcome → State → Prop) (XC : String → State → State → Prop) (mc ms : Nat) (free : Addr → Prop) : Prop :=
  MetFree l y (headSpec ws rm) Pc (fun _ _ _ _ _ => True) (vx_Q Qc XC mc ms free)
def vx_Post (XC : String → State → State → Prop) (mc ms : Nat) (free : Addr → Prop) : Pt → Array Value → Addr → Pt → Prop := fun A a q B =>
  ∃ (g : JFrame) (mk : MethodId) (t : State) (L : List Loc) (E : String) (ce : Cell), B.U.heap = t.heap ∧ B.U.vm = t.vm ∧ XC E (A.U.calling g mk a) t ∧ t.heap[q]? = some ce ∧ ce.vm = .none ∧ A.U.vm.findClass E = some ce.cls ∧ B.locs = A.locs ++ L ∧ (∀ z ∈ L, free z.base) ∧ B.cells = A.cells + mc ∧ B.slots = A.slots + ms
def vx_Back (l : Launch) (R : Room) (p : Program) (e : Env) (below : List Frame) (s : State) (sargs : Array Value) (y : MethodName) (len W9 : Nat)
    (Pre : Pt → Array Value → Prop) (Post : Pt → Array Value → Option Value → Pt → Prop) (PostX : Pt → Array Value → Addr → Pt → Prop) : Prop :=
  ∀ (m : MethodId) (meth : Method) (c : Code) (A : Pt) (g : JFrame) (ig : Instr) (mk : MethodId) (a : Array Value),
    Stand p l e R s m sargs below meth c A.U A.locs A.cells A.slots → g.method = m → g.locals.size = c.maxLocals → decode c.code g.pc = .ok (ig, len) →
    2 * g.monitorRoom + (g.stack.map fun v => v.category).sum ≤ W9 → A.U.methodNamed? y = some mk → Pre A a →
    (∃ (v : Option Value) (B : Pt), Stand p l e R s m sargs below meth c B.U B.locs B.cells B.slots ∧ Post A a v B ∧
      Steps p.tables e below (doInvoke e (A.U.setTop g) [] mk a).1 (B.U.setTop { g with pc := g.pc + len, stack := v.toList ++ g.stack })) ∨
    (∃ (q : Addr) (B : Pt), Stand p l e R s m sargs below meth c B.U B.locs B.cells B.slots ∧ PostX A a q B ∧
      Steps p.tables e below (doInvoke e (A.U.setTop g) [] mk a).1 ((B.U.setTop g).pushFrame (.throwing q)))
section Payer
variable {l : Launch} {R : Room} {p : Program} {e : Env} {below : List Frame} {s : State} {sargs : Array Value} {y : MethodName} {len W9 : Nat}
theorem vx_back {ws : List Cond} {rm : Room} {Pc : Array Value → State → Prop} {Qc : Array Value → State → Outcome → State → Prop} {XC : String → State → State → Prop} {mc ms : Nat} {free : Addr → Prop} {bytes : ByteArray} {maxL : Nat} {ret : Option FieldType}
    (hM : vx_Met l y ws rm Pc Qc XC mc ms free) (hblind : FrameBlind Pc) (hrc : rm.cells = mc) (hrs : rm.slots = ms)
    (hframes : rm.frames + 1 ≤ R.frames) (hlocals : W9 + (maxL + 11) + rm.locals ≤ R.locals)
    (hws : ∀ w ∈ ws, ∀ a' U, s.WarmedH U.vm → w.before a' U = true) (hcode : Cond.code y bytes maxL ret ∈ ws) (hinit : ∀ a' U, s.WarmedH U.vm → (Cond.initialized y.cls).before a' U = true) :
    vx_Back l R p e below s sargs y len W9 (PreOf R mc ms Pc) (PostOf Qc mc ms free) (vx_Post XC mc ms free) := by
  intro m meth c A g ig mk a X hg hsize hdg hW hn hp
  have h1 : (headSpec ws rm).pre.before a A.U = true := atoms_intro fun w hw => hws w hw _ _ X.warmed
  have h2 : (Cond.code y bytes maxL ret).before a A.U = true := hws _ hcode _ _ X.warmed
  have h3 : (Cond.initialized y.cls).before a A.U = true := hinit _ _ X.warmed
  have h4 : A.cells + (headSpec ws rm).room.cells ≤ R.cells := by rw [show (headSpec ws rm).room.cells = mc from hrc]; exact hp.1
  have h5 : A.slots + (headSpec ws rm).room.slots ≤ R.slots := by rw [show (headSpec ws rm).room.slots = ms from hrs]; exact hp.2.1
  have hPc : Pc a (A.U.calling g mk a) := hblind _ _ _ _ hp.2.2
  obtain ⟨U, Ls, c0, s0⟩ := A
  dsimp only [Pt.U, Pt.locs, Pt.cells, Pt.slots] at h1 h2 h3 h4 h5 X hn hPc ⊢
  obtain ⟨methY, cY, hmY, hcY, -, hlY, -, -, -, -⟩ := Cond.code_spec hn h2
  obtain ⟨kY, hkY, -⟩ := className_of_methodNamed hn
  have hinitY : kY.init = .initialized := Cond.initialized_spec (findClass_of_methodNamed hn) hkY h3
  have h : At U g.method c below := by rw [hg]; exact X.here
  have hlocals9 : W9 + (maxL + 11) + (headSpec ws rm).room.locals ≤ R.locals := hlocals
  have happ : (headSpec ws rm).appliesLoose y e.platform (U.calling g mk a) = true :=
    Spec.appliesLoose_calling (g := g) h hdg hn hkY hinitY
      (X.room_calling (g := g) (R' := (headSpec ws rm).room) hsize hmY hcY hframes (by rw [hlY]; omega) h4 h5) h1
  obtain ⟨mid, hmid⟩ := h.above
  have hfr : (U.setTop g).frames = (.java g :: mid) ++ below := by rw [State.frames_setTop' g h.top, hmid]; rfl
  obtain ⟨o, s₂, hsteps, -, hend, hq⟩ := Steps.callFree hM p X.admits X.cas X.clock (acts := []) hfr happ hPc trivial
  have hq' : vx_Q Qc XC mc ms free a (U.calling g mk a) o s₂ := hq
  rw [State.frames_setTop' g h.top] at hend
  obtain ⟨g₀, hg0⟩ := Option.isSome_iff_exists.mp h.top
  obtain ⟨r, hr⟩ := State.topJava?_eq_some.mp hg0
  have hr' : (({ U with heap := s₂.heap, slotsUsed := s₂.slotsUsed } : State).setVm s₂.vm).frames = .java g₀ :: r := hr
  rcases hq' with ⟨hqc, L, hfe, hL⟩ | ⟨q, rfl, E, ce, L, hx, hce, hcv, hcl, hW₂, hsm, hL⟩
  · obtain ⟨⟨v, rfl⟩, hW₂, e2, q2, q3, q4, q5, q6⟩ := id hfe
    have e3 : s₂ = ({ (U.calling g mk a).setFrames s₂.frames with heap := s₂.heap, slotsUsed := s₂.slotsUsed } : State).setVm s₂.vm := by
      have : s₂ = ({ s₂ with vm := (U.calling g mk a).vm } : State).setVm s₂.vm := rfl
      rw [e2] at this
      exact this
    obtain ⟨c₂, i₂, len₂, hc₂, hd₂, hf₂⟩ := hend
    have hW' : U.WarmedH s₂.vm := hW₂
    have hcc : c₂ = c := by
      have h1 : s₂.code? g.method = U.code? g.method := by
        rw [State.code?_eq, State.code?_eq, hW'.alike.method?]
      exact Option.some.inj (hc₂.symm.trans (h1.trans h.code))
    subst hcc
    have hlen : len₂ = len := by rw [hdg] at hd₂; cases hd₂; rfl
    subst hlen
    have hs₂ : s₂ = (({ U with heap := s₂.heap, slotsUsed := s₂.slotsUsed } : State).setVm s₂.vm).setTop { g with pc := g.pc + len₂, stack := v.toList ++ g.stack } := by
      refine e3.trans ?_
      rw [hf₂, State.calling_eq h.top, State.setFrames_setFrames, State.setTop_of_frames _ hr', hr]
      rfl
    have hsame : U.sameButNew ({ U with heap := s₂.heap, slotsUsed := s₂.slotsUsed } : State) L mc ms := by
      refine ⟨?_, q2, q3, q4, q5, q6⟩
      obtain ⟨t, ht, -⟩ := State.frames_cons hr
      show ({ U with heap := s₂.heap, slotsUsed := s₂.slotsUsed } : State) = { U.setFrames U.frames with heap := s₂.heap, slotsUsed := s₂.slotsUsed }
      rw [State.setFrames_self ht]
    subst hg
    refine Or.inl ⟨v, ⟨(({ U with heap := s₂.heap, slotsUsed := s₂.slotsUsed } : State).setVm s₂.vm), Ls ++ L, c0 + mc, s0 + ms⟩,
      ⟨X.admits, X.cas, X.clock, X.frames, X.room, X.hears, X.method, X.code, (X.here.setHeapUsed s₂.heap s₂.slotsUsed).setVm hW'.alike, X.tail, State.WarmedH.trans X.warmed hW', X.limits, X.bytes, X.same.trans (hsame.setVm s.vm)⟩,
      ⟨g, mk, s₂, L, rfl, rfl, hqc, rfl, hL, rfl, rfl⟩, ?_⟩
    show Steps p.tables e below _ ((({ U with heap := s₂.heap, slotsUsed := s₂.slotsUsed } : State).setVm s₂.vm).setTop { g with pc := g.pc + len₂, stack := v.toList ++ g.stack })
    rw [← hs₂]
    exact hsteps
  · obtain ⟨e2, q2, q3, q4, q5, q6⟩ := id hsm
    have e3 : s₂ = ({ (U.calling g mk a).setFrames s₂.frames with heap := s₂.heap, slotsUsed := s₂.slotsUsed } : State).setVm s₂.vm := by
      have : s₂ = ({ s₂ with vm := (U.calling g mk a).vm } : State).setVm s₂.vm := rfl
      rw [e2] at this
      exact this
    have hf₂ : s₂.frames = .throwing q :: .java g :: U.frames.tail := hend
    have hW' : U.WarmedH s₂.vm := hW₂
    have hs₂ : s₂ = ((({ U with heap := s₂.heap, slotsUsed := s₂.slotsUsed } : State).setVm s₂.vm).setTop g).pushFrame (.throwing q) := by
      refine e3.trans ?_
      rw [hf₂, State.calling_eq h.top, State.setFrames_setFrames, State.pushFrame, State.frames_setTop _ hr', State.setTop_of_frames _ hr', State.setFrames_setFrames, hr]
      rfl
    have hsame : U.sameButNew ({ U with heap := s₂.heap, slotsUsed := s₂.slotsUsed } : State) L mc ms := by
      refine ⟨?_, q2, q3, q4, q5, q6⟩
      obtain ⟨t, ht, -⟩ := State.frames_cons hr
      show ({ U with heap := s₂.heap, slotsUsed := s₂.slotsUsed } : State) = { U.setFrames U.frames with heap := s₂.heap, slotsUsed := s₂.slotsUsed }
      rw [State.setFrames_self ht]
    subst hg
    refine Or.inr ⟨q, ⟨(({ U with heap := s₂.heap, slotsUsed := s₂.slotsUsed } : State).setVm s₂.vm), Ls ++ L, c0 + mc, s0 + ms⟩,
      ⟨X.admits, X.cas, X.clock, X.frames, X.room, X.hears, X.method, X.code, (X.here.setHeapUsed s₂.heap s₂.slotsUsed).setVm hW'.alike, X.tail, State.WarmedH.trans X.warmed hW', X.limits, X.bytes, X.same.trans (hsame.setVm s.vm)⟩,
      ⟨g, mk, s₂, L, E, ce, rfl, rfl, hx, hce, hcv, hcl, rfl, hL, rfl, rfl⟩, ?_⟩
    show Steps p.tables e below _ (((({ U with heap := s₂.heap, slotsUsed := s₂.slotsUsed } : State).setVm s₂.vm).setTop g).pushFrame (.throwing q))
    rw [← hs₂]
    exact hsteps
end Payer
section Calls
variable {p : Program} {l : Launch} {e : Env} {R : Room} {s : State} {m : MethodId} {args : Array Value} {below : List Frame} {meth : Method} {c : Code} {T : State} {locs : List Loc} {cells slots : Nat}
theorem vx_callV (X : Stand p l e R s m args below meth c T locs cells slots) (hexec : p.tables.exec = Jvm.exec) {own C : String} {index : Nat} {y : MethodName} {bytes : ByteArray} {maxL : Nat} {ret : Option FieldType}
    (hown : s.vm.findClass own = some m.cls) (hlink : (Cond.methodLink own index y).before args s = true) (hinst : (Cond.instanceMethod y).before args s = true) (hsel : (Cond.selects C y y).before args s = true)
    (hcode : (Cond.code y bytes maxL ret).before args s = true) (hy : y.cls ≠ "java/lang/invoke/MethodHandle" ∧ y.cls ≠ "java/lang/invoke/VarHandle")
    {W9 : Nat} {Pre : Pt → Array Value → Prop} {Post : Pt → Array Value → Option Value → Pt → Prop} {PostX : Pt → Array Value → Addr → Pt → Prop} (hK : vx_Back l R p e below s args y 3 W9 Pre Post PostX)
    {b : Addr} {cellB : Cell} (hcell : T.heap[b]? = some cellB) (hobj : cellB.vm.isStatics = false) (hcls : s.vm.findClass C = some cellB.cls)
    {g : JFrame} (hg : g.method = m) (hsize : g.locals.size = c.maxLocals) {argsL rest : List Value} (hlen : ∀ sig, parseMethodDescriptor y.desc = some sig → argsL.length = sig.parameters.length)
    (hstack : g.stack = argsL.reverse ++ .ref b :: rest) (hW : 2 * g.monitorRoom + (rest.map fun v => v.category).sum ≤ W9) (hdg : decode c.code g.pc = .ok (.invokevirtual index, 3))
    (hpre : ∀ vm₁, s.WarmedH vm₁ → Pre ⟨T.setVm vm₁, locs, cells, slots⟩ (Value.ref b :: argsL).toArray) :
    (∃ (v : Option Value) (vm₁ : Vm) (B : Pt), s.WarmedH vm₁ ∧ Stand p l e R s m args below meth c B.U B.locs B.cells B.slots ∧ Post ⟨T.setVm vm₁, locs, cells, slots⟩ (Value.ref b :: argsL).toArray v B ∧
      ∀ target, Steps p.tables e below (B.U.setTop { g with pc := g.pc + 3, stack := v.toList ++ rest }) target → Steps p.tables e below (T.setTop g) target) ∨
    (∃ (q : Addr) (vm₁ : Vm) (B : Pt), s.WarmedH vm₁ ∧ Stand p l e R s m args below meth c B.U B.locs B.cells B.slots ∧ PostX ⟨T.setVm vm₁, locs, cells, slots⟩ (Value.ref b :: argsL).toArray q B ∧
      Steps p.tables e below (T.setTop g) ((B.U.setTop { g with stack := rest }).pushFrame (.throwing q))) := by
  obtain ⟨mk, methM, hnamed, hmethM, hstM, habM⟩ := Cond.instanceMethod_spec hinst
  obtain ⟨methM', cM, hmethM', -, -, -, -, -, -, hsigM⟩ := Cond.code_spec hnamed hcode
  cases hmethM.symm.trans hmethM'
  obtain ⟨c2, r2, m2, q1, q2, q3, q4, kP, hkP, hkPi⟩ := Cond.selects_spec hsel
  cases hcls.symm.trans q1
  cases (State.methodFound?_of_named hnamed hy).symm.trans q2
  cases hnamed.symm.trans q3
  have hselP : selectMethod e.platform s.vm cellB.cls mk = .method mk := by rw [Launch.admits_selectMethod X.admits]; exact q4
  obtain ⟨vm₁, X₁, hstep₁⟩ := X.invokevirtual hexec hown hlink hnamed hmethM hstM hkP hkPi hy (a := b) (cell := cellB) hcell
    (fun z h => by rw [h] at hobj; cases hobj) hselP hmethM habM hkP hkPi (g := g) hg (argsL := argsL) (rest := rest) (hlen _ hsigM) hstack hdg
  rcases hK m meth c ⟨T.setVm vm₁, locs, cells, slots⟩ { g with stack := rest } (.invokevirtual index) mk (Value.ref b :: argsL).toArray X₁ hg hsize hdg hW (X₁.named hnamed) (hpre vm₁ X₁.warmed) with ⟨v, B, X', hpost, hsteps⟩ | ⟨q, B, X', hpost, hsteps⟩
  · exact Or.inl ⟨v, vm₁, B, X₁.warmed, X', hpost, fun target h => hstep₁ _ fun acts => by rw [doInvoke_state]; exact hsteps.trans h⟩
  · exact Or.inr ⟨q, vm₁, B, X₁.warmed, X', hpost, hstep₁ _ fun acts => by rw [doInvoke_state]; exact hsteps⟩
theorem vx_callS (X : Stand p l e R s m args below meth c T locs cells slots) (hexec : p.tables.exec = Jvm.exec) {own : String} {index : Nat} {y : MethodName} {bytes : ByteArray} {maxL : Nat} {ret : Option FieldType}
    (hown : s.vm.findClass own = some m.cls) (hlink : (Cond.methodLink own index y).before args s = true) (hstat : (Cond.static y).before args s = true) (hinit : (Cond.initialized y.cls).before args s = true)
    (hcode : (Cond.code y bytes maxL ret).before args s = true) (hy : y.cls ≠ "java/lang/invoke/MethodHandle" ∧ y.cls ≠ "java/lang/invoke/VarHandle")
    {W9 : Nat} {Pre : Pt → Array Value → Prop} {Post : Pt → Array Value → Option Value → Pt → Prop} {PostX : Pt → Array Value → Addr → Pt → Prop} (hK : vx_Back l R p e below s args y 3 W9 Pre Post PostX)
    {g : JFrame} (hg : g.method = m) (hsize : g.locals.size = c.maxLocals) {argsL rest : List Value} (hlen : ∀ sig, parseMethodDescriptor y.desc = some sig → argsL.length = sig.parameters.length)
    (hstack : g.stack = argsL.reverse ++ rest) (hW : 2 * g.monitorRoom + (rest.map fun v => v.category).sum ≤ W9) (hdg : decode c.code g.pc = .ok (.invokestatic index, 3))
    (hpre : ∀ vm₁, s.WarmedH vm₁ → Pre ⟨T.setVm vm₁, locs, cells, slots⟩ argsL.toArray) :
    (∃ (v : Option Value) (vm₁ : Vm) (B : Pt), s.WarmedH vm₁ ∧ Stand p l e R s m args below meth c B.U B.locs B.cells B.slots ∧ Post ⟨T.setVm vm₁, locs, cells, slots⟩ argsL.toArray v B ∧
      ∀ target, Steps p.tables e below (B.U.setTop { g with pc := g.pc + 3, stack := v.toList ++ rest }) target → Steps p.tables e below (T.setTop g) target) ∨
    (∃ (q : Addr) (vm₁ : Vm) (B : Pt), s.WarmedH vm₁ ∧ Stand p l e R s m args below meth c B.U B.locs B.cells B.slots ∧ PostX ⟨T.setVm vm₁, locs, cells, slots⟩ argsL.toArray q B ∧
      Steps p.tables e below (T.setTop g) ((B.U.setTop { g with stack := rest }).pushFrame (.throwing q))) := by
  obtain ⟨mk, hnamed⟩ := Cond.code_named hcode
  obtain ⟨methM, cM, hmethM, -, -, -, -, -, -, hsigM⟩ := Cond.code_spec hnamed hcode
  have hstatic : methM.isStatic = true := Cond.static_spec hnamed hmethM hstat
  obtain ⟨kP, hkP, -⟩ := className_of_methodNamed hnamed
  have hinitP : kP.init = .initialized := Cond.initialized_spec (findClass_of_methodNamed hnamed) hkP hinit
  obtain ⟨vm₁, X₁, hstep₁⟩ := X.invokestatic hexec hown hlink hnamed hmethM hstatic hkP hinitP hy (g := g) hg (argsL := argsL) (rest := rest) (hlen _ hsigM) hstack hdg
  rcases hK m meth c ⟨T.setVm vm₁, locs, cells, slots⟩ { g with stack := rest } (.invokestatic index) mk argsL.toArray X₁ hg hsize hdg hW (X₁.named hnamed) (hpre vm₁ X₁.warmed) with ⟨v, B, X', hpost, hsteps⟩ | ⟨q, B, X', hpost, hsteps⟩
  · exact Or.inl ⟨v, vm₁, B, X₁.warmed, X', hpost, fun target h => hstep₁ _ fun acts => by rw [doInvoke_state]; exact hsteps.trans h⟩
  · exact Or.inr ⟨q, vm₁, B, X₁.warmed, X', hpost, hstep₁ _ fun acts => by rw [doInvoke_state]; exact hsteps⟩
end Calls
theorem vx_cls {s : State} {T : State} {vm₁ : Vm} {E : String} {k : ClassId} (hW : s.WarmedH vm₁) (h : (T.setVm vm₁).vm.findClass E = some k) : s.vm.findClass E = some k := by
  have h1 : vm₁.findClass E = some k := h
  rw [hW.alike.findClass] at h1
  exact h1
/-- the method's frame g, with q thrown over it -/
def vx_W (p : Program) (l : Launch) (e : Env) (R : Room) (s : State) (m : MethodId) (args : Array Value) (below : List Frame) (meth : Method) (c : Code) (H : Heap) (locs : List Loc) (cells slots : Nat) (Q : State → Prop) (g : JFrame) (q : Addr) : Prop :=
  ∀ T : State, T.heap = H → Stand p l e R s m args below meth c T locs cells slots → ∃ t, Steps p.tables e below ((T.setTop g).pushFrame (.throwing q)) t ∧ Q t
def vx_Run (p : Program) (l : Launch) (e : Env) (R : Room) (s : State) (m : MethodId) (args : Array Value) (below : List Frame) (meth : Method) (c : Code) (H : Heap) (locs : List Loc) (cells slots mc ms : Nat) (g : JFrame) (rest : List Value) (Qa : State → Outcome → State → Prop) (XC : String → State → State → Prop) (free : Addr → Prop) : Prop :=
  ∀ T : State, T.heap = H → Stand p l e R s m args below meth c T locs cells slots →
    (∃ (v : Option Value) (st₀ t T' : State) (L : List Loc), st₀.heap = H ∧ Stand p l e R s m args below meth c T' (locs ++ L) (cells + mc) (slots + ms) ∧ (∀ q ∈ L, free q.base) ∧ T'.heap = t.heap ∧ T'.vm = t.vm ∧ Qa st₀ (.returned v) t ∧
      Goes p e below T g T' { g with pc := g.pc + 3, stack := v.toList ++ rest }) ∨
    (∃ (q : Addr) (st₀ t T' : State) (L : List Loc) (E : String) (ce : Cell), st₀.heap = H ∧ Stand p l e R s m args below meth c T' (locs ++ L) (cells + mc) (slots + ms) ∧ (∀ z ∈ L, free z.base) ∧ T'.heap = t.heap ∧ T'.vm = t.vm ∧ XC E st₀ t ∧ t.heap[q]? = some ce ∧ ce.vm = .none ∧ s.vm.findClass E = some ce.cls ∧
      Steps p.tables e below (T.setTop g) ((T'.setTop { g with stack := rest }).pushFrame (.throwing q)))
def vx_X {S : Type} (px : S → Prop) (B : String → S → State → Prop) (A : Nat → Prop) : String → State → State → Prop := fun E st t => ∃ u : S, px u ∧ B E u t ∧ va_F A st t
section Runs
variable {p : Program} {l : Launch} {e : Env} {R : Room} {s : State} {m : MethodId} {args : Array Value} {below : List Frame} {meth : Method} {c : Code} {H : Heap} {locs : List Loc} {cells slots : Nat}
variable {y : MethodName} {bytes cc : ByteArray} {maxL nL mc ms n index : Nat} {ret : Option FieldType} {ws : List Cond} {rm : Room} {Pc : Array Value → State → Prop} {Qc : Array Value → State → Outcome → State → Prop} {XC : String → State → State → Prop} {free : Addr → Prop} {Ts : List Cond} {own C : String} {b : Addr} {As rest : List Value} {g : JFrame}
theorem vx_callBack (cb : CallB R s args own index y bytes maxL ret ws rm mc ms n) (hM : vx_Met l y ws rm Pc Qc XC mc ms free) (hbl : FrameBlind Pc) : vx_Back l R p e below s args y 3 8 (PreOf R mc ms Pc) (PostOf Qc mc ms free) (vx_Post XC mc ms free) := by
  obtain ⟨hrc, hrs, hfr, hlo, hws, hcw, -, hini, -⟩ := cb
  exact vx_back (bytes := bytes) (maxL := maxL) (ret := ret) hM hbl hrc hrs hfr hlo hws hcw (fun a' U hW => word_at hW (Or.inl (by first | rfl | simp [Cond.onTables, Cond.keeps, Cond.steady])) hini)
theorem vx_runV (S : CallFix p m c cc nL s args Ts own) (hM : vx_Met l y ws rm Pc Qc XC mc ms free) (cw : CallW R s args own C index y bytes maxL ret ws rm mc ms n) (hp : PreV s H C b Pc As)
    (hg : g.method = m) (hn : As.length = n) (hsize : g.locals.size = nL) (hstack : g.stack = As.reverse ++ .ref b :: rest) (hW : 2 * g.monitorRoom + (rest.map fun v => v.category).sum ≤ 8) (hdg : decode cc g.pc = .ok (.invokevirtual index, 3)) (hf : cells + mc ≤ R.cells ∧ slots + ms ≤ R.slots) :
    vx_Run p l e R s m args below meth c H locs cells slots mc ms g rest (Qc (Value.ref b :: As).toArray) XC free := by
  have hK : vx_Back l R p e below s args y 3 8 (PreOf R mc ms Pc) (PostOf Qc mc ms free) (vx_Post XC mc ms free) := vx_callBack cw.1 hM hp.1
  obtain ⟨⟨-, -, -, -, -, -, hcode, -, hy, hlen, hl⟩, hin, hse⟩ := cw
  obtain ⟨hx, hb, hml, ho, -⟩ := S
  obtain ⟨-, ⟨cellB, hcB, hoB, hclB⟩, hPc⟩ := hp
  intro T hT X
  rcases vx_callV X hx (C := C) (bytes := bytes) (maxL := maxL) (ret := ret) ho hl hin hse hcode hy hK (by rw [hT]; exact hcB) hoB hclB hg (hsize.trans hml.symm) (argsL := As) (rest := rest) (fun sig h => hn.trans (hlen sig h)) hstack hW (by rw [hb]; exact hdg)
    (fun vm₁ hW₁ => ⟨hf.1, hf.2, hPc (T.setVm vm₁) hT hW₁⟩) with ⟨v, vm₁, ⟨U', l2, c2, s2⟩, hW₁, X', ⟨g', mk, t, L, e1, e2, hq, h1, hL, h2, h3⟩, st⟩ | ⟨q, vm₁, ⟨U', l2, c2, s2⟩, hW₁, X', ⟨g', mk, t, L, E, ce, e1, e2, hq, hce, hcv, hcl, h1, hL, h2, h3⟩, st⟩
  · dsimp only [Pt.U, Pt.locs, Pt.cells, Pt.slots] at X' e1 e2 h1 h2 h3 st
    subst h1; subst h2; subst h3
    exact Or.inl ⟨v, (T.setVm vm₁).calling g' mk (Value.ref b :: As).toArray, t, U', L, hT, X', hL, e1, e2, hq, st⟩
  · dsimp only [Pt.U, Pt.locs, Pt.cells, Pt.slots] at X' e1 e2 h1 h2 h3 st hcl
    subst h1; subst h2; subst h3
    exact Or.inr ⟨q, (T.setVm vm₁).calling g' mk (Value.ref b :: As).toArray, t, U', L, E, ce, hT, X', hL, e1, e2, hq, hce, hcv, vx_cls hW₁ hcl, st⟩
theorem vx_runS (S : CallFix p m c cc nL s args Ts own) (hM : vx_Met l y ws rm Pc Qc XC mc ms free) (cw : CallB R s args own index y bytes maxL ret ws rm mc ms n ∧ (Cond.static y).before args s = true) (hp : PreS s H Pc As)
    (hg : g.method = m) (hn : As.length = n) (hsize : g.locals.size = nL) (hstack : g.stack = As.reverse ++ rest) (hW : 2 * g.monitorRoom + (rest.map fun v => v.category).sum ≤ 8) (hdg : decode cc g.pc = .ok (.invokestatic index, 3)) (hf : cells + mc ≤ R.cells ∧ slots + ms ≤ R.slots) :
    vx_Run p l e R s m args below meth c H locs cells slots mc ms g rest (Qc As.toArray) XC free := by
  have hK : vx_Back l R p e below s args y 3 8 (PreOf R mc ms Pc) (PostOf Qc mc ms free) (vx_Post XC mc ms free) := vx_callBack cw.1 hM hp.1
  obtain ⟨⟨-, -, -, -, -, -, hcode, hini, hy, hlen, hl⟩, hstt⟩ := cw
  obtain ⟨hx, hb, hml, ho, -⟩ := S
  intro T hT X
  rcases vx_callS X hx (bytes := bytes) (maxL := maxL) (ret := ret) ho hl hstt hini hcode hy hK hg (hsize.trans hml.symm) (argsL := As) (rest := rest) (fun sig h => hn.trans (hlen sig h)) hstack hW (by rw [hb]; exact hdg)
    (fun vm₁ hW₁ => ⟨hf.1, hf.2, hp.2 (T.setVm vm₁) hT hW₁⟩) with ⟨v, vm₁, ⟨U', l2, c2, s2⟩, hW₁, X', ⟨g', mk, t, L, e1, e2, hq, h1, hL, h2, h3⟩, st⟩ | ⟨q, vm₁, ⟨U', l2, c2, s2⟩, hW₁, X', ⟨g', mk, t, L, E, ce, e1, e2, hq, hce, hcv, hcl, h1, hL, h2, h3⟩, st⟩
  · dsimp only [Pt.U, Pt.locs, Pt.cells, Pt.slots] at X' e1 e2 h1 h2 h3 st
    subst h1; subst h2; subst h3
    exact Or.inl ⟨v, (T.setVm vm₁).calling g' mk As.toArray, t, U', L, hT, X', hL, e1, e2, hq, st⟩
  · dsimp only [Pt.U, Pt.locs, Pt.cells, Pt.slots] at X' e1 e2 h1 h2 h3 st hcl
    subst h1; subst h2; subst h3
    exact Or.inr ⟨q, (T.setVm vm₁).calling g' mk As.toArray, t, U', L, E, ce, hT, X', hL, e1, e2, hq, hce, hcv, vx_cls hW₁ hcl, st⟩
end Runs
section Rows
variable {p : Program} {l : Launch} {e : Env} {R : Room} {s : State} {m : MethodId} {args : Array Value} {below : List Frame} {meth : Method} {c : Code} {H : Heap} {locs : List Loc} {cells slots : Nat} {Q : State → Prop}
variable {mc ms : Nat} {free : Addr → Prop} {A0 A1 : Nat → Prop} {H0 : Heap} {a : Array Value} {pc : Nat} {ls : Array Slot} {st0 rest : List Value}
theorem vx_keep {st₀ t T' : State} {L : List Loc} (h0 : st₀.heap = H) (e1 : T'.heap = t.heap) (hS : va_S A0 H0 H locs) (hA : ∀ q, q < H.size → A1 q → A0 q) (hf : ∀ q, free q → A0 q) (hL : ∀ q ∈ L, free q.base) (hF : va_F A1 st₀ t) :
    H.size ≤ T'.heap.size ∧ (∀ q : Nat, q < H.size → ¬ A1 q → T'.heap[q]? = H[q]?) ∧ va_S A0 H0 T'.heap (locs ++ L) := by
  obtain ⟨hz, hk⟩ := hF
  rw [h0] at hz hk
  exact ⟨by rw [e1]; exact hz, fun q h1 h2 => by rw [e1]; exact hk q h1 h2,
    ⟨Nat.le_trans hS.1 (by rw [e1]; exact hz), fun q h1 h2 => by rw [e1, hk q (Nat.lt_of_lt_of_le h1 hS.1) (fun z => h2 (hA q (Nat.lt_of_lt_of_le h1 hS.1) z))]; exact hS.2.1 q h1 h2, fun q hq => by
      rcases List.mem_append.mp hq with h | h
      · exact hS.2.2 q h
      · exact hf _ (hL q h)⟩⟩
theorem vx_calli {S SX : Type} {post : Int32 → S → Prop} {px : SX → Prop} {B : S → State → Prop} {BX : String → SX → State → Prop} {AX : Nat → Prop} (hr : vx_Run p l e R s m args below meth c H locs cells slots mc ms (F0 m pc ls st0) rest (va_Qi post B A1 a) (vx_X px BX AX) free) (hS : va_S A0 H0 H locs) (hA : ∀ q, q < H.size → A1 q → A0 q) (hf : ∀ q, free q → A0 q) (hAX : ∀ q, q < H.size → AX q → A0 q)
    (kx : ∀ (E : String) (ce : Cell) (q9 : Addr) (u : SX) (t : State) (H1 : Heap) (locs1 : List Loc), t.heap = H1 → s.vm.Alike t.vm → px u → BX E u t → H.size ≤ H1.size → (∀ q : Nat, q < H.size → ¬ AX q → H1[q]? = H[q]?) → va_S A0 H0 H1 locs1 → H1[q9]? = some ce → ce.vm = .none → s.vm.findClass E = some ce.cls → vx_W p l e R s m args below meth c H1 locs1 (cells + mc) (slots + ms) Q (F0 m pc ls rest) q9)
    (kk : ∀ (r : Int32) (u : S) (t : State) (H1 : Heap) (locs1 : List Loc), t.heap = H1 → s.vm.Alike t.vm → post r u → B u t → H.size ≤ H1.size → (∀ q : Nat, q < H.size → ¬ A1 q → H1[q]? = H[q]?) → va_S A0 H0 H1 locs1 → W p l e R s m args below meth c H1 locs1 (cells + mc) (slots + ms) Q (F0 m (pc + 3) ls (.int r :: rest))) : W p l e R s m args below meth c H locs cells slots Q (F0 m pc ls st0) := by
  intro T hT X
  rcases hr T hT X with ⟨v, st₀, t, T', L, h0, X', hL, e1, e2, ⟨⟨r, u, hv, hp, hb⟩, hF⟩, st⟩ | ⟨q, st₀, t, T', L, E, ce, h0, X', hL, e1, e2, ⟨u, hp, hb, hF⟩, hce, hcv, hcl, st⟩
  · cases hv
    obtain ⟨k1, k2, k3⟩ := vx_keep h0 e1 hS hA hf hL hF
    obtain ⟨t2, a1, b1⟩ := kk r u t T'.heap (locs ++ L) e1.symm (by rw [← e2]; exact X'.warmed.alike) hp hb k1 k2 k3 T' rfl X'
    exact ⟨t2, st t2 a1, b1⟩
  · obtain ⟨k1, k2, k3⟩ := vx_keep h0 e1 hS hAX hf hL hF
    obtain ⟨t2, a1, b1⟩ := kx E ce q u t T'.heap (locs ++ L) e1.symm (by rw [← e2]; exact X'.warmed.alike) hp hb k1 k2 k3 (by rw [e1]; exact hce) hcv hcl T' rfl X'
    exact ⟨t2, st.trans a1, b1⟩
theorem vx_calll {S SX : Type} {post : Int64 → S → Prop} {px : SX → Prop} {B : S → State → Prop} {BX : String → SX → State → Prop} {AX : Nat → Prop} (hr : vx_Run p l e R s m args below meth c H locs cells slots mc ms (F0 m pc ls st0) rest (va_Ql post B A1 a) (vx_X px BX AX) free) (hS : va_S A0 H0 H locs) (hA : ∀ q, q < H.size → A1 q → A0 q) (hf : ∀ q, free q → A0 q) (hAX : ∀ q, q < H.size → AX q → A0 q)
    (kx : ∀ (E : String) (ce : Cell) (q9 : Addr) (u : SX) (t : State) (H1 : Heap) (locs1 : List Loc), t.heap = H1 → s.vm.Alike t.vm → px u → BX E u t → H.size ≤ H1.size → (∀ q : Nat, q < H.size → ¬ AX q → H1[q]? = H[q]?) → va_S A0 H0 H1 locs1 → H1[q9]? = some ce → ce.vm = .none → s.vm.findClass E = some ce.cls → vx_W p l e R s m args below meth c H1 locs1 (cells + mc) (slots + ms) Q (F0 m pc ls rest) q9)
    (kk : ∀ (r : Int64) (u : S) (t : State) (H1 : Heap) (locs1 : List Loc), t.heap = H1 → s.vm.Alike t.vm → post r u → B u t → H.size ≤ H1.size → (∀ q : Nat, q < H.size → ¬ A1 q → H1[q]? = H[q]?) → va_S A0 H0 H1 locs1 → W p l e R s m args below meth c H1 locs1 (cells + mc) (slots + ms) Q (F0 m (pc + 3) ls (.long r :: rest))) : W p l e R s m args below meth c H locs cells slots Q (F0 m pc ls st0) := by
  intro T hT X
  rcases hr T hT X with ⟨v, st₀, t, T', L, h0, X', hL, e1, e2, ⟨⟨r, u, hv, hp, hb⟩, hF⟩, st⟩ | ⟨q, st₀, t, T', L, E, ce, h0, X', hL, e1, e2, ⟨u, hp, hb, hF⟩, hce, hcv, hcl, st⟩
  · cases hv
    obtain ⟨k1, k2, k3⟩ := vx_keep h0 e1 hS hA hf hL hF
    obtain ⟨t2, a1, b1⟩ := kk r u t T'.heap (locs ++ L) e1.symm (by rw [← e2]; exact X'.warmed.alike) hp hb k1 k2 k3 T' rfl X'
    exact ⟨t2, st t2 a1, b1⟩
  · obtain ⟨k1, k2, k3⟩ := vx_keep h0 e1 hS hAX hf hL hF
    obtain ⟨t2, a1, b1⟩ := kx E ce q u t T'.heap (locs ++ L) e1.symm (by rw [← e2]; exact X'.warmed.alike) hp hb k1 k2 k3 (by rw [e1]; exact hce) hcv hcl T' rfl X'
    exact ⟨t2, st.trans a1, b1⟩
theorem vx_callf {S SX : Type} {post : UInt32 → S → Prop} {px : SX → Prop} {B : S → State → Prop} {BX : String → SX → State → Prop} {AX : Nat → Prop} (hr : vx_Run p l e R s m args below meth c H locs cells slots mc ms (F0 m pc ls st0) rest (va_Qf post B A1 a) (vx_X px BX AX) free) (hS : va_S A0 H0 H locs) (hA : ∀ q, q < H.size → A1 q → A0 q) (hf : ∀ q, free q → A0 q) (hAX : ∀ q, q < H.size → AX q → A0 q)
    (kx : ∀ (E : String) (ce : Cell) (q9 : Addr) (u : SX) (t : State) (H1 : Heap) (locs1 : List Loc), t.heap = H1 → s.vm.Alike t.vm → px u → BX E u t → H.size ≤ H1.size → (∀ q : Nat, q < H.size → ¬ AX q → H1[q]? = H[q]?) → va_S A0 H0 H1 locs1 → H1[q9]? = some ce → ce.vm = .none → s.vm.findClass E = some ce.cls → vx_W p l e R s m args below meth c H1 locs1 (cells + mc) (slots + ms) Q (F0 m pc ls rest) q9)
    (kk : ∀ (r : UInt32) (u : S) (t : State) (H1 : Heap) (locs1 : List Loc), t.heap = H1 → s.vm.Alike t.vm → post r u → B u t → H.size ≤ H1.size → (∀ q : Nat, q < H.size → ¬ A1 q → H1[q]? = H[q]?) → va_S A0 H0 H1 locs1 → W p l e R s m args below meth c H1 locs1 (cells + mc) (slots + ms) Q (F0 m (pc + 3) ls (.float r :: rest))) : W p l e R s m args below meth c H locs cells slots Q (F0 m pc ls st0) := by
  intro T hT X
  rcases hr T hT X with ⟨v, st₀, t, T', L, h0, X', hL, e1, e2, ⟨⟨r, u, hv, hp, hb⟩, hF⟩, st⟩ | ⟨q, st₀, t, T', L, E, ce, h0, X', hL, e1, e2, ⟨u, hp, hb, hF⟩, hce, hcv, hcl, st⟩
  · cases hv
    obtain ⟨k1, k2, k3⟩ := vx_keep h0 e1 hS hA hf hL hF
    obtain ⟨t2, a1, b1⟩ := kk r u t T'.heap (locs ++ L) e1.symm (by rw [← e2]; exact X'.warmed.alike) hp hb k1 k2 k3 T' rfl X'
    exact ⟨t2, st t2 a1, b1⟩
  · obtain ⟨k1, k2, k3⟩ := vx_keep h0 e1 hS hAX hf hL hF
    obtain ⟨t2, a1, b1⟩ := kx E ce q u t T'.heap (locs ++ L) e1.symm (by rw [← e2]; exact X'.warmed.alike) hp hb k1 k2 k3 (by rw [e1]; exact hce) hcv hcl T' rfl X'
    exact ⟨t2, st.trans a1, b1⟩
theorem vx_calld {S SX : Type} {post : UInt64 → S → Prop} {px : SX → Prop} {B : S → State → Prop} {BX : String → SX → State → Prop} {AX : Nat → Prop} (hr : vx_Run p l e R s m args below meth c H locs cells slots mc ms (F0 m pc ls st0) rest (va_Qd post B A1 a) (vx_X px BX AX) free) (hS : va_S A0 H0 H locs) (hA : ∀ q, q < H.size → A1 q → A0 q) (hf : ∀ q, free q → A0 q) (hAX : ∀ q, q < H.size → AX q → A0 q)
    (kx : ∀ (E : String) (ce : Cell) (q9 : Addr) (u : SX) (t : State) (H1 : Heap) (locs1 : List Loc), t.heap = H1 → s.vm.Alike t.vm → px u → BX E u t → H.size ≤ H1.size → (∀ q : Nat, q < H.size → ¬ AX q → H1[q]? = H[q]?) → va_S A0 H0 H1 locs1 → H1[q9]? = some ce → ce.vm = .none → s.vm.findClass E = some ce.cls → vx_W p l e R s m args below meth c H1 locs1 (cells + mc) (slots + ms) Q (F0 m pc ls rest) q9)
    (kk : ∀ (r : UInt64) (u : S) (t : State) (H1 : Heap) (locs1 : List Loc), t.heap = H1 → s.vm.Alike t.vm → post r u → B u t → H.size ≤ H1.size → (∀ q : Nat, q < H.size → ¬ A1 q → H1[q]? = H[q]?) → va_S A0 H0 H1 locs1 → W p l e R s m args below meth c H1 locs1 (cells + mc) (slots + ms) Q (F0 m (pc + 3) ls (.double r :: rest))) : W p l e R s m args below meth c H locs cells slots Q (F0 m pc ls st0) := by
  intro T hT X
  rcases hr T hT X with ⟨v, st₀, t, T', L, h0, X', hL, e1, e2, ⟨⟨r, u, hv, hp, hb⟩, hF⟩, st⟩ | ⟨q, st₀, t, T', L, E, ce, h0, X', hL, e1, e2, ⟨u, hp, hb, hF⟩, hce, hcv, hcl, st⟩
  · cases hv
    obtain ⟨k1, k2, k3⟩ := vx_keep h0 e1 hS hA hf hL hF
    obtain ⟨t2, a1, b1⟩ := kk r u t T'.heap (locs ++ L) e1.symm (by rw [← e2]; exact X'.warmed.alike) hp hb k1 k2 k3 T' rfl X'
    exact ⟨t2, st t2 a1, b1⟩
  · obtain ⟨k1, k2, k3⟩ := vx_keep h0 e1 hS hAX hf hL hF
    obtain ⟨t2, a1, b1⟩ := kx E ce q u t T'.heap (locs ++ L) e1.symm (by rw [← e2]; exact X'.warmed.alike) hp hb k1 k2 k3 (by rw [e1]; exact hce) hcv hcl T' rfl X'
    exact ⟨t2, st.trans a1, b1⟩
theorem vx_callv {S SX : Type} {post : S → Prop} {px : SX → Prop} {B : S → State → Prop} {BX : String → SX → State → Prop} {AX : Nat → Prop} (hr : vx_Run p l e R s m args below meth c H locs cells slots mc ms (F0 m pc ls st0) rest (va_Qv post B A1 a) (vx_X px BX AX) free) (hS : va_S A0 H0 H locs) (hA : ∀ q, q < H.size → A1 q → A0 q) (hf : ∀ q, free q → A0 q) (hAX : ∀ q, q < H.size → AX q → A0 q)
    (kx : ∀ (E : String) (ce : Cell) (q9 : Addr) (u : SX) (t : State) (H1 : Heap) (locs1 : List Loc), t.heap = H1 → s.vm.Alike t.vm → px u → BX E u t → H.size ≤ H1.size → (∀ q : Nat, q < H.size → ¬ AX q → H1[q]? = H[q]?) → va_S A0 H0 H1 locs1 → H1[q9]? = some ce → ce.vm = .none → s.vm.findClass E = some ce.cls → vx_W p l e R s m args below meth c H1 locs1 (cells + mc) (slots + ms) Q (F0 m pc ls rest) q9)
    (kk : ∀ (u : S) (t : State) (H1 : Heap) (locs1 : List Loc), t.heap = H1 → s.vm.Alike t.vm → post u → B u t → H.size ≤ H1.size → (∀ q : Nat, q < H.size → ¬ A1 q → H1[q]? = H[q]?) → va_S A0 H0 H1 locs1 → W p l e R s m args below meth c H1 locs1 (cells + mc) (slots + ms) Q (F0 m (pc + 3) ls (rest))) : W p l e R s m args below meth c H locs cells slots Q (F0 m pc ls st0) := by
  intro T hT X
  rcases hr T hT X with ⟨v, st₀, t, T', L, h0, X', hL, e1, e2, ⟨⟨u, hv, hp, hb⟩, hF⟩, st⟩ | ⟨q, st₀, t, T', L, E, ce, h0, X', hL, e1, e2, ⟨u, hp, hb, hF⟩, hce, hcv, hcl, st⟩
  · cases hv
    obtain ⟨k1, k2, k3⟩ := vx_keep h0 e1 hS hA hf hL hF
    obtain ⟨t2, a1, b1⟩ := kk u t T'.heap (locs ++ L) e1.symm (by rw [← e2]; exact X'.warmed.alike) hp hb k1 k2 k3 T' rfl X'
    exact ⟨t2, st t2 a1, b1⟩
  · obtain ⟨k1, k2, k3⟩ := vx_keep h0 e1 hS hAX hf hL hF
    obtain ⟨t2, a1, b1⟩ := kx E ce q u t T'.heap (locs ++ L) e1.symm (by rw [← e2]; exact X'.warmed.alike) hp hb k1 k2 k3 (by rw [e1]; exact hce) hcv hcl T' rfl X'
    exact ⟨t2, st.trans a1, b1⟩
end Rows
section Ends
variable {p : Program} {l : Launch} {e : Env} {R : Room} {s : State} {m : MethodId} {args : Array Value} {below : List Frame} {meth : Method} {c : Code} {H : Heap} {locs : List Loc} {cells slots : Nat} {Q : State → Prop}
variable {mc ms : Nat} {free : Addr → Prop} {A0 A1 : Nat → Prop} {H0 : Heap} {a : Array Value} {ls : Array Slot} {st0 rest : List Value}
variable {Qc : Array Value → State → Outcome → State → Prop} {XC : String → State → State → Prop}
/-- what a body that may throw owes at its end -/
def vx_MQ (below : List Frame) (Qc : Array Value → State → Outcome → State → Prop) (XC : String → State → State → Prop) (a : Array Value) (s : State) (mc ms : Nat) (free : Addr → Prop) : State → Prop := fun t =>
  ∃ o, t.status = .running ∧ Ended t below o ∧ vx_Q Qc XC mc ms free a s o t
theorem vx_ret {g : JFrame} {mc ms : Nat} (k : W p l e R s m args below meth c H locs cells slots (MQ below Qc args s mc ms free) g) : W p l e R s m args below meth c H locs cells slots (vx_MQ below Qc XC args s mc ms free) g := by
  intro T hT X
  obtain ⟨t, a1, o, b1, b2, b3, b4⟩ := k T hT X
  exact ⟨t, a1, o, b1, b2, Or.inl ⟨b3, b4⟩⟩
/-- not caught here: it goes on to the caller -/
theorem vx_widen {g : JFrame} {q : Addr} {k n : Nat} (h1 : cells ≤ k) (h2 : slots ≤ n) (kk : vx_W p l e R s m args below meth c H locs k n Q g q) : vx_W p l e R s m args below meth c H locs cells slots Q g q := fun T hT X => kk T hT (stand_widen X h1 h2)
theorem vx_out {pc : Nat} {E : String} {ce : Cell} {q : Addr} {mc ms : Nat} (hout : ∀ x ∈ c.exceptionTable.toList, covers x pc = false) (hlocks : meth.locks = false) (hcell : H[q]? = some ce) (hv : ce.vm = .none) (hcl : s.vm.findClass E = some ce.cls)
    (hx : ∀ t : State, t.heap = H → s.vm.Alike t.vm → XC E s t) (hf : ∀ z ∈ locs, free z.base) (hc : cells ≤ mc) (hs : slots ≤ ms) :
    vx_W p l e R s m args below meth c H locs cells slots (vx_MQ below Qc XC args s mc ms free) (F0 m pc ls rest) q := by
  intro T hT X
  obtain ⟨st1, hrun, hend, hW, hsm⟩ := X.leaveThrown q (g := F0 m pc ls rest) rfl rfl rfl hout hlocks
  have hcell9 : (T.setFrames (.throwing q :: below)).heap[q]? = some ce := by
    show T.heap[q]? = some ce
    rw [hT]; exact hcell
  exact ⟨_, st1, .threw q, hrun, hend, Or.inr ⟨q, rfl, E, ce, locs, hx _ hT hW.alike, hcell9, hv, hcl, hW, hsm.mono hc hs, hf⟩⟩
theorem vx_frame {U : State} {k n : Nat} (h : s.sameButNew ({ U with vm := s.vm } : State) locs k n) : s.heap.size ≤ U.heap.size ∧ ∀ q : Nat, q < s.heap.size → (∀ z ∈ locs, z.base ≠ q) → U.heap[q]? = s.heap[q]? := by
  obtain ⟨-, h2, -, -, -, h6⟩ := h
  refine ⟨h2, fun q hq hz => ?_⟩
  obtain ⟨c9, e1, e2, e3, e4⟩ := h6 q _ (Array.getElem?_eq_getElem hq)
  have hs : c9.slots = (s.heap[q]).slots := Array.ext_getElem? fun i => e4 i fun hm => hz _ hm rfl
  have h9 : c9 = s.heap[q] := by
    rw [hs] at e2
    exact e2
  have e5 : U.heap[q]? = some c9 := e1
  rw [e5, h9, Array.getElem?_eq_getElem hq]
/-- the words of a throw but the four that speak of the heap -/
def vx_no (w : Cond) : Bool := decide (w ≠ .isRef (.static Bundle.tN "UNASSIGNED_STACK" Bundle.steD)) && decide (w ≠ .isRef (.static Bundle.tN "SUPPRESSED_SENTINEL" Bundle.listD)) && decide (w ≠ .laysStatic Bundle.tN "UNASSIGNED_STACK" Bundle.steD) && decide (w ≠ .laysStatic Bundle.tN "SUPPRESSED_SENTINEL" Bundle.listD)
def vx_at0 (own : String) (ic : Nat) (X : String) (names : List String) : List Cond := (Bundle.ownAtoms0 own ic X names).filter vx_no
def vx_atS (own : String) (ic : Nat) (X : String) (names : List String) : List Cond := (Bundle.ownAtoms own ic X names).filter vx_no
/-- a word that the tables alone decide, or a good one -/
def vx_ot (w : Cond) : Bool := w.onTables || goodWord w
theorem vx_ot_at {args a' : Array Value} {s U : State} {w : Cond} (hW : s.WarmedH U.vm) (hvm : s.vm = U.vm) (hg : vx_ot w = true) (h : w.before args s = true) : w.before a' U = true := by
  simp only [vx_ot, Bool.or_eq_true] at hg
  rcases hg with hg | hg
  · exact va_tabs hg hvm h
  · exact word_at hW (good_of_word hg) h
/-- a list's words: the good ones out of the method's own list, the others by premises of their own -/
theorem vx_hat {args : Array Value} {s : State} {L B : List Cond} (h1 : ∀ w ∈ L.filter goodWord, w.before args s = true) (h2 : ∀ w ∈ L.filter (fun w => !goodWord w), w ∈ B) (h3 : ∀ w ∈ B, w.before args s = true) : ∀ w ∈ L, w.before args s = true := by
  intro w hw
  by_cases g : goodWord w = true
  · exact h1 w (List.mem_filter.mpr ⟨hw, g⟩)
  · refine h3 w (h2 w (List.mem_filter.mpr ⟨hw, ?_⟩))
    show (!goodWord w) = true
    cases hgw : goodWord w
    · rfl
    · exact absurd hgw g
theorem vx_c {args : Array Value} {s : State} {w : Cond} {B : List Cond} (h : w.before args s = true) (t : ∀ w ∈ B, w.before args s = true) : ∀ w' ∈ w :: B, w'.before args s = true := fun w' h' => (List.mem_cons.mp h').elim (fun e => by rw [e]; exact h) (t w')
theorem vx_n {args : Array Value} {s : State} : ∀ w ∈ ([] : List Cond), w.before args s = true := fun _ h => nomatch h
theorem vx_own {args : Array Value} {s : State} {L : List Cond} (h1 : ∀ w ∈ L.filter vx_no, w.before args s = true)
    (hU : (Cond.isRef (.static Bundle.tN "UNASSIGNED_STACK" Bundle.steD)).before args s = true) (hN : (Cond.isRef (.static Bundle.tN "SUPPRESSED_SENTINEL" Bundle.listD)).before args s = true)
    (lU : (Cond.laysStatic Bundle.tN "UNASSIGNED_STACK" Bundle.steD).before args s = true) (lN : (Cond.laysStatic Bundle.tN "SUPPRESSED_SENTINEL" Bundle.listD).before args s = true) : ∀ w ∈ L, w.before args s = true := by
  intro w hw
  by_cases e1 : w = .isRef (.static Bundle.tN "UNASSIGNED_STACK" Bundle.steD)
  · rw [e1]; exact hU
  · by_cases e2 : w = .isRef (.static Bundle.tN "SUPPRESSED_SENTINEL" Bundle.listD)
    · rw [e2]; exact hN
    · by_cases e3 : w = .laysStatic Bundle.tN "UNASSIGNED_STACK" Bundle.steD
      · rw [e3]; exact lU
      · by_cases e4 : w = .laysStatic Bundle.tN "SUPPRESSED_SENTINEL" Bundle.listD
        · rw [e4]; exact lN
        · exact h1 w (List.mem_filter.mpr ⟨hw, by unfold vx_no; rw [decide_eq_true e1, decide_eq_true e2, decide_eq_true e3, decide_eq_true e4]; rfl⟩)
/-- where a static field lies, its class's statics cell in H -/
def vx_L (C n d : String) (A : Nat → Prop) (U : State) (H : Heap) : Prop := ∃ (c : ClassId) (k : Class) (i : Nat) (f : Field) (a : Nat) (cell : Cell), U.vm.findClass C = some c ∧ U.fieldFound? C n d = some (c, k, i, f) ∧ f.isStatic = true ∧ k.statics = some a ∧ H[a]? = some cell ∧ cell.vm.isStatics = true ∧ cell.cls = c ∧ f.slot < cell.slots.size ∧ k.staticTypes[f.slot]? = some f.type ∧ ¬ A a
theorem vx_L.moved {C n d : String} {A : Nat → Prop} {u U : State} {H : Heap} (hvm : u.vm.Alike U.vm) (h : vx_L C n d A u H) : vx_L C n d A U H := by
  obtain ⟨c, k, i, f, a, cell, h1, h2, h3, h4, h5, h6, h7, h8, h9, h10⟩ := h
  obtain ⟨k', hi', he⟩ := State.fieldFound?_setVm hvm h2
  exact ⟨c, k', i, f, a, cell, by rw [hvm.findClass]; exact h1, hi', h3, by rw [he]; exact h4, h5, h6, h7, h8, by rw [he]; exact h9, h10⟩
theorem vx_L.kept {C n d : String} {A : Nat → Prop} {U : State} {H H1 : Heap} (h : vx_L C n d A U H) (hq : ∀ a : Nat, a < H.size → ¬ A a → H1[a]? = H[a]?) : vx_L C n d A U H1 := by
  obtain ⟨c, k, i, f, a, cell, h1, h2, h3, h4, h5, h6, h7, h8, h9, h10⟩ := h
  exact ⟨c, k, i, f, a, cell, h1, h2, h3, h4, by rw [hq a (Array.getElem?_eq_some_iff.mp h5).1 h10]; exact h5, h6, h7, h8, h9, h10⟩
theorem vx_L.narrow {C n d : String} {A B : Nat → Prop} {U : State} {H : Heap} (h : vx_L C n d A U H) (hAB : ∀ q, B q → A q) : vx_L C n d B U H := by
  obtain ⟨c, k, i, f, a, cell, h1, h2, h3, h4, h5, h6, h7, h8, h9, h10⟩ := h
  exact ⟨c, k, i, f, a, cell, h1, h2, h3, h4, h5, h6, h7, h8, h9, fun z => h10 (hAB _ z)⟩
theorem vx_L.word {C n d : String} {A : Nat → Prop} {s : State} {args : Array Value} (h : vx_L C n d A s s.heap) : (Cond.laysStatic C n d).before args s = true := by
  obtain ⟨c, k, i, f, a, cell, h1, h2, h3, h4, h5, h6, h7, h8, h9, -⟩ := h
  show (Cond.laysStatic C n d).holds args s none s [] = true
  exact Cond.laysStatic_of h1 h2 h3 h4 h5 h6 h7 h8 h9
/-- .. and what it holds: null or some reference -/
def vx_Zq (C n d : String) (A : Nat → Prop) (U : State) (H : Heap) : Prop := va_Zq C n d A U H ∧ vx_L C n d A U H
theorem vx_Zq.moved {C n d : String} {A : Nat → Prop} {u U : State} {H : Heap} (hvm : u.vm.Alike U.vm) (h : vx_Zq C n d A u H) : vx_Zq C n d A U H := ⟨va_Zq.moved hvm h.1, vx_L.moved hvm h.2⟩
theorem vx_Zq.kept {C n d : String} {A : Nat → Prop} {U : State} {H H1 : Heap} (h : vx_Zq C n d A U H) (hq : ∀ a : Nat, a < H.size → ¬ A a → H1[a]? = H[a]?) : vx_Zq C n d A U H1 := ⟨va_Zq.kept h.1 hq, vx_L.kept h.2 hq⟩
theorem vx_Zq.narrow {C n d : String} {A B : Nat → Prop} {U : State} {H : Heap} (h : vx_Zq C n d A U H) (hAB : ∀ q, B q → A q) : vx_Zq C n d B U H := ⟨va_Zq.narrow h.1 hAB, vx_L.narrow h.2 hAB⟩
theorem vx_Zqof {args : Array Value} {s : State} {C n d : String} {A : Nat → Prop} (hl : (Cond.laysStatic C n d).before args s = true) (hini : (Cond.initialized C).before args s = true) (h : (Cond.isRef (.static C n d)).before args s = true) (hA : ∀ a : Nat, a < s.heap.size → ¬ A a) : vx_Zq C n d A s s.heap := by
  refine ⟨va_Zqof hl hini h hA, ?_⟩
  obtain ⟨c, k, i, f, a, cell, h1, h2, h3, h4, h5, h6, h7, h8, h9⟩ := Cond.laysStatic_spec hl
  exact ⟨c, k, i, f, a, cell, h1, h2, h3, h4, h5, h6, h7, h8, h9, hA a (Array.getElem?_eq_some_iff.mp h5).1⟩
theorem vx_isRef {C n d : String} {v : Value} {A : Nat → Prop} {s : State} {args : Array Value} (h : va_Z C n d v A s s.heap) (hv : v.isRef = true) : (Cond.isRef (.static C n d)).before args s = true := by
  obtain ⟨cf, kf, fi, f, a, cell, h1, h2, h3, h4, h5, h6, h7, -⟩ := h
  have he : (Term.static C n d).eval args s none [] s = some v := by
    simp [Term.eval, State.fieldNamed?, h1, h2, h4, h5, h6, h7]
  simp only [Cond.before, Cond.holds, Cond.value, he]
  cases v <;> simp_all [Value.isRef]
theorem vx_isRefq {C n d : String} {A : Nat → Prop} {s : State} {args : Array Value} (h : va_Zq C n d A s s.heap) : (Cond.isRef (.static C n d)).before args s = true := by
  rcases h with h | ⟨t, h⟩
  · exact vx_isRef h rfl
  · exact vx_isRef h rfl
/-- the same frame, seen from here: as if the method were called anew in this heap -/
theorem vx_rebase {T : State} (X : Stand p l e R s m args below meth c T locs cells slots) {R' : Room} (hf : R'.frames ≤ R.frames) (hl : R'.locals ≤ R.locals) (hc : cells + R'.cells ≤ R.cells) (hs : slots + R'.slots ≤ R.slots) :
    Stand p l e R' ((T.setVm s.vm).setFrames (.invoking m args :: below)) m args below meth c T [] 0 0 := by
  have htop : (T.setVm s.vm).topJava?.isSome := X.here.top
  have hF : ((T.setVm s.vm).setFrames (.invoking m args :: below)).frames = .invoking m args :: below := State.frames_setFrames _ (State.cur_lt_of_top htop)
  obtain ⟨g₀, hg0⟩ := Option.isSome_iff_exists.mp htop
  obtain ⟨r, hr⟩ := State.topJava?_eq_some.mp hg0
  have hl9 : e.platform.stackLimits (T.setVm s.vm).me = e.platform.stackLimits s.me := X.limits
  have hb9 : (T.setVm s.vm).me.stackBytes = s.me.stackBytes := X.bytes
  refine ⟨X.admits, X.cas, X.clock, hF, ?_, X.hears, X.method, X.code, X.here, X.tail, X.warmed, ?_, ?_, ?_⟩
  · have h := X.room
    have hU : ((T.setVm s.vm).setFrames (.invoking m args :: below)).localsInUse = s.localsInUse := by
      rw [State.localsInUse_invoking hF (meth := meth) (c := c) X.method X.code, State.localsInUse_invoking X.frames X.method X.code]
    simp only [State.hasRoom, Bool.and_eq_true, decide_eq_true_eq] at h ⊢
    obtain ⟨⟨⟨⟨h1, h2, h3, h4, h5, h6⟩, h7⟩, h8⟩, h9⟩ := h
    rw [X.frames, List.length_cons] at h2 h3
    have q1 := X.heapSize
    have q2 := X.used
    simp only [hF, hU, List.length_cons, State.stackLimits_setFrames, State.stackBytes_setFrames, hl9, hb9]
    refine ⟨⟨⟨⟨by omega, by omega, by omega, by omega, by omega, h6⟩, ?_⟩, ?_⟩, X.book⟩
    · show T.heap.size + R'.cells ≤ e.platform.maxCells
      omega
    · show T.slotsUsed + R'.slots ≤ e.platform.maxSlots
      omega
  · rw [State.stackLimits_setFrames]; rfl
  · rw [State.stackBytes_setFrames]; rfl
  · refine ⟨?_, Nat.le_refl _, Nat.le_refl _, ?_, ?_, fun a c9 h9 => ⟨c9, h9, rfl, rfl, fun _ _ => rfl⟩⟩
    · obtain ⟨t, ht, -⟩ := State.frames_cons hr
      show T.setVm s.vm = { ((T.setVm s.vm).setFrames (.invoking m args :: below)).setFrames (T.setVm s.vm).frames with heap := T.heap, slotsUsed := T.slotsUsed }
      rw [State.setFrames_setFrames, State.setFrames_self ht]
      rfl
    · show T.slotsUsed = T.slotsUsed + ((T.heap.toList.drop T.heap.size).map (·.slots.size)).sum
      rw [List.drop_eq_nil_of_le (Nat.le_of_eq Array.length_toList)]
      rfl
    · show ((T.heap.toList.drop T.heap.size).map (·.slots.size)).sum ≤ 0
      rw [List.drop_eq_nil_of_le (Nat.le_of_eq Array.length_toList)]
      exact Nat.le_refl _
/-- 'throw new E()': new; dup; invokespecial; athrow -/
theorem vx_throw0 {cc : ByteArray} {pc : Nat} (hexec : p.tables.exec = Jvm.exec) (hb : c.code = cc) (hl : l.stackTraces = false) {own cls : String} {names : List String} {ik ic mc ms : Nat} {A : Nat → Prop}
    (hown : s.vm.findClass own = some m.cls) (hcls : Bundle.fit cls = true) (hnames : ∀ n ∈ names, Bundle.fit n = true)
    (hk : (Cond.classLink own ik cls).before args s = true) (hini : (Cond.initialized cls).before args s = true) (hat : ∀ w ∈ vx_at0 own ic cls names, w.before args s = true)
    (hgood : ∀ w ∈ Cond.classLink own ik cls :: Cond.initialized cls :: vx_at0 own ic cls names, vx_ot w = true)
    (hU : vx_Zq Bundle.tN "UNASSIGNED_STACK" Bundle.steD A s s.heap) (hN : vx_Zq Bundle.tN "SUPPRESSED_SENTINEL" Bundle.listD A s s.heap) (hS : va_S A s.heap H locs) (hsize : ls.size = c.maxLocals)
    (d0 : decode cc pc = .ok (.new ik, 3)) (d3 : decode cc (pc + 3) = .ok (.dup, 1)) (d4 : decode cc (pc + 4) = .ok (.invokespecial ic, 3)) (d7 : decode cc (pc + 7) = .ok (.athrow, 1))
    (hout : ∀ x ∈ c.exceptionTable.toList, covers x (pc + 7) = false)
    (hRframes : names.length + 3 < R.frames) (hRlocals : (rest.map fun v => v.category).sum + (13 * (names.length + 1) + 42) ≤ R.locals) (hRcells : cells + 1 ≤ R.cells) (hRslots : slots + 6 ≤ R.slots) (hlocks : meth.locks = false)
    (hx : ∀ t : State, s.vm.Alike t.vm → H.size ≤ t.heap.size → (∀ q : Nat, q < H.size → t.heap[q]? = H[q]?) → XC cls s t)
    (hf : ∀ z ∈ locs, free z.base) (hc : cells + 1 ≤ mc) (hs : slots + 6 ≤ ms) :
    W p l e R s m args below meth c H locs cells slots (vx_MQ below Qc XC args s mc ms free) (F0 m pc ls rest) := by
  intro T hT X
  have htr : e.platform.stackTraces = false := (show e.platform.stackTraces = l.stackTraces by rw [X.admits.platform]).trans hl
  have Y := vx_rebase X (R' := { frames := R.frames, locals := R.locals, cells := 1, slots := 6 }) (Nat.le_refl _) (Nat.le_refl _) hRcells hRslots
  obtain ⟨s', hA⟩ : ∃ z, z = (T.setVm s.vm).setFrames (.invoking m args :: below) := ⟨_, rfl⟩
  rw [← hA] at Y
  have hvm : s'.vm = s.vm := by rw [hA]; rfl
  have hhp : s'.heap = H := by rw [hA]; exact hT
  have hW0 : s.WarmedH s'.vm := by rw [hvm]; exact State.WarmedH.refl s
  have hat' : ∀ w ∈ vx_at0 own ic cls names, w.before args s' = true := fun w hw => vx_ot_at hW0 hvm.symm (hgood w (List.mem_cons_of_mem _ (List.mem_cons_of_mem _ hw))) (hat w hw)
  have hk' : (Cond.classLink own ik cls).before args s' = true := vx_ot_at hW0 hvm.symm (hgood _ List.mem_cons_self) hk
  have hini' : (Cond.initialized cls).before args s' = true := vx_ot_at hW0 hvm.symm (hgood _ (List.mem_cons_of_mem _ List.mem_cons_self)) hini
  have hU' : vx_Zq Bundle.tN "UNASSIGNED_STACK" Bundle.steD A s' s'.heap := by rw [hhp]; exact vx_Zq.moved hW0.alike (hU.kept hS.2.1)
  have hN' : vx_Zq Bundle.tN "SUPPRESSED_SENTINEL" Bundle.listD A s' s'.heap := by rw [hhp]; exact vx_Zq.moved hW0.alike (hN.kept hS.2.1)
  have h : ∀ w ∈ Bundle.ownAtoms0 own ic cls names, w.before args s' = true := vx_own hat' (vx_isRefq hU'.1) (vx_isRefq hN'.1) hU'.2.word hN'.2.word
  have hown' : s'.vm.findClass own = some m.cls := by rw [hvm]; exact hown
  have hins : (Cond.instantiable cls 6).before args s' = true := h _ (by simp [Bundle.ownAtoms0])
  obtain ⟨vm₁, cX, kX, hfX, hkX, -, -, X₁, st1⟩ := Y.newCold hexec (own := own) (C := cls) (index := ik) (n := 6) hown' hk' hins hini'
    (g := F0 m pc ls rest) rfl (by rw [hb]; exact d0) (Nat.le_refl _) (Nat.le_refl _)
  generalize hT1 : (T.setVm vm₁).pushCell { cls := cX, slots := kX.instanceTypes.map defaultValue, vm := .none } = T1 at X₁ st1
  have hcat : (Value.ref T.heap.size).category = 1 := rfl
  have hcellA : T1.heap[T.heap.size]? = some (freshCell cX kX) := by rw [← hT1]; exact State.heap_pushCell_size _ _
  have d3' : decode c.code (pc + 3) = .ok (.dup, 1) := by rw [hb]; exact d3
  obtain ⟨U, hsteps, hrun, hend, hW, hsame, ce, hce, hO⟩ := X₁.ctorThrow0 hexec htr (own := own) (cls := cls) (names := names) (ic := ic) hown' hcls hnames h (fun x hx => nomatch hx) hfX hkX hcellA (by rw [hhp, hT]; exact Nat.le_refl _)
    (g := { method := m, pc := pc + 4, locals := ls, stack := .ref T.heap.size :: .ref T.heap.size :: rest, locked := none }) rfl hsize rfl rfl (rest := rest) rfl
    (by rw [hb]; exact d4) (by rw [hb]; exact d7) hout hRframes (by simp only [List.map_cons, List.sum_cons, hcat]; omega) hlocks
  obtain ⟨f1, f2⟩ := vx_frame hsame
  rw [hhp] at f1 f2
  have hWs : s.WarmedH U.vm := State.WarmedH.trans hW0 hW
  have hcl : s.vm.findClass cls = some ce.cls := by
    have h9 := hO.cls
    rw [hvm] at h9
    exact h9
  have hall : s.sameButNew ({ U with vm := s.vm } : State) locs mc ms := by
    subst hA
    obtain ⟨e1, e2⟩ := hsame
    rw [State.setFrames_setFrames] at e1
    have h2 : (T.setVm s.vm).sameButNew ({ U with vm := s.vm } : State) [] (0 + 1) (0 + 6) := ⟨e1, e2⟩
    have h3 := X.same.trans h2
    rw [List.append_nil] at h3
    exact h3.mono hc hs
  refine ⟨U, ?_, .threw T.heap.size, hrun, hend, Or.inr ⟨T.heap.size, rfl, cls, ce, locs, hx U hWs.alike f1 (fun q hq => f2 q hq (fun z hz => nomatch hz)), hce, hO.vm, hcl, hWs, hall, hf⟩⟩
  refine st1 _ ?_
  show Steps p.tables e below (T1.setTop { method := m, pc := pc + 3, locals := ls, stack := .ref T.heap.size :: rest, locked := none }) _
  jvm_step X₁.here [X₁.here.top, hexec, d3', Value.category]
  exact hsteps
/-- 'throw new E("text")': new; dup; ldc; invokespecial; athrow -/
theorem vx_throwS {cc : ByteArray} {pc : Nat} (hexec : p.tables.exec = Jvm.exec) (hb : c.code = cc) (hl : l.stackTraces = false) {own cls text : String} {names : List String} {ik is ic mc ms sa : Nat} {A : Nat → Prop}
    (hown : s.vm.findClass own = some m.cls) (hcls : Bundle.fit cls = true) (hnames : ∀ n ∈ names, Bundle.fit n = true)
    (hk : (Cond.classLink own ik cls).before args s = true) (hini : (Cond.initialized cls).before args s = true) (hstr : vk_R own is text sa s) (hat : ∀ w ∈ vx_atS own ic cls names, w.before args s = true)
    (hgood : ∀ w ∈ Cond.classLink own ik cls :: Cond.initialized cls :: vx_atS own ic cls names, vx_ot w = true)
    (hU : vx_Zq Bundle.tN "UNASSIGNED_STACK" Bundle.steD A s s.heap) (hN : vx_Zq Bundle.tN "SUPPRESSED_SENTINEL" Bundle.listD A s s.heap) (hS : va_S A s.heap H locs) (hsize : ls.size = c.maxLocals)
    (d0 : decode cc pc = .ok (.new ik, 3)) (d3 : decode cc (pc + 3) = .ok (.dup, 1)) (d4 : decode cc (pc + 4) = .ok (.ldc is, 2)) (d6 : decode cc (pc + 6) = .ok (.invokespecial ic, 3)) (d9 : decode cc (pc + 9) = .ok (.athrow, 1))
    (hout : ∀ x ∈ c.exceptionTable.toList, covers x (pc + 9) = false)
    (hRframes : names.length + 3 < R.frames) (hRlocals : (rest.map fun v => v.category).sum + (13 * (names.length + 1) + 43) ≤ R.locals) (hRcells : cells + 1 ≤ R.cells) (hRslots : slots + 6 ≤ R.slots) (hlocks : meth.locks = false)
    (hx : ∀ t : State, s.vm.Alike t.vm → H.size ≤ t.heap.size → (∀ q : Nat, q < H.size → t.heap[q]? = H[q]?) → XC cls s t)
    (hf : ∀ z ∈ locs, free z.base) (hc : cells + 1 ≤ mc) (hs : slots + 6 ≤ ms) :
    W p l e R s m args below meth c H locs cells slots (vx_MQ below Qc XC args s mc ms free) (F0 m pc ls rest) := by
  intro T hT X
  have htr : e.platform.stackTraces = false := (show e.platform.stackTraces = l.stackTraces by rw [X.admits.platform]).trans hl
  have Y := vx_rebase X (R' := { frames := R.frames, locals := R.locals, cells := 1, slots := 6 }) (Nat.le_refl _) (Nat.le_refl _) hRcells hRslots
  obtain ⟨s', hA⟩ : ∃ z, z = (T.setVm s.vm).setFrames (.invoking m args :: below) := ⟨_, rfl⟩
  rw [← hA] at Y
  have hvm : s'.vm = s.vm := by rw [hA]; rfl
  have hhp : s'.heap = H := by rw [hA]; exact hT
  have hW0 : s.WarmedH s'.vm := by rw [hvm]; exact State.WarmedH.refl s
  have hat' : ∀ w ∈ vx_atS own ic cls names, w.before args s' = true := fun w hw => vx_ot_at hW0 hvm.symm (hgood w (List.mem_cons_of_mem _ (List.mem_cons_of_mem _ hw))) (hat w hw)
  have hk' : (Cond.classLink own ik cls).before args s' = true := vx_ot_at hW0 hvm.symm (hgood _ List.mem_cons_self) hk
  have hini' : (Cond.initialized cls).before args s' = true := vx_ot_at hW0 hvm.symm (hgood _ (List.mem_cons_of_mem _ List.mem_cons_self)) hini
  have hU' : vx_Zq Bundle.tN "UNASSIGNED_STACK" Bundle.steD A s' s'.heap := by rw [hhp]; exact vx_Zq.moved hW0.alike (hU.kept hS.2.1)
  have hN' : vx_Zq Bundle.tN "SUPPRESSED_SENTINEL" Bundle.listD A s' s'.heap := by rw [hhp]; exact vx_Zq.moved hW0.alike (hN.kept hS.2.1)
  have h : ∀ w ∈ Bundle.ownAtoms own ic cls names, w.before args s' = true := vx_own hat' (vx_isRefq hU'.1) (vx_isRefq hN'.1) hU'.2.word hN'.2.word
  have hown' : s'.vm.findClass own = some m.cls := by rw [hvm]; exact hown
  have hins : (Cond.instantiable cls 6).before args s' = true := h _ (by simp [Bundle.ownAtoms])
  obtain ⟨vm₁, cX, kX, hfX, hkX, -, -, X₁, st1⟩ := Y.newCold hexec (own := own) (C := cls) (index := ik) (n := 6) hown' hk' hins hini'
    (g := F0 m pc ls rest) rfl (by rw [hb]; exact d0) (Nat.le_refl _) (Nat.le_refl _)
  generalize hT1 : (T.setVm vm₁).pushCell { cls := cX, slots := kX.instanceTypes.map defaultValue, vm := .none } = T1 at X₁ st1
  have hcat : (Value.ref T.heap.size).category = 1 := rfl
  have hcellA : T1.heap[T.heap.size]? = some (freshCell cX kX) := by rw [← hT1]; exact State.heap_pushCell_size _ _
  have d3' : decode c.code (pc + 3) = .ok (.dup, 1) := by rw [hb]; exact d3
  have d4' : decode c.code (pc + 4) = .ok (.ldc is, 2) := by rw [hb]; exact d4
  have hstr' : vk_R own is text sa s' := vk_R.warm hW0 hstr
  obtain ⟨U, hsteps, hrun, hend, hW, hsame, ce, hce, hO⟩ := X₁.ctorThrowS hexec htr (own := own) (cls := cls) (names := names) (ic := ic) hown' hcls hnames h (fun x hx => nomatch hx) hfX hkX hcellA (by rw [hhp, hT]; exact Nat.le_refl _) (msg := .ref sa) rfl
    (g := { method := m, pc := pc + 6, locals := ls, stack := .ref sa :: .ref T.heap.size :: .ref T.heap.size :: rest, locked := none }) rfl hsize rfl rfl (rest := rest) rfl
    (by rw [hb]; exact d6) (by rw [hb]; exact d9) hout hRframes (by simp only [List.map_cons, List.sum_cons, hcat]; omega) hlocks
  obtain ⟨f1, f2⟩ := vx_frame hsame
  rw [hhp] at f1 f2
  have hWs : s.WarmedH U.vm := State.WarmedH.trans hW0 hW
  have hcl : s.vm.findClass cls = some ce.cls := by
    have h9 := hO.cls
    rw [hvm] at h9
    exact h9
  have hall : s.sameButNew ({ U with vm := s.vm } : State) locs mc ms := by
    subst hA
    obtain ⟨e1, e2⟩ := hsame
    rw [State.setFrames_setFrames] at e1
    have h2 : (T.setVm s.vm).sameButNew ({ U with vm := s.vm } : State) [] (0 + 1) (0 + 6) := ⟨e1, e2⟩
    have h3 := X.same.trans h2
    rw [List.append_nil] at h3
    exact h3.mono hc hs
  refine ⟨U, ?_, .threw T.heap.size, hrun, hend, Or.inr ⟨T.heap.size, rfl, cls, ce, locs, hx U hWs.alike f1 (fun q hq => f2 q hq (fun z hz => nomatch hz)), hce, hO.vm, hcl, hWs, hall, hf⟩⟩
  refine st1 _ ?_
  show Steps p.tables e below (T1.setTop { method := m, pc := pc + 3, locals := ls, stack := .ref T.heap.size :: rest, locked := none }) _
  jvm_step X₁.here [X₁.here.top, hexec, d3', Value.category]
  exact X₁.ldcString hexec (own := own) (text := text) (index := is) (a := sa) hown' hstr'.1 hstr'.2
    (g := { method := m, pc := pc + 4, locals := ls, stack := .ref T.heap.size :: .ref T.heap.size :: rest, locked := none }) rfl d4' _ hsteps
/-- 'throw new E("text")', the text by a wide index -/
theorem vx_throwSW {cc : ByteArray} {pc : Nat} (hexec : p.tables.exec = Jvm.exec) (hb : c.code = cc) (hl : l.stackTraces = false) {own cls text : String} {names : List String} {ik is ic mc ms sa : Nat} {A : Nat → Prop}
    (hown : s.vm.findClass own = some m.cls) (hcls : Bundle.fit cls = true) (hnames : ∀ n ∈ names, Bundle.fit n = true)
    (hk : (Cond.classLink own ik cls).before args s = true) (hini : (Cond.initialized cls).before args s = true) (hstr : vk_R own is text sa s) (hat : ∀ w ∈ vx_atS own ic cls names, w.before args s = true)
    (hgood : ∀ w ∈ Cond.classLink own ik cls :: Cond.initialized cls :: vx_atS own ic cls names, vx_ot w = true)
    (hU : vx_Zq Bundle.tN "UNASSIGNED_STACK" Bundle.steD A s s.heap) (hN : vx_Zq Bundle.tN "SUPPRESSED_SENTINEL" Bundle.listD A s s.heap) (hS : va_S A s.heap H locs) (hsize : ls.size = c.maxLocals)
    (d0 : decode cc pc = .ok (.new ik, 3)) (d3 : decode cc (pc + 3) = .ok (.dup, 1)) (d4 : decode cc (pc + 4) = .ok (.ldc_w is, 3)) (d7 : decode cc (pc + 7) = .ok (.invokespecial ic, 3)) (d10 : decode cc (pc + 10) = .ok (.athrow, 1))
    (hout : ∀ x ∈ c.exceptionTable.toList, covers x (pc + 10) = false)
    (hRframes : names.length + 3 < R.frames) (hRlocals : (rest.map fun v => v.category).sum + (13 * (names.length + 1) + 43) ≤ R.locals) (hRcells : cells + 1 ≤ R.cells) (hRslots : slots + 6 ≤ R.slots) (hlocks : meth.locks = false)
    (hx : ∀ t : State, s.vm.Alike t.vm → H.size ≤ t.heap.size → (∀ q : Nat, q < H.size → t.heap[q]? = H[q]?) → XC cls s t)
    (hf : ∀ z ∈ locs, free z.base) (hc : cells + 1 ≤ mc) (hs : slots + 6 ≤ ms) :
    W p l e R s m args below meth c H locs cells slots (vx_MQ below Qc XC args s mc ms free) (F0 m pc ls rest) := by
  intro T hT X
  have htr : e.platform.stackTraces = false := (show e.platform.stackTraces = l.stackTraces by rw [X.admits.platform]).trans hl
  have Y := vx_rebase X (R' := { frames := R.frames, locals := R.locals, cells := 1, slots := 6 }) (Nat.le_refl _) (Nat.le_refl _) hRcells hRslots
  obtain ⟨s', hA⟩ : ∃ z, z = (T.setVm s.vm).setFrames (.invoking m args :: below) := ⟨_, rfl⟩
  rw [← hA] at Y
  have hvm : s'.vm = s.vm := by rw [hA]; rfl
  have hhp : s'.heap = H := by rw [hA]; exact hT
  have hW0 : s.WarmedH s'.vm := by rw [hvm]; exact State.WarmedH.refl s
  have hat' : ∀ w ∈ vx_atS own ic cls names, w.before args s' = true := fun w hw => vx_ot_at hW0 hvm.symm (hgood w (List.mem_cons_of_mem _ (List.mem_cons_of_mem _ hw))) (hat w hw)
  have hk' : (Cond.classLink own ik cls).before args s' = true := vx_ot_at hW0 hvm.symm (hgood _ List.mem_cons_self) hk
  have hini' : (Cond.initialized cls).before args s' = true := vx_ot_at hW0 hvm.symm (hgood _ (List.mem_cons_of_mem _ List.mem_cons_self)) hini
  have hU' : vx_Zq Bundle.tN "UNASSIGNED_STACK" Bundle.steD A s' s'.heap := by rw [hhp]; exact vx_Zq.moved hW0.alike (hU.kept hS.2.1)
  have hN' : vx_Zq Bundle.tN "SUPPRESSED_SENTINEL" Bundle.listD A s' s'.heap := by rw [hhp]; exact vx_Zq.moved hW0.alike (hN.kept hS.2.1)
  have h : ∀ w ∈ Bundle.ownAtoms own ic cls names, w.before args s' = true := vx_own hat' (vx_isRefq hU'.1) (vx_isRefq hN'.1) hU'.2.word hN'.2.word
  have hown' : s'.vm.findClass own = some m.cls := by rw [hvm]; exact hown
  have hins : (Cond.instantiable cls 6).before args s' = true := h _ (by simp [Bundle.ownAtoms])
  obtain ⟨vm₁, cX, kX, hfX, hkX, -, -, X₁, st1⟩ := Y.newCold hexec (own := own) (C := cls) (index := ik) (n := 6) hown' hk' hins hini'
    (g := F0 m pc ls rest) rfl (by rw [hb]; exact d0) (Nat.le_refl _) (Nat.le_refl _)
  generalize hT1 : (T.setVm vm₁).pushCell { cls := cX, slots := kX.instanceTypes.map defaultValue, vm := .none } = T1 at X₁ st1
  have hcat : (Value.ref T.heap.size).category = 1 := rfl
  have hcellA : T1.heap[T.heap.size]? = some (freshCell cX kX) := by rw [← hT1]; exact State.heap_pushCell_size _ _
  have d3' : decode c.code (pc + 3) = .ok (.dup, 1) := by rw [hb]; exact d3
  have d4' : decode c.code (pc + 4) = .ok (.ldc_w is, 3) := by rw [hb]; exact d4
  have hstr' : vk_R own is text sa s' := vk_R.warm hW0 hstr
  obtain ⟨U, hsteps, hrun, hend, hW, hsame, ce, hce, hO⟩ := X₁.ctorThrowS hexec htr (own := own) (cls := cls) (names := names) (ic := ic) hown' hcls hnames h (fun x hx => nomatch hx) hfX hkX hcellA (by rw [hhp, hT]; exact Nat.le_refl _) (msg := .ref sa) rfl
    (g := { method := m, pc := pc + 7, locals := ls, stack := .ref sa :: .ref T.heap.size :: .ref T.heap.size :: rest, locked := none }) rfl hsize rfl rfl (rest := rest) rfl
    (by rw [hb]; exact d7) (by rw [hb]; exact d10) hout hRframes (by simp only [List.map_cons, List.sum_cons, hcat]; omega) hlocks
  obtain ⟨f1, f2⟩ := vx_frame hsame
  rw [hhp] at f1 f2
  have hWs : s.WarmedH U.vm := State.WarmedH.trans hW0 hW
  have hcl : s.vm.findClass cls = some ce.cls := by
    have h9 := hO.cls
    rw [hvm] at h9
    exact h9
  have hall : s.sameButNew ({ U with vm := s.vm } : State) locs mc ms := by
    subst hA
    obtain ⟨e1, e2⟩ := hsame
    rw [State.setFrames_setFrames] at e1
    have h2 : (T.setVm s.vm).sameButNew ({ U with vm := s.vm } : State) [] (0 + 1) (0 + 6) := ⟨e1, e2⟩
    have h3 := X.same.trans h2
    rw [List.append_nil] at h3
    exact h3.mono hc hs
  refine ⟨U, ?_, .threw T.heap.size, hrun, hend, Or.inr ⟨T.heap.size, rfl, cls, ce, locs, hx U hWs.alike f1 (fun q hq => f2 q hq (fun z hz => nomatch hz)), hce, hO.vm, hcl, hWs, hall, hf⟩⟩
  refine st1 _ ?_
  show Steps p.tables e below (T1.setTop { method := m, pc := pc + 3, locals := ls, stack := .ref T.heap.size :: rest, locked := none }) _
  jvm_step X₁.here [X₁.here.top, hexec, d3', Value.category]
  exact X₁.ldcStringW hexec (own := own) (text := text) (index := is) (a := sa) hown' hstr'.1 hstr'.2
    (g := { method := m, pc := pc + 4, locals := ls, stack := .ref T.heap.size :: .ref T.heap.size :: rest, locked := none }) rfl d4' _ hsteps
end Ends
section Bodies
variable {l : Launch}
theorem vx_ofW {y : MethodName} {ws ws' : List Cond} {rm : Room} {Pc : Array Value → State → Prop} {Qc : Array Value → State → Outcome → State → Prop} {XC : String → State → State → Prop} {mc ms : Nat} {free : Addr → Prop} {cc : ByteArray} {maxL : Nat} {ret : Option FieldType}
    (hy : plainName y.cls = true) (hw : ws = Cond.code y cc maxL ret :: ws')
    (body : ∀ p e s m args below meth c s₁, BodyLoose p l y (headSpec ws rm) cc maxL ret e s m args below meth c s₁ → c.maxLocals = maxL → (∀ x ∈ c.exceptionTable.toList, False) → Pc args s →
      W p l e (headSpec ws rm).room s m args below meth c s.heap [] 0 0 (vx_MQ below Qc XC args s mc ms free) (entryFrame m args maxL)) : vx_Met l y ws rm Pc Qc XC mc ms free := by
  refine MetFree.of_bodyS (code := cc) (maxLocals := maxL) (ret := ret) hy ?_ ?_
  · intro args s m h hn
    obtain ⟨meth, c, h1, h2, h3, h4, h5, h6, -, -⟩ := Cond.code_spec hn (atoms_spec (ws := ws) h _ (by rw [hw]; exact List.mem_cons_self))
    exact ⟨meth, c, h1, h2, h3, h4, h5, h6⟩
  · intro p e s m args below meth c s₁ B hml hP _
    have hh0 : s₁.heap = s.heap := by rw [B.state]; rfl
    have ht : ∀ x ∈ c.exceptionTable.toList, False := by
      obtain ⟨meth9, c9, h1, h2, -, -, -, -, h7, -⟩ := Cond.code_spec B.named (atoms_spec (ws := ws) B.pre _ (by rw [hw]; exact List.mem_cons_self))
      cases Option.some.inj (h1.symm.trans B.method)
      cases Option.some.inj (h2.symm.trans (Stand.of_body B).code)
      intro x hx
      rw [Array.isEmpty_iff.mp h7] at hx
      cases hx
    obtain ⟨t, a1, o, b1, b2, b3⟩ := body p e s m args below meth c s₁ B hml ht hP s₁ hh0 (Stand.of_body B)
    exact ⟨t, o, a1, b1, b2, b3⟩
/-- the table of a body with handlers -/
theorem vx_table {p : Program} {x y : MethodName} {S : Spec} {cc bytes : ByteArray} {maxL maxL' : Nat} {ret ret' : Option FieldType} {e : Env} {s s₁ : State} {m : MethodId} {args : Array Value} {below : List Frame} {meth : Method} {c : Code} {hh : List (Nat × Nat × Nat × Nat)}
    (B : BodyLoose p l y S cc maxL ret e s m args below meth c s₁) (h : (Cond.codeWith y bytes maxL' ret' hh).before args s = true) : c.exceptionTable.toList = tableOf hh := by
  obtain ⟨m9, meth9, c9, hn9, h1, h2, -, -, h6, -⟩ := Cond.codeWith_spec h
  cases Option.some.inj (hn9.symm.trans B.named)
  cases Option.some.inj (h1.symm.trans B.method)
  cases Option.some.inj (h2.symm.trans (Stand.of_body B).code)
  rw [← h6, table_eq]
end Bodies
end VXA
/-! ===== END ===== -/
/-! ===== BEGIN a static call of a method with an exception table ===== -/
section VXS
variable {p : Program} {l : Launch} {e : Env} {R : Room} {s : State} {m : MethodId} {args : Array Value} {below : List Frame} {meth : Method} {c : Code} {T : State} {H : Heap} {locs : List Loc} {cells slots : Nat}
abbrev vx_CSW (R : Room) (s : State) (args : Array Value) (own : String) (index : Nat) (y : MethodName) (bytes : ByteArray) (maxL : Nat) (ret : Option FieldType) (hh : List (Nat × Nat × Nat × Nat)) (ws : List Cond) (rm : Room) (mc ms n : Nat) : Prop :=
  (rm.cells = mc ∧ rm.slots = ms ∧ rm.frames + 1 ≤ R.frames ∧ 8 + (maxL + 11) + rm.locals ≤ R.locals ∧ (∀ w ∈ ws, ∀ (a' : Array Value) (U : State), s.WarmedH U.vm → w.before a' U = true) ∧ Cond.codeWith y bytes maxL ret hh ∈ ws) ∧
  (Cond.codeWith y bytes maxL ret hh).before args s = true ∧ (Cond.initialized y.cls).before args s = true ∧ (y.cls ≠ "java/lang/invoke/MethodHandle" ∧ y.cls ≠ "java/lang/invoke/VarHandle") ∧
  (∀ sig, parseMethodDescriptor y.desc = some sig → n = sig.parameters.length) ∧ (Cond.methodLink own index y).before args s = true ∧ (Cond.static y).before args s = true
theorem vx_cwSW {own : String} {index maxL mc ms : Nat} {y : MethodName} {bytes : ByteArray} {ret : Option FieldType} {hh : List (Nat × Nat × Nat × Nat)} {Ts ws ws' : List Cond} {rm : Room} (n : Nat) (ht : ∀ w ∈ Ts, w.before args s = true) (hT : GoodIn Ts (va_wsS own index y ws)) (hw : ws = Cond.codeWith y bytes maxL ret hh :: ws') (hrc : rm.cells = mc) (hrs : rm.slots = ms)
    (hd : y.cls ≠ "java/lang/invoke/MethodHandle" ∧ y.cls ≠ "java/lang/invoke/VarHandle" ∧ (parseMethodDescriptor y.desc).map (fun d => d.parameters.length) = some n) (hR : rm.frames + 1 ≤ R.frames ∧ 8 + (maxL + 11) + rm.locals ≤ R.locals) :
    vx_CSW R s args own index y bytes maxL ret hh ws rm mc ms n := by
  have ok : ∀ w ∈ va_wsS own index y ws, w.before args s = true := fun w h => ht w (hT w h).1
  have hG : GoodIn Ts ws := fun w h => hT w (by unfold va_wsS; exact List.mem_append_right _ h)
  have hc : Cond.codeWith y bytes maxL ret hh ∈ ws := by rw [hw]; exact List.mem_cons_self
  refine ⟨⟨hrc, hrs, hR.1, hR.2, pay_in ht hG, hc⟩, ht _ (hG _ hc).1, ok _ (by simp [va_wsS]), ⟨hd.1, hd.2.1⟩, fun sig h => ?_, ok _ (by simp [va_wsS]), ok _ (by simp [va_wsS])⟩
  have h2 := hd.2.2
  rw [h] at h2
  exact (Option.some.inj h2).symm
theorem vx_callSW (X : Stand p l e R s m args below meth c T locs cells slots) (hexec : p.tables.exec = Jvm.exec) {own : String} {index : Nat} {y : MethodName} {bytes : ByteArray} {maxL : Nat} {ret : Option FieldType} {hh : List (Nat × Nat × Nat × Nat)}
    (hown : s.vm.findClass own = some m.cls) (hlink : (Cond.methodLink own index y).before args s = true) (hstat : (Cond.static y).before args s = true) (hinit : (Cond.initialized y.cls).before args s = true)
    (hcode : (Cond.codeWith y bytes maxL ret hh).before args s = true) (hy : y.cls ≠ "java/lang/invoke/MethodHandle" ∧ y.cls ≠ "java/lang/invoke/VarHandle")
    {W9 : Nat} {Pre : Pt → Array Value → Prop} {Post : Pt → Array Value → Option Value → Pt → Prop} (hK : Back l R p e below s args y 3 W9 Pre Post)
    {g : JFrame} (hg : g.method = m) (hsize : g.locals.size = c.maxLocals) {argsL rest : List Value} (hlen : ∀ sig, parseMethodDescriptor y.desc = some sig → argsL.length = sig.parameters.length)
    (hstack : g.stack = argsL.reverse ++ rest) (hW : 2 * g.monitorRoom + (rest.map fun v => v.category).sum ≤ W9) (hdg : decode c.code g.pc = .ok (.invokestatic index, 3))
    (hpre : ∀ vm₁, s.WarmedH vm₁ → Pre ⟨T.setVm vm₁, locs, cells, slots⟩ argsL.toArray) :
    ∃ (v : Option Value) (vm₁ : Vm) (B : Pt), s.WarmedH vm₁ ∧ Stand p l e R s m args below meth c B.U B.locs B.cells B.slots ∧ Post ⟨T.setVm vm₁, locs, cells, slots⟩ argsL.toArray v B ∧
      ∀ target, Steps p.tables e below (B.U.setTop { g with pc := g.pc + 3, stack := v.toList ++ rest }) target → Steps p.tables e below (T.setTop g) target := by
  obtain ⟨mk, methM, cM, hnamed, hmethM, -, -, -, -, -, -, hsigM⟩ := Cond.codeWith_spec hcode
  have hstatic : methM.isStatic = true := Cond.static_spec hnamed hmethM hstat
  obtain ⟨kP, hkP, -⟩ := className_of_methodNamed hnamed
  have hinitP : kP.init = .initialized := Cond.initialized_spec (findClass_of_methodNamed hnamed) hkP hinit
  obtain ⟨vm₁, X₁, hstep₁⟩ := X.invokestatic hexec hown hlink hnamed hmethM hstatic hkP hinitP hy (g := g) hg (argsL := argsL) (rest := rest) (hlen _ hsigM) hstack hdg
  obtain ⟨v, B, X', hpost, hsteps⟩ := hK m meth c ⟨T.setVm vm₁, locs, cells, slots⟩ { g with stack := rest } (.invokestatic index) mk argsL.toArray X₁ hg hsize hdg hW (X₁.named hnamed) (hpre vm₁ X₁.warmed)
  exact ⟨v, vm₁, B, X₁.warmed, X', hpost, fun target h => hstep₁ _ fun acts => by rw [doInvoke_state]; exact hsteps.trans h⟩
theorem vx_runSW {y : MethodName} {bytes cc : ByteArray} {maxL nL mc ms n index : Nat} {ret : Option FieldType} {hh : List (Nat × Nat × Nat × Nat)} {ws : List Cond} {rm : Room} {Pc : Array Value → State → Prop} {Qc : Array Value → State → Outcome → State → Prop} {free : Addr → Prop} {Ts : List Cond} {own : String} {As rest : List Value} {g : JFrame}
    (S : CallFix p m c cc nL s args Ts own) (hM : Met l y ws rm Pc Qc mc ms free) (cw : vx_CSW R s args own index y bytes maxL ret hh ws rm mc ms n) (hp : PreS s H Pc As)
    (hg : g.method = m) (hn : As.length = n) (hsize : g.locals.size = nL) (hstack : g.stack = As.reverse ++ rest) (hW : 2 * g.monitorRoom + (rest.map fun v => v.category).sum ≤ 8) (hdg : decode cc g.pc = .ok (.invokestatic index, 3)) (hf : cells + mc ≤ R.cells ∧ slots + ms ≤ R.slots) :
    va_Run p l e R s m args below meth c H locs cells slots mc ms g rest (Qc As.toArray) (free) := by
  obtain ⟨⟨hrc, hrs, hfr, hlo, hws, hcw⟩, hcode, hini, hy, hlen, hl, hstt⟩ := cw
  have hK : Back l R p e below s args y 3 8 (PreOf R mc ms Pc) (PostOf Qc mc ms free) := va_backW (hh := hh) (bytes := bytes) (maxL := maxL) (ret := ret) hM hp.1 hrc hrs hfr hlo hws hcw (fun a' U hW => word_at hW (Or.inl (by first | rfl | simp [Cond.onTables, Cond.keeps, Cond.steady])) hini)
  obtain ⟨hx, hb, hml, ho, -⟩ := S
  intro T hT X
  obtain ⟨v, vm₁, ⟨U', l2, c2, s2⟩, hW₁, X', ⟨g', mk, t, L, e1, e2, hq, h1, hL, h2, h3⟩, st⟩ := vx_callSW X hx (hh := hh) (bytes := bytes) (maxL := maxL) (ret := ret) ho hl hstt hini hcode hy hK hg (hsize.trans hml.symm) (argsL := As) (rest := rest) (fun sig h => hn.trans (hlen sig h)) hstack hW (by rw [hb]; exact hdg)
    (fun vm₁ hW₁ => ⟨hf.1, hf.2, hp.2 (T.setVm vm₁) hT hW₁⟩)
  dsimp only [Pt.U, Pt.locs, Pt.cells, Pt.slots] at X' e1 e2 h1 h2 h3 st
  subst h1; subst h2; subst h3
  exact ⟨v, (T.setVm vm₁).calling g' mk As.toArray, t, U', L, hT, X', hL, e1, e2, hq, st⟩
/-- a thing of a world lies in the heap -/
theorem vx_lt {D : va_G} {cl : List vw_C} {ws : va_W} {H1 : Heap} (h : va_P D cl ws H1) {k : Nat} {q : Nat × va_E} (hk : ws[k]? = some q) : q.1 < H1.size := (h k q hk).lt
end VXS
/-! ===== END ===== -/
/-! ===== BEGIN methods with a table of their own: called by a name, returning or throwing ===== -/
section VXH
/-! vx_backW, vx_callVX, vx_callSX, vx_callVW, vx_runVW, vx_runVX, vx_runSX, vx_ofWH follow the same proofs as their sisters above (Free/Laws.lean, Shelf42/LK1.lean); vx_outP calls Shelf42/NT130.lean (outThrough). -/
section
variable {l : Launch} {R : Room} {p : Program} {e : Env} {below : List Frame} {s : State} {sargs : Array Value} {y : MethodName} {len W9 : Nat}
theorem vx_backW {ws : List Cond} {rm : Room} {Pc : Array Value → State → Prop} {Qc : Array Value → State → Outcome → State → Prop} {XC : String → State → State → Prop} {mc ms : Nat} {free : Addr → Prop} {bytes : ByteArray} {maxL : Nat} {ret : Option FieldType} {hh : List (Nat × Nat × Nat × Nat)}
    (hM : vx_Met l y ws rm Pc Qc XC mc ms free) (hblind : FrameBlind Pc) (hrc : rm.cells = mc) (hrs : rm.slots = ms)
    (hframes : rm.frames + 1 ≤ R.frames) (hlocals : W9 + (maxL + 11) + rm.locals ≤ R.locals)
    (hws : ∀ w ∈ ws, ∀ a' U, s.WarmedH U.vm → w.before a' U = true) (hcode : Cond.codeWith y bytes maxL ret hh ∈ ws) (hinit : ∀ a' U, s.WarmedH U.vm → (Cond.initialized y.cls).before a' U = true) :
    vx_Back l R p e below s sargs y len W9 (PreOf R mc ms Pc) (PostOf Qc mc ms free) (vx_Post XC mc ms free) := by
  intro m meth c A g ig mk a X hg hsize hdg hW hn hp
  have h1 : (headSpec ws rm).pre.before a A.U = true := atoms_intro fun w hw => hws w hw _ _ X.warmed
  have h2 : (Cond.codeWith y bytes maxL ret hh).before a A.U = true := hws _ hcode _ _ X.warmed
  have h3 : (Cond.initialized y.cls).before a A.U = true := hinit _ _ X.warmed
  have h4 : A.cells + (headSpec ws rm).room.cells ≤ R.cells := by rw [show (headSpec ws rm).room.cells = mc from hrc]; exact hp.1
  have h5 : A.slots + (headSpec ws rm).room.slots ≤ R.slots := by rw [show (headSpec ws rm).room.slots = ms from hrs]; exact hp.2.1
  have hPc : Pc a (A.U.calling g mk a) := hblind _ _ _ _ hp.2.2
  obtain ⟨U, Ls, c0, s0⟩ := A
  dsimp only [Pt.U, Pt.locs, Pt.cells, Pt.slots] at h1 h2 h3 h4 h5 X hn hPc ⊢
  obtain ⟨m9, methY, cY, hn9, hmY, hcY, -, hlY, -⟩ := Cond.codeWith_spec h2
  cases Option.some.inj (hn9.symm.trans hn)
  obtain ⟨kY, hkY, -⟩ := className_of_methodNamed hn
  have hinitY : kY.init = .initialized := Cond.initialized_spec (findClass_of_methodNamed hn) hkY h3
  have h : At U g.method c below := by rw [hg]; exact X.here
  have hlocals9 : W9 + (maxL + 11) + (headSpec ws rm).room.locals ≤ R.locals := hlocals
  have happ : (headSpec ws rm).appliesLoose y e.platform (U.calling g mk a) = true :=
    Spec.appliesLoose_calling (g := g) h hdg hn hkY hinitY
      (X.room_calling (g := g) (R' := (headSpec ws rm).room) hsize hmY hcY hframes (by rw [hlY]; omega) h4 h5) h1
  obtain ⟨mid, hmid⟩ := h.above
  have hfr : (U.setTop g).frames = (.java g :: mid) ++ below := by rw [State.frames_setTop' g h.top, hmid]; rfl
  obtain ⟨o, s₂, hsteps, -, hend, hq⟩ := Steps.callFree hM p X.admits X.cas X.clock (acts := []) hfr happ hPc trivial
  have hq' : vx_Q Qc XC mc ms free a (U.calling g mk a) o s₂ := hq
  rw [State.frames_setTop' g h.top] at hend
  obtain ⟨g₀, hg0⟩ := Option.isSome_iff_exists.mp h.top
  obtain ⟨r, hr⟩ := State.topJava?_eq_some.mp hg0
  have hr' : (({ U with heap := s₂.heap, slotsUsed := s₂.slotsUsed } : State).setVm s₂.vm).frames = .java g₀ :: r := hr
  rcases hq' with ⟨hqc, L, hfe, hL⟩ | ⟨q, rfl, E, ce, L, hx, hce, hcv, hcl, hW₂, hsm, hL⟩
  · obtain ⟨⟨v, rfl⟩, hW₂, e2, q2, q3, q4, q5, q6⟩ := id hfe
    have e3 : s₂ = ({ (U.calling g mk a).setFrames s₂.frames with heap := s₂.heap, slotsUsed := s₂.slotsUsed } : State).setVm s₂.vm := by
      have : s₂ = ({ s₂ with vm := (U.calling g mk a).vm } : State).setVm s₂.vm := rfl
      rw [e2] at this
      exact this
    obtain ⟨c₂, i₂, len₂, hc₂, hd₂, hf₂⟩ := hend
    have hW' : U.WarmedH s₂.vm := hW₂
    have hcc : c₂ = c := by
      have h1 : s₂.code? g.method = U.code? g.method := by
        rw [State.code?_eq, State.code?_eq, hW'.alike.method?]
      exact Option.some.inj (hc₂.symm.trans (h1.trans h.code))
    subst hcc
    have hlen : len₂ = len := by rw [hdg] at hd₂; cases hd₂; rfl
    subst hlen
    have hs₂ : s₂ = (({ U with heap := s₂.heap, slotsUsed := s₂.slotsUsed } : State).setVm s₂.vm).setTop { g with pc := g.pc + len₂, stack := v.toList ++ g.stack } := by
      refine e3.trans ?_
      rw [hf₂, State.calling_eq h.top, State.setFrames_setFrames, State.setTop_of_frames _ hr', hr]
      rfl
    have hsame : U.sameButNew ({ U with heap := s₂.heap, slotsUsed := s₂.slotsUsed } : State) L mc ms := by
      refine ⟨?_, q2, q3, q4, q5, q6⟩
      obtain ⟨t, ht, -⟩ := State.frames_cons hr
      show ({ U with heap := s₂.heap, slotsUsed := s₂.slotsUsed } : State) = { U.setFrames U.frames with heap := s₂.heap, slotsUsed := s₂.slotsUsed }
      rw [State.setFrames_self ht]
    subst hg
    refine Or.inl ⟨v, ⟨(({ U with heap := s₂.heap, slotsUsed := s₂.slotsUsed } : State).setVm s₂.vm), Ls ++ L, c0 + mc, s0 + ms⟩,
      ⟨X.admits, X.cas, X.clock, X.frames, X.room, X.hears, X.method, X.code, (X.here.setHeapUsed s₂.heap s₂.slotsUsed).setVm hW'.alike, X.tail, State.WarmedH.trans X.warmed hW', X.limits, X.bytes, X.same.trans (hsame.setVm s.vm)⟩,
      ⟨g, mk, s₂, L, rfl, rfl, hqc, rfl, hL, rfl, rfl⟩, ?_⟩
    show Steps p.tables e below _ ((({ U with heap := s₂.heap, slotsUsed := s₂.slotsUsed } : State).setVm s₂.vm).setTop { g with pc := g.pc + len₂, stack := v.toList ++ g.stack })
    rw [← hs₂]
    exact hsteps
  · obtain ⟨e2, q2, q3, q4, q5, q6⟩ := id hsm
    have e3 : s₂ = ({ (U.calling g mk a).setFrames s₂.frames with heap := s₂.heap, slotsUsed := s₂.slotsUsed } : State).setVm s₂.vm := by
      have : s₂ = ({ s₂ with vm := (U.calling g mk a).vm } : State).setVm s₂.vm := rfl
      rw [e2] at this
      exact this
    have hf₂ : s₂.frames = .throwing q :: .java g :: U.frames.tail := hend
    have hW' : U.WarmedH s₂.vm := hW₂
    have hs₂ : s₂ = ((({ U with heap := s₂.heap, slotsUsed := s₂.slotsUsed } : State).setVm s₂.vm).setTop g).pushFrame (.throwing q) := by
      refine e3.trans ?_
      rw [hf₂, State.calling_eq h.top, State.setFrames_setFrames, State.pushFrame, State.frames_setTop _ hr', State.setTop_of_frames _ hr', State.setFrames_setFrames, hr]
      rfl
    have hsame : U.sameButNew ({ U with heap := s₂.heap, slotsUsed := s₂.slotsUsed } : State) L mc ms := by
      refine ⟨?_, q2, q3, q4, q5, q6⟩
      obtain ⟨t, ht, -⟩ := State.frames_cons hr
      show ({ U with heap := s₂.heap, slotsUsed := s₂.slotsUsed } : State) = { U.setFrames U.frames with heap := s₂.heap, slotsUsed := s₂.slotsUsed }
      rw [State.setFrames_self ht]
    subst hg
    refine Or.inr ⟨q, ⟨(({ U with heap := s₂.heap, slotsUsed := s₂.slotsUsed } : State).setVm s₂.vm), Ls ++ L, c0 + mc, s0 + ms⟩,
      ⟨X.admits, X.cas, X.clock, X.frames, X.room, X.hears, X.method, X.code, (X.here.setHeapUsed s₂.heap s₂.slotsUsed).setVm hW'.alike, X.tail, State.WarmedH.trans X.warmed hW', X.limits, X.bytes, X.same.trans (hsame.setVm s.vm)⟩,
      ⟨g, mk, s₂, L, E, ce, rfl, rfl, hx, hce, hcv, hcl, rfl, hL, rfl, rfl⟩, ?_⟩
    show Steps p.tables e below _ (((({ U with heap := s₂.heap, slotsUsed := s₂.slotsUsed } : State).setVm s₂.vm).setTop g).pushFrame (.throwing q))
    rw [← hs₂]
    exact hsteps
end
variable {p : Program} {l : Launch} {e : Env} {R : Room} {s : State} {m : MethodId} {args : Array Value} {below : List Frame} {meth : Method} {c : Code} {T : State} {H : Heap} {locs : List Loc} {cells slots : Nat}
theorem vx_callVX (X : Stand p l e R s m args below meth c T locs cells slots) (hexec : p.tables.exec = Jvm.exec) {own C : String} {index : Nat} {y : MethodName} {bytes : ByteArray} {maxL : Nat} {ret : Option FieldType} {hh : List (Nat × Nat × Nat × Nat)}
    (hown : s.vm.findClass own = some m.cls) (hlink : (Cond.methodLink own index y).before args s = true) (hinst : (Cond.instanceMethod y).before args s = true) (hsel : (Cond.selects C y y).before args s = true)
    (hcode : (Cond.codeWith y bytes maxL ret hh).before args s = true) (hy : y.cls ≠ "java/lang/invoke/MethodHandle" ∧ y.cls ≠ "java/lang/invoke/VarHandle")
    {W9 : Nat} {Pre : Pt → Array Value → Prop} {Post : Pt → Array Value → Option Value → Pt → Prop} {PostX : Pt → Array Value → Addr → Pt → Prop} (hK : vx_Back l R p e below s args y 3 W9 Pre Post PostX)
    {b : Addr} {cellB : Cell} (hcell : T.heap[b]? = some cellB) (hobj : cellB.vm.isStatics = false) (hcls : s.vm.findClass C = some cellB.cls)
    {g : JFrame} (hg : g.method = m) (hsize : g.locals.size = c.maxLocals) {argsL rest : List Value} (hlen : ∀ sig, parseMethodDescriptor y.desc = some sig → argsL.length = sig.parameters.length)
    (hstack : g.stack = argsL.reverse ++ .ref b :: rest) (hW : 2 * g.monitorRoom + (rest.map fun v => v.category).sum ≤ W9) (hdg : decode c.code g.pc = .ok (.invokevirtual index, 3))
    (hpre : ∀ vm₁, s.WarmedH vm₁ → Pre ⟨T.setVm vm₁, locs, cells, slots⟩ (Value.ref b :: argsL).toArray) :
    (∃ (v : Option Value) (vm₁ : Vm) (B : Pt), s.WarmedH vm₁ ∧ Stand p l e R s m args below meth c B.U B.locs B.cells B.slots ∧ Post ⟨T.setVm vm₁, locs, cells, slots⟩ (Value.ref b :: argsL).toArray v B ∧
      ∀ target, Steps p.tables e below (B.U.setTop { g with pc := g.pc + 3, stack := v.toList ++ rest }) target → Steps p.tables e below (T.setTop g) target) ∨
    (∃ (q : Addr) (vm₁ : Vm) (B : Pt), s.WarmedH vm₁ ∧ Stand p l e R s m args below meth c B.U B.locs B.cells B.slots ∧ PostX ⟨T.setVm vm₁, locs, cells, slots⟩ (Value.ref b :: argsL).toArray q B ∧
      Steps p.tables e below (T.setTop g) ((B.U.setTop { g with stack := rest }).pushFrame (.throwing q))) := by
  obtain ⟨mk, methM, hnamed, hmethM, hstM, habM⟩ := Cond.instanceMethod_spec hinst
  obtain ⟨m8, methM', cM, hn8, hmethM', -, -, -, -, -, -, hsigM⟩ := Cond.codeWith_spec hcode
  cases Option.some.inj (hn8.symm.trans hnamed)
  cases hmethM.symm.trans hmethM'
  obtain ⟨c2, r2, m2, q1, q2, q3, q4, kP, hkP, hkPi⟩ := Cond.selects_spec hsel
  cases hcls.symm.trans q1
  cases (State.methodFound?_of_named hnamed hy).symm.trans q2
  cases hnamed.symm.trans q3
  have hselP : selectMethod e.platform s.vm cellB.cls mk = .method mk := by rw [Launch.admits_selectMethod X.admits]; exact q4
  obtain ⟨vm₁, X₁, hstep₁⟩ := X.invokevirtual hexec hown hlink hnamed hmethM hstM hkP hkPi hy (a := b) (cell := cellB) hcell
    (fun z h => by rw [h] at hobj; cases hobj) hselP hmethM habM hkP hkPi (g := g) hg (argsL := argsL) (rest := rest) (hlen _ hsigM) hstack hdg
  rcases hK m meth c ⟨T.setVm vm₁, locs, cells, slots⟩ { g with stack := rest } (.invokevirtual index) mk (Value.ref b :: argsL).toArray X₁ hg hsize hdg hW (X₁.named hnamed) (hpre vm₁ X₁.warmed) with ⟨v, B, X', hpost, hsteps⟩ | ⟨q, B, X', hpost, hsteps⟩
  · exact Or.inl ⟨v, vm₁, B, X₁.warmed, X', hpost, fun target h => hstep₁ _ fun acts => by rw [doInvoke_state]; exact hsteps.trans h⟩
  · exact Or.inr ⟨q, vm₁, B, X₁.warmed, X', hpost, hstep₁ _ fun acts => by rw [doInvoke_state]; exact hsteps⟩
theorem vx_callSX (X : Stand p l e R s m args below meth c T locs cells slots) (hexec : p.tables.exec = Jvm.exec) {own : String} {index : Nat} {y : MethodName} {bytes : ByteArray} {maxL : Nat} {ret : Option FieldType} {hh : List (Nat × Nat × Nat × Nat)}
    (hown : s.vm.findClass own = some m.cls) (hlink : (Cond.methodLink own index y).before args s = true) (hstat : (Cond.static y).before args s = true) (hinit : (Cond.initialized y.cls).before args s = true)
    (hcode : (Cond.codeWith y bytes maxL ret hh).before args s = true) (hy : y.cls ≠ "java/lang/invoke/MethodHandle" ∧ y.cls ≠ "java/lang/invoke/VarHandle")
    {W9 : Nat} {Pre : Pt → Array Value → Prop} {Post : Pt → Array Value → Option Value → Pt → Prop} {PostX : Pt → Array Value → Addr → Pt → Prop} (hK : vx_Back l R p e below s args y 3 W9 Pre Post PostX)
    {g : JFrame} (hg : g.method = m) (hsize : g.locals.size = c.maxLocals) {argsL rest : List Value} (hlen : ∀ sig, parseMethodDescriptor y.desc = some sig → argsL.length = sig.parameters.length)
    (hstack : g.stack = argsL.reverse ++ rest) (hW : 2 * g.monitorRoom + (rest.map fun v => v.category).sum ≤ W9) (hdg : decode c.code g.pc = .ok (.invokestatic index, 3))
    (hpre : ∀ vm₁, s.WarmedH vm₁ → Pre ⟨T.setVm vm₁, locs, cells, slots⟩ argsL.toArray) :
    (∃ (v : Option Value) (vm₁ : Vm) (B : Pt), s.WarmedH vm₁ ∧ Stand p l e R s m args below meth c B.U B.locs B.cells B.slots ∧ Post ⟨T.setVm vm₁, locs, cells, slots⟩ argsL.toArray v B ∧
      ∀ target, Steps p.tables e below (B.U.setTop { g with pc := g.pc + 3, stack := v.toList ++ rest }) target → Steps p.tables e below (T.setTop g) target) ∨
    (∃ (q : Addr) (vm₁ : Vm) (B : Pt), s.WarmedH vm₁ ∧ Stand p l e R s m args below meth c B.U B.locs B.cells B.slots ∧ PostX ⟨T.setVm vm₁, locs, cells, slots⟩ argsL.toArray q B ∧
      Steps p.tables e below (T.setTop g) ((B.U.setTop { g with stack := rest }).pushFrame (.throwing q))) := by
  obtain ⟨mk, methM, cM, hnamed, hmethM, -, -, -, -, -, -, hsigM⟩ := Cond.codeWith_spec hcode
  have hstatic : methM.isStatic = true := Cond.static_spec hnamed hmethM hstat
  obtain ⟨kP, hkP, -⟩ := className_of_methodNamed hnamed
  have hinitP : kP.init = .initialized := Cond.initialized_spec (findClass_of_methodNamed hnamed) hkP hinit
  obtain ⟨vm₁, X₁, hstep₁⟩ := X.invokestatic hexec hown hlink hnamed hmethM hstatic hkP hinitP hy (g := g) hg (argsL := argsL) (rest := rest) (hlen _ hsigM) hstack hdg
  rcases hK m meth c ⟨T.setVm vm₁, locs, cells, slots⟩ { g with stack := rest } (.invokestatic index) mk argsL.toArray X₁ hg hsize hdg hW (X₁.named hnamed) (hpre vm₁ X₁.warmed) with ⟨v, B, X', hpost, hsteps⟩ | ⟨q, B, X', hpost, hsteps⟩
  · exact Or.inl ⟨v, vm₁, B, X₁.warmed, X', hpost, fun target h => hstep₁ _ fun acts => by rw [doInvoke_state]; exact hsteps.trans h⟩
  · exact Or.inr ⟨q, vm₁, B, X₁.warmed, X', hpost, hstep₁ _ fun acts => by rw [doInvoke_state]; exact hsteps⟩
theorem vx_callVW (X : Stand p l e R s m args below meth c T locs cells slots) (hexec : p.tables.exec = Jvm.exec) {own C : String} {index : Nat} {y : MethodName} {bytes : ByteArray} {maxL : Nat} {ret : Option FieldType} {hh : List (Nat × Nat × Nat × Nat)}
    (hown : s.vm.findClass own = some m.cls) (hlink : (Cond.methodLink own index y).before args s = true) (hinst : (Cond.instanceMethod y).before args s = true) (hsel : (Cond.selects C y y).before args s = true)
    (hcode : (Cond.codeWith y bytes maxL ret hh).before args s = true) (hy : y.cls ≠ "java/lang/invoke/MethodHandle" ∧ y.cls ≠ "java/lang/invoke/VarHandle")
    {W9 : Nat} {Pre : Pt → Array Value → Prop} {Post : Pt → Array Value → Option Value → Pt → Prop} (hK : Back l R p e below s args y 3 W9 Pre Post)
    {b : Addr} {cellB : Cell} (hcell : T.heap[b]? = some cellB) (hobj : cellB.vm.isStatics = false) (hcls : s.vm.findClass C = some cellB.cls)
    {g : JFrame} (hg : g.method = m) (hsize : g.locals.size = c.maxLocals) {argsL rest : List Value} (hlen : ∀ sig, parseMethodDescriptor y.desc = some sig → argsL.length = sig.parameters.length)
    (hstack : g.stack = argsL.reverse ++ .ref b :: rest) (hW : 2 * g.monitorRoom + (rest.map fun v => v.category).sum ≤ W9) (hdg : decode c.code g.pc = .ok (.invokevirtual index, 3))
    (hpre : ∀ vm₁, s.WarmedH vm₁ → Pre ⟨T.setVm vm₁, locs, cells, slots⟩ (Value.ref b :: argsL).toArray) :
    ∃ (v : Option Value) (vm₁ : Vm) (B : Pt), s.WarmedH vm₁ ∧ Stand p l e R s m args below meth c B.U B.locs B.cells B.slots ∧ Post ⟨T.setVm vm₁, locs, cells, slots⟩ (Value.ref b :: argsL).toArray v B ∧
      ∀ target, Steps p.tables e below (B.U.setTop { g with pc := g.pc + 3, stack := v.toList ++ rest }) target → Steps p.tables e below (T.setTop g) target := by
  obtain ⟨mk, methM, hnamed, hmethM, hstM, habM⟩ := Cond.instanceMethod_spec hinst
  obtain ⟨m8, methM', cM, hn8, hmethM', -, -, -, -, -, -, hsigM⟩ := Cond.codeWith_spec hcode
  cases Option.some.inj (hn8.symm.trans hnamed)
  cases hmethM.symm.trans hmethM'
  obtain ⟨c2, r2, m2, q1, q2, q3, q4, kP, hkP, hkPi⟩ := Cond.selects_spec hsel
  cases hcls.symm.trans q1
  cases (State.methodFound?_of_named hnamed hy).symm.trans q2
  cases hnamed.symm.trans q3
  have hselP : selectMethod e.platform s.vm cellB.cls mk = .method mk := by rw [Launch.admits_selectMethod X.admits]; exact q4
  obtain ⟨vm₁, X₁, hstep₁⟩ := X.invokevirtual hexec hown hlink hnamed hmethM hstM hkP hkPi hy (a := b) (cell := cellB) hcell
    (fun z h => by rw [h] at hobj; cases hobj) hselP hmethM habM hkP hkPi (g := g) hg (argsL := argsL) (rest := rest) (hlen _ hsigM) hstack hdg
  obtain ⟨v, B, X', hpost, hsteps⟩ := hK m meth c ⟨T.setVm vm₁, locs, cells, slots⟩ { g with stack := rest } (.invokevirtual index) mk (Value.ref b :: argsL).toArray X₁ hg hsize hdg hW (X₁.named hnamed) (hpre vm₁ X₁.warmed)
  exact ⟨v, vm₁, B, X₁.warmed, X', hpost, fun target h => hstep₁ _ fun acts => by rw [doInvoke_state]; exact hsteps.trans h⟩
abbrev vx_CVW (R : Room) (s : State) (args : Array Value) (own C : String) (index : Nat) (y : MethodName) (bytes : ByteArray) (maxL : Nat) (ret : Option FieldType) (hh : List (Nat × Nat × Nat × Nat)) (ws : List Cond) (rm : Room) (mc ms n : Nat) : Prop :=
  (rm.cells = mc ∧ rm.slots = ms ∧ rm.frames + 1 ≤ R.frames ∧ 8 + (maxL + 11) + rm.locals ≤ R.locals ∧ (∀ w ∈ ws, ∀ (a' : Array Value) (U : State), s.WarmedH U.vm → w.before a' U = true) ∧ Cond.codeWith y bytes maxL ret hh ∈ ws) ∧
  (Cond.codeWith y bytes maxL ret hh).before args s = true ∧ (Cond.initialized y.cls).before args s = true ∧ (y.cls ≠ "java/lang/invoke/MethodHandle" ∧ y.cls ≠ "java/lang/invoke/VarHandle") ∧
  (∀ sig, parseMethodDescriptor y.desc = some sig → n = sig.parameters.length) ∧ (Cond.methodLink own index y).before args s = true ∧ (Cond.instanceMethod y).before args s = true ∧ (Cond.selects C y y).before args s = true
theorem vx_cwVW {own C : String} {index maxL mc ms : Nat} {y : MethodName} {bytes : ByteArray} {ret : Option FieldType} {hh : List (Nat × Nat × Nat × Nat)} {Ts ws ws' : List Cond} {rm : Room} (n : Nat) (ht : ∀ w ∈ Ts, w.before args s = true) (hT : GoodIn Ts (wsV own index C y ws)) (hw : ws = Cond.codeWith y bytes maxL ret hh :: ws') (hrc : rm.cells = mc) (hrs : rm.slots = ms)
    (hd : y.cls = C ∧ y.cls ≠ "java/lang/invoke/MethodHandle" ∧ y.cls ≠ "java/lang/invoke/VarHandle" ∧ (parseMethodDescriptor y.desc).map (fun d => d.parameters.length) = some n) (hR : rm.frames + 1 ≤ R.frames ∧ 8 + (maxL + 11) + rm.locals ≤ R.locals) :
    vx_CVW R s args own C index y bytes maxL ret hh ws rm mc ms n := by
  obtain ⟨hC, hd⟩ := hd
  subst hC
  have ok : ∀ w ∈ wsV own index y.cls y ws, w.before args s = true := fun w h => ht w (hT w h).1
  have hG : GoodIn Ts ws := fun w h => hT w (by unfold wsV; exact List.mem_append_right _ h)
  have hc : Cond.codeWith y bytes maxL ret hh ∈ ws := by rw [hw]; exact List.mem_cons_self
  refine ⟨⟨hrc, hrs, hR.1, hR.2, pay_in ht hG, hc⟩, ht _ (hG _ hc).1, ok _ (by simp [wsV]), ⟨hd.1, hd.2.1⟩, fun sig h => ?_, ok _ (by simp [wsV]), ok _ (by simp [wsV]), ok _ (by simp [wsV])⟩
  have h2 := hd.2.2
  rw [h] at h2
  exact (Option.some.inj h2).symm
theorem vx_runVW {y : MethodName} {bytes cc : ByteArray} {maxL nL mc ms n index : Nat} {ret : Option FieldType} {hh : List (Nat × Nat × Nat × Nat)} {ws : List Cond} {rm : Room} {Pc : Array Value → State → Prop} {Qc : Array Value → State → Outcome → State → Prop} {free : Addr → Prop} {Ts : List Cond} {own C : String} {b : Addr} {As rest : List Value} {g : JFrame}
    (S : CallFix p m c cc nL s args Ts own) (hM : Met l y ws rm Pc Qc mc ms free) (cw : vx_CVW R s args own C index y bytes maxL ret hh ws rm mc ms n) (hp : PreV s H C b Pc As)
    (hg : g.method = m) (hn : As.length = n) (hsize : g.locals.size = nL) (hstack : g.stack = As.reverse ++ .ref b :: rest) (hW : 2 * g.monitorRoom + (rest.map fun v => v.category).sum ≤ 8) (hdg : decode cc g.pc = .ok (.invokevirtual index, 3)) (hf : cells + mc ≤ R.cells ∧ slots + ms ≤ R.slots) :
    va_Run p l e R s m args below meth c H locs cells slots mc ms g rest (Qc (Value.ref b :: As).toArray) free := by
  obtain ⟨⟨hrc, hrs, hfr, hlo, hws, hcw⟩, hcode, hini, hy, hlen, hl, hin, hse⟩ := cw
  have hK : Back l R p e below s args y 3 8 (PreOf R mc ms Pc) (PostOf Qc mc ms free) := va_backW (hh := hh) (bytes := bytes) (maxL := maxL) (ret := ret) hM hp.1 hrc hrs hfr hlo hws hcw (fun a' U hW => word_at hW (Or.inl (by first | rfl | simp [Cond.onTables, Cond.keeps, Cond.steady])) hini)
  obtain ⟨hx, hb, hml, ho, -⟩ := S
  obtain ⟨-, ⟨cellB, hcB, hoB, hclB⟩, hPc⟩ := hp
  intro T hT X
  obtain ⟨v, vm₁, ⟨U', l2, c2, s2⟩, hW₁, X', ⟨g', mk, t, L, e1, e2, hq, h1, hL, h2, h3⟩, st⟩ := vx_callVW X hx (C := C) (hh := hh) (bytes := bytes) (maxL := maxL) (ret := ret) ho hl hin hse hcode hy hK (by rw [hT]; exact hcB) hoB hclB hg (hsize.trans hml.symm) (argsL := As) (rest := rest) (fun sig h => hn.trans (hlen sig h)) hstack hW (by rw [hb]; exact hdg)
    (fun vm₁ hW₁ => ⟨hf.1, hf.2, hPc (T.setVm vm₁) hT hW₁⟩)
  dsimp only [Pt.U, Pt.locs, Pt.cells, Pt.slots] at X' e1 e2 h1 h2 h3 st
  subst h1; subst h2; subst h3
  exact ⟨v, (T.setVm vm₁).calling g' mk (Value.ref b :: As).toArray, t, U', L, hT, X', hL, e1, e2, hq, st⟩
section
variable {y : MethodName} {bytes cc : ByteArray} {maxL nL mc ms n index : Nat} {ret : Option FieldType} {ws : List Cond} {rm : Room} {Pc : Array Value → State → Prop} {Qc : Array Value → State → Outcome → State → Prop} {XC : String → State → State → Prop} {free : Addr → Prop} {Ts : List Cond} {own C : String} {b : Addr} {As rest : List Value} {g : JFrame}
theorem vx_runVX {hh : List (Nat × Nat × Nat × Nat)} (S : CallFix p m c cc nL s args Ts own) (hM : vx_Met l y ws rm Pc Qc XC mc ms free) (cw : vx_CVW R s args own C index y bytes maxL ret hh ws rm mc ms n) (hp : PreV s H C b Pc As)
    (hg : g.method = m) (hn : As.length = n) (hsize : g.locals.size = nL) (hstack : g.stack = As.reverse ++ .ref b :: rest) (hW : 2 * g.monitorRoom + (rest.map fun v => v.category).sum ≤ 8) (hdg : decode cc g.pc = .ok (.invokevirtual index, 3)) (hf : cells + mc ≤ R.cells ∧ slots + ms ≤ R.slots) :
    vx_Run p l e R s m args below meth c H locs cells slots mc ms g rest (Qc (Value.ref b :: As).toArray) XC free := by
  obtain ⟨⟨hrc, hrs, hfr, hlo, hws, hcw⟩, hcode, hini, hy, hlen, hl, hin, hse⟩ := cw
  have hK : vx_Back l R p e below s args y 3 8 (PreOf R mc ms Pc) (PostOf Qc mc ms free) (vx_Post XC mc ms free) := vx_backW (hh := hh) (bytes := bytes) (maxL := maxL) (ret := ret) hM hp.1 hrc hrs hfr hlo hws hcw (fun a' U hW => word_at hW (Or.inl (by first | rfl | simp [Cond.onTables, Cond.keeps, Cond.steady])) hini)
  obtain ⟨hx, hb, hml, ho, -⟩ := S
  obtain ⟨-, ⟨cellB, hcB, hoB, hclB⟩, hPc⟩ := hp
  intro T hT X
  rcases vx_callVX X hx (C := C) (hh := hh) (bytes := bytes) (maxL := maxL) (ret := ret) ho hl hin hse hcode hy hK (by rw [hT]; exact hcB) hoB hclB hg (hsize.trans hml.symm) (argsL := As) (rest := rest) (fun sig h => hn.trans (hlen sig h)) hstack hW (by rw [hb]; exact hdg)
    (fun vm₁ hW₁ => ⟨hf.1, hf.2, hPc (T.setVm vm₁) hT hW₁⟩) with ⟨v, vm₁, ⟨U', l2, c2, s2⟩, hW₁, X', ⟨g', mk, t, L, e1, e2, hq, h1, hL, h2, h3⟩, st⟩ | ⟨q, vm₁, ⟨U', l2, c2, s2⟩, hW₁, X', ⟨g', mk, t, L, E, ce, e1, e2, hq, hce, hcv, hcl, h1, hL, h2, h3⟩, st⟩
  · dsimp only [Pt.U, Pt.locs, Pt.cells, Pt.slots] at X' e1 e2 h1 h2 h3 st
    subst h1; subst h2; subst h3
    exact Or.inl ⟨v, (T.setVm vm₁).calling g' mk (Value.ref b :: As).toArray, t, U', L, hT, X', hL, e1, e2, hq, st⟩
  · dsimp only [Pt.U, Pt.locs, Pt.cells, Pt.slots] at X' e1 e2 h1 h2 h3 st hcl
    subst h1; subst h2; subst h3
    exact Or.inr ⟨q, (T.setVm vm₁).calling g' mk (Value.ref b :: As).toArray, t, U', L, E, ce, hT, X', hL, e1, e2, hq, hce, hcv, vx_cls hW₁ hcl, st⟩
theorem vx_runSX {hh : List (Nat × Nat × Nat × Nat)} (S : CallFix p m c cc nL s args Ts own) (hM : vx_Met l y ws rm Pc Qc XC mc ms free) (cw : vx_CSW R s args own index y bytes maxL ret hh ws rm mc ms n) (hp : PreS s H Pc As)
    (hg : g.method = m) (hn : As.length = n) (hsize : g.locals.size = nL) (hstack : g.stack = As.reverse ++ rest) (hW : 2 * g.monitorRoom + (rest.map fun v => v.category).sum ≤ 8) (hdg : decode cc g.pc = .ok (.invokestatic index, 3)) (hf : cells + mc ≤ R.cells ∧ slots + ms ≤ R.slots) :
    vx_Run p l e R s m args below meth c H locs cells slots mc ms g rest (Qc As.toArray) XC free := by
  obtain ⟨⟨hrc, hrs, hfr, hlo, hws, hcw⟩, hcode, hini, hy, hlen, hl, hstt⟩ := cw
  have hK : vx_Back l R p e below s args y 3 8 (PreOf R mc ms Pc) (PostOf Qc mc ms free) (vx_Post XC mc ms free) := vx_backW (hh := hh) (bytes := bytes) (maxL := maxL) (ret := ret) hM hp.1 hrc hrs hfr hlo hws hcw (fun a' U hW => word_at hW (Or.inl (by first | rfl | simp [Cond.onTables, Cond.keeps, Cond.steady])) hini)
  obtain ⟨hx, hb, hml, ho, -⟩ := S
  intro T hT X
  rcases vx_callSX X hx (hh := hh) (bytes := bytes) (maxL := maxL) (ret := ret) ho hl hstt hini hcode hy hK hg (hsize.trans hml.symm) (argsL := As) (rest := rest) (fun sig h => hn.trans (hlen sig h)) hstack hW (by rw [hb]; exact hdg)
    (fun vm₁ hW₁ => ⟨hf.1, hf.2, hp.2 (T.setVm vm₁) hT hW₁⟩) with ⟨v, vm₁, ⟨U', l2, c2, s2⟩, hW₁, X', ⟨g', mk, t, L, e1, e2, hq, h1, hL, h2, h3⟩, st⟩ | ⟨q, vm₁, ⟨U', l2, c2, s2⟩, hW₁, X', ⟨g', mk, t, L, E, ce, e1, e2, hq, hce, hcv, hcl, h1, hL, h2, h3⟩, st⟩
  · dsimp only [Pt.U, Pt.locs, Pt.cells, Pt.slots] at X' e1 e2 h1 h2 h3 st
    subst h1; subst h2; subst h3
    exact Or.inl ⟨v, (T.setVm vm₁).calling g' mk As.toArray, t, U', L, hT, X', hL, e1, e2, hq, st⟩
  · dsimp only [Pt.U, Pt.locs, Pt.cells, Pt.slots] at X' e1 e2 h1 h2 h3 st hcl
    subst h1; subst h2; subst h3
    exact Or.inr ⟨q, (T.setVm vm₁).calling g' mk As.toArray, t, U', L, E, ce, hT, X', hL, e1, e2, hq, hce, hcv, vx_cls hW₁ hcl, st⟩
end
end VXH
theorem vx_ofWH {l : Launch} {y : MethodName} {ws ws' : List Cond} {rm : Room} {Pc : Array Value → State → Prop} {Qc : Array Value → State → Outcome → State → Prop} {XC : String → State → State → Prop} {mc ms : Nat} {free : Addr → Prop} {cc : ByteArray} {maxL : Nat} {ret : Option FieldType} {hh : List (Nat × Nat × Nat × Nat)}
    (hy : plainName y.cls = true) (hw : ws = Cond.codeWith y cc maxL ret hh :: ws')
    (body : ∀ p e s m args below meth c s₁, BodyLoose p l y (headSpec ws rm) cc maxL ret e s m args below meth c s₁ → c.maxLocals = maxL → Pc args s →
      W p l e (headSpec ws rm).room s m args below meth c s.heap [] 0 0 (vx_MQ below Qc XC args s mc ms free) (entryFrame m args maxL)) : vx_Met l y ws rm Pc Qc XC mc ms free := by
  refine MetFree.of_bodyS (code := cc) (maxLocals := maxL) (ret := ret) hy ?_ ?_
  · intro args s m h hn
    obtain ⟨m9, meth, c, hn9, h1, h2, h3, h4, -, h5, h6, -⟩ := Cond.codeWith_spec (atoms_spec (ws := ws) h _ (by rw [hw]; exact List.mem_cons_self))
    cases hn.symm.trans hn9
    exact ⟨meth, c, h1, h2, h3, h4, h5, h6⟩
  · intro p e s m args below meth c s₁ B hml hP _
    have hh0 : s₁.heap = s.heap := by rw [B.state]; rfl
    obtain ⟨t, a1, o, b1, b2, b3⟩ := body p e s m args below meth c s₁ B hml hP s₁ hh0 (Stand.of_body B)
    exact ⟨t, o, a1, b1, b2, b3⟩
/-! ===== END ===== -/

def RX0 : String := "PoloSeason$Line"
def TX0 : u_T := fun k => match k with
  | 0 => ("PoloSeason$Line", "sides", "[I", true)
  | 1 => ("PoloSeason$Line", "xs", "[I", true)
  | 2 => ("PoloSeason$Line", "ys", "[I", true)
  | 3 => ("PoloSeason$Line", "dxs", "[I", true)
  | 4 => ("PoloSeason$Line", "dys", "[I", true)
  | 5 => ("PoloSeason$Line", "riderCount", "I", false)
  | 6 => ("PoloSeason$Line", "ballLies", "Z", false)
  | 7 => ("PoloSeason$Line", "ballX", "I", false)
  | 8 => ("PoloSeason$Line", "ballY", "I", false)
  | 9 => ("PoloSeason$Line", "ballDx", "I", false)
  | _ => ("PoloSeason$Line", "ballDy", "I", false)
def tyX0 : Nat → FieldType := fun k => match k with
  | 0 => .array .int
  | 1 => .array .int
  | 2 => .array .int
  | 3 => .array .int
  | 4 => .array .int
  | 5 => .int
  | 6 => .boolean
  | 7 => .int
  | 8 => .int
  | 9 => .int
  | _ => .int
abbrev wsX00 : List Cond := u_ws RX0 TX0 11
theorem nmX0 : ∀ a, a < 11 → ∀ b, b < 11 → a ≠ b → (TX0 a).2.1 ≠ (TX0 b).2.1 := by decide +kernel
theorem tyX0_ok : ∀ k, k < 11 → parseFieldDescriptor (TX0 k).2.2.1 = some (tyX0 k) := by decide +kernel
abbrev cX0_init : ByteArray := prog_2_method_1_code
def yX0_init : MethodName := ⟨RX0, "<init>", "()V"⟩
abbrev cX0_hasBall : ByteArray := prog_2_method_2_code
def yX0_hasBall : MethodName := ⟨RX0, "hasBall", "()Z"⟩
abbrev cX0_isFull : ByteArray := prog_2_method_3_code
def yX0_isFull : MethodName := ⟨RX0, "isFull", "()Z"⟩
abbrev cX0_riders : ByteArray := prog_2_method_4_code
def yX0_riders : MethodName := ⟨RX0, "riders", "()I"⟩
abbrev cX0_placeBall : ByteArray := prog_2_method_5_code
def yX0_placeBall : MethodName := ⟨RX0, "placeBall", "(IIII)V"⟩
abbrev cX0_addRider : ByteArray := prog_2_method_6_code
def yX0_addRider : MethodName := ⟨RX0, "addRider", "(IIIII)I"⟩
abbrev cX0_firstByRight : ByteArray := prog_2_method_7_code
def yX0_firstByRight : MethodName := ⟨RX0, "firstByRight", "()I"⟩
abbrev cX0_alongBall : ByteArray := prog_2_method_8_code
def yX0_alongBall : MethodName := ⟨RX0, "alongBall", "(I)J"⟩
abbrev cX0_goesBefore : ByteArray := prog_2_method_9_code
def yX0_goesBefore : MethodName := ⟨RX0, "goesBefore", "(II)Z"⟩
abbrev cX0_fromBall : ByteArray := prog_2_method_10_code
def yX0_fromBall : MethodName := ⟨RX0, "fromBall", "(I)J"⟩
abbrev cX0_squared : ByteArray := prog_2_method_11_code
def yX0_squared : MethodName := ⟨RX0, "squared", "(II)J"⟩
abbrev cX0_crosser : ByteArray := prog_2_method_12_code
def yX0_crosser : MethodName := ⟨RX0, "crosser", "(I)I"⟩
abbrev cX0_meets : ByteArray := prog_2_method_13_code
def yX0_meets : MethodName := ⟨RX0, "meets", "(II)Z"⟩
abbrev cX0_straddles : ByteArray := prog_2_method_14_code
def yX0_straddles : MethodName := ⟨RX0, "straddles", "(II)Z"⟩
abbrev cX0_turn : ByteArray := prog_2_method_15_code
def yX0_turn : MethodName := ⟨RX0, "turn", "(III)J"⟩
abbrev cX0_overlap : ByteArray := prog_2_method_16_code
def yX0_overlap : MethodName := ⟨RX0, "overlap", "(IIII)Z"⟩
def RX1 : String := "PoloSeason$Noise"
def TX1 : u_T := fun k => match k with
  | 0 => ("PoloSeason$Noise", "values", "[I", true)
  | _ => ("PoloSeason$Noise", "filled", "I", false)
def tyX1 : Nat → FieldType := fun k => match k with
  | 0 => .array .int
  | _ => .int
abbrev wsX10 : List Cond := u_ws RX1 TX1 2
theorem nmX1 : ∀ a, a < 2 → ∀ b, b < 2 → a ≠ b → (TX1 a).2.1 ≠ (TX1 b).2.1 := by decide +kernel
theorem tyX1_ok : ∀ k, k < 2 → parseFieldDescriptor (TX1 k).2.2.1 = some (tyX1 k) := by decide +kernel
abbrev cX1_init : ByteArray := prog_3_method_1_code
def yX1_init : MethodName := ⟨RX1, "<init>", "()V"⟩
abbrev cX1_size : ByteArray := prog_3_method_2_code
def yX1_size : MethodName := ⟨RX1, "size", "()I"⟩
abbrev cX1_add : ByteArray := prog_3_method_3_code
def yX1_add : MethodName := ⟨RX1, "add", "(I)I"⟩
abbrev cX1_empty : ByteArray := prog_3_method_4_code
def yX1_empty : MethodName := ⟨RX1, "empty", "()V"⟩
abbrev cX1_remainder : ByteArray := prog_3_method_5_code
def yX1_remainder : MethodName := ⟨RX1, "remainder", "(II)I"⟩
def RX2 : String := "PoloSeason$Planner"
def TX2 : u_T := fun k => match k with
  | 0 => ("PoloSeason$Planner", "ponies", "[I", true)
  | 1 => ("PoloSeason$Planner", "levels", "[I", true)
  | 2 => ("PoloSeason$Planner", "capacity", "[I", true)
  | 3 => ("PoloSeason$Planner", "due", "[I", true)
  | 4 => ("PoloSeason$Planner", "spare", "[Z", true)
  | 5 => ("PoloSeason$Planner", "way", "[I", true)
  | 6 => ("PoloSeason$Planner", "ponyCount", "I", false)
  | 7 => ("PoloSeason$Planner", "threshold", "I", false)
  | _ => ("PoloSeason$Planner", "spareDue", "I", false)
def tyX2 : Nat → FieldType := fun k => match k with
  | 0 => .array .int
  | 1 => .array .int
  | 2 => .array .int
  | 3 => .array .int
  | 4 => .array .boolean
  | 5 => .array .int
  | 6 => .int
  | 7 => .int
  | _ => .int
abbrev wsX20 : List Cond := u_ws RX2 TX2 9
theorem nmX2 : ∀ a, a < 9 → ∀ b, b < 9 → a ≠ b → (TX2 a).2.1 ≠ (TX2 b).2.1 := by decide +kernel
theorem tyX2_ok : ∀ k, k < 9 → parseFieldDescriptor (TX2 k).2.2.1 = some (tyX2 k) := by decide +kernel
abbrev cX2_init : ByteArray := prog_4_method_1_code
def yX2_init : MethodName := ⟨RX2, "<init>", "()V"⟩
abbrev cX2_ponyIn : ByteArray := prog_4_method_2_code
def yX2_ponyIn : MethodName := ⟨RX2, "ponyIn", "(I)I"⟩
abbrev cX2_plan : ByteArray := prog_4_method_3_code
def yX2_plan : MethodName := ⟨RX2, "plan", "(LPoloSeason$Stable;II)V"⟩
abbrev cX2_collect : ByteArray := prog_4_method_4_code
def yX2_collect : MethodName := ⟨RX2, "collect", "(LPoloSeason$Stable;II)V"⟩
abbrev cX2_fillLowest : ByteArray := prog_4_method_5_code
def yX2_fillLowest : MethodName := ⟨RX2, "fillLowest", "(I)I"⟩
abbrev cX2_lowestWithRoom : ByteArray := prog_4_method_6_code
def yX2_lowestWithRoom : MethodName := ⟨RX2, "lowestWithRoom", "()I"⟩
abbrev cX2_levelNow : ByteArray := prog_4_method_7_code
def yX2_levelNow : MethodName := ⟨RX2, "levelNow", "(I)I"⟩
abbrev cX2_splitByThreshold : ByteArray := prog_4_method_8_code
def yX2_splitByThreshold : MethodName := ⟨RX2, "splitByThreshold", "(I)V"⟩
abbrev cX2_firstThatCompletes : ByteArray := prog_4_method_9_code
def yX2_firstThatCompletes : MethodName := ⟨RX2, "firstThatCompletes", "(II)I"⟩
abbrev cX2_completesWith : ByteArray := prog_4_method_10_code
def yX2_completesWith : MethodName := ⟨RX2, "completesWith", "(II)Z"⟩
abbrev cX2_completes : ByteArray := prog_4_method_11_code
def yX2_completes : MethodName := ⟨RX2, "completes", "(II)Z"⟩
def RX3 : String := "PoloSeason$Roster"
def TX3 : u_T := fun k => match k with
  | 0 => ("PoloSeason$Roster", "handicaps", "[I", true)
  | 1 => ("PoloSeason$Roster", "taken", "[Z", true)
  | 2 => ("PoloSeason$Roster", "members", "[I", true)
  | 3 => ("PoloSeason$Roster", "playerCount", "I", false)
  | _ => ("PoloSeason$Roster", "teamCount", "I", false)
def tyX3 : Nat → FieldType := fun k => match k with
  | 0 => .array .int
  | 1 => .array .boolean
  | 2 => .array .int
  | 3 => .int
  | _ => .int
abbrev wsX30 : List Cond := u_ws RX3 TX3 5
theorem nmX3 : ∀ a, a < 5 → ∀ b, b < 5 → a ≠ b → (TX3 a).2.1 ≠ (TX3 b).2.1 := by decide +kernel
theorem tyX3_ok : ∀ k, k < 5 → parseFieldDescriptor (TX3 k).2.2.1 = some (tyX3 k) := by decide +kernel
abbrev cX3_init : ByteArray := prog_5_method_1_code
def yX3_init : MethodName := ⟨RX3, "<init>", "()V"⟩
abbrev cX3_players : ByteArray := prog_5_method_2_code
def yX3_players : MethodName := ⟨RX3, "players", "()I"⟩
abbrev cX3_teams : ByteArray := prog_5_method_3_code
def yX3_teams : MethodName := ⟨RX3, "teams", "()I"⟩
abbrev cX3_playersAreFull : ByteArray := prog_5_method_4_code
def yX3_playersAreFull : MethodName := ⟨RX3, "playersAreFull", "()Z"⟩
abbrev cX3_teamsAreFull : ByteArray := prog_5_method_5_code
def yX3_teamsAreFull : MethodName := ⟨RX3, "teamsAreFull", "()Z"⟩
abbrev cX3_addPlayer : ByteArray := prog_5_method_6_code
def yX3_addPlayer : MethodName := ⟨RX3, "addPlayer", "(I)I"⟩
abbrev cX3_changeHandicap : ByteArray := prog_5_method_7_code
def yX3_changeHandicap : MethodName := ⟨RX3, "changeHandicap", "(II)I"⟩
abbrev cX3_inTeam : ByteArray := prog_5_method_8_code
def yX3_inTeam : MethodName := ⟨RX3, "inTeam", "(I)Z"⟩
abbrev cX3_addTeam : ByteArray := prog_5_method_9_code
def yX3_addTeam : MethodName := ⟨RX3, "addTeam", "(IIII)I"⟩
abbrev cX3_seat : ByteArray := prog_5_method_10_code
def yX3_seat : MethodName := ⟨RX3, "seat", "(II)V"⟩
abbrev cX3_memberOf : ByteArray := prog_5_method_11_code
def yX3_memberOf : MethodName := ⟨RX3, "memberOf", "(II)I"⟩
abbrev cX3_sumOf : ByteArray := prog_5_method_12_code
def yX3_sumOf : MethodName := ⟨RX3, "sumOf", "(I)I"⟩
def RX4 : String := "PoloSeason$Row"
def TX4 : u_T := fun k => match k with
  | 0 => ("PoloSeason$Row", "teams", "[I", true)
  | _ => ("PoloSeason$Row", "length", "I", false)
def tyX4 : Nat → FieldType := fun k => match k with
  | 0 => .array .int
  | _ => .int
abbrev wsX40 : List Cond := u_ws RX4 TX4 2
theorem nmX4 : ∀ a, a < 2 → ∀ b, b < 2 → a ≠ b → (TX4 a).2.1 ≠ (TX4 b).2.1 := by decide +kernel
theorem tyX4_ok : ∀ k, k < 2 → parseFieldDescriptor (TX4 k).2.2.1 = some (tyX4 k) := by decide +kernel
abbrev cX4_init : ByteArray := prog_6_method_1_code
def yX4_init : MethodName := ⟨RX4, "<init>", "()V"⟩
abbrev cX4_size : ByteArray := prog_6_method_2_code
def yX4_size : MethodName := ⟨RX4, "size", "()I"⟩
abbrev cX4_empty : ByteArray := prog_6_method_3_code
def yX4_empty : MethodName := ⟨RX4, "empty", "()V"⟩
abbrev cX4_append : ByteArray := prog_6_method_4_code
def yX4_append : MethodName := ⟨RX4, "append", "(I)V"⟩
abbrev cX4_at : ByteArray := prog_6_method_5_code
def yX4_at : MethodName := ⟨RX4, "at", "(I)I"⟩
abbrev cX4_contains : ByteArray := prog_6_method_6_code
def yX4_contains : MethodName := ⟨RX4, "contains", "(I)Z"⟩
abbrev cX4_exchange : ByteArray := prog_6_method_7_code
def yX4_exchange : MethodName := ⟨RX4, "exchange", "(II)V"⟩
abbrev cX4_removeAll : ByteArray := prog_6_method_8_code
def yX4_removeAll : MethodName := ⟨RX4, "removeAll", "(LPoloSeason$Row;)V"⟩
def RX5 : String := "PoloSeason$Stable"
def TX5 : u_T := fun k => match k with
  | 0 => ("PoloSeason$Stable", "owners", "[I", true)
  | 1 => ("PoloSeason$Stable", "led", "[I", true)
  | 2 => ("PoloSeason$Stable", "rides", "[I", true)
  | 3 => ("PoloSeason$Stable", "lameTill", "[I", true)
  | 4 => ("PoloSeason$Stable", "ponyCount", "I", false)
  | _ => ("PoloSeason$Stable", "day", "I", false)
def tyX5 : Nat → FieldType := fun k => match k with
  | 0 => .array .int
  | 1 => .array .int
  | 2 => .array .int
  | 3 => .array .int
  | 4 => .int
  | _ => .int
abbrev wsX50 : List Cond := u_ws RX5 TX5 6
theorem nmX5 : ∀ a, a < 6 → ∀ b, b < 6 → a ≠ b → (TX5 a).2.1 ≠ (TX5 b).2.1 := by decide +kernel
theorem tyX5_ok : ∀ k, k < 6 → parseFieldDescriptor (TX5 k).2.2.1 = some (tyX5 k) := by decide +kernel
abbrev cX5_init : ByteArray := prog_7_method_1_code
def yX5_init : MethodName := ⟨RX5, "<init>", "()V"⟩
abbrev cX5_ponies : ByteArray := prog_7_method_2_code
def yX5_ponies : MethodName := ⟨RX5, "ponies", "()I"⟩
abbrev cX5_today : ByteArray := prog_7_method_3_code
def yX5_today : MethodName := ⟨RX5, "today", "()I"⟩
abbrev cX5_isFull : ByteArray := prog_7_method_4_code
def yX5_isFull : MethodName := ⟨RX5, "isFull", "()Z"⟩
abbrev cX5_poniesOf : ByteArray := prog_7_method_5_code
def yX5_poniesOf : MethodName := ⟨RX5, "poniesOf", "(I)I"⟩
abbrev cX5_addPony : ByteArray := prog_7_method_6_code
def yX5_addPony : MethodName := ⟨RX5, "addPony", "(I)I"⟩
abbrev cX5_layUp : ByteArray := prog_7_method_7_code
def yX5_layUp : MethodName := ⟨RX5, "layUp", "(II)Z"⟩
abbrev cX5_isLame : ByteArray := prog_7_method_8_code
def yX5_isLame : MethodName := ⟨RX5, "isLame", "(I)Z"⟩
abbrev cX5_ownerOf : ByteArray := prog_7_method_9_code
def yX5_ownerOf : MethodName := ⟨RX5, "ownerOf", "(I)I"⟩
abbrev cX5_ledOf : ByteArray := prog_7_method_10_code
def yX5_ledOf : MethodName := ⟨RX5, "ledOf", "(I)I"⟩
abbrev cX5_ridesToday : ByteArray := prog_7_method_11_code
def yX5_ridesToday : MethodName := ⟨RX5, "ridesToday", "(I)I"⟩
abbrev cX5_ridesLeft : ByteArray := prog_7_method_12_code
def yX5_ridesLeft : MethodName := ⟨RX5, "ridesLeft", "(I)I"⟩
abbrev cX5_ride : ByteArray := prog_7_method_13_code
def yX5_ride : MethodName := ⟨RX5, "ride", "(I)V"⟩
abbrev cX5_nextDay : ByteArray := prog_7_method_14_code
def yX5_nextDay : MethodName := ⟨RX5, "nextDay", "()I"⟩
def RX6 : String := "PoloSeason$Tournament"
def TX6 : u_T := fun k => match k with
  | 0 => ("PoloSeason$Tournament", "entered", "LPoloSeason$Row;", true)
  | 1 => ("PoloSeason$Tournament", "whole", "LPoloSeason$Row;", true)
  | 2 => ("PoloSeason$Tournament", "hurt", "LPoloSeason$Row;", true)
  | 3 => ("PoloSeason$Tournament", "losers", "LPoloSeason$Row;", true)
  | 4 => ("PoloSeason$Tournament", "open", "Z", false)
  | 5 => ("PoloSeason$Tournament", "drawn", "Z", false)
  | 6 => ("PoloSeason$Tournament", "strengthLimit", "I", false)
  | 7 => ("PoloSeason$Tournament", "matchChukkas", "I", false)
  | 8 => ("PoloSeason$Tournament", "played", "I", false)
  | _ => ("PoloSeason$Tournament", "rounds", "I", false)
def tyX6 : Nat → FieldType := fun k => match k with
  | 0 => .object "PoloSeason$Row"
  | 1 => .object "PoloSeason$Row"
  | 2 => .object "PoloSeason$Row"
  | 3 => .object "PoloSeason$Row"
  | 4 => .boolean
  | 5 => .boolean
  | 6 => .int
  | 7 => .int
  | 8 => .int
  | _ => .int
abbrev wsX60 : List Cond := u_ws RX6 TX6 10
theorem nmX6 : ∀ a, a < 10 → ∀ b, b < 10 → a ≠ b → (TX6 a).2.1 ≠ (TX6 b).2.1 := by decide +kernel
theorem tyX6_ok : ∀ k, k < 10 → parseFieldDescriptor (TX6 k).2.2.1 = some (tyX6 k) := by decide +kernel
abbrev cX6_init : ByteArray := prog_8_method_1_code
def yX6_init : MethodName := ⟨RX6, "<init>", "()V"⟩
abbrev cX6_beginAnew : ByteArray := prog_8_method_2_code
def yX6_beginAnew : MethodName := ⟨RX6, "beginAnew", "(II)V"⟩
abbrev cX6_isOpen : ByteArray := prog_8_method_3_code
def yX6_isOpen : MethodName := ⟨RX6, "isOpen", "()Z"⟩
abbrev cX6_isDrawn : ByteArray := prog_8_method_4_code
def yX6_isDrawn : MethodName := ⟨RX6, "isDrawn", "()Z"⟩
abbrev cX6_limit : ByteArray := prog_8_method_5_code
def yX6_limit : MethodName := ⟨RX6, "limit", "()I"⟩
abbrev cX6_chukkas : ByteArray := prog_8_method_6_code
def yX6_chukkas : MethodName := ⟨RX6, "chukkas", "()I"⟩
abbrev cX6_teams : ByteArray := prog_8_method_7_code
def yX6_teams : MethodName := ⟨RX6, "teams", "()I"⟩
abbrev cX6_matchesPlayed : ByteArray := prog_8_method_8_code
def yX6_matchesPlayed : MethodName := ⟨RX6, "matchesPlayed", "()I"⟩
abbrev cX6_roundsBegun : ByteArray := prog_8_method_9_code
def yX6_roundsBegun : MethodName := ⟨RX6, "roundsBegun", "()I"⟩
abbrev cX6_holds : ByteArray := prog_8_method_10_code
def yX6_holds : MethodName := ⟨RX6, "holds", "(I)Z"⟩
abbrev cX6_admit : ByteArray := prog_8_method_11_code
def yX6_admit : MethodName := ⟨RX6, "admit", "(I)I"⟩
abbrev cX6_shuffle : ByteArray := prog_8_method_12_code
def yX6_shuffle : MethodName := ⟨RX6, "shuffle", "(LPoloSeason$Noise;)V"⟩
abbrev cX6_sideOfNext : ByteArray := prog_8_method_13_code
def yX6_sideOfNext : MethodName := ⟨RX6, "sideOfNext", "(I)I"⟩
abbrev cX6_endMatch : ByteArray := prog_8_method_14_code
def yX6_endMatch : MethodName := ⟨RX6, "endMatch", "(I)V"⟩
abbrev cX6_endRound : ByteArray := prog_8_method_15_code
def yX6_endRound : MethodName := ⟨RX6, "endRound", "()V"⟩
abbrev cX6_isWon : ByteArray := prog_8_method_16_code
def yX6_isWon : MethodName := ⟨RX6, "isWon", "()Z"⟩
abbrev cX6_placeOf : ByteArray := prog_8_method_17_code
def yX6_placeOf : MethodName := ⟨RX6, "placeOf", "(I)I"⟩
abbrev cX6_inRow : ByteArray := prog_8_method_18_code
def yX6_inRow : MethodName := ⟨RX6, "inRow", "(II)I"⟩
def RX7 : String := "PoloSeason"
def TX7 : u_T := fun k => match k with
  | 0 => ("PoloSeason", "roster", "LPoloSeason$Roster;", true)
  | 1 => ("PoloSeason", "numbers", "LPoloSeason$Noise;", true)
  | 2 => ("PoloSeason", "tournament", "LPoloSeason$Tournament;", true)
  | 3 => ("PoloSeason", "stable", "LPoloSeason$Stable;", true)
  | 4 => ("PoloSeason", "planner", "LPoloSeason$Planner;", true)
  | 5 => ("PoloSeason", "line", "LPoloSeason$Line;", true)
  | _ => ("PoloSeason", "chukkasAfoot", "I", false)
def tyX7 : Nat → FieldType := fun k => match k with
  | 0 => .object "PoloSeason$Roster"
  | 1 => .object "PoloSeason$Noise"
  | 2 => .object "PoloSeason$Tournament"
  | 3 => .object "PoloSeason$Stable"
  | 4 => .object "PoloSeason$Planner"
  | 5 => .object "PoloSeason$Line"
  | _ => .int
abbrev wsX70 : List Cond := u_ws RX7 TX7 7
theorem nmX7 : ∀ a, a < 7 → ∀ b, b < 7 → a ≠ b → (TX7 a).2.1 ≠ (TX7 b).2.1 := by decide +kernel
theorem tyX7_ok : ∀ k, k < 7 → parseFieldDescriptor (TX7 k).2.2.1 = some (tyX7 k) := by decide +kernel
abbrev cX7_init : ByteArray := prog_1_method_1_code
def yX7_init : MethodName := ⟨RX7, "<init>", "()V"⟩
abbrev cX7_player : ByteArray := prog_1_method_2_code
def yX7_player : MethodName := ⟨RX7, "player", "(I)I"⟩
abbrev cX7_rate : ByteArray := prog_1_method_3_code
def yX7_rate : MethodName := ⟨RX7, "rate", "(II)I"⟩
abbrev cX7_team : ByteArray := prog_1_method_4_code
def yX7_team : MethodName := ⟨RX7, "team", "(IIII)I"⟩
abbrev cX7_strength : ByteArray := prog_1_method_5_code
def yX7_strength : MethodName := ⟨RX7, "strength", "(I)I"⟩
abbrev cX7_cup : ByteArray := prog_1_method_6_code
def yX7_cup : MethodName := ⟨RX7, "cup", "(II)V"⟩
abbrev cX7_enter : ByteArray := prog_1_method_7_code
def yX7_enter : MethodName := ⟨RX7, "enter", "(I)I"⟩
abbrev cX7_noise : ByteArray := prog_1_method_8_code
def yX7_noise : MethodName := ⟨RX7, "noise", "(I)I"⟩
abbrev cX7_draw : ByteArray := prog_1_method_9_code
def yX7_draw : MethodName := ⟨RX7, "draw", "()I"⟩
abbrev cX7_next : ByteArray := prog_1_method_10_code
def yX7_next : MethodName := ⟨RX7, "next", "(I)I"⟩
abbrev cX7_given : ByteArray := prog_1_method_11_code
def yX7_given : MethodName := ⟨RX7, "given", "(I)I"⟩
abbrev cX7_play : ByteArray := prog_1_method_12_code
def yX7_play : MethodName := ⟨RX7, "play", "(II)I"⟩
abbrev cX7_where : ByteArray := prog_1_method_13_code
def yX7_where : MethodName := ⟨RX7, "where", "(I)I"⟩
abbrev cX7_row : ByteArray := prog_1_method_14_code
def yX7_row : MethodName := ⟨RX7, "row", "(II)I"⟩
abbrev cX7_pony : ByteArray := prog_1_method_15_code
def yX7_pony : MethodName := ⟨RX7, "pony", "(I)I"⟩
abbrev cX7_lame : ByteArray := prog_1_method_16_code
def yX7_lame : MethodName := ⟨RX7, "lame", "(II)Z"⟩
abbrev cX7_told : ByteArray := prog_1_method_17_code
def yX7_told : MethodName := ⟨RX7, "told", "(II)I"⟩
abbrev cX7_mount : ByteArray := prog_1_method_18_code
def yX7_mount : MethodName := ⟨RX7, "mount", "(III)I"⟩
abbrev cX7_afoot : ByteArray := prog_1_method_19_code
def yX7_afoot : MethodName := ⟨RX7, "afoot", "()I"⟩
abbrev cX7_rest : ByteArray := prog_1_method_20_code
def yX7_rest : MethodName := ⟨RX7, "rest", "()I"⟩
abbrev cX7_ball : ByteArray := prog_1_method_21_code
def yX7_ball : MethodName := ⟨RX7, "ball", "(IIII)V"⟩
abbrev cX7_rider : ByteArray := prog_1_method_22_code
def yX7_rider : MethodName := ⟨RX7, "rider", "(IIIII)I"⟩
abbrev cX7_right : ByteArray := prog_1_method_23_code
def yX7_right : MethodName := ⟨RX7, "right", "()I"⟩
abbrev cX7_foul : ByteArray := prog_1_method_24_code
def yX7_foul : MethodName := ⟨RX7, "foul", "(I)I"⟩
abbrev cX7_count : ByteArray := prog_1_method_25_code
def yX7_count : MethodName := ⟨RX7, "count", "(I)I"⟩
abbrev cX7_within : ByteArray := prog_1_method_26_code
def yX7_within : MethodName := ⟨RX7, "within", "(III)Z"⟩
abbrev cX7_requireHandicap : ByteArray := prog_1_method_27_code
def yX7_requireHandicap : MethodName := ⟨RX7, "requireHandicap", "(I)V"⟩
abbrev cX7_requireZeroOrOne : ByteArray := prog_1_method_28_code
def yX7_requireZeroOrOne : MethodName := ⟨RX7, "requireZeroOrOne", "(I)V"⟩
abbrev cX7_requireWay : ByteArray := prog_1_method_29_code
def yX7_requireWay : MethodName := ⟨RX7, "requireWay", "(IIII)V"⟩
abbrev cX7_requirePlayer : ByteArray := prog_1_method_30_code
def yX7_requirePlayer : MethodName := ⟨RX7, "requirePlayer", "(I)V"⟩
abbrev cX7_requireTeam : ByteArray := prog_1_method_31_code
def yX7_requireTeam : MethodName := ⟨RX7, "requireTeam", "(I)V"⟩
abbrev cX7_requirePony : ByteArray := prog_1_method_32_code
def yX7_requirePony : MethodName := ⟨RX7, "requirePony", "(I)V"⟩
abbrev cX7_requireUndrawnCup : ByteArray := prog_1_method_33_code
def yX7_requireUndrawnCup : MethodName := ⟨RX7, "requireUndrawnCup", "()V"⟩
abbrev cX7_halvesFor : ByteArray := prog_1_method_34_code
def yX7_halvesFor : MethodName := ⟨RX7, "halvesFor", "(II)I"⟩
abbrev cX7_rideTeam : ByteArray := prog_1_method_35_code
def yX7_rideTeam : MethodName := ⟨RX7, "rideTeam", "(I)V"⟩
abbrev cX7_ridePlayer : ByteArray := prog_1_method_36_code
def yX7_ridePlayer : MethodName := ⟨RX7, "ridePlayer", "(I)V"⟩
def RX8 : String := "PoloSeasonModel"
def TX8 : u_T := fun k => match k with
  | 0 => ("PoloSeasonModel", "thrown", "I", false)
  | 1 => ("PoloSeasonModel", "handicaps", "[I", true)
  | 2 => ("PoloSeasonModel", "teamOf", "[I", true)
  | 3 => ("PoloSeasonModel", "players", "I", false)
  | 4 => ("PoloSeasonModel", "members", "[I", true)
  | 5 => ("PoloSeasonModel", "teams", "I", false)
  | 6 => ("PoloSeasonModel", "hasCup", "Z", false)
  | 7 => ("PoloSeasonModel", "isDrawn", "Z", false)
  | 8 => ("PoloSeasonModel", "limit", "I", false)
  | 9 => ("PoloSeasonModel", "chukkas", "I", false)
  | 10 => ("PoloSeasonModel", "rounds", "I", false)
  | 11 => ("PoloSeasonModel", "played", "I", false)
  | 12 => ("PoloSeasonModel", "entered", "[I", true)
  | 13 => ("PoloSeasonModel", "entries", "I", false)
  | 14 => ("PoloSeasonModel", "noise", "[I", true)
  | 15 => ("PoloSeasonModel", "noises", "I", false)
  | 16 => ("PoloSeasonModel", "whole", "[I", true)
  | 17 => ("PoloSeasonModel", "hurt", "[I", true)
  | 18 => ("PoloSeasonModel", "wholes", "I", false)
  | 19 => ("PoloSeasonModel", "hurts", "I", false)
  | 20 => ("PoloSeasonModel", "first", "[I", true)
  | 21 => ("PoloSeasonModel", "second", "[I", true)
  | 22 => ("PoloSeasonModel", "lost", "[I", true)
  | 23 => ("PoloSeasonModel", "matches", "I", false)
  | 24 => ("PoloSeasonModel", "match", "I", false)
  | 25 => ("PoloSeasonModel", "places", "[I", true)
  | 26 => ("PoloSeasonModel", "ownerOf", "[I", true)
  | 27 => ("PoloSeasonModel", "plays", "[I", true)
  | 28 => ("PoloSeasonModel", "todays", "[I", true)
  | 29 => ("PoloSeasonModel", "lameTill", "[I", true)
  | 30 => ("PoloSeasonModel", "ponies", "I", false)
  | 31 => ("PoloSeasonModel", "today", "I", false)
  | 32 => ("PoloSeasonModel", "onFoot", "I", false)
  | 33 => ("PoloSeasonModel", "own", "[I", true)
  | 34 => ("PoloSeasonModel", "cap", "[I", true)
  | 35 => ("PoloSeasonModel", "owns", "I", false)
  | 36 => ("PoloSeasonModel", "share", "[I", true)
  | 37 => ("PoloSeasonModel", "shares", "[I", true)
  | 38 => ("PoloSeasonModel", "shareMany", "I", false)
  | 39 => ("PoloSeasonModel", "led", "[I", true)
  | 40 => ("PoloSeasonModel", "bestLed", "[I", true)
  | 41 => ("PoloSeasonModel", "filled", "I", false)
  | 42 => ("PoloSeasonModel", "ride", "[I", true)
  | 43 => ("PoloSeasonModel", "used", "[I", true)
  | 44 => ("PoloSeasonModel", "hasBall", "Z", false)
  | 45 => ("PoloSeasonModel", "ballX", "I", false)
  | 46 => ("PoloSeasonModel", "ballY", "I", false)
  | 47 => ("PoloSeasonModel", "ballDx", "I", false)
  | 48 => ("PoloSeasonModel", "ballDy", "I", false)
  | 49 => ("PoloSeasonModel", "riders", "I", false)
  | 50 => ("PoloSeasonModel", "side", "[I", true)
  | 51 => ("PoloSeasonModel", "atX", "[I", true)
  | 52 => ("PoloSeasonModel", "atY", "[I", true)
  | 53 => ("PoloSeasonModel", "goX", "[I", true)
  | _ => ("PoloSeasonModel", "goY", "[I", true)
def tyX8 : Nat → FieldType := fun k => match k with
  | 0 => .int
  | 1 => .array .int
  | 2 => .array .int
  | 3 => .int
  | 4 => .array .int
  | 5 => .int
  | 6 => .boolean
  | 7 => .boolean
  | 8 => .int
  | 9 => .int
  | 10 => .int
  | 11 => .int
  | 12 => .array .int
  | 13 => .int
  | 14 => .array .int
  | 15 => .int
  | 16 => .array .int
  | 17 => .array .int
  | 18 => .int
  | 19 => .int
  | 20 => .array .int
  | 21 => .array .int
  | 22 => .array .int
  | 23 => .int
  | 24 => .int
  | 25 => .array .int
  | 26 => .array .int
  | 27 => .array .int
  | 28 => .array .int
  | 29 => .array .int
  | 30 => .int
  | 31 => .int
  | 32 => .int
  | 33 => .array .int
  | 34 => .array .int
  | 35 => .int
  | 36 => .array .int
  | 37 => .array .int
  | 38 => .int
  | 39 => .array .int
  | 40 => .array .int
  | 41 => .int
  | 42 => .array .int
  | 43 => .array .int
  | 44 => .boolean
  | 45 => .int
  | 46 => .int
  | 47 => .int
  | 48 => .int
  | 49 => .int
  | 50 => .array .int
  | 51 => .array .int
  | 52 => .array .int
  | 53 => .array .int
  | _ => .array .int
abbrev wsX80 : List Cond := u_ws RX8 TX8 55
theorem nmX8 : ∀ a, a < 55 → ∀ b, b < 55 → a ≠ b → (TX8 a).2.1 ≠ (TX8 b).2.1 := by decide +kernel
theorem tyX8_ok : ∀ k, k < 55 → parseFieldDescriptor (TX8 k).2.2.1 = some (tyX8 k) := by decide +kernel
abbrev cX8_init : ByteArray := prog_10_method_1_code
def yX8_init : MethodName := ⟨RX8, "<init>", "()V"⟩
abbrev cX8_thrown : ByteArray := prog_10_method_2_code
def yX8_thrown : MethodName := ⟨RX8, "thrown", "()I"⟩
abbrev cX8_bad : ByteArray := prog_10_method_3_code
def yX8_bad : MethodName := ⟨RX8, "bad", "(ZI)Z"⟩
abbrev cX8_isHandicap : ByteArray := prog_10_method_4_code
def yX8_isHandicap : MethodName := ⟨RX8, "isHandicap", "(I)Z"⟩
abbrev cX8_isPlayer : ByteArray := prog_10_method_5_code
def yX8_isPlayer : MethodName := ⟨RX8, "isPlayer", "(I)Z"⟩
abbrev cX8_player : ByteArray := prog_10_method_6_code
def yX8_player : MethodName := ⟨RX8, "player", "(I)I"⟩
abbrev cX8_rate : ByteArray := prog_10_method_7_code
def yX8_rate : MethodName := ⟨RX8, "rate", "(II)I"⟩
abbrev cX8_team : ByteArray := prog_10_method_8_code
def yX8_team : MethodName := ⟨RX8, "team", "(IIII)I"⟩
abbrev cX8_isTeam : ByteArray := prog_10_method_9_code
def yX8_isTeam : MethodName := ⟨RX8, "isTeam", "(I)Z"⟩
abbrev cX8_strengthOf : ByteArray := prog_10_method_10_code
def yX8_strengthOf : MethodName := ⟨RX8, "strengthOf", "(I)I"⟩
abbrev cX8_strength : ByteArray := prog_10_method_11_code
def yX8_strength : MethodName := ⟨RX8, "strength", "(I)I"⟩
abbrev cX8_cup : ByteArray := prog_10_method_12_code
def yX8_cup : MethodName := ⟨RX8, "cup", "(II)V"⟩
abbrev cX8_enter : ByteArray := prog_10_method_13_code
def yX8_enter : MethodName := ⟨RX8, "enter", "(I)I"⟩
abbrev cX8_noise : ByteArray := prog_10_method_14_code
def yX8_noise : MethodName := ⟨RX8, "noise", "(I)I"⟩
abbrev cX8_draw : ByteArray := prog_10_method_15_code
def yX8_draw : MethodName := ⟨RX8, "draw", "()I"⟩
abbrev cX8_begins : ByteArray := prog_10_method_16_code
def yX8_begins : MethodName := ⟨RX8, "begins", "()V"⟩
abbrev cX8_pairs : ByteArray := prog_10_method_17_code
def yX8_pairs : MethodName := ⟨RX8, "pairs", "(II)V"⟩
abbrev cX8_hasLost : ByteArray := prog_10_method_18_code
def yX8_hasLost : MethodName := ⟨RX8, "hasLost", "(I)Z"⟩
abbrev cX8_ends : ByteArray := prog_10_method_19_code
def yX8_ends : MethodName := ⟨RX8, "ends", "()V"⟩
abbrev cX8_isWhich : ByteArray := prog_10_method_20_code
def yX8_isWhich : MethodName := ⟨RX8, "isWhich", "(I)Z"⟩
abbrev cX8_next : ByteArray := prog_10_method_21_code
def yX8_next : MethodName := ⟨RX8, "next", "(I)I"⟩
abbrev cX8_givenTo : ByteArray := prog_10_method_22_code
def yX8_givenTo : MethodName := ⟨RX8, "givenTo", "(II)I"⟩
abbrev cX8_given : ByteArray := prog_10_method_23_code
def yX8_given : MethodName := ⟨RX8, "given", "(I)I"⟩
abbrev cX8_play : ByteArray := prog_10_method_24_code
def yX8_play : MethodName := ⟨RX8, "play", "(II)I"⟩
abbrev cX8_where : ByteArray := prog_10_method_25_code
def yX8_where : MethodName := ⟨RX8, "where", "(I)I"⟩
abbrev cX8_row : ByteArray := prog_10_method_26_code
def yX8_row : MethodName := ⟨RX8, "row", "(II)I"⟩
abbrev cX8_pony : ByteArray := prog_10_method_27_code
def yX8_pony : MethodName := ⟨RX8, "pony", "(I)I"⟩
abbrev cX8_isPony : ByteArray := prog_10_method_28_code
def yX8_isPony : MethodName := ⟨RX8, "isPony", "(I)Z"⟩
abbrev cX8_lame : ByteArray := prog_10_method_29_code
def yX8_lame : MethodName := ⟨RX8, "lame", "(II)Z"⟩
abbrev cX8_told : ByteArray := prog_10_method_30_code
def yX8_told : MethodName := ⟨RX8, "told", "(II)I"⟩
abbrev cX8_rest : ByteArray := prog_10_method_31_code
def yX8_rest : MethodName := ⟨RX8, "rest", "()I"⟩
abbrev cX8_total : ByteArray := prog_10_method_32_code
def yX8_total : MethodName := ⟨RX8, "total", "()I"⟩
abbrev cX8_sortLed : ByteArray := prog_10_method_33_code
def yX8_sortLed : MethodName := ⟨RX8, "sortLed", "()V"⟩
abbrev cX8_compared : ByteArray := prog_10_method_34_code
def yX8_compared : MethodName := ⟨RX8, "compared", "()I"⟩
abbrev cX8_keepsShare : ByteArray := prog_10_method_35_code
def yX8_keepsShare : MethodName := ⟨RX8, "keepsShare", "()V"⟩
abbrev cX8_sharesOf : ByteArray := prog_10_method_36_code
def yX8_sharesOf : MethodName := ⟨RX8, "sharesOf", "(I)V"⟩
abbrev cX8_mayGoOn : ByteArray := prog_10_method_37_code
def yX8_mayGoOn : MethodName := ⟨RX8, "mayGoOn", "()Z"⟩
abbrev cX8_tries : ByteArray := prog_10_method_38_code
def yX8_tries : MethodName := ⟨RX8, "tries", "(III)Z"⟩
abbrev cX8_mounts : ByteArray := prog_10_method_39_code
def yX8_mounts : MethodName := ⟨RX8, "mounts", "(II)V"⟩
abbrev cX8_rides : ByteArray := prog_10_method_40_code
def yX8_rides : MethodName := ⟨RX8, "rides", "(II)V"⟩
abbrev cX8_mount : ByteArray := prog_10_method_41_code
def yX8_mount : MethodName := ⟨RX8, "mount", "(III)I"⟩
abbrev cX8_afoot : ByteArray := prog_10_method_42_code
def yX8_afoot : MethodName := ⟨RX8, "afoot", "()I"⟩
abbrev cX8_isPlace : ByteArray := prog_10_method_43_code
def yX8_isPlace : MethodName := ⟨RX8, "isPlace", "(I)Z"⟩
abbrev cX8_isLine : ByteArray := prog_10_method_44_code
def yX8_isLine : MethodName := ⟨RX8, "isLine", "(IIII)Z"⟩
abbrev cX8_ball : ByteArray := prog_10_method_45_code
def yX8_ball : MethodName := ⟨RX8, "ball", "(IIII)V"⟩
abbrev cX8_rider : ByteArray := prog_10_method_46_code
def yX8_rider : MethodName := ⟨RX8, "rider", "(IIIII)I"⟩
abbrev cX8_along : ByteArray := prog_10_method_47_code
def yX8_along : MethodName := ⟨RX8, "along", "(I)J"⟩
abbrev cX8_way : ByteArray := prog_10_method_48_code
def yX8_way : MethodName := ⟨RX8, "way", "(I)J"⟩
abbrev cX8_far : ByteArray := prog_10_method_49_code
def yX8_far : MethodName := ⟨RX8, "far", "(I)J"⟩
abbrev cX8_isAhead : ByteArray := prog_10_method_50_code
def yX8_isAhead : MethodName := ⟨RX8, "isAhead", "(II)Z"⟩
abbrev cX8_rightOf : ByteArray := prog_10_method_51_code
def yX8_rightOf : MethodName := ⟨RX8, "rightOf", "()I"⟩
abbrev cX8_right : ByteArray := prog_10_method_52_code
def yX8_right : MethodName := ⟨RX8, "right", "()I"⟩
abbrev cX8_turn : ByteArray := prog_10_method_53_code
def yX8_turn : MethodName := ⟨RX8, "turn", "(JJJJJJ)I"⟩
abbrev cX8_isOn : ByteArray := prog_10_method_54_code
def yX8_isOn : MethodName := ⟨RX8, "isOn", "(JJJJJJ)Z"⟩
abbrev cX8_meets : ByteArray := prog_10_method_55_code
def yX8_meets : MethodName := ⟨RX8, "meets", "(II)Z"⟩
abbrev cX8_foul : ByteArray := prog_10_method_56_code
def yX8_foul : MethodName := ⟨RX8, "foul", "(I)I"⟩
abbrev cX8_count : ByteArray := prog_10_method_57_code
def yX8_count : MethodName := ⟨RX8, "count", "(I)I"⟩
def RJ9 : String := "java/lang/Math"
def TJ9 : u_T := fun k => match k with
  | _ => ("", "", "", false)
def tyJ9 : Nat → FieldType := fun k => match k with
  | _ => .int
abbrev wsJ90 : List Cond := u_ws RJ9 TJ9 0
theorem nmJ9 : ∀ a, a < 0 → ∀ b, b < 0 → a ≠ b → (TJ9 a).2.1 ≠ (TJ9 b).2.1 := by decide +kernel
theorem tyJ9_ok : ∀ k, k < 0 → parseFieldDescriptor (TJ9 k).2.2.1 = some (tyJ9 k) := by decide +kernel
abbrev cJ9_max_7cf53 : ByteArray := prog_15_method_65_code
def yJ9_max_7cf53 : MethodName := ⟨RJ9, "max", "(II)I"⟩
abbrev cJ9_min_7cf53 : ByteArray := prog_15_method_69_code
def yJ9_min_7cf53 : MethodName := ⟨RJ9, "min", "(II)I"⟩
def RJ0 : String := "java/lang/String"
def TJ0 : u_T := fun k => match k with
  | _ => ("", "", "", false)
def tyJ0 : Nat → FieldType := fun k => match k with
  | _ => .int
abbrev wsJ00 : List Cond := u_ws RJ0 TJ0 0
theorem nmJ0 : ∀ a, a < 0 → ∀ b, b < 0 → a ≠ b → (TJ0 a).2.1 ≠ (TJ0 b).2.1 := by decide +kernel
theorem tyJ0_ok : ∀ k, k < 0 → parseFieldDescriptor (TJ0 k).2.2.1 = some (tyJ0 k) := by decide +kernel
def RL : String := "PoloSeasonLaw"
abbrev cL_player : ByteArray := method_3_code
def yL_player : MethodName := ⟨RL, "player", "(LPoloSeason;I[J)I"⟩
abbrev cL_rate : ByteArray := method_4_code
def yL_rate : MethodName := ⟨RL, "rate", "(LPoloSeason;II[J)I"⟩
abbrev cL_team : ByteArray := method_5_code
def yL_team : MethodName := ⟨RL, "team", "(LPoloSeason;IIII[J)I"⟩
abbrev cL_strength : ByteArray := method_6_code
def yL_strength : MethodName := ⟨RL, "strength", "(LPoloSeason;I[J)I"⟩
abbrev cL_cup : ByteArray := method_7_code
def yL_cup : MethodName := ⟨RL, "cup", "(LPoloSeason;II)I"⟩
abbrev cL_enter : ByteArray := method_8_code
def yL_enter : MethodName := ⟨RL, "enter", "(LPoloSeason;I[J)I"⟩
abbrev cL_draw : ByteArray := method_9_code
def yL_draw : MethodName := ⟨RL, "draw", "(LPoloSeason;[J)I"⟩
abbrev cL_next : ByteArray := method_10_code
def yL_next : MethodName := ⟨RL, "next", "(LPoloSeason;I[J)I"⟩
abbrev cL_given : ByteArray := method_11_code
def yL_given : MethodName := ⟨RL, "given", "(LPoloSeason;I[J)I"⟩
abbrev cL_play : ByteArray := method_12_code
def yL_play : MethodName := ⟨RL, "play", "(LPoloSeason;II[J)I"⟩
abbrev cL_where : ByteArray := method_13_code
def yL_where : MethodName := ⟨RL, "where", "(LPoloSeason;I[J)I"⟩
abbrev cL_row : ByteArray := method_14_code
def yL_row : MethodName := ⟨RL, "row", "(LPoloSeason;II[J)I"⟩
abbrev cL_pony : ByteArray := method_15_code
def yL_pony : MethodName := ⟨RL, "pony", "(LPoloSeason;I[J)I"⟩
abbrev cL_lame : ByteArray := method_16_code
def yL_lame : MethodName := ⟨RL, "lame", "(LPoloSeason;II[J)I"⟩
abbrev cL_told : ByteArray := method_17_code
def yL_told : MethodName := ⟨RL, "told", "(LPoloSeason;II[J)I"⟩
abbrev cL_mount : ByteArray := method_18_code
def yL_mount : MethodName := ⟨RL, "mount", "(LPoloSeason;III[J)I"⟩
abbrev cL_rest : ByteArray := method_19_code
def yL_rest : MethodName := ⟨RL, "rest", "(LPoloSeason;[J)I"⟩
abbrev cL_ball : ByteArray := method_20_code
def yL_ball : MethodName := ⟨RL, "ball", "(LPoloSeason;IIII)I"⟩
abbrev cL_rider : ByteArray := method_21_code
def yL_rider : MethodName := ⟨RL, "rider", "(LPoloSeason;IIIII[J)I"⟩
abbrev cL_law : ByteArray := code
def yL_law : MethodName := ⟨RL, "law", "([I)Z"⟩
abbrev vwCl : List vw_C := [(RX0, TX0, 11), (RX1, TX1, 2), (RX2, TX2, 9), (RX3, TX3, 5), (RX4, TX4, 2), (RX5, TX5, 6), (RX6, TX6, 10), (RX7, TX7, 7), (RX8, TX8, 55)]
end
section
def cnm (i : Nat) : String := ([RX0, RX1, RX2, RX3, RX4, RX5, RX6, RX7, RX8, RL, RJ9] : List String).getD i ""
def TT (i : Nat) : u_T := ([TX0, TX1, TX2, TX3, TX4, TX5, TX6, TX7, TX8] : List u_T).getD i TX0
def tyT (i : Nat) : Nat → FieldType := ([tyX0, tyX1, tyX2, tyX3, tyX4, tyX5, tyX6, tyX7, tyX8] : List (Nat → FieldType)).getD i tyX0
def nfT (i : Nat) : Nat := ([11, 2, 9, 5, 2, 6, 10, 7, 55] : List Nat).getD i 0
/-- the tag of a thing of the world: under 9 an object of that place in vwCl, 9 an int row, 10 a boolean row, 11 the long row -/
def clT (i : Nat) : Nat := ([7, 3, 1, 6, 4, 4, 4, 4, 5, 2, 0, 8, 9, 10, 9, 9, 9, 9, 9, 9, 9, 9, 9, 9, 9, 9, 9, 9, 10, 9, 9, 9, 9, 9, 9, 9, 9, 9, 9, 9, 9, 9, 9, 9, 9, 9, 9, 9, 9, 9, 9, 9, 9, 9, 9, 9, 9, 9, 9, 9, 9, 9, 9, 11] : List Nat).getD i 99
/-- the slots of an object: 0 a number, r + 1 the thing r -/
def slT (i : Nat) : List Nat := ([[2, 3, 4, 9, 10, 11, 0], [13, 14, 15, 0, 0], [16, 0], [5, 6, 7, 8, 0, 0, 0, 0, 0, 0], [17, 0], [18, 0], [19, 0], [20, 0], [21, 22, 23, 24, 0, 0], [25, 26, 27, 28, 29, 30, 0, 0, 0], [31, 32, 33, 34, 35, 0, 0, 0, 0, 0, 0], [0, 36, 37, 0, 38, 0, 0, 0, 0, 0, 0, 0, 39, 0, 40, 0, 41, 42, 0, 0, 43, 44, 45, 0, 0, 46, 47, 48, 49, 50, 0, 0, 0, 51, 52, 0, 53, 54, 0, 55, 56, 0, 57, 58, 0, 0, 0, 0, 0, 0, 59, 60, 61, 62, 63]] : List (List Nat)).getD i []
def lenT (i : Nat) : Nat := ([0, 0, 0, 0, 0, 0, 0, 0, 0, 0, 0, 0, 32, 32, 32, 20, 8, 8, 8, 8, 60, 60, 60, 60, 8, 8, 8, 8, 8, 6, 8, 8, 8, 8, 8, 32, 32, 32, 8, 20, 8, 8, 8, 8, 8, 8, 60, 60, 60, 60, 8, 8, 8, 52488, 8, 8, 6, 8, 8, 8, 8, 8, 8, 1] : List Nat).getD i 0
abbrev NO : Nat := 64
abbrev OUT : Nat := 63
abbrev SCR : Nat := 1000
def yL : List MethodName := [yX0_init, yX0_hasBall, yX0_isFull, yX0_riders, yX0_placeBall, yX0_addRider, yX0_firstByRight, yX0_alongBall, yX0_goesBefore, yX0_fromBall, yX0_squared, yX0_crosser, yX0_meets, yX0_straddles, yX0_turn, yX0_overlap, yX1_init, yX1_size, yX1_add, yX1_empty, yX1_remainder, yX2_init, yX2_ponyIn, yX2_plan, yX2_collect, yX2_fillLowest, yX2_lowestWithRoom, yX2_levelNow, yX2_splitByThreshold, yX2_firstThatCompletes, yX2_completesWith, yX2_completes, yX3_init, yX3_players, yX3_teams, yX3_playersAreFull, yX3_teamsAreFull, yX3_addPlayer, yX3_changeHandicap, yX3_inTeam, yX3_addTeam, yX3_seat, yX3_memberOf, yX3_sumOf, yX4_init, yX4_size, yX4_empty, yX4_append, yX4_at, yX4_contains, yX4_exchange, yX4_removeAll, yX5_init, yX5_ponies, yX5_today, yX5_isFull, yX5_poniesOf, yX5_addPony, yX5_layUp, yX5_isLame, yX5_ownerOf, yX5_ledOf, yX5_ridesToday, yX5_ridesLeft, yX5_ride, yX5_nextDay, yX6_init, yX6_beginAnew, yX6_isOpen, yX6_isDrawn, yX6_limit, yX6_chukkas, yX6_teams, yX6_matchesPlayed, yX6_roundsBegun, yX6_holds, yX6_admit, yX6_shuffle, yX6_sideOfNext, yX6_endMatch, yX6_endRound, yX6_isWon, yX6_placeOf, yX6_inRow, yX7_init, yX7_player, yX7_rate, yX7_team, yX7_strength, yX7_cup, yX7_enter, yX7_noise, yX7_draw, yX7_next, yX7_given, yX7_play, yX7_where, yX7_row, yX7_pony, yX7_lame, yX7_told, yX7_mount, yX7_afoot, yX7_rest, yX7_ball, yX7_rider, yX7_right, yX7_foul, yX7_count, yX7_within, yX7_requireHandicap, yX7_requireZeroOrOne, yX7_requireWay, yX7_requirePlayer, yX7_requireTeam, yX7_requirePony, yX7_requireUndrawnCup, yX7_halvesFor, yX7_rideTeam, yX7_ridePlayer, yX8_init, yX8_thrown, yX8_bad, yX8_isHandicap, yX8_isPlayer, yX8_player, yX8_rate, yX8_team, yX8_isTeam, yX8_strengthOf, yX8_strength, yX8_cup, yX8_enter, yX8_noise, yX8_draw, yX8_begins, yX8_pairs, yX8_hasLost, yX8_ends, yX8_isWhich, yX8_next, yX8_givenTo, yX8_given, yX8_play, yX8_where, yX8_row, yX8_pony, yX8_isPony, yX8_lame, yX8_told, yX8_rest, yX8_total, yX8_sortLed, yX8_compared, yX8_keepsShare, yX8_sharesOf, yX8_mayGoOn, yX8_tries, yX8_mounts, yX8_rides, yX8_mount, yX8_afoot, yX8_isPlace, yX8_isLine, yX8_ball, yX8_rider, yX8_along, yX8_way, yX8_far, yX8_isAhead, yX8_rightOf, yX8_right, yX8_turn, yX8_isOn, yX8_meets, yX8_foul, yX8_count, yJ9_max_7cf53, yJ9_min_7cf53, yL_player, yL_rate, yL_team, yL_strength, yL_cup, yL_enter, yL_draw, yL_next, yL_given, yL_play, yL_where, yL_row, yL_pony, yL_lame, yL_told, yL_mount, yL_rest, yL_ball, yL_rider, yL_law]
def yT (i : Nat) : MethodName := yL.getD i ⟨"", "", ""⟩
def bL : List ByteArray := [cX0_init, cX0_hasBall, cX0_isFull, cX0_riders, cX0_placeBall, cX0_addRider, cX0_firstByRight, cX0_alongBall, cX0_goesBefore, cX0_fromBall, cX0_squared, cX0_crosser, cX0_meets, cX0_straddles, cX0_turn, cX0_overlap, cX1_init, cX1_size, cX1_add, cX1_empty, cX1_remainder, cX2_init, cX2_ponyIn, cX2_plan, cX2_collect, cX2_fillLowest, cX2_lowestWithRoom, cX2_levelNow, cX2_splitByThreshold, cX2_firstThatCompletes, cX2_completesWith, cX2_completes, cX3_init, cX3_players, cX3_teams, cX3_playersAreFull, cX3_teamsAreFull, cX3_addPlayer, cX3_changeHandicap, cX3_inTeam, cX3_addTeam, cX3_seat, cX3_memberOf, cX3_sumOf, cX4_init, cX4_size, cX4_empty, cX4_append, cX4_at, cX4_contains, cX4_exchange, cX4_removeAll, cX5_init, cX5_ponies, cX5_today, cX5_isFull, cX5_poniesOf, cX5_addPony, cX5_layUp, cX5_isLame, cX5_ownerOf, cX5_ledOf, cX5_ridesToday, cX5_ridesLeft, cX5_ride, cX5_nextDay, cX6_init, cX6_beginAnew, cX6_isOpen, cX6_isDrawn, cX6_limit, cX6_chukkas, cX6_teams, cX6_matchesPlayed, cX6_roundsBegun, cX6_holds, cX6_admit, cX6_shuffle, cX6_sideOfNext, cX6_endMatch, cX6_endRound, cX6_isWon, cX6_placeOf, cX6_inRow, cX7_init, cX7_player, cX7_rate, cX7_team, cX7_strength, cX7_cup, cX7_enter, cX7_noise, cX7_draw, cX7_next, cX7_given, cX7_play, cX7_where, cX7_row, cX7_pony, cX7_lame, cX7_told, cX7_mount, cX7_afoot, cX7_rest, cX7_ball, cX7_rider, cX7_right, cX7_foul, cX7_count, cX7_within, cX7_requireHandicap, cX7_requireZeroOrOne, cX7_requireWay, cX7_requirePlayer, cX7_requireTeam, cX7_requirePony, cX7_requireUndrawnCup, cX7_halvesFor, cX7_rideTeam, cX7_ridePlayer, cX8_init, cX8_thrown, cX8_bad, cX8_isHandicap, cX8_isPlayer, cX8_player, cX8_rate, cX8_team, cX8_isTeam, cX8_strengthOf, cX8_strength, cX8_cup, cX8_enter, cX8_noise, cX8_draw, cX8_begins, cX8_pairs, cX8_hasLost, cX8_ends, cX8_isWhich, cX8_next, cX8_givenTo, cX8_given, cX8_play, cX8_where, cX8_row, cX8_pony, cX8_isPony, cX8_lame, cX8_told, cX8_rest, cX8_total, cX8_sortLed, cX8_compared, cX8_keepsShare, cX8_sharesOf, cX8_mayGoOn, cX8_tries, cX8_mounts, cX8_rides, cX8_mount, cX8_afoot, cX8_isPlace, cX8_isLine, cX8_ball, cX8_rider, cX8_along, cX8_way, cX8_far, cX8_isAhead, cX8_rightOf, cX8_right, cX8_turn, cX8_isOn, cX8_meets, cX8_foul, cX8_count, cJ9_max_7cf53, cJ9_min_7cf53, cL_player, cL_rate, cL_team, cL_strength, cL_cup, cL_enter, cL_draw, cL_next, cL_given, cL_play, cL_where, cL_row, cL_pony, cL_lame, cL_told, cL_mount, cL_rest, cL_ball, cL_rider, cL_law]
def bT (i : Nat) : ByteArray := bL.getD i ⟨#[]⟩
def mlT (i : Nat) : Nat := ([1, 1, 1, 1, 5, 6, 3, 2, 7, 2, 2, 5, 3, 7, 4, 8, 1, 1, 2, 1, 3, 1, 2, 7, 5, 4, 3, 2, 5, 4, 3, 6, 1, 1, 1, 1, 1, 2, 4, 2, 6, 3, 3, 4, 1, 1, 1, 2, 2, 3, 4, 4, 1, 1, 1, 1, 4, 2, 3, 2, 2, 2, 2, 2, 2, 2, 1, 3, 1, 1, 1, 1, 1, 1, 1, 2, 2, 4, 5, 2, 2, 1, 3, 3, 1, 2, 3, 6, 2, 3, 2, 2, 2, 2, 4, 8, 2, 3, 2, 3, 3, 4, 1, 1, 5, 6, 1, 2, 2, 3, 1, 1, 6, 2, 2, 2, 1, 5, 3, 5, 2, 1, 3, 1, 2, 2, 4, 6, 2, 4, 2, 3, 3, 2, 5, 2, 3, 4, 3, 1, 2, 5, 2, 7, 2, 3, 4, 2, 3, 3, 2, 3, 4, 2, 2, 7, 4, 5, 5, 5, 4, 1, 1, 4, 5, 6, 2, 2, 6, 7, 3, 1, 14, 14, 23, 5, 2, 2, 2, 4, 5, 7, 4, 4, 4, 3, 4, 4, 5, 4, 5, 4, 5, 5, 6, 3, 6, 8, 7] : List Nat).getD i 0
def rtT (i : Nat) : Option FieldType := ([none, some .boolean, some .boolean, some .int, none, some .int, some .int, some .long, some .boolean, some .long, some .long, some .int, some .boolean, some .boolean, some .long, some .boolean, none, some .int, some .int, none, some .int, none, some .int, none, none, some .int, some .int, some .int, none, some .int, some .boolean, some .boolean, none, some .int, some .int, some .boolean, some .boolean, some .int, some .int, some .boolean, some .int, none, some .int, some .int, none, some .int, none, none, some .int, some .boolean, none, none, none, some .int, some .int, some .boolean, some .int, some .int, some .boolean, some .boolean, some .int, some .int, some .int, some .int, none, some .int, none, none, some .boolean, some .boolean, some .int, some .int, some .int, some .int, some .int, some .boolean, some .int, none, some .int, none, none, some .boolean, some .int, some .int, none, some .int, some .int, some .int, some .int, none, some .int, some .int, some .int, some .int, some .int, some .int, some .int, some .int, some .int, some .boolean, some .int, some .int, some .int, some .int, none, some .int, some .int, some .int, some .int, some .boolean, none, none, none, none, none, none, none, some .int, none, none, none, some .int, some .boolean, some .boolean, some .boolean, some .int, some .int, some .int, some .boolean, some .int, some .int, none, some .int, some .int, some .int, none, none, some .boolean, none, some .boolean, some .int, some .int, some .int, some .int, some .int, some .int, some .int, some .boolean, some .boolean, some .int, some .int, some .int, none, some .int, none, none, some .boolean, some .boolean, none, none, some .int, some .int, some .boolean, some .boolean, none, some .int, some .long, some .long, some .long, some .boolean, some .int, some .int, some .int, some .boolean, some .boolean, some .int, some .int, some .int, some .int, some .int, some .int, some .int, some .int, some .int, some .int, some .int, some .int, some .int, some .int, some .int, some .int, some .int, some .int, some .int, some .int, some .int, some .int, some .int, some .boolean] : List (Option FieldType)).getD i none
def owT (i : Nat) : Nat := ([0, 0, 0, 0, 0, 0, 0, 0, 0, 0, 0, 0, 0, 0, 0, 0, 1, 1, 1, 1, 1, 2, 2, 2, 2, 2, 2, 2, 2, 2, 2, 2, 3, 3, 3, 3, 3, 3, 3, 3, 3, 3, 3, 3, 4, 4, 4, 4, 4, 4, 4, 4, 5, 5, 5, 5, 5, 5, 5, 5, 5, 5, 5, 5, 5, 5, 6, 6, 6, 6, 6, 6, 6, 6, 6, 6, 6, 6, 6, 6, 6, 6, 6, 6, 7, 7, 7, 7, 7, 7, 7, 7, 7, 7, 7, 7, 7, 7, 7, 7, 7, 7, 7, 7, 7, 7, 7, 7, 7, 7, 7, 7, 7, 7, 7, 7, 7, 7, 7, 7, 8, 8, 8, 8, 8, 8, 8, 8, 8, 8, 8, 8, 8, 8, 8, 8, 8, 8, 8, 8, 8, 8, 8, 8, 8, 8, 8, 8, 8, 8, 8, 8, 8, 8, 8, 8, 8, 8, 8, 8, 8, 8, 8, 8, 8, 8, 8, 8, 8, 8, 8, 8, 8, 8, 8, 8, 8, 10, 10, 9, 9, 9, 9, 9, 9, 9, 9, 9, 9, 9, 9, 9, 9, 9, 9, 9, 9, 9, 9] : List Nat).getD i 99
def npT (i : Nat) : Nat := ([0, 0, 0, 0, 4, 5, 0, 1, 2, 1, 2, 1, 2, 2, 3, 4, 0, 0, 1, 0, 2, 0, 1, 3, 3, 1, 0, 1, 1, 2, 2, 2, 0, 0, 0, 0, 0, 1, 2, 1, 4, 2, 2, 1, 0, 0, 0, 1, 1, 1, 2, 1, 0, 0, 0, 0, 1, 1, 2, 1, 1, 1, 1, 1, 1, 0, 0, 2, 0, 0, 0, 0, 0, 0, 0, 1, 1, 1, 1, 1, 0, 0, 1, 2, 0, 1, 2, 4, 1, 2, 1, 1, 0, 1, 1, 2, 1, 2, 1, 2, 2, 3, 0, 0, 4, 5, 0, 1, 1, 3, 1, 1, 4, 1, 1, 1, 0, 2, 1, 1, 0, 0, 2, 1, 1, 1, 2, 4, 1, 1, 1, 2, 1, 1, 0, 0, 2, 1, 0, 1, 1, 2, 1, 2, 1, 2, 1, 1, 2, 2, 0, 0, 0, 0, 0, 1, 0, 3, 2, 2, 3, 0, 1, 4, 4, 5, 1, 1, 1, 2, 0, 0, 6, 6, 2, 1, 1, 2, 2, 3, 4, 6, 3, 3, 3, 2, 3, 3, 4, 3, 4, 3, 4, 4, 5, 2, 5, 7, 1] : List Nat).getD i 0
/-- the exception table, where the method has one -/
def hhT (i : Nat) : Option (List (Nat × Nat × Nat × Nat)) := ([none, none, none, none, none, none, none, none, none, none, none, none, none, none, none, none, none, none, none, none, none, none, none, none, none, none, none, none, none, none, none, none, none, none, none, none, none, none, none, none, none, none, none, none, none, none, none, none, none, none, none, none, none, none, none, none, none, none, none, none, none, none, none, none, none, none, none, none, none, none, none, none, none, none, none, none, none, none, none, none, none, none, none, none, none, none, none, none, none, none, none, none, none, none, none, none, none, none, none, none, none, none, none, none, none, none, none, none, none, none, none, none, none, none, none, none, none, none, none, none, none, none, none, none, none, none, none, none, none, none, none, none, none, none, none, none, none, none, none, none, none, none, none, none, none, none, none, none, none, none, none, none, none, none, none, none, none, none, none, none, none, none, none, none, none, none, none, none, none, none, none, none, none, none, none, none, none, none, none, some [(0, 9, 12, 13), (0, 9, 15, 15)], some [(0, 10, 13, 21), (0, 10, 17, 13)], some [(0, 14, 17, 21), (0, 14, 21, 15)], some [(0, 9, 12, 21)], some [(0, 6, 9, 13)], some [(0, 9, 12, 21), (0, 9, 15, 15)], some [(0, 8, 11, 15)], some [(0, 9, 12, 13)], some [(0, 9, 12, 13)], some [(0, 10, 13, 13), (0, 10, 17, 15)], some [(0, 9, 12, 21)], some [(0, 10, 13, 13)], some [(0, 9, 12, 21), (0, 9, 15, 15)], some [(0, 17, 20, 21), (0, 17, 24, 13)], some [(0, 10, 13, 21), (0, 10, 17, 13)], some [(0, 12, 15, 21), (0, 12, 19, 13)], some [(0, 8, 11, 15)], some [(0, 9, 12, 13)], some [(0, 16, 19, 13), (0, 16, 23, 15)], none] : List (Option (List (Nat × Nat × Nat × Nat)))).getD i none
abbrev NMT : Nat := 199
/-- 0 not called by contract here, 1 an instance method, 2 a static one -/
def kdT (i : Nat) : Nat := ([0, 1, 1, 1, 1, 1, 1, 1, 1, 1, 2, 1, 1, 1, 1, 2, 0, 1, 1, 1, 1, 0, 1, 1, 1, 1, 1, 1, 1, 1, 1, 1, 0, 1, 1, 1, 1, 1, 1, 1, 1, 1, 1, 1, 0, 1, 1, 1, 1, 1, 1, 1, 0, 1, 1, 1, 1, 1, 1, 1, 1, 1, 1, 1, 1, 1, 0, 1, 1, 1, 1, 1, 1, 1, 1, 1, 1, 1, 1, 1, 1, 1, 1, 1, 0, 1, 1, 1, 1, 1, 1, 1, 1, 1, 1, 1, 1, 1, 1, 1, 1, 1, 1, 1, 1, 1, 1, 1, 1, 2, 2, 2, 2, 1, 1, 1, 1, 1, 1, 1, 0, 1, 1, 2, 1, 1, 1, 1, 1, 1, 1, 1, 1, 1, 1, 1, 1, 1, 1, 2, 1, 1, 1, 1, 1, 1, 1, 1, 1, 1, 1, 1, 1, 1, 1, 1, 1, 1, 1, 1, 1, 1, 2, 2, 1, 1, 1, 1, 1, 1, 1, 1, 2, 2, 1, 1, 1, 0, 0, 2, 2, 2, 2, 2, 2, 2, 2, 2, 2, 2, 2, 2, 2, 2, 2, 2, 2, 2, 0] : List Nat).getD i 0
/-- places in lw_tbl: code, instanceMethod or static, selects, initialized -/
def MFp (i : Nat) : List Nat := ([[0, 0, 0, 0], [907, 905, 906, 59], [911, 909, 910, 59], [392, 390, 391, 59], [896, 894, 895, 59], [916, 914, 915, 59], [303, 301, 302, 59], [307, 306, 0, 59], [311, 310, 1, 59], [318, 317, 2, 59], [314, 313, 0, 59], [326, 324, 325, 59], [331, 330, 3, 59], [335, 334, 4, 59], [339, 338, 5, 59], [342, 341, 0, 59], [0, 0, 0, 0], [388, 386, 387, 54], [291, 289, 290, 54], [659, 657, 658, 54], [650, 648, 649, 54], [0, 0, 0, 0], [765, 763, 764, 58], [711, 709, 710, 58], [716, 715, 14, 58], [737, 736, 16, 58], [741, 740, 17, 58], [745, 744, 18, 58], [749, 748, 19, 58], [753, 752, 20, 58], [757, 756, 21, 58], [761, 760, 22, 58], [0, 0, 0, 0], [356, 354, 355, 53], [360, 358, 359, 53], [479, 477, 478, 53], [542, 540, 541, 53], [499, 497, 498, 53], [531, 529, 530, 53], [547, 545, 546, 53], [551, 549, 550, 53], [555, 554, 8, 53], [575, 573, 574, 53], [571, 569, 570, 53], [0, 0, 0, 0], [372, 370, 371, 56], [591, 589, 590, 56], [631, 629, 630, 56], [646, 644, 645, 56], [619, 617, 618, 56], [655, 653, 654, 56], [782, 780, 781, 56], [0, 0, 0, 0], [364, 362, 363, 57], [384, 382, 383, 57], [820, 818, 819, 57], [824, 822, 823, 57], [829, 827, 828, 57], [847, 845, 846, 57], [733, 732, 15, 57], [721, 719, 720, 57], [725, 723, 724, 57], [860, 858, 859, 57], [729, 727, 728, 57], [769, 767, 768, 57], [881, 879, 880, 57], [0, 0, 0, 0], [587, 585, 586, 55], [606, 604, 605, 55], [610, 608, 609, 55], [623, 621, 622, 55], [689, 687, 688, 55], [368, 366, 367, 55], [376, 374, 375, 55], [380, 378, 379, 55], [615, 613, 614, 55], [627, 625, 626, 55], [642, 640, 641, 55], [674, 672, 673, 55], [773, 771, 772, 55], [778, 777, 23, 55], [787, 786, 24, 55], [798, 796, 797, 55], [809, 807, 808, 55], [0, 0, 0, 0], [401, 399, 400, 52], [507, 505, 506, 52], [538, 536, 537, 52], [562, 560, 561, 52], [582, 580, 581, 52], [598, 596, 597, 52], [287, 285, 286, 52], [638, 636, 637, 52], [666, 664, 665, 52], [681, 679, 680, 52], [696, 694, 695, 52], [794, 792, 793, 52], [805, 803, 804, 52], [816, 814, 815, 52], [836, 834, 835, 52], [854, 852, 853, 52], [868, 866, 867, 52], [295, 293, 294, 52], [876, 874, 875, 52], [888, 886, 887, 52], [903, 901, 902, 52], [299, 297, 298, 52], [322, 320, 321, 52], [352, 350, 351, 52], [407, 406, 0, 52], [404, 403, 0, 52], [669, 668, 0, 52], [891, 890, 0, 52], [511, 510, 7, 52], [566, 565, 9, 52], [840, 839, 25, 52], [602, 601, 10, 52], [685, 684, 11, 52], [702, 701, 12, 52], [707, 706, 13, 52], [0, 0, 0, 0], [1093, 1091, 1092, 60], [1104, 1103, 26, 60], [1100, 1099, 0, 60], [1112, 1111, 27, 60], [1097, 1095, 1096, 60], [1108, 1106, 1107, 60], [1116, 1114, 1115, 60], [1124, 1123, 28, 60], [1128, 1127, 29, 60], [1120, 1118, 1119, 60], [1132, 1130, 1131, 60], [1136, 1134, 1135, 60], [1140, 1138, 1139, 60], [1144, 1142, 1143, 60], [1149, 1148, 30, 60], [1153, 1152, 31, 60], [1216, 1215, 43, 60], [1212, 1211, 42, 60], [1160, 1159, 0, 60], [1157, 1155, 1156, 60], [1168, 1167, 32, 60], [1164, 1162, 1163, 60], [1172, 1170, 1171, 60], [1220, 1218, 1219, 60], [1224, 1222, 1223, 60], [1228, 1226, 1227, 60], [1236, 1235, 44, 60], [1232, 1230, 1231, 60], [1241, 1239, 1240, 60], [1245, 1243, 1244, 60], [1188, 1187, 36, 60], [1192, 1191, 37, 60], [1196, 1195, 38, 60], [1200, 1199, 39, 60], [1184, 1183, 35, 60], [1208, 1207, 41, 60], [1204, 1203, 40, 60], [1180, 1179, 34, 60], [1176, 1175, 33, 60], [1249, 1247, 1248, 60], [1253, 1251, 1252, 60], [1263, 1262, 0, 60], [1260, 1259, 0, 60], [1257, 1255, 1256, 60], [1267, 1265, 1266, 60], [1279, 1278, 46, 60], [1287, 1286, 48, 60], [1291, 1290, 49, 60], [1283, 1282, 47, 60], [1275, 1274, 45, 60], [1271, 1269, 1270, 60], [1302, 1301, 0, 60], [1305, 1304, 0, 60], [1299, 1298, 50, 60], [1295, 1293, 1294, 60], [1309, 1307, 1308, 60], [0, 0, 0, 0], [0, 0, 0, 0], [395, 394, 0, 51], [502, 501, 0, 51], [534, 533, 0, 51], [558, 557, 0, 51], [578, 577, 0, 51], [594, 593, 0, 51], [634, 633, 0, 51], [662, 661, 0, 51], [677, 676, 0, 51], [692, 691, 0, 51], [790, 789, 0, 51], [801, 800, 0, 51], [812, 811, 0, 51], [832, 831, 0, 51], [850, 849, 0, 51], [864, 863, 0, 51], [872, 871, 0, 51], [884, 883, 0, 51], [899, 898, 0, 51], [0, 0, 0, 0]] : List (List Nat)).getD i []
def FL : List (Nat × Nat × Nat × Nat) := [(3, 9, 3, 0), (3, 15, 3, 1), (3, 19, 3, 2), (3, 22, 3, 3), (3, 26, 3, 4), (1, 9, 1, 0), (1, 15, 1, 1), (4, 9, 4, 0), (4, 15, 4, 1), (6, 12, 6, 0), (6, 18, 6, 1), (6, 21, 6, 2), (6, 24, 6, 3), (6, 27, 6, 4), (6, 31, 6, 5), (6, 34, 6, 6), (6, 38, 6, 7), (6, 41, 6, 8), (6, 44, 6, 9), (5, 9, 5, 0), (5, 15, 5, 1), (5, 18, 5, 2), (5, 21, 5, 3), (5, 24, 5, 4), (5, 28, 5, 5), (2, 9, 2, 0), (2, 15, 2, 1), (2, 18, 2, 2), (2, 21, 2, 3), (2, 24, 2, 4), (2, 28, 2, 5), (2, 31, 2, 6), (2, 35, 2, 7), (2, 38, 2, 8), (0, 9, 0, 0), (0, 15, 0, 1), (0, 18, 0, 2), (0, 21, 0, 3), (0, 24, 0, 4), (0, 27, 0, 5), (0, 31, 0, 6), (0, 35, 0, 7), (0, 38, 0, 8), (0, 41, 0, 9), (0, 44, 0, 10), (7, 10, 7, 0), (7, 19, 7, 1), (7, 26, 7, 2), (7, 33, 7, 3), (7, 40, 7, 4), (7, 47, 7, 5), (7, 51, 7, 6), (8, 95, 8, 0), (8, 9, 8, 1), (8, 13, 8, 2), (8, 99, 8, 3), (8, 16, 8, 4), (8, 113, 8, 5), (8, 123, 8, 6), (8, 127, 8, 7), (8, 130, 8, 8), (8, 133, 8, 9), (8, 139, 8, 10), (8, 142, 8, 11), (8, 19, 8, 12), (8, 136, 8, 13), (8, 22, 8, 14), (8, 157, 8, 15), (8, 25, 8, 16), (8, 28, 8, 17), (8, 145, 8, 18), (8, 148, 8, 19), (8, 31, 8, 20), (8, 34, 8, 21), (8, 37, 8, 22), (8, 151, 8, 23), (8, 154, 8, 24), (8, 40, 8, 25), (8, 43, 8, 26), (8, 46, 8, 27), (8, 49, 8, 28), (8, 52, 8, 29), (8, 185, 8, 30), (8, 192, 8, 31), (8, 232, 8, 32), (8, 55, 8, 33), (8, 58, 8, 34), (8, 195, 8, 35), (8, 61, 8, 36), (8, 65, 8, 37), (8, 198, 8, 38), (8, 68, 8, 39), (8, 71, 8, 40), (8, 201, 8, 41), (8, 74, 8, 42), (8, 77, 8, 43), (8, 242, 8, 44), (8, 245, 8, 45), (8, 248, 8, 46), (8, 251, 8, 47), (8, 254, 8, 48), (8, 257, 8, 49), (8, 80, 8, 50), (8, 83, 8, 51), (8, 86, 8, 52), (8, 89, 8, 53), (8, 92, 8, 54)]
def FLp : List Nat := [82, 83, 84, 85, 86, 106, 107, 125, 126, 132, 133, 134, 135, 136, 137, 138, 139, 140, 141, 169, 170, 171, 172, 173, 174, 194, 195, 196, 197, 198, 199, 200, 201, 202, 228, 229, 230, 231, 232, 233, 234, 235, 236, 237, 238, 262, 263, 264, 265, 266, 267, 268, 924, 925, 926, 927, 928, 929, 930, 931, 932, 933, 934, 935, 936, 937, 938, 939, 940, 941, 942, 943, 944, 945, 946, 947, 948, 949, 950, 951, 952, 953, 954, 955, 956, 957, 958, 959, 960, 961, 962, 963, 964, 965, 966, 967, 968, 969, 970, 971, 972, 973, 974, 975, 976, 977, 978]
def ML : List (Nat × Nat × Nat) := [(9, 112, 91), (7, 126, 18), (9, 148, 102), (9, 163, 106), (7, 233, 6), (0, 47, 7), (0, 51, 8), (0, 55, 10), (0, 59, 9), (9, 167, 107), (7, 236, 11), (0, 62, 6), (0, 66, 12), (0, 69, 13), (0, 76, 14), (0, 72, 15), (0, 80, 178), (0, 86, 177), (9, 171, 108), (7, 239, 33), (7, 242, 34), (7, 243, 53), (7, 129, 72), (6, 50, 45), (7, 246, 73), (7, 249, 74), (7, 208, 54), (7, 132, 17), (7, 252, 3), (9, 85, 179), (9, 7, 85), (7, 55, 110), (7, 100, 109), (7, 59, 35), (7, 70, 37), (9, 94, 180), (9, 17, 86), (7, 74, 113), (7, 77, 38), (9, 98, 181), (9, 23, 87), (7, 81, 36), (7, 86, 39), (7, 90, 40), (3, 29, 41), (9, 102, 182), (9, 27, 88), (7, 94, 114), (7, 97, 43), (3, 33, 42), (9, 105, 183), (9, 30, 89), (7, 109, 67), (6, 47, 46), (9, 109, 184), (9, 34, 90), (7, 113, 116), (7, 270, 68), (7, 273, 69), (7, 116, 75), (6, 54, 49), (7, 119, 70), (7, 123, 76), (6, 58, 47), (9, 116, 185), (9, 37, 92), (7, 135, 77), (6, 62, 48), (6, 66, 20), (6, 72, 50), (7, 139, 19), (9, 120, 186), (9, 41, 93), (7, 142, 111), (7, 145, 78), (9, 123, 187), (9, 44, 94), (7, 148, 117), (7, 278, 71), (9, 126, 188), (9, 47, 95), (7, 155, 118), (7, 281, 42), (7, 284, 119), (7, 201, 23), (2, 41, 178), (2, 47, 24), (2, 62, 53), (2, 67, 60), (2, 70, 61), (2, 73, 63), (5, 31, 59), (2, 51, 25), (2, 76, 26), (2, 79, 27), (2, 55, 28), (2, 59, 29), (2, 82, 30), (2, 86, 31), (7, 205, 22), (7, 287, 64), (7, 158, 79), (6, 76, 78), (6, 79, 80), (6, 82, 51), (4, 19, 49), (6, 86, 81), (9, 129, 189), (9, 50, 96), (7, 161, 82), (9, 132, 190), (9, 53, 97), (7, 164, 83), (9, 135, 191), (9, 56, 98), (7, 167, 55), (7, 170, 56), (7, 175, 57), (9, 138, 192), (9, 59, 99), (7, 178, 115), (7, 184, 58), (9, 141, 193), (9, 63, 100), (7, 188, 60), (7, 191, 61), (7, 194, 62), (9, 144, 194), (9, 66, 101), (9, 152, 195), (9, 70, 103), (7, 213, 65), (9, 155, 196), (9, 73, 104), (7, 216, 112), (7, 220, 4), (9, 159, 197), (9, 77, 105), (7, 223, 1), (7, 226, 2), (7, 229, 5), (9, 91, 121), (9, 90, 125), (8, 102, 123), (8, 106, 122), (9, 97, 126), (8, 110, 124), (9, 101, 127), (9, 104, 130), (8, 116, 128), (8, 119, 129), (9, 108, 131), (9, 111, 132), (9, 115, 133), (9, 119, 134), (8, 162, 135), (8, 165, 136), (9, 122, 140), (8, 172, 139), (9, 125, 142), (8, 175, 141), (9, 128, 143), (8, 179, 159), (8, 229, 158), (8, 225, 155), (8, 204, 151), (8, 208, 152), (8, 211, 153), (8, 214, 154), (8, 221, 157), (8, 217, 156), (8, 182, 138), (8, 169, 137), (9, 131, 144), (9, 134, 145), (9, 137, 146), (9, 140, 148), (8, 188, 147), (9, 143, 149), (9, 154, 150), (9, 147, 160), (9, 151, 161), (9, 158, 164), (8, 238, 163), (8, 235, 162), (9, 162, 165), (9, 166, 171), (8, 274, 170), (8, 260, 166), (8, 270, 169), (8, 264, 167), (8, 267, 168), (9, 170, 175), (8, 285, 174), (8, 277, 172), (8, 281, 173), (9, 174, 176)]
def MLp : List Nat := [284, 288, 292, 296, 300, 304, 308, 312, 315, 319, 323, 327, 328, 332, 336, 340, 343, 346, 349, 353, 357, 361, 365, 369, 373, 377, 381, 385, 389, 393, 398, 402, 405, 476, 496, 500, 504, 508, 528, 532, 535, 539, 544, 548, 552, 556, 559, 563, 568, 572, 576, 579, 584, 588, 592, 595, 599, 603, 607, 612, 616, 620, 624, 628, 632, 635, 639, 643, 647, 652, 656, 660, 663, 667, 671, 675, 678, 682, 686, 690, 693, 699, 703, 704, 708, 712, 713, 717, 718, 722, 726, 730, 734, 738, 742, 746, 750, 754, 758, 762, 766, 770, 774, 775, 779, 783, 784, 788, 791, 795, 799, 802, 806, 810, 813, 817, 821, 826, 830, 833, 837, 844, 848, 851, 855, 856, 857, 862, 865, 870, 873, 878, 882, 885, 889, 893, 897, 900, 904, 908, 913, 1090, 1094, 1098, 1101, 1105, 1109, 1113, 1117, 1121, 1125, 1129, 1133, 1137, 1141, 1146, 1150, 1154, 1158, 1161, 1165, 1169, 1173, 1177, 1181, 1185, 1189, 1193, 1197, 1201, 1205, 1209, 1213, 1217, 1221, 1225, 1229, 1233, 1238, 1242, 1246, 1250, 1254, 1258, 1261, 1264, 1268, 1272, 1276, 1280, 1284, 1288, 1292, 1296, 1300, 1303, 1306]
def UWp (i : Nat) : List Nat := ([[239, 241, 243, 245, 247, 249, 251, 253, 255, 257, 259], [108, 110], [203, 205, 207, 209, 211, 213, 215, 217, 219], [87, 89, 91, 93, 95], [127, 129], [175, 177, 179, 181, 183, 185], [142, 144, 146, 148, 150, 152, 154, 156, 158, 160], [269, 271, 273, 275, 277, 279, 281], [979, 981, 983, 985, 987, 989, 991, 993, 995, 997, 999, 1001, 1003, 1005, 1007, 1009, 1011, 1013, 1015, 1017, 1019, 1021, 1023, 1025, 1027, 1029, 1031, 1033, 1035, 1037, 1039, 1041, 1043, 1045, 1047, 1049, 1051, 1053, 1055, 1057, 1059, 1061, 1063, 1065, 1067, 1069, 1071, 1073, 1075, 1077, 1079, 1081, 1083, 1085, 1087]] : List (List Nat)).getD i []
/-- the throws: class, place of new, of the text, of the constructor, the text, whether ldc_w -/
def TLl : List (String × Nat × Nat × Nat × String × Bool) := [("java/lang/IllegalStateException", 63, 65, 67, "there are 32 players", false), ("java/lang/IllegalStateException", 63, 84, 67, "there are 8 teams", false), ("java/lang/IllegalArgumentException", 104, 106, 108, "no such limit or chukkas", false), ("java/lang/IllegalArgumentException", 104, 151, 108, "goals are 0 to 50", false), ("java/lang/IllegalStateException", 63, 153, 67, "no match is next", false), ("java/lang/IllegalStateException", 63, 173, 67, "there are 60 ponies, or 8 of this player", false), ("java/lang/IllegalArgumentException", 104, 182, 108, "a day is 0 to 100,000", false), ("java/lang/IllegalArgumentException", 104, 197, 108, "nothing else is told of a pony", false), ("java/lang/IllegalArgumentException", 104, 199, 108, "no such chukka", false), ("java/lang/IllegalStateException", 63, 211, 67, "it is day 100,000", false), ("java/lang/IllegalStateException", 63, 227, 67, "there is no ball, or there are 8 riders", false), ("java/lang/IllegalArgumentException", 104, 255, 108, "a handicap is -2 to 10", false), ("java/lang/IllegalArgumentException", 104, 257, 108, "it is 0 or 1", true), ("java/lang/IllegalArgumentException", 104, 259, 108, "numbers are -1,000 to 1,000, and a way is not (0, 0)", true), ("java/lang/IndexOutOfBoundsException", 261, 263, 265, "no such player", true), ("java/lang/IndexOutOfBoundsException", 261, 266, 265, "no such team", true), ("java/lang/IndexOutOfBoundsException", 261, 268, 265, "no such pony", true), ("java/lang/IllegalStateException", 63, 276, 67, "there is no cup, or it is drawn", true)]
abbrev NTL : Nat := 18
def TL (i : Nat) : String × Nat × Nat × Nat × String × Bool := TLl.getD i ("", 0, 0, 0, "", false)
def EX : List String := ["java/lang/IllegalArgumentException", "java/lang/IllegalStateException", "java/lang/IndexOutOfBoundsException"]
def TLp (i : Nat) : List Nat := ([[480, 65], [480, 65], [408, 64], [408, 64], [480, 65], [480, 65], [408, 64], [408, 64], [408, 64], [480, 65], [480, 65], [408, 64], [408, 64], [408, 64], [512, 66], [512, 66], [512, 66], [480, 65]] : List (List Nat)).getD i []
end
section
/-! THE LOGIC, PART 1: a small machine over the fixed world. A state is: locals, operand stack, the memory M (thing, place), the long row o, the throws paid so far k. 'exec' runs a list of instructions and says what must hold; branches, calls and ends are handed to the parameters. -/
abbrev Mem : Type := Nat → Nat → Int32
abbrev Lv : Type := List (Option Value)
abbrev En : Type := Instr × Nat × Int32 × List Nat
abbrev Ou : Type := Nat → Int64
def mset (M : Mem) (i k : Nat) (v : Int32) : Mem := fun a => if a = i then upd (M i) k v else M a
def ldv : Lv → Nat → Option Value
  | x :: _, 0 => x
  | _ :: t, i + 1 => ldv t i
  | [], _ => none
def popI (st : List Value) (f : Int32 → List Value → Prop) : Prop := match st with
  | .int x :: r => f x r
  | _ => False
def popL (st : List Value) (f : Int64 → List Value → Prop) : Prop := match st with
  | .long x :: r => f x r
  | _ => False
def popR (st : List Value) (f : Nat → List Value → Prop) : Prop := match st with
  | .ref x :: r => f x r
  | _ => False
def ldI (ls : Lv) (a : Nat) (f : Int32 → Prop) : Prop := match ldv ls a with
  | some (.int x) => f x
  | _ => False
def ldL (ls : Lv) (a : Nat) (f : Int64 → Prop) : Prop := match ldv ls a with
  | some (.long x) => f x
  | _ => False
def ldR (ls : Lv) (a : Nat) (f : Nat → Prop) : Prop := match ldv ls a with
  | some (.ref x) => f x
  | _ => False
def noL : Option Value → Option Value
  | some (.long _) => none
  | some (.double _) => none
  | x => x
def noLK (x : Option Value) (f : Option Value → Prop) : Prop := match x with
  | some (.int y) => f (some (.int y))
  | some (.ref y) => f (some (.ref y))
  | some (.long _) => f none
  | none => f none
  | _ => False
def setv : Lv → Nat → Option Value → Lv
  | _ :: t, 0, v => v :: t
  | x :: t, i + 1, v => (match i with | 0 => noL x | _ => x) :: setv t i v
  | [], _, _ => []
def stK : Lv → Nat → Option Value → (Lv → Prop) → Prop
  | _ :: t, 0, v, f => f (v :: t)
  | x :: t, i + 1, v, f => match i with
    | 0 => noLK x (fun y => stK t i v (fun t' => f (y :: t')))
    | _ => stK t i v (fun t' => f (x :: t'))
  | [], _, _, _ => False
/-- a second half of a long: nothing is known there -/
def clv : Lv → Nat → Lv
  | _ :: t, 0 => none :: t
  | x :: t, i + 1 => x :: clv t i
  | [], _ => []
def clK : Lv → Nat → (Lv → Prop) → Prop
  | _ :: t, 0, f => f (none :: t)
  | x :: t, i + 1, f => clK t i (fun t' => f (x :: t'))
  | [], _, _ => False
def popK : Nat → List Value → List Value → (List Value → List Value → Prop) → Prop
  | 0, st, acc, f => f acc st
  | n + 1, x :: st, acc, f => popK n st (x :: acc) f
  | _ + 1, [], _, _ => False
def nthK (l : List Nat) (k : Nat) (f : Nat → Prop) : Prop := match l, k with
  | x :: _, 0 => f x
  | _ :: t, k + 1 => nthK t k f
  | [], _ => False
def bz (x : Int32) : Prop := x = 0 ∨ x = 1
def catS (st : List Value) : Nat := (st.map fun v => v.category).sum
abbrev GG : Type := Nat → Lv → List Value → Mem → Ou → Nat → Prop
abbrev NX : Type := Lv → List Value → Mem → Ou → Nat → Prop
def swK (G : Nat → Prop) (x : Int32) (d : Nat) : Nat → List Nat → Prop
  | _, [] => G d
  | i, t :: ts => (x = nI i → G t) ∧ (¬ x = nI i → swK G x d (i + 1) ts)
section EX
variable (G : GG) (ret : Option Value → Mem → Ou → Nat → Prop) (tho : String → Mem → Ou → Nat → Prop) (thr : String → Lv → Mem → Ou → Nat → Prop)
  (Cl : Nat → Nat → List Value → Mem → Ou → (Option Value → Mem → Ou → Nat → Prop) → (String → Mem → Ou → Nat → Prop) → Prop) (sc : Nat × (Nat → Int32))
def step (i : Instr) (a : Nat) (v : Int32) (ts : List Nat) (ls : Lv) (st : List Value) (M : Mem) (o : Ou) (k : Nat) (nx : NX) : Prop := match i with
  | .iload_n _ => ldI ls a (fun x => nx ls (.int x :: st) M o k)
  | .iload _ => ldI ls a (fun x => nx ls (.int x :: st) M o k)
  | .lload_n _ => ldL ls a (fun x => nx ls (.long x :: st) M o k)
  | .lload _ => ldL ls a (fun x => nx ls (.long x :: st) M o k)
  | .aload_n _ => ldR ls a (fun x => nx ls (.ref x :: st) M o k)
  | .aload _ => ldR ls a (fun x => nx ls (.ref x :: st) M o k)
  | .istore_n _ => popI st (fun x st => stK ls a (some (.int x)) (fun ls => nx ls st M o k))
  | .istore _ => popI st (fun x st => stK ls a (some (.int x)) (fun ls => nx ls st M o k))
  | .astore_n _ => popR st (fun x st => stK ls a (some (.ref x)) (fun ls => nx ls st M o k))
  | .astore _ => popR st (fun x st => stK ls a (some (.ref x)) (fun ls => nx ls st M o k))
  | .lstore_n _ => popL st (fun x st => stK ls a (some (.long x)) (fun ls => clK ls (a + 1) (fun ls => nx ls st M o k)))
  | .lstore _ => popL st (fun x st => stK ls a (some (.long x)) (fun ls => clK ls (a + 1) (fun ls => nx ls st M o k)))
  | .iinc _ _ => ldI ls a (fun x => stK ls a (some (.int (x + v))) (fun ls => nx ls st M o k))
  | .iconst _ => nx ls (.int v :: st) M o k
  | .bipush _ => nx ls (.int v :: st) M o k
  | .sipush _ => nx ls (.int v :: st) M o k
  | .ldc _ => nx ls (.int v :: st) M o k
  | .lconst _ => (match a with | 0 => nx ls (.long 0 :: st) M o k | _ => nx ls (.long 1 :: st) M o k)
  | .ldc2_w _ => nx ls (.long 4294967295 :: st) M o k
  | .iadd => popI st (fun y st => popI st (fun x st => nx ls (.int (x + y) :: st) M o k))
  | .isub => popI st (fun y st => popI st (fun x st => nx ls (.int (x - y) :: st) M o k))
  | .imul => popI st (fun y st => popI st (fun x st => nx ls (.int (x * y) :: st) M o k))
  | .iand => popI st (fun y st => popI st (fun x st => nx ls (.int (x &&& y) :: st) M o k))
  | .idiv => popI st (fun y st => popI st (fun x st => ¬ y = 0 ∧ nx ls (.int (x / y) :: st) M o k))
  | .irem => popI st (fun y st => popI st (fun x st => ¬ y = 0 ∧ nx ls (.int (x - x / y * y) :: st) M o k))
  | .ladd => popL st (fun y st => popL st (fun x st => nx ls (.long (x + y) :: st) M o k))
  | .lsub => popL st (fun y st => popL st (fun x st => nx ls (.long (x - y) :: st) M o k))
  | .lmul => popL st (fun y st => popL st (fun x st => nx ls (.long (x * y) :: st) M o k))
  | .land => popL st (fun y st => popL st (fun x st => nx ls (.long (x &&& y) :: st) M o k))
  | .lrem => popL st (fun y st => popL st (fun x st => ¬ y = 0 ∧ nx ls (.long (x - x / y * y) :: st) M o k))
  | .lcmp => popL st (fun y st => popL st (fun x st => nx ls (.int (lg_cmp x y) :: st) M o k))
  | .i2l => popI st (fun x st => nx ls (.long x.toInt64 :: st) M o k)
  | .l2i => popL st (fun x st => nx ls (.int x.toInt32 :: st) M o k)
  | .dup => (match st with
    | .int x :: st => nx ls (.int x :: .int x :: st) M o k
    | .ref x :: st => nx ls (.ref x :: .ref x :: st) M o k
    | _ => False)
  | .dup2 => popI st (fun j st => popR st (fun r st => nx ls (.int j :: .ref r :: .int j :: .ref r :: st) M o k))
  | .if_icmp c _ => popI st (fun y st => popI st (fun x st => match c with
    | .eq => (x = y → G (ts.getD 0 0) ls st M o k) ∧ (¬ x = y → nx ls st M o k)
    | .ne => (¬ x = y → G (ts.getD 0 0) ls st M o k) ∧ (x = y → nx ls st M o k)
    | .lt => (x < y → G (ts.getD 0 0) ls st M o k) ∧ (¬ x < y → nx ls st M o k)
    | .ge => (y ≤ x → G (ts.getD 0 0) ls st M o k) ∧ (¬ y ≤ x → nx ls st M o k)
    | .gt => (y < x → G (ts.getD 0 0) ls st M o k) ∧ (¬ y < x → nx ls st M o k)
    | .le => (x ≤ y → G (ts.getD 0 0) ls st M o k) ∧ (¬ x ≤ y → nx ls st M o k)))
  | .ifCond c _ => popI st (fun x st => match c with
    | .eq => (x = 0 → G (ts.getD 0 0) ls st M o k) ∧ (¬ x = 0 → nx ls st M o k)
    | .ne => (¬ x = 0 → G (ts.getD 0 0) ls st M o k) ∧ (x = 0 → nx ls st M o k)
    | .lt => (x < 0 → G (ts.getD 0 0) ls st M o k) ∧ (¬ x < 0 → nx ls st M o k)
    | .ge => (0 ≤ x → G (ts.getD 0 0) ls st M o k) ∧ (¬ 0 ≤ x → nx ls st M o k)
    | .gt => (0 < x → G (ts.getD 0 0) ls st M o k) ∧ (¬ 0 < x → nx ls st M o k)
    | .le => (x ≤ 0 → G (ts.getD 0 0) ls st M o k) ∧ (¬ x ≤ 0 → nx ls st M o k))
  | .goto _ => G (ts.getD 0 0) ls st M o k
  | .tableswitch _ _ _ _ => popI st (fun x st => swK (fun t => G t ls st M o k) x (ts.getD 0 0) 0 ts.tail)
  | .getfield _ => popR st (fun r st => cond (Nat.beq (clT r) (ts.getD 0 0)) (nthK (slT r) a (fun c => match c with
    | 0 => nx ls (.int (M r a) :: st) M o k
    | t + 1 => nx ls (.ref t :: st) M o k)) False)
  | .putfield _ => popI st (fun x st => popR st (fun r st => cond (Nat.beq (clT r) (ts.getD 0 0)) (nthK (slT r) a (fun c => match c with
    | 0 => (match ts.getD 1 0 with
      | 0 => nx ls st (mset M r a x) o k
      | _ => bz x ∧ nx ls st (mset M r a x) o k)
    | _ + 1 => False)) False))
  | .iaload => popI st (fun j st => popR st (fun r st => cond (Nat.beq r SCR) (match sc.1 with | 0 => False | L + 1 => vp_in j L ∧ nx ls (.int (sc.2 j.toNatClampNeg) :: st) M o k) (cond (Nat.beq (clT r) 9) (vp_in j (lenT r) ∧ nx ls (.int (M r j.toNatClampNeg) :: st) M o k) False)))
  | .baload => popI st (fun j st => popR st (fun r st => cond (Nat.beq (clT r) 10) (vp_in j (lenT r) ∧ nx ls (.int (M r j.toNatClampNeg) :: st) M o k) False))
  | .iastore => popI st (fun x st => popI st (fun j st => popR st (fun r st => cond (Nat.beq (clT r) 9) (vp_in j (lenT r) ∧ nx ls st (mset M r j.toNatClampNeg x) o k) False)))
  | .bastore => popI st (fun x st => popI st (fun j st => popR st (fun r st => cond (Nat.beq (clT r) 10) (vp_in j (lenT r) ∧ bz x ∧ nx ls st (mset M r j.toNatClampNeg x) o k) False)))
  | .laload => popI st (fun j st => popR st (fun r st => cond (Nat.beq (clT r) 11) (vp_in j 1 ∧ nx ls (.long (o j.toNatClampNeg) :: st) M o k) False))
  | .lastore => popL st (fun x st => popI st (fun j st => popR st (fun r st => cond (Nat.beq (clT r) 11) (vp_in j 1 ∧ nx ls st M (vp_updL o j.toNatClampNeg x) k) False)))
  | .arraylength => popR st (fun r st => cond (Nat.beq r SCR) (match sc.1 with | 0 => False | L + 1 => nx ls (.int (nI L) :: st) M o k) False)
  | .invokevirtual _ => popK (ts.getD 0 0) st [] (fun as st => match as with
    | .ref r :: _ => cond (Nat.beq (clT r) (owT a)) (cond (Nat.ble (catS st) 8) (Cl k a as M o (fun v M' o' k' => nx ls (match v with | some x => x :: st | none => st) M' o' k') (fun E M' o' k' => thr E ls M' o' k')) False) False
    | _ => False)
  | .invokestatic _ => (match ts.getD 1 0 with
    | 1 => popI st (fun y st => popI st (fun x st => cond (Nat.beq k 0 && Nat.ble (catS st) 8) (nx ls (.int (if x < y then y else x) :: st) M o k) False))
    | 2 => popI st (fun y st => popI st (fun x st => cond (Nat.beq k 0 && Nat.ble (catS st) 8) (nx ls (.int (if y < x then y else x) :: st) M o k) False))
    | _ => popK (ts.getD 0 0) st [] (fun as st => cond (Nat.ble (catS st) 8) (Cl k a as M o (fun v M' o' k' => nx ls (match v with | some x => x :: st | none => st) M' o' k') (fun E M' o' k' => thr E ls M' o' k')) False))
  | .new _ => cond (Nat.ble (catS st) 8) (tho (TL a).1 M o (k + 1)) False
  | .ireturn => (match st with
    | [.int x] => (match a with | 0 => ret (some (.int x)) M o k | _ => bz x ∧ ret (some (.int x)) M o k)
    | _ => False)
  | .lreturn => (match st with
    | [.long x] => ret (some (.long x)) M o k
    | _ => False)
  | .return_ => (match st with
    | [] => ret none M o k
    | _ => False)
  | _ => False
def exec : List En → NX
  | [] => fun _ _ _ _ _ => False
  | (i, a, v, ts) :: r => fun ls st M o k => step G ret tho thr Cl sc i a v ts ls st M o k (exec r)
end EX
theorem popI_e {st : List Value} {f : Int32 → List Value → Prop} (h : popI st f) : ∃ x r, st = .int x :: r ∧ f x r := by
  unfold popI at h
  split at h
  · exact ⟨_, _, rfl, h⟩
  · exact h.elim
theorem popL_e {st : List Value} {f : Int64 → List Value → Prop} (h : popL st f) : ∃ x r, st = .long x :: r ∧ f x r := by
  unfold popL at h
  split at h
  · exact ⟨_, _, rfl, h⟩
  · exact h.elim
theorem popR_e {st : List Value} {f : Nat → List Value → Prop} (h : popR st f) : ∃ x r, st = .ref x :: r ∧ f x r := by
  unfold popR at h
  split at h
  · exact ⟨_, _, rfl, h⟩
  · exact h.elim
theorem ldI_e {ls : Lv} {a : Nat} {f : Int32 → Prop} (h : ldI ls a f) : ∃ x, ldv ls a = some (.int x) ∧ f x := by
  unfold ldI at h
  split at h
  · rename_i x e; exact ⟨x, e, h⟩
  · exact h.elim
theorem ldL_e {ls : Lv} {a : Nat} {f : Int64 → Prop} (h : ldL ls a f) : ∃ x, ldv ls a = some (.long x) ∧ f x := by
  unfold ldL at h
  split at h
  · rename_i x e; exact ⟨x, e, h⟩
  · exact h.elim
theorem ldR_e {ls : Lv} {a : Nat} {f : Nat → Prop} (h : ldR ls a f) : ∃ x, ldv ls a = some (.ref x) ∧ f x := by
  unfold ldR at h
  split at h
  · rename_i x e; exact ⟨x, e, h⟩
  · exact h.elim
theorem noLK_e {x : Option Value} {f : Option Value → Prop} (h : noLK x f) : f (noL x) := by
  unfold noLK at h
  split at h <;> first | exact h | exact h.elim
theorem stK_e : ∀ {ls : Lv} {a : Nat} {v : Option Value} {f : Lv → Prop}, stK ls a v f → f (setv ls a v) ∧ a < ls.length ∧ (setv ls a v).length = ls.length := by
  intro ls
  induction ls with
  | nil => intro a v f h; cases a <;> exact h.elim
  | cons x t ih =>
    intro a v f h
    cases a with
    | zero => exact ⟨h, by simp, by simp [setv]⟩
    | succ i =>
      cases i with
      | zero =>
        have h := noLK_e (show noLK x (fun y => stK t 0 v (fun t' => f (y :: t'))) from h)
        obtain ⟨h1, h2, h3⟩ := ih h
        exact ⟨h1, by simpa using h2, by simp [setv] at h3 ⊢; exact h3⟩
      | succ i =>
        obtain ⟨h1, h2, h3⟩ := ih (show stK t (i + 1) v (fun t' => f (x :: t')) from h)
        exact ⟨h1, by simpa using h2, by simp [setv] at h3 ⊢; exact h3⟩
theorem clK_e : ∀ {ls : Lv} {a : Nat} {f : Lv → Prop}, clK ls a f → f (clv ls a) ∧ a < ls.length ∧ (clv ls a).length = ls.length := by
  intro ls
  induction ls with
  | nil => intro a f h; cases a <;> exact h.elim
  | cons x t ih =>
    intro a f h
    cases a with
    | zero => exact ⟨h, by simp, by simp [clv]⟩
    | succ i =>
      obtain ⟨h1, h2, h3⟩ := ih (show clK t i (fun t' => f (x :: t')) from h)
      exact ⟨h1, by simpa using h2, by simp [clv] at h3 ⊢; exact h3⟩
theorem popK_e : ∀ {n : Nat} {st acc : List Value} {f : List Value → List Value → Prop}, popK n st acc f → ∃ as r, as.length = n ∧ st = as.reverse ++ r ∧ f (as ++ acc) r := by
  intro n
  induction n with
  | zero => intro st acc f h; exact ⟨[], st, rfl, rfl, h⟩
  | succ n ih =>
    intro st acc f h
    cases st with
    | nil => exact h.elim
    | cons x st =>
      obtain ⟨as, r, h1, h2, h3⟩ := ih (show popK n st (x :: acc) f from h)
      exact ⟨as ++ [x], r, by simp [h1], by simp [h2], by simpa using h3⟩
theorem nthK_e : ∀ {l : List Nat} {k : Nat} {f : Nat → Prop}, nthK l k f → ∃ x, l[k]? = some x ∧ f x := by
  intro l
  induction l with
  | nil => intro k f h; cases k <;> exact h.elim
  | cons x t ih =>
    intro k f h
    cases k with
    | zero => exact ⟨x, rfl, h⟩
    | succ k => exact ih (show nthK t k f from h)
theorem cond_e {b : Bool} {P : Prop} (h : cond b P False) : b = true ∧ P := by
  cases b
  · exact h.elim
  · exact ⟨rfl, h⟩
theorem setv_at : ∀ {ls : Lv} {a i : Nat} {v : Option Value} {u : Value}, ldv (setv ls a v) i = some u → (i = a ∧ v = some u) ∨ (i ≠ a ∧ ldv ls i = some u ∧ ¬ (i + 1 = a ∧ u.category = 2)) := by
  intro ls
  induction ls with
  | nil => intro a i v u h; cases a <;> simp [setv, ldv] at h
  | cons x t ih =>
    intro a i v u h
    cases a with
    | zero =>
      cases i with
      | zero => exact Or.inl ⟨rfl, h⟩
      | succ i => exact Or.inr ⟨by simp, h, by omega⟩
    | succ a =>
      cases i with
      | zero =>
        right
        cases a with
        | zero =>
          refine ⟨by simp, ?_, ?_⟩
          · simp only [setv, ldv] at h ⊢
            unfold noL at h
            split at h <;> first | exact h | cases h
          · rintro ⟨-, hc⟩
            simp only [setv, ldv] at h
            unfold noL at h
            split at h
            · cases h
            · cases h
            · rename_i h1 h2
              cases u <;> first | exact h1 _ h | exact h2 _ h | simp [Value.category] at hc
        | succ a => exact ⟨by simp, h, by omega⟩
      | succ i =>
        rcases ih (show ldv (setv t a v) i = some u from h) with ⟨e1, e2⟩ | ⟨e1, e2, e3⟩
        · exact Or.inl ⟨by omega, e2⟩
        · exact Or.inr ⟨by omega, e2, by rintro ⟨q1, q2⟩; exact e3 ⟨by omega, q2⟩⟩
theorem clv_at : ∀ {ls : Lv} {a i : Nat} {u : Value}, ldv (clv ls a) i = some u → i ≠ a ∧ ldv ls i = some u := by
  intro ls
  induction ls with
  | nil => intro a i u h; cases a <;> simp [clv, ldv] at h
  | cons x t ih =>
    intro a i u h
    cases a with
    | zero =>
      cases i with
      | zero => simp [clv, ldv] at h
      | succ i => exact ⟨by simp, h⟩
    | succ a =>
      cases i with
      | zero => exact ⟨by simp, h⟩
      | succ i =>
        obtain ⟨e1, e2⟩ := ih (show ldv (clv t a) i = some u from h)
        exact ⟨by omega, e2⟩
theorem ldv_lt : ∀ {ls : Lv} {i : Nat} {u : Value}, ldv ls i = some u → i < ls.length := by
  intro ls
  induction ls with
  | nil => intro i u h; cases i <;> simp [ldv] at h
  | cons x t ih =>
    intro i u h
    cases i with
    | zero => simp
    | succ i => simpa using ih (show ldv t i = some u from h)
end
section
/-! THE LOGIC, PART 2: the world in the heap, and the checks that a program decides. -/
/-- where the world lies: addresses, classes, array classes (int, boolean, long), addresses of the texts -/
abbrev Th : Type := (Nat → Nat) × va_G × (ClassId × ClassId × ClassId) × (Nat → Nat)
def cv (θ : Th) : Value → Value
  | .ref i => .ref (θ.1 i)
  | v => v
def sv (θ : Th) (M : Mem) (i : Nat) : Nat → List Nat → List Value
  | _, [] => []
  | k, 0 :: r => .int (M i k) :: sv θ M i (k + 1) r
  | k, (t + 1) :: r => .ref (θ.1 t) :: sv θ M i (k + 1) r
def wc (θ : Th) (M : Mem) (o : Ou) (i : Nat) : va_E :=
  if clT i < 9 then .inr (clT i, sv θ M i 0 (slT i))
  else if clT i = 9 then .inl (θ.2.2.1.1, lenT i, .inl (M i))
  else if clT i = 10 then .inl (θ.2.2.1.2.1, lenT i, .inl (M i))
  else .inl (θ.2.2.1.2.2, lenT i, .inr (.inl o))
def wcs (θ : Th) (M : Mem) (o : Ou) : va_W := (List.range NO).map (fun i => (θ.1 i, wc θ M o i))
def tysOf (θ : Th) : List (ClassId × FieldType) := [(θ.2.2.1.1, .int), (θ.2.2.1.2.1, .boolean), (θ.2.2.1.2.2, .long)]
/-- the world's cells are apart, and of a kind -/
def apart (θ : Th) (A : Nat → Prop) : Prop := (∀ i j, i < NO → j < NO → θ.1 i = θ.1 j → i = j) ∧ ∀ i, i < NO → A (θ.1 i)
def Aset (θ : Th) (sz : Nat) : Nat → Prop := fun q => (∃ i, i < NO ∧ q = θ.1 i) ∨ sz ≤ q
theorem sv_int {θ : Th} {M : Mem} {i : Nat} : ∀ {L : List Nat} {b k : Nat}, L[k]? = some 0 → (sv θ M i b L)[k]? = some (.int (M i (b + k))) := by
  intro L
  induction L with
  | nil => intro b k h; simp at h
  | cons x t ih =>
    intro b k h
    cases k with
    | zero => simp at h; subst h; rfl
    | succ k =>
      have := ih (b := b + 1) (k := k) (by simpa using h)
      rw [show b + (k + 1) = b + 1 + k by omega]
      cases x <;> simpa [sv] using this
theorem sv_ref {θ : Th} {M : Mem} {i : Nat} : ∀ {L : List Nat} {b k r : Nat}, L[k]? = some (r + 1) → (sv θ M i b L)[k]? = some (.ref (θ.1 r)) := by
  intro L
  induction L with
  | nil => intro b k r h; simp at h
  | cons x t ih =>
    intro b k r h
    cases k with
    | zero => simp at h; subst h; rfl
    | succ k =>
      have := ih (b := b + 1) (k := k) (r := r) (by simpa using h)
      cases x <;> simpa [sv] using this
theorem sv_len {θ : Th} {M : Mem} {i : Nat} : ∀ {L : List Nat} {b : Nat}, (sv θ M i b L).length = L.length := by
  intro L
  induction L with
  | nil => intro b; rfl
  | cons x t ih => intro b; cases x <;> simp [sv, ih]
theorem mset_same (M : Mem) (i k : Nat) (v : Int32) : mset M i k v i k = v := by simp [mset, upd]
theorem mset_obj {M : Mem} {i a : Nat} (k : Nat) (v : Int32) (h : a ≠ i) : mset M i k v a = M a := by simp [mset, h]
theorem mset_plc {M : Mem} {i k b : Nat} (v : Int32) (h : b ≠ k) : mset M i k v i b = M i b := by simp [mset, upd, h]
theorem mset_row (M : Mem) (i k : Nat) (v : Int32) : mset M i k v i = upd (M i) k v := by simp [mset]
theorem sv_past {θ : Th} {M : Mem} {i k : Nat} {v : Int32} : ∀ {L : List Nat} {b : Nat}, k < b → sv θ (mset M i k v) i b L = sv θ M i b L := by
  intro L
  induction L with
  | nil => intro b _; rfl
  | cons x t ih =>
    intro b h
    cases x with
    | zero => simp only [sv]; rw [ih (by omega), mset_plc v (by omega)]
    | succ x => simp only [sv]; rw [ih (by omega)]
theorem sv_set {θ : Th} {M : Mem} {i : Nat} {v : Int32} : ∀ {L : List Nat} {b k : Nat}, L[k]? = some 0 → sv θ (mset M i (b + k) v) i b L = (sv θ M i b L).set k (.int v) := by
  intro L
  induction L with
  | nil => intro b k h; simp at h
  | cons x t ih =>
    intro b k h
    cases k with
    | zero =>
      simp at h; subst h
      simp only [sv, Nat.add_zero, mset_same, List.set_cons_zero]
      rw [sv_past (by omega)]
    | succ k =>
      have := ih (b := b + 1) (k := k) (by simpa using h)
      rw [show b + 1 + k = b + (k + 1) by omega] at this
      cases x with
      | zero => simp only [sv, List.set_cons_succ, this]; rw [mset_plc v (by omega)]
      | succ x => simp only [sv, List.set_cons_succ, this]
theorem sv_other {θ : Th} {M : Mem} {i j k : Nat} {v : Int32} (h : j ≠ i) : ∀ {L : List Nat} {b : Nat}, sv θ (mset M i k v) j b L = sv θ M j b L := by
  intro L
  induction L with
  | nil => intro b; rfl
  | cons x t ih => intro b; cases x <;> simp only [sv, ih, mset_obj k v h]
theorem wc_other {θ : Th} {M : Mem} {o : Ou} {i j k : Nat} {v : Int32} (h : j ≠ i) : wc θ (mset M i k v) o j = wc θ M o j := by
  unfold wc
  rw [sv_other h, mset_obj k v h]
theorem wcs_get {θ : Th} {M : Mem} {o : Ou} {i : Nat} (h : i < NO) : (wcs θ M o)[i]? = some (θ.1 i, wc θ M o i) := by
  unfold wcs
  rw [List.getElem?_map, List.getElem?_range h]
  rfl
theorem wcs_len {θ : Th} {M : Mem} {o : Ou} : (wcs θ M o).length = NO := by simp [wcs]
theorem wcs_set {θ : Th} {M M' : Mem} {o o' : Ou} {i : Nat} {e : va_E} (hi : i < NO) (h1 : wc θ M' o' i = e) (h2 : ∀ j, j < NO → j ≠ i → wc θ M' o' j = wc θ M o j) : (wcs θ M o).set i (θ.1 i, e) = wcs θ M' o' := by
  apply List.ext_getElem?
  intro j
  by_cases hj : j < NO
  · rw [List.getElem?_set]
    by_cases e1 : i = j
    · subst e1
      rw [if_pos rfl, if_pos (by rw [wcs_len]; exact hi), wcs_get hi, h1]
    · rw [if_neg e1, wcs_get hj, wcs_get hj, h2 j hj (Ne.symm e1)]
  · rw [List.getElem?_eq_none (by rw [List.length_set, wcs_len]; omega), List.getElem?_eq_none (by rw [wcs_len]; omega)]
theorem wcs_addr {θ : Th} {M : Mem} {o : Ou} {k : Nat} {q : Nat × va_E} (h : (wcs θ M o)[k]? = some q) : k < NO ∧ q.1 = θ.1 k := by
  have hk : k < NO := by
    rcases Nat.lt_or_ge k NO with h1 | h1
    · exact h1
    · rw [List.getElem?_eq_none (by rw [wcs_len]; exact h1)] at h; cases h
  rw [wcs_get hk] at h
  cases h
  exact ⟨hk, rfl⟩
theorem apart.D {θ : Th} {A : Nat → Prop} (h : apart θ A) (M : Mem) (o : Ou) : va_D A (wcs θ M o) := by
  refine ⟨fun i j p q hp hq e => ?_, fun k q hq => ?_⟩
  · obtain ⟨h1, h2⟩ := wcs_addr hp
    obtain ⟨h3, h4⟩ := wcs_addr hq
    exact h.1 i j h1 h3 (by rw [← h2, ← h4]; exact e)
  · obtain ⟨h1, h2⟩ := wcs_addr hq
    rw [h2]; exact h.2 k h1
theorem wc_obj {θ : Th} {M : Mem} {o : Ou} {i : Nat} (h : clT i < 9) : wc θ M o i = .inr (clT i, sv θ M i 0 (slT i)) := by
  unfold wc; rw [if_pos h]
theorem wc_int {θ : Th} {M : Mem} {o : Ou} {i : Nat} (h : clT i = 9) : wc θ M o i = .inl (θ.2.2.1.1, lenT i, .inl (M i)) := by
  unfold wc; rw [if_neg (by omega), if_pos h]
theorem wc_bool {θ : Th} {M : Mem} {o : Ou} {i : Nat} (h : clT i = 10) : wc θ M o i = .inl (θ.2.2.1.2.1, lenT i, .inl (M i)) := by
  unfold wc; rw [if_neg (by omega), if_neg (by omega), if_pos h]
theorem wc_long {θ : Th} {M : Mem} {o : Ou} {i : Nat} (h : clT i = 11) : wc θ M o i = .inl (θ.2.2.1.2.2, lenT i, .inr (.inl o)) := by
  unfold wc; rw [if_neg (by omega), if_neg (by omega), if_neg (by omega)]
theorem clT_lt {i : Nat} (h : clT i < 99) : i < NO := by
  rcases Nat.lt_or_ge i NO with h1 | h1
  · exact h1
  · have : clT i = 99 := by unfold clT; rw [List.getD_eq_getElem?_getD, List.getElem?_eq_none (by simpa using h1)]; rfl
    omega
theorem clT_out : ∀ i, i < NO → clT i = 11 → i = OUT := by decide +kernel
theorem slT_len : ∀ i, i < NO → clT i < 9 → (slT i).length = nfT (clT i) := by decide +kernel
theorem cls_ok : ∀ ci, ci < 9 → vwCl[ci]? = some (cnm ci, TT ci, nfT ci) := by
  intro ci h
  match ci, h with
  | 0, _ => rfl
  | 1, _ => rfl
  | 2, _ => rfl
  | 3, _ => rfl
  | 4, _ => rfl
  | 5, _ => rfl
  | 6, _ => rfl
  | 7, _ => rfl
  | 8, _ => rfl
theorem ty_ok : ∀ ci, ci < 9 → ∀ k, k < nfT ci → parseFieldDescriptor (TT ci k).2.2.1 = some (tyT ci k) := by
  intro ci h
  match ci, h with
  | 0, _ => exact tyX0_ok
  | 1, _ => exact tyX1_ok
  | 2, _ => exact tyX2_ok
  | 3, _ => exact tyX3_ok
  | 4, _ => exact tyX4_ok
  | 5, _ => exact tyX5_ok
  | 6, _ => exact tyX6_ok
  | 7, _ => exact tyX7_ok
  | 8, _ => exact tyX8_ok
theorem nm_ok : ∀ ci, ci < 9 → ∀ a, a < nfT ci → ∀ b, b < nfT ci → a ≠ b → (TT ci a).2.1 ≠ (TT ci b).2.1 := by
  intro ci h
  match ci, h with
  | 0, _ => exact nmX0
  | 1, _ => exact nmX1
  | 2, _ => exact nmX2
  | 3, _ => exact nmX3
  | 4, _ => exact nmX4
  | 5, _ => exact nmX5
  | 6, _ => exact nmX6
  | 7, _ => exact nmX7
  | 8, _ => exact nmX8
/-! words -/
def GW : List Cond := lw_tbl.filter goodWord
theorem gw_of {p : Nat} {w : Cond} (h : lw_tbl[p]? = some w) (g : goodWord w = true) : w ∈ GW := List.mem_filter.mpr ⟨List.mem_of_getElem? h, g⟩
theorem GW_good : ∀ w ∈ GW, (w.onTables && w.keeps) = true ∨ ∃ ty, w = .arrayClass ty := fun w h => good_of_word (List.mem_filter.mp h).2
def wFL (q : Nat × Nat × Nat × Nat) : Cond := .fieldLink (cnm q.1) q.2.1 (cnm q.2.2.1) (TT q.2.2.1 q.2.2.2).2.1 (TT q.2.2.1 q.2.2.2).2.2.1
def wML (q : Nat × Nat × Nat) : Cond := .methodLink (cnm q.1) q.2.1 (yT q.2.2)
def atP (l : List Cond) (p : Nat) (w : Cond) : Bool := decide (l[p]? = some w)
theorem zip_ok {α : Type} {f : α → Cond} {L : List α} {P : List Nat} (hl : P.length = L.length) (h : (L.zip P).all (fun q => atP lw_tbl q.2 (f q.1)) = true) (hg : ∀ a, goodWord (f a) = true) : ∀ a ∈ L, f a ∈ GW := by
  intro a ha
  obtain ⟨i, hi⟩ := List.getElem?_of_mem ha
  have hlt : i < L.length := (List.getElem?_eq_some_iff.mp hi).1
  obtain ⟨p, hp⟩ : ∃ p, P[i]? = some p := ⟨P[i]'(by omega), List.getElem?_eq_getElem (by omega)⟩
  have hz : (a, p) ∈ L.zip P := by
    have : (L.zip P)[i]? = some (a, p) := by rw [List.getElem?_zip_eq_some]; exact ⟨hi, hp⟩
    exact List.mem_of_getElem? this
  have := List.all_eq_true.mp h _ hz
  exact gw_of (of_decide_eq_true this) (hg a)
theorem FL_ok : ∀ q ∈ FL, wFL q ∈ GW := zip_ok (by decide +kernel) (by decide +kernel : (FL.zip FLp).all (fun q => atP lw_tbl q.2 (wFL q.1)) = true) (fun _ => rfl)
theorem ML_ok : ∀ q ∈ ML, wML q ∈ GW := zip_ok (by decide +kernel) (by decide +kernel : (ML.zip MLp).all (fun q => atP lw_tbl q.2 (wML q.1)) = true) (fun _ => rfl)
theorem FL_lt : ∀ q ∈ FL, q.2.2.1 < 9 ∧ q.2.2.2 < nfT q.2.2.1 := by decide +kernel
theorem UW_all : (List.range 9).all (fun ci => decide ((u_ws (cnm ci) (TT ci) (nfT ci)).map some = (UWp ci).map (fun p => lw_tbl[p]?)) && (u_ws (cnm ci) (TT ci) (nfT ci)).all goodWord) = true := by decide +kernel
theorem UW_ok : ∀ ci, ci < 9 → ∀ w ∈ u_ws (cnm ci) (TT ci) (nfT ci), w ∈ GW := by
  intro ci h w hw
  have h1 := List.all_eq_true.mp UW_all ci (List.mem_range.mpr h)
  rw [Bool.and_eq_true] at h1
  have h2 := of_decide_eq_true h1.1
  have h3 : some w ∈ (UWp ci).map (fun p => lw_tbl[p]?) := by rw [← h2]; exact List.mem_map.mpr ⟨w, hw, rfl⟩
  obtain ⟨p, -, hp⟩ := List.mem_map.mp h3
  exact gw_of hp (List.all_eq_true.mp h1.2 w hw)
/-- the first word of a method -/
def wCode (i : Nat) : Cond := match hhT i with
  | none => .code (yT i) (bT i) (mlT i) (rtT i)
  | some hh => .codeWith (yT i) (bT i) (mlT i) (rtT i) hh
def mfOk (i : Nat) : Bool := match kdT i with
  | 0 => true
  | 1 => atP lw_tbl ((MFp i).getD 1 0) (.instanceMethod (yT i)) && atP lw_tbl ((MFp i).getD 2 0) (.selects (yT i).cls (yT i) (yT i)) && atP lw_tbl ((MFp i).getD 3 0) (.initialized (yT i).cls)
  | _ => atP lw_tbl ((MFp i).getD 1 0) (.static (yT i)) && atP lw_tbl ((MFp i).getD 3 0) (.initialized (yT i).cls)
theorem mf_all : (List.range NMT).all mfOk = true := by decide +kernel
/-- plain facts of the methods' names -/
def nmOk (i : Nat) : Bool := kdT i == 0 || (plainName (yT i).cls && decide ((yT i).cls = cnm (owT i)) && decide ((yT i).cls ≠ "java/lang/invoke/MethodHandle") && decide ((yT i).cls ≠ "java/lang/invoke/VarHandle") && decide ((parseMethodDescriptor (yT i).desc).map (fun d => d.parameters.length) = some (npT i)) && decide (mlT i ≤ 40))
theorem nm_all : (List.range NMT).all nmOk = true := by decide +kernel
theorem wCode_good (i : Nat) : goodWord (wCode i) = true := by unfold wCode; split <;> rfl
end
section
set_option maxRecDepth 100000 in
theorem cw_1 : lw_tbl[907]? = some (wCode 1) := rfl
set_option maxRecDepth 100000 in
theorem cw_2 : lw_tbl[911]? = some (wCode 2) := rfl
set_option maxRecDepth 100000 in
theorem cw_3 : lw_tbl[392]? = some (wCode 3) := rfl
set_option maxRecDepth 100000 in
theorem cw_4 : lw_tbl[896]? = some (wCode 4) := rfl
set_option maxRecDepth 100000 in
theorem cw_5 : lw_tbl[916]? = some (wCode 5) := rfl
set_option maxRecDepth 100000 in
theorem cw_6 : lw_tbl[303]? = some (wCode 6) := rfl
set_option maxRecDepth 100000 in
theorem cw_7 : lw_tbl[307]? = some (wCode 7) := rfl
set_option maxRecDepth 100000 in
theorem cw_8 : lw_tbl[311]? = some (wCode 8) := rfl
set_option maxRecDepth 100000 in
theorem cw_9 : lw_tbl[318]? = some (wCode 9) := rfl
set_option maxRecDepth 100000 in
theorem cw_10 : lw_tbl[314]? = some (wCode 10) := rfl
set_option maxRecDepth 100000 in
theorem cw_11 : lw_tbl[326]? = some (wCode 11) := rfl
set_option maxRecDepth 100000 in
theorem cw_12 : lw_tbl[331]? = some (wCode 12) := rfl
set_option maxRecDepth 100000 in
theorem cw_13 : lw_tbl[335]? = some (wCode 13) := rfl
set_option maxRecDepth 100000 in
theorem cw_14 : lw_tbl[339]? = some (wCode 14) := rfl
set_option maxRecDepth 100000 in
theorem cw_15 : lw_tbl[342]? = some (wCode 15) := rfl
set_option maxRecDepth 100000 in
theorem cw_17 : lw_tbl[388]? = some (wCode 17) := rfl
set_option maxRecDepth 100000 in
theorem cw_18 : lw_tbl[291]? = some (wCode 18) := rfl
set_option maxRecDepth 100000 in
theorem cw_19 : lw_tbl[659]? = some (wCode 19) := rfl
set_option maxRecDepth 100000 in
theorem cw_20 : lw_tbl[650]? = some (wCode 20) := rfl
set_option maxRecDepth 100000 in
theorem cw_22 : lw_tbl[765]? = some (wCode 22) := rfl
set_option maxRecDepth 100000 in
theorem cw_23 : lw_tbl[711]? = some (wCode 23) := rfl
set_option maxRecDepth 100000 in
theorem cw_24 : lw_tbl[716]? = some (wCode 24) := rfl
set_option maxRecDepth 100000 in
theorem cw_25 : lw_tbl[737]? = some (wCode 25) := rfl
set_option maxRecDepth 100000 in
theorem cw_26 : lw_tbl[741]? = some (wCode 26) := rfl
set_option maxRecDepth 100000 in
theorem cw_27 : lw_tbl[745]? = some (wCode 27) := rfl
set_option maxRecDepth 100000 in
theorem cw_28 : lw_tbl[749]? = some (wCode 28) := rfl
set_option maxRecDepth 100000 in
theorem cw_29 : lw_tbl[753]? = some (wCode 29) := rfl
set_option maxRecDepth 100000 in
theorem cw_30 : lw_tbl[757]? = some (wCode 30) := rfl
set_option maxRecDepth 100000 in
theorem cw_31 : lw_tbl[761]? = some (wCode 31) := rfl
set_option maxRecDepth 100000 in
theorem cw_33 : lw_tbl[356]? = some (wCode 33) := rfl
set_option maxRecDepth 100000 in
theorem cw_34 : lw_tbl[360]? = some (wCode 34) := rfl
set_option maxRecDepth 100000 in
theorem cw_35 : lw_tbl[479]? = some (wCode 35) := rfl
set_option maxRecDepth 100000 in
theorem cw_36 : lw_tbl[542]? = some (wCode 36) := rfl
set_option maxRecDepth 100000 in
theorem cw_37 : lw_tbl[499]? = some (wCode 37) := rfl
set_option maxRecDepth 100000 in
theorem cw_38 : lw_tbl[531]? = some (wCode 38) := rfl
set_option maxRecDepth 100000 in
theorem cw_39 : lw_tbl[547]? = some (wCode 39) := rfl
set_option maxRecDepth 100000 in
theorem cw_40 : lw_tbl[551]? = some (wCode 40) := rfl
set_option maxRecDepth 100000 in
theorem cw_41 : lw_tbl[555]? = some (wCode 41) := rfl
set_option maxRecDepth 100000 in
theorem cw_42 : lw_tbl[575]? = some (wCode 42) := rfl
set_option maxRecDepth 100000 in
theorem cw_43 : lw_tbl[571]? = some (wCode 43) := rfl
set_option maxRecDepth 100000 in
theorem cw_45 : lw_tbl[372]? = some (wCode 45) := rfl
set_option maxRecDepth 100000 in
theorem cw_46 : lw_tbl[591]? = some (wCode 46) := rfl
set_option maxRecDepth 100000 in
theorem cw_47 : lw_tbl[631]? = some (wCode 47) := rfl
set_option maxRecDepth 100000 in
theorem cw_48 : lw_tbl[646]? = some (wCode 48) := rfl
set_option maxRecDepth 100000 in
theorem cw_49 : lw_tbl[619]? = some (wCode 49) := rfl
set_option maxRecDepth 100000 in
theorem cw_50 : lw_tbl[655]? = some (wCode 50) := rfl
set_option maxRecDepth 100000 in
theorem cw_51 : lw_tbl[782]? = some (wCode 51) := rfl
set_option maxRecDepth 100000 in
theorem cw_53 : lw_tbl[364]? = some (wCode 53) := rfl
set_option maxRecDepth 100000 in
theorem cw_54 : lw_tbl[384]? = some (wCode 54) := rfl
set_option maxRecDepth 100000 in
theorem cw_55 : lw_tbl[820]? = some (wCode 55) := rfl
set_option maxRecDepth 100000 in
theorem cw_56 : lw_tbl[824]? = some (wCode 56) := rfl
set_option maxRecDepth 100000 in
theorem cw_57 : lw_tbl[829]? = some (wCode 57) := rfl
set_option maxRecDepth 100000 in
theorem cw_58 : lw_tbl[847]? = some (wCode 58) := rfl
set_option maxRecDepth 100000 in
theorem cw_59 : lw_tbl[733]? = some (wCode 59) := rfl
set_option maxRecDepth 100000 in
theorem cw_60 : lw_tbl[721]? = some (wCode 60) := rfl
set_option maxRecDepth 100000 in
theorem cw_61 : lw_tbl[725]? = some (wCode 61) := rfl
set_option maxRecDepth 100000 in
theorem cw_62 : lw_tbl[860]? = some (wCode 62) := rfl
set_option maxRecDepth 100000 in
theorem cw_63 : lw_tbl[729]? = some (wCode 63) := rfl
set_option maxRecDepth 100000 in
theorem cw_64 : lw_tbl[769]? = some (wCode 64) := rfl
set_option maxRecDepth 100000 in
theorem cw_65 : lw_tbl[881]? = some (wCode 65) := rfl
set_option maxRecDepth 100000 in
theorem cw_67 : lw_tbl[587]? = some (wCode 67) := rfl
set_option maxRecDepth 100000 in
theorem cw_68 : lw_tbl[606]? = some (wCode 68) := rfl
set_option maxRecDepth 100000 in
theorem cw_69 : lw_tbl[610]? = some (wCode 69) := rfl
set_option maxRecDepth 100000 in
theorem cw_70 : lw_tbl[623]? = some (wCode 70) := rfl
set_option maxRecDepth 100000 in
theorem cw_71 : lw_tbl[689]? = some (wCode 71) := rfl
set_option maxRecDepth 100000 in
theorem cw_72 : lw_tbl[368]? = some (wCode 72) := rfl
set_option maxRecDepth 100000 in
theorem cw_73 : lw_tbl[376]? = some (wCode 73) := rfl
set_option maxRecDepth 100000 in
theorem cw_74 : lw_tbl[380]? = some (wCode 74) := rfl
set_option maxRecDepth 100000 in
theorem cw_75 : lw_tbl[615]? = some (wCode 75) := rfl
set_option maxRecDepth 100000 in
theorem cw_76 : lw_tbl[627]? = some (wCode 76) := rfl
set_option maxRecDepth 100000 in
theorem cw_77 : lw_tbl[642]? = some (wCode 77) := rfl
set_option maxRecDepth 100000 in
theorem cw_78 : lw_tbl[674]? = some (wCode 78) := rfl
set_option maxRecDepth 100000 in
theorem cw_79 : lw_tbl[773]? = some (wCode 79) := rfl
set_option maxRecDepth 100000 in
theorem cw_80 : lw_tbl[778]? = some (wCode 80) := rfl
set_option maxRecDepth 100000 in
theorem cw_81 : lw_tbl[787]? = some (wCode 81) := rfl
set_option maxRecDepth 100000 in
theorem cw_82 : lw_tbl[798]? = some (wCode 82) := rfl
set_option maxRecDepth 100000 in
theorem cw_83 : lw_tbl[809]? = some (wCode 83) := rfl
set_option maxRecDepth 100000 in
theorem cw_85 : lw_tbl[401]? = some (wCode 85) := rfl
set_option maxRecDepth 100000 in
theorem cw_86 : lw_tbl[507]? = some (wCode 86) := rfl
set_option maxRecDepth 100000 in
theorem cw_87 : lw_tbl[538]? = some (wCode 87) := rfl
set_option maxRecDepth 100000 in
theorem cw_88 : lw_tbl[562]? = some (wCode 88) := rfl
set_option maxRecDepth 100000 in
theorem cw_89 : lw_tbl[582]? = some (wCode 89) := rfl
set_option maxRecDepth 100000 in
theorem cw_90 : lw_tbl[598]? = some (wCode 90) := rfl
set_option maxRecDepth 100000 in
theorem cw_91 : lw_tbl[287]? = some (wCode 91) := rfl
set_option maxRecDepth 100000 in
theorem cw_92 : lw_tbl[638]? = some (wCode 92) := rfl
set_option maxRecDepth 100000 in
theorem cw_93 : lw_tbl[666]? = some (wCode 93) := rfl
set_option maxRecDepth 100000 in
theorem cw_94 : lw_tbl[681]? = some (wCode 94) := rfl
set_option maxRecDepth 100000 in
theorem cw_95 : lw_tbl[696]? = some (wCode 95) := rfl
set_option maxRecDepth 100000 in
theorem cw_96 : lw_tbl[794]? = some (wCode 96) := rfl
set_option maxRecDepth 100000 in
theorem cw_97 : lw_tbl[805]? = some (wCode 97) := rfl
set_option maxRecDepth 100000 in
theorem cw_98 : lw_tbl[816]? = some (wCode 98) := rfl
set_option maxRecDepth 100000 in
theorem cw_99 : lw_tbl[836]? = some (wCode 99) := rfl
set_option maxRecDepth 100000 in
theorem cw_100 : lw_tbl[854]? = some (wCode 100) := rfl
set_option maxRecDepth 100000 in
theorem cw_101 : lw_tbl[868]? = some (wCode 101) := rfl
set_option maxRecDepth 100000 in
theorem cw_102 : lw_tbl[295]? = some (wCode 102) := rfl
set_option maxRecDepth 100000 in
theorem cw_103 : lw_tbl[876]? = some (wCode 103) := rfl
set_option maxRecDepth 100000 in
theorem cw_104 : lw_tbl[888]? = some (wCode 104) := rfl
set_option maxRecDepth 100000 in
theorem cw_105 : lw_tbl[903]? = some (wCode 105) := rfl
set_option maxRecDepth 100000 in
theorem cw_106 : lw_tbl[299]? = some (wCode 106) := rfl
set_option maxRecDepth 100000 in
theorem cw_107 : lw_tbl[322]? = some (wCode 107) := rfl
set_option maxRecDepth 100000 in
theorem cw_108 : lw_tbl[352]? = some (wCode 108) := rfl
set_option maxRecDepth 100000 in
theorem cw_109 : lw_tbl[407]? = some (wCode 109) := rfl
set_option maxRecDepth 100000 in
theorem cw_110 : lw_tbl[404]? = some (wCode 110) := rfl
set_option maxRecDepth 100000 in
theorem cw_111 : lw_tbl[669]? = some (wCode 111) := rfl
set_option maxRecDepth 100000 in
theorem cw_112 : lw_tbl[891]? = some (wCode 112) := rfl
set_option maxRecDepth 100000 in
theorem cw_113 : lw_tbl[511]? = some (wCode 113) := rfl
set_option maxRecDepth 100000 in
theorem cw_114 : lw_tbl[566]? = some (wCode 114) := rfl
set_option maxRecDepth 100000 in
theorem cw_115 : lw_tbl[840]? = some (wCode 115) := rfl
set_option maxRecDepth 100000 in
theorem cw_116 : lw_tbl[602]? = some (wCode 116) := rfl
set_option maxRecDepth 100000 in
theorem cw_117 : lw_tbl[685]? = some (wCode 117) := rfl
set_option maxRecDepth 100000 in
theorem cw_118 : lw_tbl[702]? = some (wCode 118) := rfl
set_option maxRecDepth 100000 in
theorem cw_119 : lw_tbl[707]? = some (wCode 119) := rfl
set_option maxRecDepth 100000 in
theorem cw_121 : lw_tbl[1093]? = some (wCode 121) := rfl
set_option maxRecDepth 100000 in
theorem cw_122 : lw_tbl[1104]? = some (wCode 122) := rfl
set_option maxRecDepth 100000 in
theorem cw_123 : lw_tbl[1100]? = some (wCode 123) := rfl
set_option maxRecDepth 100000 in
theorem cw_124 : lw_tbl[1112]? = some (wCode 124) := rfl
set_option maxRecDepth 100000 in
theorem cw_125 : lw_tbl[1097]? = some (wCode 125) := rfl
set_option maxRecDepth 100000 in
theorem cw_126 : lw_tbl[1108]? = some (wCode 126) := rfl
set_option maxRecDepth 100000 in
theorem cw_127 : lw_tbl[1116]? = some (wCode 127) := rfl
set_option maxRecDepth 100000 in
theorem cw_128 : lw_tbl[1124]? = some (wCode 128) := rfl
set_option maxRecDepth 100000 in
theorem cw_129 : lw_tbl[1128]? = some (wCode 129) := rfl
set_option maxRecDepth 100000 in
theorem cw_130 : lw_tbl[1120]? = some (wCode 130) := rfl
set_option maxRecDepth 100000 in
theorem cw_131 : lw_tbl[1132]? = some (wCode 131) := rfl
set_option maxRecDepth 100000 in
theorem cw_132 : lw_tbl[1136]? = some (wCode 132) := rfl
set_option maxRecDepth 100000 in
theorem cw_133 : lw_tbl[1140]? = some (wCode 133) := rfl
set_option maxRecDepth 100000 in
theorem cw_134 : lw_tbl[1144]? = some (wCode 134) := rfl
set_option maxRecDepth 100000 in
theorem cw_135 : lw_tbl[1149]? = some (wCode 135) := rfl
set_option maxRecDepth 100000 in
theorem cw_136 : lw_tbl[1153]? = some (wCode 136) := rfl
set_option maxRecDepth 100000 in
theorem cw_137 : lw_tbl[1216]? = some (wCode 137) := rfl
set_option maxRecDepth 100000 in
theorem cw_138 : lw_tbl[1212]? = some (wCode 138) := rfl
set_option maxRecDepth 100000 in
theorem cw_139 : lw_tbl[1160]? = some (wCode 139) := rfl
set_option maxRecDepth 100000 in
theorem cw_140 : lw_tbl[1157]? = some (wCode 140) := rfl
set_option maxRecDepth 100000 in
theorem cw_141 : lw_tbl[1168]? = some (wCode 141) := rfl
set_option maxRecDepth 100000 in
theorem cw_142 : lw_tbl[1164]? = some (wCode 142) := rfl
set_option maxRecDepth 100000 in
theorem cw_143 : lw_tbl[1172]? = some (wCode 143) := rfl
set_option maxRecDepth 100000 in
theorem cw_144 : lw_tbl[1220]? = some (wCode 144) := rfl
set_option maxRecDepth 100000 in
theorem cw_145 : lw_tbl[1224]? = some (wCode 145) := rfl
set_option maxRecDepth 100000 in
theorem cw_146 : lw_tbl[1228]? = some (wCode 146) := rfl
set_option maxRecDepth 100000 in
theorem cw_147 : lw_tbl[1236]? = some (wCode 147) := rfl
set_option maxRecDepth 100000 in
theorem cw_148 : lw_tbl[1232]? = some (wCode 148) := rfl
set_option maxRecDepth 100000 in
theorem cw_149 : lw_tbl[1241]? = some (wCode 149) := rfl
set_option maxRecDepth 100000 in
theorem cw_150 : lw_tbl[1245]? = some (wCode 150) := rfl
set_option maxRecDepth 100000 in
theorem cw_151 : lw_tbl[1188]? = some (wCode 151) := rfl
set_option maxRecDepth 100000 in
theorem cw_152 : lw_tbl[1192]? = some (wCode 152) := rfl
set_option maxRecDepth 100000 in
theorem cw_153 : lw_tbl[1196]? = some (wCode 153) := rfl
set_option maxRecDepth 100000 in
theorem cw_154 : lw_tbl[1200]? = some (wCode 154) := rfl
set_option maxRecDepth 100000 in
theorem cw_155 : lw_tbl[1184]? = some (wCode 155) := rfl
set_option maxRecDepth 100000 in
theorem cw_156 : lw_tbl[1208]? = some (wCode 156) := rfl
set_option maxRecDepth 100000 in
theorem cw_157 : lw_tbl[1204]? = some (wCode 157) := rfl
set_option maxRecDepth 100000 in
theorem cw_158 : lw_tbl[1180]? = some (wCode 158) := rfl
set_option maxRecDepth 100000 in
theorem cw_159 : lw_tbl[1176]? = some (wCode 159) := rfl
set_option maxRecDepth 100000 in
theorem cw_160 : lw_tbl[1249]? = some (wCode 160) := rfl
set_option maxRecDepth 100000 in
theorem cw_161 : lw_tbl[1253]? = some (wCode 161) := rfl
set_option maxRecDepth 100000 in
theorem cw_162 : lw_tbl[1263]? = some (wCode 162) := rfl
set_option maxRecDepth 100000 in
theorem cw_163 : lw_tbl[1260]? = some (wCode 163) := rfl
set_option maxRecDepth 100000 in
theorem cw_164 : lw_tbl[1257]? = some (wCode 164) := rfl
set_option maxRecDepth 100000 in
theorem cw_165 : lw_tbl[1267]? = some (wCode 165) := rfl
set_option maxRecDepth 100000 in
theorem cw_166 : lw_tbl[1279]? = some (wCode 166) := rfl
set_option maxRecDepth 100000 in
theorem cw_167 : lw_tbl[1287]? = some (wCode 167) := rfl
set_option maxRecDepth 100000 in
theorem cw_168 : lw_tbl[1291]? = some (wCode 168) := rfl
set_option maxRecDepth 100000 in
theorem cw_169 : lw_tbl[1283]? = some (wCode 169) := rfl
set_option maxRecDepth 100000 in
theorem cw_170 : lw_tbl[1275]? = some (wCode 170) := rfl
set_option maxRecDepth 100000 in
theorem cw_171 : lw_tbl[1271]? = some (wCode 171) := rfl
set_option maxRecDepth 100000 in
theorem cw_172 : lw_tbl[1302]? = some (wCode 172) := rfl
set_option maxRecDepth 100000 in
theorem cw_173 : lw_tbl[1305]? = some (wCode 173) := rfl
set_option maxRecDepth 100000 in
theorem cw_174 : lw_tbl[1299]? = some (wCode 174) := rfl
set_option maxRecDepth 100000 in
theorem cw_175 : lw_tbl[1295]? = some (wCode 175) := rfl
set_option maxRecDepth 100000 in
theorem cw_176 : lw_tbl[1309]? = some (wCode 176) := rfl
set_option maxRecDepth 100000 in
theorem cw_179 : lw_tbl[395]? = some (wCode 179) := rfl
set_option maxRecDepth 100000 in
theorem cw_180 : lw_tbl[502]? = some (wCode 180) := rfl
set_option maxRecDepth 100000 in
theorem cw_181 : lw_tbl[534]? = some (wCode 181) := rfl
set_option maxRecDepth 100000 in
theorem cw_182 : lw_tbl[558]? = some (wCode 182) := rfl
set_option maxRecDepth 100000 in
theorem cw_183 : lw_tbl[578]? = some (wCode 183) := rfl
set_option maxRecDepth 100000 in
theorem cw_184 : lw_tbl[594]? = some (wCode 184) := rfl
set_option maxRecDepth 100000 in
theorem cw_185 : lw_tbl[634]? = some (wCode 185) := rfl
set_option maxRecDepth 100000 in
theorem cw_186 : lw_tbl[662]? = some (wCode 186) := rfl
set_option maxRecDepth 100000 in
theorem cw_187 : lw_tbl[677]? = some (wCode 187) := rfl
set_option maxRecDepth 100000 in
theorem cw_188 : lw_tbl[692]? = some (wCode 188) := rfl
set_option maxRecDepth 100000 in
theorem cw_189 : lw_tbl[790]? = some (wCode 189) := rfl
set_option maxRecDepth 100000 in
theorem cw_190 : lw_tbl[801]? = some (wCode 190) := rfl
set_option maxRecDepth 100000 in
theorem cw_191 : lw_tbl[812]? = some (wCode 191) := rfl
set_option maxRecDepth 100000 in
theorem cw_192 : lw_tbl[832]? = some (wCode 192) := rfl
set_option maxRecDepth 100000 in
theorem cw_193 : lw_tbl[850]? = some (wCode 193) := rfl
set_option maxRecDepth 100000 in
theorem cw_194 : lw_tbl[864]? = some (wCode 194) := rfl
set_option maxRecDepth 100000 in
theorem cw_195 : lw_tbl[872]? = some (wCode 195) := rfl
set_option maxRecDepth 100000 in
theorem cw_196 : lw_tbl[884]? = some (wCode 196) := rfl
set_option maxRecDepth 100000 in
theorem cw_197 : lw_tbl[899]? = some (wCode 197) := rfl
set_option maxRecDepth 100000 in
theorem cw_ok : ∀ i, i < NMT → kdT i ≠ 0 → wCode i ∈ GW := by
  intro i hi hk
  match i, hi, hk with
  | 0, _, hk => exact absurd rfl hk
  | 1, _, _ => exact gw_of cw_1 (wCode_good _)
  | 2, _, _ => exact gw_of cw_2 (wCode_good _)
  | 3, _, _ => exact gw_of cw_3 (wCode_good _)
  | 4, _, _ => exact gw_of cw_4 (wCode_good _)
  | 5, _, _ => exact gw_of cw_5 (wCode_good _)
  | 6, _, _ => exact gw_of cw_6 (wCode_good _)
  | 7, _, _ => exact gw_of cw_7 (wCode_good _)
  | 8, _, _ => exact gw_of cw_8 (wCode_good _)
  | 9, _, _ => exact gw_of cw_9 (wCode_good _)
  | 10, _, _ => exact gw_of cw_10 (wCode_good _)
  | 11, _, _ => exact gw_of cw_11 (wCode_good _)
  | 12, _, _ => exact gw_of cw_12 (wCode_good _)
  | 13, _, _ => exact gw_of cw_13 (wCode_good _)
  | 14, _, _ => exact gw_of cw_14 (wCode_good _)
  | 15, _, _ => exact gw_of cw_15 (wCode_good _)
  | 16, _, hk => exact absurd rfl hk
  | 17, _, _ => exact gw_of cw_17 (wCode_good _)
  | 18, _, _ => exact gw_of cw_18 (wCode_good _)
  | 19, _, _ => exact gw_of cw_19 (wCode_good _)
  | 20, _, _ => exact gw_of cw_20 (wCode_good _)
  | 21, _, hk => exact absurd rfl hk
  | 22, _, _ => exact gw_of cw_22 (wCode_good _)
  | 23, _, _ => exact gw_of cw_23 (wCode_good _)
  | 24, _, _ => exact gw_of cw_24 (wCode_good _)
  | 25, _, _ => exact gw_of cw_25 (wCode_good _)
  | 26, _, _ => exact gw_of cw_26 (wCode_good _)
  | 27, _, _ => exact gw_of cw_27 (wCode_good _)
  | 28, _, _ => exact gw_of cw_28 (wCode_good _)
  | 29, _, _ => exact gw_of cw_29 (wCode_good _)
  | 30, _, _ => exact gw_of cw_30 (wCode_good _)
  | 31, _, _ => exact gw_of cw_31 (wCode_good _)
  | 32, _, hk => exact absurd rfl hk
  | 33, _, _ => exact gw_of cw_33 (wCode_good _)
  | 34, _, _ => exact gw_of cw_34 (wCode_good _)
  | 35, _, _ => exact gw_of cw_35 (wCode_good _)
  | 36, _, _ => exact gw_of cw_36 (wCode_good _)
  | 37, _, _ => exact gw_of cw_37 (wCode_good _)
  | 38, _, _ => exact gw_of cw_38 (wCode_good _)
  | 39, _, _ => exact gw_of cw_39 (wCode_good _)
  | 40, _, _ => exact gw_of cw_40 (wCode_good _)
  | 41, _, _ => exact gw_of cw_41 (wCode_good _)
  | 42, _, _ => exact gw_of cw_42 (wCode_good _)
  | 43, _, _ => exact gw_of cw_43 (wCode_good _)
  | 44, _, hk => exact absurd rfl hk
  | 45, _, _ => exact gw_of cw_45 (wCode_good _)
  | 46, _, _ => exact gw_of cw_46 (wCode_good _)
  | 47, _, _ => exact gw_of cw_47 (wCode_good _)
  | 48, _, _ => exact gw_of cw_48 (wCode_good _)
  | 49, _, _ => exact gw_of cw_49 (wCode_good _)
  | 50, _, _ => exact gw_of cw_50 (wCode_good _)
  | 51, _, _ => exact gw_of cw_51 (wCode_good _)
  | 52, _, hk => exact absurd rfl hk
  | 53, _, _ => exact gw_of cw_53 (wCode_good _)
  | 54, _, _ => exact gw_of cw_54 (wCode_good _)
  | 55, _, _ => exact gw_of cw_55 (wCode_good _)
  | 56, _, _ => exact gw_of cw_56 (wCode_good _)
  | 57, _, _ => exact gw_of cw_57 (wCode_good _)
  | 58, _, _ => exact gw_of cw_58 (wCode_good _)
  | 59, _, _ => exact gw_of cw_59 (wCode_good _)
  | 60, _, _ => exact gw_of cw_60 (wCode_good _)
  | 61, _, _ => exact gw_of cw_61 (wCode_good _)
  | 62, _, _ => exact gw_of cw_62 (wCode_good _)
  | 63, _, _ => exact gw_of cw_63 (wCode_good _)
  | 64, _, _ => exact gw_of cw_64 (wCode_good _)
  | 65, _, _ => exact gw_of cw_65 (wCode_good _)
  | 66, _, hk => exact absurd rfl hk
  | 67, _, _ => exact gw_of cw_67 (wCode_good _)
  | 68, _, _ => exact gw_of cw_68 (wCode_good _)
  | 69, _, _ => exact gw_of cw_69 (wCode_good _)
  | 70, _, _ => exact gw_of cw_70 (wCode_good _)
  | 71, _, _ => exact gw_of cw_71 (wCode_good _)
  | 72, _, _ => exact gw_of cw_72 (wCode_good _)
  | 73, _, _ => exact gw_of cw_73 (wCode_good _)
  | 74, _, _ => exact gw_of cw_74 (wCode_good _)
  | 75, _, _ => exact gw_of cw_75 (wCode_good _)
  | 76, _, _ => exact gw_of cw_76 (wCode_good _)
  | 77, _, _ => exact gw_of cw_77 (wCode_good _)
  | 78, _, _ => exact gw_of cw_78 (wCode_good _)
  | 79, _, _ => exact gw_of cw_79 (wCode_good _)
  | 80, _, _ => exact gw_of cw_80 (wCode_good _)
  | 81, _, _ => exact gw_of cw_81 (wCode_good _)
  | 82, _, _ => exact gw_of cw_82 (wCode_good _)
  | 83, _, _ => exact gw_of cw_83 (wCode_good _)
  | 84, _, hk => exact absurd rfl hk
  | 85, _, _ => exact gw_of cw_85 (wCode_good _)
  | 86, _, _ => exact gw_of cw_86 (wCode_good _)
  | 87, _, _ => exact gw_of cw_87 (wCode_good _)
  | 88, _, _ => exact gw_of cw_88 (wCode_good _)
  | 89, _, _ => exact gw_of cw_89 (wCode_good _)
  | 90, _, _ => exact gw_of cw_90 (wCode_good _)
  | 91, _, _ => exact gw_of cw_91 (wCode_good _)
  | 92, _, _ => exact gw_of cw_92 (wCode_good _)
  | 93, _, _ => exact gw_of cw_93 (wCode_good _)
  | 94, _, _ => exact gw_of cw_94 (wCode_good _)
  | 95, _, _ => exact gw_of cw_95 (wCode_good _)
  | 96, _, _ => exact gw_of cw_96 (wCode_good _)
  | 97, _, _ => exact gw_of cw_97 (wCode_good _)
  | 98, _, _ => exact gw_of cw_98 (wCode_good _)
  | 99, _, _ => exact gw_of cw_99 (wCode_good _)
  | 100, _, _ => exact gw_of cw_100 (wCode_good _)
  | 101, _, _ => exact gw_of cw_101 (wCode_good _)
  | 102, _, _ => exact gw_of cw_102 (wCode_good _)
  | 103, _, _ => exact gw_of cw_103 (wCode_good _)
  | 104, _, _ => exact gw_of cw_104 (wCode_good _)
  | 105, _, _ => exact gw_of cw_105 (wCode_good _)
  | 106, _, _ => exact gw_of cw_106 (wCode_good _)
  | 107, _, _ => exact gw_of cw_107 (wCode_good _)
  | 108, _, _ => exact gw_of cw_108 (wCode_good _)
  | 109, _, _ => exact gw_of cw_109 (wCode_good _)
  | 110, _, _ => exact gw_of cw_110 (wCode_good _)
  | 111, _, _ => exact gw_of cw_111 (wCode_good _)
  | 112, _, _ => exact gw_of cw_112 (wCode_good _)
  | 113, _, _ => exact gw_of cw_113 (wCode_good _)
  | 114, _, _ => exact gw_of cw_114 (wCode_good _)
  | 115, _, _ => exact gw_of cw_115 (wCode_good _)
  | 116, _, _ => exact gw_of cw_116 (wCode_good _)
  | 117, _, _ => exact gw_of cw_117 (wCode_good _)
  | 118, _, _ => exact gw_of cw_118 (wCode_good _)
  | 119, _, _ => exact gw_of cw_119 (wCode_good _)
  | 120, _, hk => exact absurd rfl hk
  | 121, _, _ => exact gw_of cw_121 (wCode_good _)
  | 122, _, _ => exact gw_of cw_122 (wCode_good _)
  | 123, _, _ => exact gw_of cw_123 (wCode_good _)
  | 124, _, _ => exact gw_of cw_124 (wCode_good _)
  | 125, _, _ => exact gw_of cw_125 (wCode_good _)
  | 126, _, _ => exact gw_of cw_126 (wCode_good _)
  | 127, _, _ => exact gw_of cw_127 (wCode_good _)
  | 128, _, _ => exact gw_of cw_128 (wCode_good _)
  | 129, _, _ => exact gw_of cw_129 (wCode_good _)
  | 130, _, _ => exact gw_of cw_130 (wCode_good _)
  | 131, _, _ => exact gw_of cw_131 (wCode_good _)
  | 132, _, _ => exact gw_of cw_132 (wCode_good _)
  | 133, _, _ => exact gw_of cw_133 (wCode_good _)
  | 134, _, _ => exact gw_of cw_134 (wCode_good _)
  | 135, _, _ => exact gw_of cw_135 (wCode_good _)
  | 136, _, _ => exact gw_of cw_136 (wCode_good _)
  | 137, _, _ => exact gw_of cw_137 (wCode_good _)
  | 138, _, _ => exact gw_of cw_138 (wCode_good _)
  | 139, _, _ => exact gw_of cw_139 (wCode_good _)
  | 140, _, _ => exact gw_of cw_140 (wCode_good _)
  | 141, _, _ => exact gw_of cw_141 (wCode_good _)
  | 142, _, _ => exact gw_of cw_142 (wCode_good _)
  | 143, _, _ => exact gw_of cw_143 (wCode_good _)
  | 144, _, _ => exact gw_of cw_144 (wCode_good _)
  | 145, _, _ => exact gw_of cw_145 (wCode_good _)
  | 146, _, _ => exact gw_of cw_146 (wCode_good _)
  | 147, _, _ => exact gw_of cw_147 (wCode_good _)
  | 148, _, _ => exact gw_of cw_148 (wCode_good _)
  | 149, _, _ => exact gw_of cw_149 (wCode_good _)
  | 150, _, _ => exact gw_of cw_150 (wCode_good _)
  | 151, _, _ => exact gw_of cw_151 (wCode_good _)
  | 152, _, _ => exact gw_of cw_152 (wCode_good _)
  | 153, _, _ => exact gw_of cw_153 (wCode_good _)
  | 154, _, _ => exact gw_of cw_154 (wCode_good _)
  | 155, _, _ => exact gw_of cw_155 (wCode_good _)
  | 156, _, _ => exact gw_of cw_156 (wCode_good _)
  | 157, _, _ => exact gw_of cw_157 (wCode_good _)
  | 158, _, _ => exact gw_of cw_158 (wCode_good _)
  | 159, _, _ => exact gw_of cw_159 (wCode_good _)
  | 160, _, _ => exact gw_of cw_160 (wCode_good _)
  | 161, _, _ => exact gw_of cw_161 (wCode_good _)
  | 162, _, _ => exact gw_of cw_162 (wCode_good _)
  | 163, _, _ => exact gw_of cw_163 (wCode_good _)
  | 164, _, _ => exact gw_of cw_164 (wCode_good _)
  | 165, _, _ => exact gw_of cw_165 (wCode_good _)
  | 166, _, _ => exact gw_of cw_166 (wCode_good _)
  | 167, _, _ => exact gw_of cw_167 (wCode_good _)
  | 168, _, _ => exact gw_of cw_168 (wCode_good _)
  | 169, _, _ => exact gw_of cw_169 (wCode_good _)
  | 170, _, _ => exact gw_of cw_170 (wCode_good _)
  | 171, _, _ => exact gw_of cw_171 (wCode_good _)
  | 172, _, _ => exact gw_of cw_172 (wCode_good _)
  | 173, _, _ => exact gw_of cw_173 (wCode_good _)
  | 174, _, _ => exact gw_of cw_174 (wCode_good _)
  | 175, _, _ => exact gw_of cw_175 (wCode_good _)
  | 176, _, _ => exact gw_of cw_176 (wCode_good _)
  | 177, _, hk => exact absurd rfl hk
  | 178, _, hk => exact absurd rfl hk
  | 179, _, _ => exact gw_of cw_179 (wCode_good _)
  | 180, _, _ => exact gw_of cw_180 (wCode_good _)
  | 181, _, _ => exact gw_of cw_181 (wCode_good _)
  | 182, _, _ => exact gw_of cw_182 (wCode_good _)
  | 183, _, _ => exact gw_of cw_183 (wCode_good _)
  | 184, _, _ => exact gw_of cw_184 (wCode_good _)
  | 185, _, _ => exact gw_of cw_185 (wCode_good _)
  | 186, _, _ => exact gw_of cw_186 (wCode_good _)
  | 187, _, _ => exact gw_of cw_187 (wCode_good _)
  | 188, _, _ => exact gw_of cw_188 (wCode_good _)
  | 189, _, _ => exact gw_of cw_189 (wCode_good _)
  | 190, _, _ => exact gw_of cw_190 (wCode_good _)
  | 191, _, _ => exact gw_of cw_191 (wCode_good _)
  | 192, _, _ => exact gw_of cw_192 (wCode_good _)
  | 193, _, _ => exact gw_of cw_193 (wCode_good _)
  | 194, _, _ => exact gw_of cw_194 (wCode_good _)
  | 195, _, _ => exact gw_of cw_195 (wCode_good _)
  | 196, _, _ => exact gw_of cw_196 (wCode_good _)
  | 197, _, _ => exact gw_of cw_197 (wCode_good _)
  | 198, _, hk => exact absurd rfl hk
end
section
/-! THE LOGIC, PART 3: each instruction of the small machine is one of the machine's. -/
def dcd (mi : Nat) (ps : List Nat) (j : Nat) (i : Instr) (n : Nat) : Bool := decide (decode (bT mi) (ps.getD j 0) = .ok (i, n))
def nxt (ps : List Nat) (j n : Nat) : Bool := decide (ps.getD (j + 1) 0 = ps.getD j 0 + n)
def tgt (ps : List Nat) (j : Nat) (off : Int) (t : Nat) : Bool := decide (((ps.getD j 0 : Nat) : Int) + off = ((ps.getD t 0 : Nat) : Int))
def thOk (mi : Nat) (ps : List Nat) (j ik a : Nat) : Bool := match TL a with
  | (_, ik', is, ic, _, w) => decide (ik' = ik) && decide (a < NTL) && decide (owT mi = 7) && (match w with
    | false => decide (decode (bT mi) (ps.getD j 0) = .ok (.new ik, 3)) && decide (decode (bT mi) (ps.getD j 0 + 3) = .ok (.dup, 1)) && decide (decode (bT mi) (ps.getD j 0 + 4) = .ok (.ldc is, 2)) && decide (decode (bT mi) (ps.getD j 0 + 6) = .ok (.invokespecial ic, 3)) && decide (decode (bT mi) (ps.getD j 0 + 9) = .ok (.athrow, 1))
    | true => decide (decode (bT mi) (ps.getD j 0) = .ok (.new ik, 3)) && decide (decode (bT mi) (ps.getD j 0 + 3) = .ok (.dup, 1)) && decide (decode (bT mi) (ps.getD j 0 + 4) = .ok (.ldc_w is, 3)) && decide (decode (bT mi) (ps.getD j 0 + 7) = .ok (.invokespecial ic, 3)) && decide (decode (bT mi) (ps.getD j 0 + 10) = .ok (.athrow, 1)))
def swOk (ps : List Nat) (j : Nat) : List Int → List Nat → Bool
  | [], [] => true
  | f :: fs, t :: ts => tgt ps j f t && swOk ps j fs ts
  | _, _ => false
def okE (mi : Nat) (ps : List Nat) (j : Nat) : En → Bool
  | (i, a, v, ts) => match i with
    | .iload_n x => dcd mi ps j i 1 && nxt ps j 1 && decide (x.val = a)
    | .iload x => dcd mi ps j i 2 && nxt ps j 2 && decide (x = a)
    | .lload_n x => dcd mi ps j i 1 && nxt ps j 1 && decide (x.val = a)
    | .lload x => dcd mi ps j i 2 && nxt ps j 2 && decide (x = a)
    | .aload_n x => dcd mi ps j i 1 && nxt ps j 1 && decide (x.val = a)
    | .aload x => dcd mi ps j i 2 && nxt ps j 2 && decide (x = a)
    | .istore_n x => dcd mi ps j i 1 && nxt ps j 1 && decide (x.val = a)
    | .istore x => dcd mi ps j i 2 && nxt ps j 2 && decide (x = a)
    | .astore_n x => dcd mi ps j i 1 && nxt ps j 1 && decide (x.val = a)
    | .astore x => dcd mi ps j i 2 && nxt ps j 2 && decide (x = a)
    | .lstore_n x => dcd mi ps j i 1 && nxt ps j 1 && decide (x.val = a)
    | .lstore x => dcd mi ps j i 2 && nxt ps j 2 && decide (x = a)
    | .iinc x n => dcd mi ps j i 3 && nxt ps j 3 && decide (x = a) && decide (Int32.ofInt n = v)
    | .iconst n => dcd mi ps j i 1 && nxt ps j 1 && decide (Int32.ofInt n = v)
    | .bipush n => dcd mi ps j i 2 && nxt ps j 2 && decide ((Int8.ofInt n).toInt32 = v)
    | .sipush n => dcd mi ps j i 3 && nxt ps j 3 && decide ((Int16.ofInt n).toInt32 = v)
    | .ldc n => dcd mi ps j i 2 && nxt ps j 2 && atP lw_tbl a (.constant (cnm (owT mi)) n v)
    | .ldc2_w n => dcd mi ps j i 3 && nxt ps j 3 && atP lw_tbl a (.constantLong (cnm (owT mi)) n 4294967295)
    | .lconst x => dcd mi ps j i 1 && nxt ps j 1 && decide (x.val = a)
    | .iadd => dcd mi ps j i 1 && nxt ps j 1
    | .isub => dcd mi ps j i 1 && nxt ps j 1
    | .imul => dcd mi ps j i 1 && nxt ps j 1
    | .iand => dcd mi ps j i 1 && nxt ps j 1
    | .idiv => dcd mi ps j i 1 && nxt ps j 1
    | .irem => dcd mi ps j i 1 && nxt ps j 1
    | .ladd => dcd mi ps j i 1 && nxt ps j 1
    | .lsub => dcd mi ps j i 1 && nxt ps j 1
    | .lmul => dcd mi ps j i 1 && nxt ps j 1
    | .land => dcd mi ps j i 1 && nxt ps j 1
    | .lcmp => dcd mi ps j i 1 && nxt ps j 1
    | .lrem => dcd mi ps j i 1 && nxt ps j 1
    | .i2l => dcd mi ps j i 1 && nxt ps j 1
    | .l2i => dcd mi ps j i 1 && nxt ps j 1
    | .dup => dcd mi ps j i 1 && nxt ps j 1
    | .dup2 => dcd mi ps j i 1 && nxt ps j 1
    | .if_icmp cc off => dcd mi ps j i 3 && nxt ps j 3 && tgt ps j off (ts.getD 0 0)
    | .ifCond cc off => dcd mi ps j i 3 && nxt ps j 3 && tgt ps j off (ts.getD 0 0)
    | .goto off => dcd mi ps j i 3 && tgt ps j off (ts.getD 0 0)
    | .tableswitch d lo hi offs => dcd mi ps j i (ps.getD (j + 1) 0 - ps.getD j 0) && decide (lo = 0) && decide (hi = (offs.size : Int) - 1) && tgt ps j d (ts.getD 0 0) && swOk ps j offs.toList ts.tail && decide (offs.size < 1000)
    | .getfield n => dcd mi ps j i 3 && nxt ps j 3 && FL.contains (owT mi, n, ts.getD 0 0, a)
    | .putfield n => dcd mi ps j i 3 && nxt ps j 3 && FL.contains (owT mi, n, ts.getD 0 0, a) && decide ((TT (ts.getD 0 0) a).2.2.2 = false) && decide (tyT (ts.getD 0 0) a = if ts.getD 1 0 = 0 then .int else .boolean)
    | .iaload => dcd mi ps j i 1 && nxt ps j 1
    | .baload => dcd mi ps j i 1 && nxt ps j 1
    | .laload => dcd mi ps j i 1 && nxt ps j 1
    | .iastore => dcd mi ps j i 1 && nxt ps j 1
    | .bastore => dcd mi ps j i 1 && nxt ps j 1
    | .lastore => dcd mi ps j i 1 && nxt ps j 1
    | .arraylength => dcd mi ps j i 1 && nxt ps j 1
    | .invokevirtual n => dcd mi ps j i 3 && nxt ps j 3 && ML.contains (owT mi, n, a) && decide (kdT a = 1) && decide (ts.getD 0 0 = npT a + 1) && decide (a < NMT)
    | .invokestatic n => dcd mi ps j i 3 && nxt ps j 3 && ML.contains (owT mi, n, a) && decide (a < NMT) && (match ts.getD 1 0 with
      | 1 => decide (a = 177)
      | 2 => decide (a = 178)
      | _ => decide (kdT a = 2) && decide (ts.getD 0 0 = npT a))
    | .new n => thOk mi ps j n a
    | .ireturn => dcd mi ps j i 1 && (match a with | 0 => decide (rtT mi = some .int) | _ => decide (rtT mi = some .boolean))
    | .lreturn => dcd mi ps j i 1 && decide (rtT mi = some .long)
    | .return_ => dcd mi ps j i 1 && decide (rtT mi = none)
    | _ => true
/-- the ground on which a body is walked -/
def Am (p : Program) (s : State) (m : MethodId) (args : Array Value) (c : Code) (θ : Th) (A : Nat → Prop) (mi : Nat) (sc : Nat × (Nat → Int32)) : Prop :=
  p.tables.exec = Jvm.exec ∧ c.code = bT mi ∧ c.maxLocals = mlT mi ∧ s.vm.findClass (cnm (owT mi)) = some m.cls ∧ (∀ w ∈ GW, w.before args s = true) ∧ va_K θ.2.1 vwCl (tysOf θ) s ∧ apart θ A ∧
  (sc.1 = 0 ∨ ∃ L, sc.1 = L + 1 ∧ va_X (θ.1 SCR) L sc.2 s s.heap ∧ θ.1 SCR < s.heap.size ∧ ¬ A (θ.1 SCR))
def lh (θ : Th) (la : Array Slot) (nL : Nat) (ls : Lv) : Prop := ls.length = nL ∧ ∃ lv, lv_has la nL lv ∧ ∀ i v, ldv ls i = some v → (i, cv θ v) ∈ lv
/-- from this place on the machine comes to its end with Q -/
def GA (p : Program) (l : Launch) (e : Env) (R : Room) (s : State) (m : MethodId) (args : Array Value) (below : List Frame) (meth : Method) (c : Code) (Q : State → Prop) (θ : Th) (A : Nat → Prop) (mi : Nat) (ps : List Nat) (c0 s0 : Nat) : GG := fun j ls st M o k =>
  ∀ (H : Heap) (locs : List Loc) (la : Array Slot), va_P θ.2.1 vwCl (wcs θ M o) H → va_S A s.heap H locs → lh θ la (mlT mi) ls → W p l e R s m args below meth c H locs (c0 + k) (s0 + 6 * k) Q (F0 m (ps.getD j 0) la (st.map (cv θ)))
theorem lh_at {θ : Th} {la : Array Slot} {nL : Nat} {ls : Lv} (h : lh θ la nL ls) {i : Nat} {v : Value} (hv : ldv ls i = some v) : la[i]? = some (.val (cv θ v)) := by
  obtain ⟨-, lv, h1, h2⟩ := h
  exact h1.2.2 _ (h2 _ _ hv)
theorem lh_set {θ : Th} {la la' : Array Slot} {nL a : Nat} {ls : Lv} {lv : List (Nat × Value)} {x : Value} (h : lh θ la nL ls) (hm : ∀ i v, ldv ls i = some v → (i, cv θ v) ∈ lv)
    (hl : lv_has la' nL ((a, cv θ x) :: lv.filter (fun q => !(q.1 == a) && !(q.1 + 1 == a && q.2.category == 2)))) (hlen : (setv ls a (some x)).length = ls.length) : lh θ la' nL (setv ls a (some x)) := by
  refine ⟨hlen.trans h.1, _, hl, fun i v hv => ?_⟩
  rcases setv_at hv with ⟨e1, e2⟩ | ⟨e1, e2, e3⟩
  · cases e2; subst e1; exact List.mem_cons_self
  · refine List.mem_cons_of_mem _ (List.mem_filter.mpr ⟨hm _ _ e2, ?_⟩)
    have hc : (cv θ v).category = v.category := by cases v <;> rfl
    simp only [hc, Bool.and_eq_true, Bool.not_eq_true', beq_eq_false_iff_ne, ne_eq, Bool.and_eq_false_imp, beq_iff_eq]
    exact ⟨e1, fun q1 q2 => e3 ⟨q1, q2⟩⟩
theorem lh_set2 {θ : Th} {la la' : Array Slot} {nL a : Nat} {ls : Lv} {lv : List (Nat × Value)} {x : Value} (h : lh θ la nL ls) (hm : ∀ i v, ldv ls i = some v → (i, cv θ v) ∈ lv)
    (hl : lv_has la' nL ((a, cv θ x) :: lv.filter (fun q => !(q.1 == a) && (!(q.1 == a + 1) && !(q.1 + 1 == a && q.2.category == 2))))) (hlen : (clv (setv ls a (some x)) (a + 1)).length = ls.length) : lh θ la' nL (clv (setv ls a (some x)) (a + 1)) := by
  refine ⟨hlen.trans h.1, _, hl, fun i v hv => ?_⟩
  obtain ⟨e0, hv⟩ := clv_at hv
  rcases setv_at hv with ⟨e1, e2⟩ | ⟨e1, e2, e3⟩
  · cases e2; subst e1; exact List.mem_cons_self
  · refine List.mem_cons_of_mem _ (List.mem_filter.mpr ⟨hm _ _ e2, ?_⟩)
    have hc : (cv θ v).category = v.category := by cases v <;> rfl
    simp only [hc, Bool.and_eq_true, Bool.not_eq_true', beq_eq_false_iff_ne, ne_eq, Bool.and_eq_false_imp, beq_iff_eq]
    exact ⟨e1, e0, fun q1 q2 => e3 ⟨q1, q2⟩⟩
theorem clT_kinds : ∀ i, i < NO → clT i < 9 ∨ clT i = 9 ∨ clT i = 10 ∨ clT i = 11 := by decide +kernel
theorem own_ok : ∀ ci, ci < 9 → ∀ k, k < nfT ci → (TT ci k).1 = cnm ci := by decide +kernel
theorem wc_out {θ : Th} {M : Mem} {o o' : Ou} {i : Nat} (hi : i < NO) (h : ¬ clT i = 11) : wc θ M o' i = wc θ M o i := by
  rcases clT_kinds i hi with q | q | q | q
  · rw [wc_obj q, wc_obj q]
  · rw [wc_int q, wc_int q]
  · rw [wc_bool q, wc_bool q]
  · exact absurd q h
theorem sw_e {G : Nat → Prop} {x : Int32} {d : Nat} {ps : List Nat} {j : Nat} : ∀ {fs : List Int} {ts : List Nat} {b : Nat}, swOk ps j fs ts = true → b + fs.length < 1000 → swK G x d b ts →
    (∃ (i : Nat) (off : Int) (t : Nat), fs[i]? = some off ∧ x = nI (b + i) ∧ ((ps.getD j 0 : Nat) : Int) + off = ((ps.getD t 0 : Nat) : Int) ∧ G t) ∨ ((∀ i, i < fs.length → ¬ x = nI (b + i)) ∧ G d) := by
  intro fs
  induction fs with
  | nil =>
    intro ts b h1 h2 h3
    cases ts with
    | nil => exact Or.inr ⟨fun i hi => by simp at hi, h3⟩
    | cons t ts => simp [swOk] at h1
  | cons f fs ih =>
    intro ts b h1 h2 h3
    cases ts with
    | nil => simp [swOk] at h1
    | cons t ts =>
      simp only [swOk, Bool.and_eq_true] at h1
      obtain ⟨h3, h4⟩ := h3
      by_cases e : x = nI b
      · exact Or.inl ⟨0, f, t, rfl, by simpa using e, of_decide_eq_true h1.1, h3 e⟩
      · rcases ih h1.2 (by simp at h2; omega) (h4 e) with ⟨i, off, t', e1, e2, e3, e4⟩ | ⟨e1, e2⟩
        · exact Or.inl ⟨i + 1, off, t', by simpa using e1, by rw [e2]; congr 1; omega, e3, e4⟩
        · refine Or.inr ⟨fun i hi => ?_, e2⟩
          cases i with
          | zero => simpa using e
          | succ i => rw [show b + (i + 1) = b + 1 + i by omega]; exact e1 i (by simpa using hi)
section SND
variable {p : Program} {l : Launch} {e : Env} {R : Room} {s : State} {m : MethodId} {args : Array Value} {below : List Frame} {meth : Method} {c : Code} {Q : State → Prop}
variable {θ : Th} {A : Nat → Prop} {mi c0 s0 : Nat} {ps : List Nat} {sc : Nat × (Nat → Int32)}
variable {ret : Option Value → Mem → Ou → Nat → Prop} {tho : String → Mem → Ou → Nat → Prop} {thr : String → Lv → Mem → Ou → Nat → Prop}
  {Cl : Nat → Nat → List Value → Mem → Ou → (Option Value → Mem → Ou → Nat → Prop) → (String → Mem → Ou → Nat → Prop) → Prop}
theorem s_iload_n {x : Fin 4} (hA : Am p s m args c θ A mi sc) {a : Nat} {v : Int32} {ts : List Nat} {j : Nat} (hk : okE mi ps j (.iload_n x, a, v, ts) = true) {ls : Lv} {st : List Value} {M : Mem} {o : Ou} {k : Nat} {nx : NX}
    (h : step (GA p l e R s m args below meth c Q θ A mi ps c0 s0) ret tho thr Cl sc (.iload_n x) a v ts ls st M o k nx) (hn : ∀ ls st M o k, nx ls st M o k → GA p l e R s m args below meth c Q θ A mi ps c0 s0 (j + 1) ls st M o k) : GA p l e R s m args below meth c Q θ A mi ps c0 s0 j ls st M o k := by
  obtain ⟨hx, hb, hml, hown, hts, hK, hap, hsc⟩ := hA
  simp only [okE, Bool.and_eq_true] at hk
  obtain ⟨⟨hd, hn1⟩, he⟩ := hk
  obtain ⟨y, hy, h⟩ := ldI_e h
  intro H locs la hP hS hl
  have w := hn _ _ _ _ _ h H locs la hP hS hl
  rw [of_decide_eq_true hn1] at w
  exact lv_iload_n hx hb (of_decide_eq_true hd) (of_decide_eq_true he) (lh_at hl hy) w
theorem s_iload {x : Nat} (hA : Am p s m args c θ A mi sc) {a : Nat} {v : Int32} {ts : List Nat} {j : Nat} (hk : okE mi ps j (.iload x, a, v, ts) = true) {ls : Lv} {st : List Value} {M : Mem} {o : Ou} {k : Nat} {nx : NX}
    (h : step (GA p l e R s m args below meth c Q θ A mi ps c0 s0) ret tho thr Cl sc (.iload x) a v ts ls st M o k nx) (hn : ∀ ls st M o k, nx ls st M o k → GA p l e R s m args below meth c Q θ A mi ps c0 s0 (j + 1) ls st M o k) : GA p l e R s m args below meth c Q θ A mi ps c0 s0 j ls st M o k := by
  obtain ⟨hx, hb, hml, hown, hts, hK, hap, hsc⟩ := hA
  simp only [okE, Bool.and_eq_true] at hk
  obtain ⟨⟨hd, hn1⟩, he⟩ := hk
  cases of_decide_eq_true he
  obtain ⟨y, hy, h⟩ := ldI_e h
  intro H locs la hP hS hl
  have w := hn _ _ _ _ _ h H locs la hP hS hl
  rw [of_decide_eq_true hn1] at w
  exact lv_iload hx hb (of_decide_eq_true hd) (lh_at hl hy) w
theorem s_lload_n {x : Fin 4} (hA : Am p s m args c θ A mi sc) {a : Nat} {v : Int32} {ts : List Nat} {j : Nat} (hk : okE mi ps j (.lload_n x, a, v, ts) = true) {ls : Lv} {st : List Value} {M : Mem} {o : Ou} {k : Nat} {nx : NX}
    (h : step (GA p l e R s m args below meth c Q θ A mi ps c0 s0) ret tho thr Cl sc (.lload_n x) a v ts ls st M o k nx) (hn : ∀ ls st M o k, nx ls st M o k → GA p l e R s m args below meth c Q θ A mi ps c0 s0 (j + 1) ls st M o k) : GA p l e R s m args below meth c Q θ A mi ps c0 s0 j ls st M o k := by
  obtain ⟨hx, hb, hml, hown, hts, hK, hap, hsc⟩ := hA
  simp only [okE, Bool.and_eq_true] at hk
  obtain ⟨⟨hd, hn1⟩, he⟩ := hk
  obtain ⟨y, hy, h⟩ := ldL_e h
  intro H locs la hP hS hl
  have w := hn _ _ _ _ _ h H locs la hP hS hl
  rw [of_decide_eq_true hn1] at w
  exact lv_lload_n hx hb (of_decide_eq_true hd) (of_decide_eq_true he) (lh_at hl hy) w
theorem s_lload {x : Nat} (hA : Am p s m args c θ A mi sc) {a : Nat} {v : Int32} {ts : List Nat} {j : Nat} (hk : okE mi ps j (.lload x, a, v, ts) = true) {ls : Lv} {st : List Value} {M : Mem} {o : Ou} {k : Nat} {nx : NX}
    (h : step (GA p l e R s m args below meth c Q θ A mi ps c0 s0) ret tho thr Cl sc (.lload x) a v ts ls st M o k nx) (hn : ∀ ls st M o k, nx ls st M o k → GA p l e R s m args below meth c Q θ A mi ps c0 s0 (j + 1) ls st M o k) : GA p l e R s m args below meth c Q θ A mi ps c0 s0 j ls st M o k := by
  obtain ⟨hx, hb, hml, hown, hts, hK, hap, hsc⟩ := hA
  simp only [okE, Bool.and_eq_true] at hk
  obtain ⟨⟨hd, hn1⟩, he⟩ := hk
  cases of_decide_eq_true he
  obtain ⟨y, hy, h⟩ := ldL_e h
  intro H locs la hP hS hl
  have w := hn _ _ _ _ _ h H locs la hP hS hl
  rw [of_decide_eq_true hn1] at w
  exact lv_lload hx hb (of_decide_eq_true hd) (lh_at hl hy) w
theorem s_aload_n {x : Fin 4} (hA : Am p s m args c θ A mi sc) {a : Nat} {v : Int32} {ts : List Nat} {j : Nat} (hk : okE mi ps j (.aload_n x, a, v, ts) = true) {ls : Lv} {st : List Value} {M : Mem} {o : Ou} {k : Nat} {nx : NX}
    (h : step (GA p l e R s m args below meth c Q θ A mi ps c0 s0) ret tho thr Cl sc (.aload_n x) a v ts ls st M o k nx) (hn : ∀ ls st M o k, nx ls st M o k → GA p l e R s m args below meth c Q θ A mi ps c0 s0 (j + 1) ls st M o k) : GA p l e R s m args below meth c Q θ A mi ps c0 s0 j ls st M o k := by
  obtain ⟨hx, hb, hml, hown, hts, hK, hap, hsc⟩ := hA
  simp only [okE, Bool.and_eq_true] at hk
  obtain ⟨⟨hd, hn1⟩, he⟩ := hk
  obtain ⟨y, hy, h⟩ := ldR_e h
  intro H locs la hP hS hl
  have w := hn _ _ _ _ _ h H locs la hP hS hl
  rw [of_decide_eq_true hn1] at w
  exact lv_aload_n hx hb (of_decide_eq_true hd) (of_decide_eq_true he) (lh_at hl hy) w
theorem s_aload {x : Nat} (hA : Am p s m args c θ A mi sc) {a : Nat} {v : Int32} {ts : List Nat} {j : Nat} (hk : okE mi ps j (.aload x, a, v, ts) = true) {ls : Lv} {st : List Value} {M : Mem} {o : Ou} {k : Nat} {nx : NX}
    (h : step (GA p l e R s m args below meth c Q θ A mi ps c0 s0) ret tho thr Cl sc (.aload x) a v ts ls st M o k nx) (hn : ∀ ls st M o k, nx ls st M o k → GA p l e R s m args below meth c Q θ A mi ps c0 s0 (j + 1) ls st M o k) : GA p l e R s m args below meth c Q θ A mi ps c0 s0 j ls st M o k := by
  obtain ⟨hx, hb, hml, hown, hts, hK, hap, hsc⟩ := hA
  simp only [okE, Bool.and_eq_true] at hk
  obtain ⟨⟨hd, hn1⟩, he⟩ := hk
  cases of_decide_eq_true he
  obtain ⟨y, hy, h⟩ := ldR_e h
  intro H locs la hP hS hl
  have w := hn _ _ _ _ _ h H locs la hP hS hl
  rw [of_decide_eq_true hn1] at w
  exact lv_aload hx hb (of_decide_eq_true hd) (lh_at hl hy) w
theorem s_istore_n {x : Fin 4} (hA : Am p s m args c θ A mi sc) {a : Nat} {v : Int32} {ts : List Nat} {j : Nat} (hk : okE mi ps j (.istore_n x, a, v, ts) = true) {ls : Lv} {st : List Value} {M : Mem} {o : Ou} {k : Nat} {nx : NX}
    (h : step (GA p l e R s m args below meth c Q θ A mi ps c0 s0) ret tho thr Cl sc (.istore_n x) a v ts ls st M o k nx) (hn : ∀ ls st M o k, nx ls st M o k → GA p l e R s m args below meth c Q θ A mi ps c0 s0 (j + 1) ls st M o k) : GA p l e R s m args below meth c Q θ A mi ps c0 s0 j ls st M o k := by
  obtain ⟨hx, hb, hml, hown, hts, hK, hap, hsc⟩ := hA
  simp only [okE, Bool.and_eq_true] at hk
  obtain ⟨⟨hd, hn1⟩, he⟩ := hk
  obtain ⟨y, st, rfl, h⟩ := popI_e h
  obtain ⟨h, h1, h2⟩ := stK_e h
  intro H locs la hP hS hl
  obtain ⟨hlen, lv, hv, hm⟩ := id hl
  exact lv_istore_n hx hb (of_decide_eq_true hd) (of_decide_eq_true he) hv (by omega) rfl (fun ls' hl' => by
    have w := hn _ _ _ _ _ h H locs ls' hP hS (lh_set hl hm hl' h2)
    rw [of_decide_eq_true hn1] at w
    exact w)
theorem s_istore {x : Nat} (hA : Am p s m args c θ A mi sc) {a : Nat} {v : Int32} {ts : List Nat} {j : Nat} (hk : okE mi ps j (.istore x, a, v, ts) = true) {ls : Lv} {st : List Value} {M : Mem} {o : Ou} {k : Nat} {nx : NX}
    (h : step (GA p l e R s m args below meth c Q θ A mi ps c0 s0) ret tho thr Cl sc (.istore x) a v ts ls st M o k nx) (hn : ∀ ls st M o k, nx ls st M o k → GA p l e R s m args below meth c Q θ A mi ps c0 s0 (j + 1) ls st M o k) : GA p l e R s m args below meth c Q θ A mi ps c0 s0 j ls st M o k := by
  obtain ⟨hx, hb, hml, hown, hts, hK, hap, hsc⟩ := hA
  simp only [okE, Bool.and_eq_true] at hk
  obtain ⟨⟨hd, hn1⟩, he⟩ := hk
  cases of_decide_eq_true he
  obtain ⟨y, st, rfl, h⟩ := popI_e h
  obtain ⟨h, h1, h2⟩ := stK_e h
  intro H locs la hP hS hl
  obtain ⟨hlen, lv, hv, hm⟩ := id hl
  exact lv_istore hx hb (of_decide_eq_true hd) hv (by omega) rfl (fun ls' hl' => by
    have w := hn _ _ _ _ _ h H locs ls' hP hS (lh_set hl hm hl' h2)
    rw [of_decide_eq_true hn1] at w
    exact w)
theorem s_astore_n {x : Fin 4} (hA : Am p s m args c θ A mi sc) {a : Nat} {v : Int32} {ts : List Nat} {j : Nat} (hk : okE mi ps j (.astore_n x, a, v, ts) = true) {ls : Lv} {st : List Value} {M : Mem} {o : Ou} {k : Nat} {nx : NX}
    (h : step (GA p l e R s m args below meth c Q θ A mi ps c0 s0) ret tho thr Cl sc (.astore_n x) a v ts ls st M o k nx) (hn : ∀ ls st M o k, nx ls st M o k → GA p l e R s m args below meth c Q θ A mi ps c0 s0 (j + 1) ls st M o k) : GA p l e R s m args below meth c Q θ A mi ps c0 s0 j ls st M o k := by
  obtain ⟨hx, hb, hml, hown, hts, hK, hap, hsc⟩ := hA
  simp only [okE, Bool.and_eq_true] at hk
  obtain ⟨⟨hd, hn1⟩, he⟩ := hk
  obtain ⟨y, st, rfl, h⟩ := popR_e h
  obtain ⟨h, h1, h2⟩ := stK_e h
  intro H locs la hP hS hl
  obtain ⟨hlen, lv, hv, hm⟩ := id hl
  exact lv_astore_n hx hb (of_decide_eq_true hd) (of_decide_eq_true he) hv (by omega) rfl (fun ls' hl' => by
    have w := hn _ _ _ _ _ h H locs ls' hP hS (lh_set hl hm hl' h2)
    rw [of_decide_eq_true hn1] at w
    exact w)
theorem s_astore {x : Nat} (hA : Am p s m args c θ A mi sc) {a : Nat} {v : Int32} {ts : List Nat} {j : Nat} (hk : okE mi ps j (.astore x, a, v, ts) = true) {ls : Lv} {st : List Value} {M : Mem} {o : Ou} {k : Nat} {nx : NX}
    (h : step (GA p l e R s m args below meth c Q θ A mi ps c0 s0) ret tho thr Cl sc (.astore x) a v ts ls st M o k nx) (hn : ∀ ls st M o k, nx ls st M o k → GA p l e R s m args below meth c Q θ A mi ps c0 s0 (j + 1) ls st M o k) : GA p l e R s m args below meth c Q θ A mi ps c0 s0 j ls st M o k := by
  obtain ⟨hx, hb, hml, hown, hts, hK, hap, hsc⟩ := hA
  simp only [okE, Bool.and_eq_true] at hk
  obtain ⟨⟨hd, hn1⟩, he⟩ := hk
  cases of_decide_eq_true he
  obtain ⟨y, st, rfl, h⟩ := popR_e h
  obtain ⟨h, h1, h2⟩ := stK_e h
  intro H locs la hP hS hl
  obtain ⟨hlen, lv, hv, hm⟩ := id hl
  exact lv_astore hx hb (of_decide_eq_true hd) hv (by omega) rfl (fun ls' hl' => by
    have w := hn _ _ _ _ _ h H locs ls' hP hS (lh_set hl hm hl' h2)
    rw [of_decide_eq_true hn1] at w
    exact w)
theorem s_lstore_n {x : Fin 4} (hA : Am p s m args c θ A mi sc) {a : Nat} {v : Int32} {ts : List Nat} {j : Nat} (hk : okE mi ps j (.lstore_n x, a, v, ts) = true) {ls : Lv} {st : List Value} {M : Mem} {o : Ou} {k : Nat} {nx : NX}
    (h : step (GA p l e R s m args below meth c Q θ A mi ps c0 s0) ret tho thr Cl sc (.lstore_n x) a v ts ls st M o k nx) (hn : ∀ ls st M o k, nx ls st M o k → GA p l e R s m args below meth c Q θ A mi ps c0 s0 (j + 1) ls st M o k) : GA p l e R s m args below meth c Q θ A mi ps c0 s0 j ls st M o k := by
  obtain ⟨hx, hb, hml, hown, hts, hK, hap, hsc⟩ := hA
  simp only [okE, Bool.and_eq_true] at hk
  obtain ⟨⟨hd, hn1⟩, he⟩ := hk
  obtain ⟨y, st, rfl, h⟩ := popL_e h
  obtain ⟨h, h1, h2⟩ := stK_e h
  obtain ⟨h, h3, h4⟩ := clK_e h
  intro H locs la hP hS hl
  obtain ⟨hlen, lv, hv, hm⟩ := id hl
  exact lv_lstore_n hx hb (of_decide_eq_true hd) (of_decide_eq_true he) hv (by omega) rfl (fun ls' hl' => by
    have w := hn _ _ _ _ _ h H locs ls' hP hS (lh_set2 hl hm hl' (by omega))
    rw [of_decide_eq_true hn1] at w
    exact w)
theorem s_lstore {x : Nat} (hA : Am p s m args c θ A mi sc) {a : Nat} {v : Int32} {ts : List Nat} {j : Nat} (hk : okE mi ps j (.lstore x, a, v, ts) = true) {ls : Lv} {st : List Value} {M : Mem} {o : Ou} {k : Nat} {nx : NX}
    (h : step (GA p l e R s m args below meth c Q θ A mi ps c0 s0) ret tho thr Cl sc (.lstore x) a v ts ls st M o k nx) (hn : ∀ ls st M o k, nx ls st M o k → GA p l e R s m args below meth c Q θ A mi ps c0 s0 (j + 1) ls st M o k) : GA p l e R s m args below meth c Q θ A mi ps c0 s0 j ls st M o k := by
  obtain ⟨hx, hb, hml, hown, hts, hK, hap, hsc⟩ := hA
  simp only [okE, Bool.and_eq_true] at hk
  obtain ⟨⟨hd, hn1⟩, he⟩ := hk
  cases of_decide_eq_true he
  obtain ⟨y, st, rfl, h⟩ := popL_e h
  obtain ⟨h, h1, h2⟩ := stK_e h
  obtain ⟨h, h3, h4⟩ := clK_e h
  intro H locs la hP hS hl
  obtain ⟨hlen, lv, hv, hm⟩ := id hl
  exact lv_lstore hx hb (of_decide_eq_true hd) hv (by omega) rfl (fun ls' hl' => by
    have w := hn _ _ _ _ _ h H locs ls' hP hS (lh_set2 hl hm hl' (by omega))
    rw [of_decide_eq_true hn1] at w
    exact w)
theorem s_iinc {x : Nat} {n : Int} (hA : Am p s m args c θ A mi sc) {a : Nat} {v : Int32} {ts : List Nat} {j : Nat} (hk : okE mi ps j (.iinc x n, a, v, ts) = true) {ls : Lv} {st : List Value} {M : Mem} {o : Ou} {k : Nat} {nx : NX}
    (h : step (GA p l e R s m args below meth c Q θ A mi ps c0 s0) ret tho thr Cl sc (.iinc x n) a v ts ls st M o k nx) (hn : ∀ ls st M o k, nx ls st M o k → GA p l e R s m args below meth c Q θ A mi ps c0 s0 (j + 1) ls st M o k) : GA p l e R s m args below meth c Q θ A mi ps c0 s0 j ls st M o k := by
  obtain ⟨hx, hb, hml, hown, hts, hK, hap, hsc⟩ := hA
  simp only [okE, Bool.and_eq_true] at hk
  obtain ⟨⟨⟨hd, hn1⟩, he⟩, hv0⟩ := hk
  cases of_decide_eq_true he
  obtain ⟨y, hy, h⟩ := ldI_e h
  obtain ⟨h, h1, h2⟩ := stK_e h
  intro H locs la hP hS hl
  obtain ⟨hlen, lv, hv, hm⟩ := id hl
  obtain ⟨q, hq⟩ := List.getElem?_of_mem (hm _ _ hy)
  exact lv_iinc (x := y) hx hb (of_decide_eq_true hd) hv (k := q) hq (by rw [of_decide_eq_true hv0]) (by omega) rfl (fun ls' hl' => by
    have w := hn _ _ _ _ _ h H locs ls' hP hS (lh_set hl hm hl' h2)
    rw [of_decide_eq_true hn1] at w
    exact w)
theorem s_iconst {n : Int} (hA : Am p s m args c θ A mi sc) {a : Nat} {v : Int32} {ts : List Nat} {j : Nat} (hk : okE mi ps j (.iconst n, a, v, ts) = true) {ls : Lv} {st : List Value} {M : Mem} {o : Ou} {k : Nat} {nx : NX}
    (h : step (GA p l e R s m args below meth c Q θ A mi ps c0 s0) ret tho thr Cl sc (.iconst n) a v ts ls st M o k nx) (hn : ∀ ls st M o k, nx ls st M o k → GA p l e R s m args below meth c Q θ A mi ps c0 s0 (j + 1) ls st M o k) : GA p l e R s m args below meth c Q θ A mi ps c0 s0 j ls st M o k := by
  obtain ⟨hx, hb, hml, hown, hts, hK, hap, hsc⟩ := hA
  simp only [okE, Bool.and_eq_true] at hk
  obtain ⟨⟨hd, hn1⟩, he⟩ := hk
  intro H locs la hP hS hl
  have w := hn _ _ _ _ _ h H locs la hP hS hl
  rw [of_decide_eq_true hn1] at w
  exact lv_iconst hx hb (of_decide_eq_true hd) (of_decide_eq_true he) w
theorem s_bipush {n : Int} (hA : Am p s m args c θ A mi sc) {a : Nat} {v : Int32} {ts : List Nat} {j : Nat} (hk : okE mi ps j (.bipush n, a, v, ts) = true) {ls : Lv} {st : List Value} {M : Mem} {o : Ou} {k : Nat} {nx : NX}
    (h : step (GA p l e R s m args below meth c Q θ A mi ps c0 s0) ret tho thr Cl sc (.bipush n) a v ts ls st M o k nx) (hn : ∀ ls st M o k, nx ls st M o k → GA p l e R s m args below meth c Q θ A mi ps c0 s0 (j + 1) ls st M o k) : GA p l e R s m args below meth c Q θ A mi ps c0 s0 j ls st M o k := by
  obtain ⟨hx, hb, hml, hown, hts, hK, hap, hsc⟩ := hA
  simp only [okE, Bool.and_eq_true] at hk
  obtain ⟨⟨hd, hn1⟩, he⟩ := hk
  intro H locs la hP hS hl
  have w := hn _ _ _ _ _ h H locs la hP hS hl
  rw [of_decide_eq_true hn1] at w
  exact lv_bipush hx hb (of_decide_eq_true hd) (of_decide_eq_true he) w
theorem s_sipush {n : Int} (hA : Am p s m args c θ A mi sc) {a : Nat} {v : Int32} {ts : List Nat} {j : Nat} (hk : okE mi ps j (.sipush n, a, v, ts) = true) {ls : Lv} {st : List Value} {M : Mem} {o : Ou} {k : Nat} {nx : NX}
    (h : step (GA p l e R s m args below meth c Q θ A mi ps c0 s0) ret tho thr Cl sc (.sipush n) a v ts ls st M o k nx) (hn : ∀ ls st M o k, nx ls st M o k → GA p l e R s m args below meth c Q θ A mi ps c0 s0 (j + 1) ls st M o k) : GA p l e R s m args below meth c Q θ A mi ps c0 s0 j ls st M o k := by
  obtain ⟨hx, hb, hml, hown, hts, hK, hap, hsc⟩ := hA
  simp only [okE, Bool.and_eq_true] at hk
  obtain ⟨⟨hd, hn1⟩, he⟩ := hk
  intro H locs la hP hS hl
  have w := hn _ _ _ _ _ h H locs la hP hS hl
  rw [of_decide_eq_true hn1] at w
  exact lv_sipush hx hb (of_decide_eq_true hd) (of_decide_eq_true he) w
theorem s_ldc {n : Nat} (hA : Am p s m args c θ A mi sc) {a : Nat} {v : Int32} {ts : List Nat} {j : Nat} (hk : okE mi ps j (.ldc n, a, v, ts) = true) {ls : Lv} {st : List Value} {M : Mem} {o : Ou} {k : Nat} {nx : NX}
    (h : step (GA p l e R s m args below meth c Q θ A mi ps c0 s0) ret tho thr Cl sc (.ldc n) a v ts ls st M o k nx) (hn : ∀ ls st M o k, nx ls st M o k → GA p l e R s m args below meth c Q θ A mi ps c0 s0 (j + 1) ls st M o k) : GA p l e R s m args below meth c Q θ A mi ps c0 s0 j ls st M o k := by
  obtain ⟨hx, hb, hml, hown, hts, hK, hap, hsc⟩ := hA
  simp only [okE, Bool.and_eq_true] at hk
  obtain ⟨⟨hd, hn1⟩, he⟩ := hk
  intro H locs la hP hS hl
  have w := hn _ _ _ _ _ h H locs la hP hS hl
  rw [of_decide_eq_true hn1] at w
  exact lv_ldc hx hb hown (hts _ (gw_of (of_decide_eq_true he) rfl)) (of_decide_eq_true hd) w
theorem s_ldc2_w {n : Nat} (hA : Am p s m args c θ A mi sc) {a : Nat} {v : Int32} {ts : List Nat} {j : Nat} (hk : okE mi ps j (.ldc2_w n, a, v, ts) = true) {ls : Lv} {st : List Value} {M : Mem} {o : Ou} {k : Nat} {nx : NX}
    (h : step (GA p l e R s m args below meth c Q θ A mi ps c0 s0) ret tho thr Cl sc (.ldc2_w n) a v ts ls st M o k nx) (hn : ∀ ls st M o k, nx ls st M o k → GA p l e R s m args below meth c Q θ A mi ps c0 s0 (j + 1) ls st M o k) : GA p l e R s m args below meth c Q θ A mi ps c0 s0 j ls st M o k := by
  obtain ⟨hx, hb, hml, hown, hts, hK, hap, hsc⟩ := hA
  simp only [okE, Bool.and_eq_true] at hk
  obtain ⟨⟨hd, hn1⟩, he⟩ := hk
  intro H locs la hP hS hl
  have w := hn _ _ _ _ _ h H locs la hP hS hl
  rw [of_decide_eq_true hn1] at w
  exact lv_ldc2 hx hb hown (hts _ (gw_of (of_decide_eq_true he) rfl)) (of_decide_eq_true hd) w
theorem s_lconst {x : Fin 2} (hA : Am p s m args c θ A mi sc) {a : Nat} {v : Int32} {ts : List Nat} {j : Nat} (hk : okE mi ps j (.lconst x, a, v, ts) = true) {ls : Lv} {st : List Value} {M : Mem} {o : Ou} {k : Nat} {nx : NX}
    (h : step (GA p l e R s m args below meth c Q θ A mi ps c0 s0) ret tho thr Cl sc (.lconst x) a v ts ls st M o k nx) (hn : ∀ ls st M o k, nx ls st M o k → GA p l e R s m args below meth c Q θ A mi ps c0 s0 (j + 1) ls st M o k) : GA p l e R s m args below meth c Q θ A mi ps c0 s0 j ls st M o k := by
  obtain ⟨hx, hb, hml, hown, hts, hK, hap, hsc⟩ := hA
  simp only [okE, Bool.and_eq_true] at hk
  obtain ⟨⟨hd, hn1⟩, he⟩ := hk
  have he := of_decide_eq_true he
  intro H locs la hP hS hl
  match x, hd, he, h with
  | 0, hd, he, h =>
    cases he
    have w := hn _ _ _ _ _ h H locs la hP hS hl
    rw [of_decide_eq_true hn1] at w
    exact lv_lconst hx hb (of_decide_eq_true hd) rfl w
  | 1, hd, he, h =>
    cases he
    have w := hn _ _ _ _ _ h H locs la hP hS hl
    rw [of_decide_eq_true hn1] at w
    exact lv_lconst hx hb (of_decide_eq_true hd) rfl w
theorem s_iadd (hA : Am p s m args c θ A mi sc) {a : Nat} {v : Int32} {ts : List Nat} {j : Nat} (hk : okE mi ps j (.iadd, a, v, ts) = true) {ls : Lv} {st : List Value} {M : Mem} {o : Ou} {k : Nat} {nx : NX}
    (h : step (GA p l e R s m args below meth c Q θ A mi ps c0 s0) ret tho thr Cl sc (.iadd) a v ts ls st M o k nx) (hn : ∀ ls st M o k, nx ls st M o k → GA p l e R s m args below meth c Q θ A mi ps c0 s0 (j + 1) ls st M o k) : GA p l e R s m args below meth c Q θ A mi ps c0 s0 j ls st M o k := by
  obtain ⟨hx, hb, hml, hown, hts, hK, hap, hsc⟩ := hA
  simp only [okE, Bool.and_eq_true] at hk
  obtain ⟨hd, hn1⟩ := hk
  obtain ⟨y, st, rfl, h⟩ := popI_e h
  obtain ⟨x, st, rfl, h⟩ := popI_e h
  intro H locs la hP hS hl
  have w := hn _ _ _ _ _ h H locs la hP hS hl
  rw [of_decide_eq_true hn1] at w
  exact lv_iadd hx hb (of_decide_eq_true hd) w
theorem s_isub (hA : Am p s m args c θ A mi sc) {a : Nat} {v : Int32} {ts : List Nat} {j : Nat} (hk : okE mi ps j (.isub, a, v, ts) = true) {ls : Lv} {st : List Value} {M : Mem} {o : Ou} {k : Nat} {nx : NX}
    (h : step (GA p l e R s m args below meth c Q θ A mi ps c0 s0) ret tho thr Cl sc (.isub) a v ts ls st M o k nx) (hn : ∀ ls st M o k, nx ls st M o k → GA p l e R s m args below meth c Q θ A mi ps c0 s0 (j + 1) ls st M o k) : GA p l e R s m args below meth c Q θ A mi ps c0 s0 j ls st M o k := by
  obtain ⟨hx, hb, hml, hown, hts, hK, hap, hsc⟩ := hA
  simp only [okE, Bool.and_eq_true] at hk
  obtain ⟨hd, hn1⟩ := hk
  obtain ⟨y, st, rfl, h⟩ := popI_e h
  obtain ⟨x, st, rfl, h⟩ := popI_e h
  intro H locs la hP hS hl
  have w := hn _ _ _ _ _ h H locs la hP hS hl
  rw [of_decide_eq_true hn1] at w
  exact lv_isub hx hb (of_decide_eq_true hd) w
theorem s_imul (hA : Am p s m args c θ A mi sc) {a : Nat} {v : Int32} {ts : List Nat} {j : Nat} (hk : okE mi ps j (.imul, a, v, ts) = true) {ls : Lv} {st : List Value} {M : Mem} {o : Ou} {k : Nat} {nx : NX}
    (h : step (GA p l e R s m args below meth c Q θ A mi ps c0 s0) ret tho thr Cl sc (.imul) a v ts ls st M o k nx) (hn : ∀ ls st M o k, nx ls st M o k → GA p l e R s m args below meth c Q θ A mi ps c0 s0 (j + 1) ls st M o k) : GA p l e R s m args below meth c Q θ A mi ps c0 s0 j ls st M o k := by
  obtain ⟨hx, hb, hml, hown, hts, hK, hap, hsc⟩ := hA
  simp only [okE, Bool.and_eq_true] at hk
  obtain ⟨hd, hn1⟩ := hk
  obtain ⟨y, st, rfl, h⟩ := popI_e h
  obtain ⟨x, st, rfl, h⟩ := popI_e h
  intro H locs la hP hS hl
  have w := hn _ _ _ _ _ h H locs la hP hS hl
  rw [of_decide_eq_true hn1] at w
  exact lv_imul hx hb (of_decide_eq_true hd) w
theorem s_iand (hA : Am p s m args c θ A mi sc) {a : Nat} {v : Int32} {ts : List Nat} {j : Nat} (hk : okE mi ps j (.iand, a, v, ts) = true) {ls : Lv} {st : List Value} {M : Mem} {o : Ou} {k : Nat} {nx : NX}
    (h : step (GA p l e R s m args below meth c Q θ A mi ps c0 s0) ret tho thr Cl sc (.iand) a v ts ls st M o k nx) (hn : ∀ ls st M o k, nx ls st M o k → GA p l e R s m args below meth c Q θ A mi ps c0 s0 (j + 1) ls st M o k) : GA p l e R s m args below meth c Q θ A mi ps c0 s0 j ls st M o k := by
  obtain ⟨hx, hb, hml, hown, hts, hK, hap, hsc⟩ := hA
  simp only [okE, Bool.and_eq_true] at hk
  obtain ⟨hd, hn1⟩ := hk
  obtain ⟨y, st, rfl, h⟩ := popI_e h
  obtain ⟨x, st, rfl, h⟩ := popI_e h
  intro H locs la hP hS hl
  have w := hn _ _ _ _ _ h H locs la hP hS hl
  rw [of_decide_eq_true hn1] at w
  exact lv_iand hx hb (of_decide_eq_true hd) w
theorem s_idiv (hA : Am p s m args c θ A mi sc) {a : Nat} {v : Int32} {ts : List Nat} {j : Nat} (hk : okE mi ps j (.idiv, a, v, ts) = true) {ls : Lv} {st : List Value} {M : Mem} {o : Ou} {k : Nat} {nx : NX}
    (h : step (GA p l e R s m args below meth c Q θ A mi ps c0 s0) ret tho thr Cl sc (.idiv) a v ts ls st M o k nx) (hn : ∀ ls st M o k, nx ls st M o k → GA p l e R s m args below meth c Q θ A mi ps c0 s0 (j + 1) ls st M o k) : GA p l e R s m args below meth c Q θ A mi ps c0 s0 j ls st M o k := by
  obtain ⟨hx, hb, hml, hown, hts, hK, hap, hsc⟩ := hA
  simp only [okE, Bool.and_eq_true] at hk
  obtain ⟨hd, hn1⟩ := hk
  obtain ⟨y, st, rfl, h⟩ := popI_e h
  obtain ⟨x, st, rfl, hne, h⟩ := popI_e h
  intro H locs la hP hS hl
  have w := hn _ _ _ _ _ h H locs la hP hS hl
  rw [of_decide_eq_true hn1] at w
  exact lv_idiv hx hb (of_decide_eq_true hd) hne w
theorem s_irem (hA : Am p s m args c θ A mi sc) {a : Nat} {v : Int32} {ts : List Nat} {j : Nat} (hk : okE mi ps j (.irem, a, v, ts) = true) {ls : Lv} {st : List Value} {M : Mem} {o : Ou} {k : Nat} {nx : NX}
    (h : step (GA p l e R s m args below meth c Q θ A mi ps c0 s0) ret tho thr Cl sc (.irem) a v ts ls st M o k nx) (hn : ∀ ls st M o k, nx ls st M o k → GA p l e R s m args below meth c Q θ A mi ps c0 s0 (j + 1) ls st M o k) : GA p l e R s m args below meth c Q θ A mi ps c0 s0 j ls st M o k := by
  obtain ⟨hx, hb, hml, hown, hts, hK, hap, hsc⟩ := hA
  simp only [okE, Bool.and_eq_true] at hk
  obtain ⟨hd, hn1⟩ := hk
  obtain ⟨y, st, rfl, h⟩ := popI_e h
  obtain ⟨x, st, rfl, hne, h⟩ := popI_e h
  intro H locs la hP hS hl
  have w := hn _ _ _ _ _ h H locs la hP hS hl
  rw [of_decide_eq_true hn1] at w
  exact lv_irem hx hb (of_decide_eq_true hd) hne w
theorem s_ladd (hA : Am p s m args c θ A mi sc) {a : Nat} {v : Int32} {ts : List Nat} {j : Nat} (hk : okE mi ps j (.ladd, a, v, ts) = true) {ls : Lv} {st : List Value} {M : Mem} {o : Ou} {k : Nat} {nx : NX}
    (h : step (GA p l e R s m args below meth c Q θ A mi ps c0 s0) ret tho thr Cl sc (.ladd) a v ts ls st M o k nx) (hn : ∀ ls st M o k, nx ls st M o k → GA p l e R s m args below meth c Q θ A mi ps c0 s0 (j + 1) ls st M o k) : GA p l e R s m args below meth c Q θ A mi ps c0 s0 j ls st M o k := by
  obtain ⟨hx, hb, hml, hown, hts, hK, hap, hsc⟩ := hA
  simp only [okE, Bool.and_eq_true] at hk
  obtain ⟨hd, hn1⟩ := hk
  obtain ⟨y, st, rfl, h⟩ := popL_e h
  obtain ⟨x, st, rfl, h⟩ := popL_e h
  intro H locs la hP hS hl
  have w := hn _ _ _ _ _ h H locs la hP hS hl
  rw [of_decide_eq_true hn1] at w
  exact lv_ladd hx hb (of_decide_eq_true hd) w
theorem s_lsub (hA : Am p s m args c θ A mi sc) {a : Nat} {v : Int32} {ts : List Nat} {j : Nat} (hk : okE mi ps j (.lsub, a, v, ts) = true) {ls : Lv} {st : List Value} {M : Mem} {o : Ou} {k : Nat} {nx : NX}
    (h : step (GA p l e R s m args below meth c Q θ A mi ps c0 s0) ret tho thr Cl sc (.lsub) a v ts ls st M o k nx) (hn : ∀ ls st M o k, nx ls st M o k → GA p l e R s m args below meth c Q θ A mi ps c0 s0 (j + 1) ls st M o k) : GA p l e R s m args below meth c Q θ A mi ps c0 s0 j ls st M o k := by
  obtain ⟨hx, hb, hml, hown, hts, hK, hap, hsc⟩ := hA
  simp only [okE, Bool.and_eq_true] at hk
  obtain ⟨hd, hn1⟩ := hk
  obtain ⟨y, st, rfl, h⟩ := popL_e h
  obtain ⟨x, st, rfl, h⟩ := popL_e h
  intro H locs la hP hS hl
  have w := hn _ _ _ _ _ h H locs la hP hS hl
  rw [of_decide_eq_true hn1] at w
  exact lv_lsub hx hb (of_decide_eq_true hd) w
theorem s_lmul (hA : Am p s m args c θ A mi sc) {a : Nat} {v : Int32} {ts : List Nat} {j : Nat} (hk : okE mi ps j (.lmul, a, v, ts) = true) {ls : Lv} {st : List Value} {M : Mem} {o : Ou} {k : Nat} {nx : NX}
    (h : step (GA p l e R s m args below meth c Q θ A mi ps c0 s0) ret tho thr Cl sc (.lmul) a v ts ls st M o k nx) (hn : ∀ ls st M o k, nx ls st M o k → GA p l e R s m args below meth c Q θ A mi ps c0 s0 (j + 1) ls st M o k) : GA p l e R s m args below meth c Q θ A mi ps c0 s0 j ls st M o k := by
  obtain ⟨hx, hb, hml, hown, hts, hK, hap, hsc⟩ := hA
  simp only [okE, Bool.and_eq_true] at hk
  obtain ⟨hd, hn1⟩ := hk
  obtain ⟨y, st, rfl, h⟩ := popL_e h
  obtain ⟨x, st, rfl, h⟩ := popL_e h
  intro H locs la hP hS hl
  have w := hn _ _ _ _ _ h H locs la hP hS hl
  rw [of_decide_eq_true hn1] at w
  exact lv_lmul hx hb (of_decide_eq_true hd) w
theorem s_land (hA : Am p s m args c θ A mi sc) {a : Nat} {v : Int32} {ts : List Nat} {j : Nat} (hk : okE mi ps j (.land, a, v, ts) = true) {ls : Lv} {st : List Value} {M : Mem} {o : Ou} {k : Nat} {nx : NX}
    (h : step (GA p l e R s m args below meth c Q θ A mi ps c0 s0) ret tho thr Cl sc (.land) a v ts ls st M o k nx) (hn : ∀ ls st M o k, nx ls st M o k → GA p l e R s m args below meth c Q θ A mi ps c0 s0 (j + 1) ls st M o k) : GA p l e R s m args below meth c Q θ A mi ps c0 s0 j ls st M o k := by
  obtain ⟨hx, hb, hml, hown, hts, hK, hap, hsc⟩ := hA
  simp only [okE, Bool.and_eq_true] at hk
  obtain ⟨hd, hn1⟩ := hk
  obtain ⟨y, st, rfl, h⟩ := popL_e h
  obtain ⟨x, st, rfl, h⟩ := popL_e h
  intro H locs la hP hS hl
  have w := hn _ _ _ _ _ h H locs la hP hS hl
  rw [of_decide_eq_true hn1] at w
  exact lv_land hx hb (of_decide_eq_true hd) w
theorem s_lcmp (hA : Am p s m args c θ A mi sc) {a : Nat} {v : Int32} {ts : List Nat} {j : Nat} (hk : okE mi ps j (.lcmp, a, v, ts) = true) {ls : Lv} {st : List Value} {M : Mem} {o : Ou} {k : Nat} {nx : NX}
    (h : step (GA p l e R s m args below meth c Q θ A mi ps c0 s0) ret tho thr Cl sc (.lcmp) a v ts ls st M o k nx) (hn : ∀ ls st M o k, nx ls st M o k → GA p l e R s m args below meth c Q θ A mi ps c0 s0 (j + 1) ls st M o k) : GA p l e R s m args below meth c Q θ A mi ps c0 s0 j ls st M o k := by
  obtain ⟨hx, hb, hml, hown, hts, hK, hap, hsc⟩ := hA
  simp only [okE, Bool.and_eq_true] at hk
  obtain ⟨hd, hn1⟩ := hk
  obtain ⟨y, st, rfl, h⟩ := popL_e h
  obtain ⟨x, st, rfl, h⟩ := popL_e h
  intro H locs la hP hS hl
  have w := hn _ _ _ _ _ h H locs la hP hS hl
  rw [of_decide_eq_true hn1] at w
  exact W.lcmp hx hb (of_decide_eq_true hd) w
theorem s_lrem (hA : Am p s m args c θ A mi sc) {a : Nat} {v : Int32} {ts : List Nat} {j : Nat} (hk : okE mi ps j (.lrem, a, v, ts) = true) {ls : Lv} {st : List Value} {M : Mem} {o : Ou} {k : Nat} {nx : NX}
    (h : step (GA p l e R s m args below meth c Q θ A mi ps c0 s0) ret tho thr Cl sc (.lrem) a v ts ls st M o k nx) (hn : ∀ ls st M o k, nx ls st M o k → GA p l e R s m args below meth c Q θ A mi ps c0 s0 (j + 1) ls st M o k) : GA p l e R s m args below meth c Q θ A mi ps c0 s0 j ls st M o k := by
  obtain ⟨hx, hb, hml, hown, hts, hK, hap, hsc⟩ := hA
  simp only [okE, Bool.and_eq_true] at hk
  obtain ⟨hd, hn1⟩ := hk
  obtain ⟨y, st, rfl, h⟩ := popL_e h
  obtain ⟨x, st, rfl, hne, h⟩ := popL_e h
  intro H locs la hP hS hl
  have w := hn _ _ _ _ _ h H locs la hP hS hl
  rw [of_decide_eq_true hn1] at w
  exact lv_lrem hx hb (of_decide_eq_true hd) hne w
theorem s_i2l (hA : Am p s m args c θ A mi sc) {a : Nat} {v : Int32} {ts : List Nat} {j : Nat} (hk : okE mi ps j (.i2l, a, v, ts) = true) {ls : Lv} {st : List Value} {M : Mem} {o : Ou} {k : Nat} {nx : NX}
    (h : step (GA p l e R s m args below meth c Q θ A mi ps c0 s0) ret tho thr Cl sc (.i2l) a v ts ls st M o k nx) (hn : ∀ ls st M o k, nx ls st M o k → GA p l e R s m args below meth c Q θ A mi ps c0 s0 (j + 1) ls st M o k) : GA p l e R s m args below meth c Q θ A mi ps c0 s0 j ls st M o k := by
  obtain ⟨hx, hb, hml, hown, hts, hK, hap, hsc⟩ := hA
  simp only [okE, Bool.and_eq_true] at hk
  obtain ⟨hd, hn1⟩ := hk
  obtain ⟨y, st, rfl, h⟩ := popI_e h
  intro H locs la hP hS hl
  have w := hn _ _ _ _ _ h H locs la hP hS hl
  rw [of_decide_eq_true hn1] at w
  exact lv_i2l hx hb (of_decide_eq_true hd) rfl w
theorem s_l2i (hA : Am p s m args c θ A mi sc) {a : Nat} {v : Int32} {ts : List Nat} {j : Nat} (hk : okE mi ps j (.l2i, a, v, ts) = true) {ls : Lv} {st : List Value} {M : Mem} {o : Ou} {k : Nat} {nx : NX}
    (h : step (GA p l e R s m args below meth c Q θ A mi ps c0 s0) ret tho thr Cl sc (.l2i) a v ts ls st M o k nx) (hn : ∀ ls st M o k, nx ls st M o k → GA p l e R s m args below meth c Q θ A mi ps c0 s0 (j + 1) ls st M o k) : GA p l e R s m args below meth c Q θ A mi ps c0 s0 j ls st M o k := by
  obtain ⟨hx, hb, hml, hown, hts, hK, hap, hsc⟩ := hA
  simp only [okE, Bool.and_eq_true] at hk
  obtain ⟨hd, hn1⟩ := hk
  obtain ⟨y, st, rfl, h⟩ := popL_e h
  intro H locs la hP hS hl
  have w := hn _ _ _ _ _ h H locs la hP hS hl
  rw [of_decide_eq_true hn1] at w
  exact lv_l2i hx hb (of_decide_eq_true hd) rfl w
theorem s_dup (hA : Am p s m args c θ A mi sc) {a : Nat} {v : Int32} {ts : List Nat} {j : Nat} (hk : okE mi ps j (.dup, a, v, ts) = true) {ls : Lv} {st : List Value} {M : Mem} {o : Ou} {k : Nat} {nx : NX}
    (h : step (GA p l e R s m args below meth c Q θ A mi ps c0 s0) ret tho thr Cl sc (.dup) a v ts ls st M o k nx) (hn : ∀ ls st M o k, nx ls st M o k → GA p l e R s m args below meth c Q θ A mi ps c0 s0 (j + 1) ls st M o k) : GA p l e R s m args below meth c Q θ A mi ps c0 s0 j ls st M o k := by
  obtain ⟨hx, hb, hml, hown, hts, hK, hap, hsc⟩ := hA
  simp only [okE, Bool.and_eq_true] at hk
  obtain ⟨hd, hn1⟩ := hk
  simp only [step] at h
  intro H locs la hP hS hl
  split at h
  · have w := hn _ _ _ _ _ h H locs la hP hS hl
    rw [of_decide_eq_true hn1] at w
    exact lv_dup hx hb (of_decide_eq_true hd) rfl w
  · have w := hn _ _ _ _ _ h H locs la hP hS hl
    rw [of_decide_eq_true hn1] at w
    exact lv_dup hx hb (of_decide_eq_true hd) rfl w
  · exact h.elim
theorem s_dup2 (hA : Am p s m args c θ A mi sc) {a : Nat} {v : Int32} {ts : List Nat} {j : Nat} (hk : okE mi ps j (.dup2, a, v, ts) = true) {ls : Lv} {st : List Value} {M : Mem} {o : Ou} {k : Nat} {nx : NX}
    (h : step (GA p l e R s m args below meth c Q θ A mi ps c0 s0) ret tho thr Cl sc (.dup2) a v ts ls st M o k nx) (hn : ∀ ls st M o k, nx ls st M o k → GA p l e R s m args below meth c Q θ A mi ps c0 s0 (j + 1) ls st M o k) : GA p l e R s m args below meth c Q θ A mi ps c0 s0 j ls st M o k := by
  obtain ⟨hx, hb, hml, hown, hts, hK, hap, hsc⟩ := hA
  simp only [okE, Bool.and_eq_true] at hk
  obtain ⟨hd, hn1⟩ := hk
  obtain ⟨y, st, rfl, h⟩ := popI_e h
  obtain ⟨x, st, rfl, h⟩ := popR_e h
  intro H locs la hP hS hl
  have w := hn _ _ _ _ _ h H locs la hP hS hl
  rw [of_decide_eq_true hn1] at w
  exact lv_dup2_11 hx hb (of_decide_eq_true hd) rfl rfl w
theorem s_if_icmp {cc : Jvm.ClassFile.Cond} {off : Int} (hA : Am p s m args c θ A mi sc) {a : Nat} {v : Int32} {ts : List Nat} {j : Nat} (hk : okE mi ps j (.if_icmp cc off, a, v, ts) = true) {ls : Lv} {st : List Value} {M : Mem} {o : Ou} {k : Nat} {nx : NX}
    (h : step (GA p l e R s m args below meth c Q θ A mi ps c0 s0) ret tho thr Cl sc (.if_icmp cc off) a v ts ls st M o k nx) (hn : ∀ ls st M o k, nx ls st M o k → GA p l e R s m args below meth c Q θ A mi ps c0 s0 (j + 1) ls st M o k) : GA p l e R s m args below meth c Q θ A mi ps c0 s0 j ls st M o k := by
  obtain ⟨hx, hb, hml, hown, hts, hK, hap, hsc⟩ := hA
  simp only [okE, Bool.and_eq_true] at hk
  obtain ⟨⟨hd, hn1⟩, ht⟩ := hk
  obtain ⟨y, st, rfl, h⟩ := popI_e h
  obtain ⟨x, st, rfl, h⟩ := popI_e h
  intro H locs la hP hS hl
  cases cc
  · obtain ⟨h1, h2⟩ := h
    refine lv_icmp_eq hx hb (of_decide_eq_true hd) (of_decide_eq_true ht) (fun q => h1 q H locs la hP hS hl) (fun q => ?_)
    have w := hn _ _ _ _ _ (h2 q) H locs la hP hS hl
    rw [of_decide_eq_true hn1] at w
    exact w
  · obtain ⟨h1, h2⟩ := h
    refine lv_icmp_ne hx hb (of_decide_eq_true hd) (of_decide_eq_true ht) (fun q => h1 q H locs la hP hS hl) (fun q => ?_)
    have w := hn _ _ _ _ _ (h2 q) H locs la hP hS hl
    rw [of_decide_eq_true hn1] at w
    exact w
  · obtain ⟨h1, h2⟩ := h
    refine lv_icmp_lt hx hb (of_decide_eq_true hd) (of_decide_eq_true ht) (fun q => h1 q H locs la hP hS hl) (fun q => ?_)
    have w := hn _ _ _ _ _ (h2 q) H locs la hP hS hl
    rw [of_decide_eq_true hn1] at w
    exact w
  · obtain ⟨h1, h2⟩ := h
    refine lv_icmp_ge hx hb (of_decide_eq_true hd) (of_decide_eq_true ht) (fun q => h1 q H locs la hP hS hl) (fun q => ?_)
    have w := hn _ _ _ _ _ (h2 q) H locs la hP hS hl
    rw [of_decide_eq_true hn1] at w
    exact w
  · obtain ⟨h1, h2⟩ := h
    refine lv_icmp_gt hx hb (of_decide_eq_true hd) (of_decide_eq_true ht) (fun q => h1 q H locs la hP hS hl) (fun q => ?_)
    have w := hn _ _ _ _ _ (h2 q) H locs la hP hS hl
    rw [of_decide_eq_true hn1] at w
    exact w
  · obtain ⟨h1, h2⟩ := h
    refine lv_icmp_le hx hb (of_decide_eq_true hd) (of_decide_eq_true ht) (fun q => h1 q H locs la hP hS hl) (fun q => ?_)
    have w := hn _ _ _ _ _ (h2 q) H locs la hP hS hl
    rw [of_decide_eq_true hn1] at w
    exact w
theorem s_ifCond {cc : Jvm.ClassFile.Cond} {off : Int} (hA : Am p s m args c θ A mi sc) {a : Nat} {v : Int32} {ts : List Nat} {j : Nat} (hk : okE mi ps j (.ifCond cc off, a, v, ts) = true) {ls : Lv} {st : List Value} {M : Mem} {o : Ou} {k : Nat} {nx : NX}
    (h : step (GA p l e R s m args below meth c Q θ A mi ps c0 s0) ret tho thr Cl sc (.ifCond cc off) a v ts ls st M o k nx) (hn : ∀ ls st M o k, nx ls st M o k → GA p l e R s m args below meth c Q θ A mi ps c0 s0 (j + 1) ls st M o k) : GA p l e R s m args below meth c Q θ A mi ps c0 s0 j ls st M o k := by
  obtain ⟨hx, hb, hml, hown, hts, hK, hap, hsc⟩ := hA
  simp only [okE, Bool.and_eq_true] at hk
  obtain ⟨⟨hd, hn1⟩, ht⟩ := hk
  obtain ⟨x, st, rfl, h⟩ := popI_e h
  intro H locs la hP hS hl
  cases cc
  · obtain ⟨h1, h2⟩ := h
    refine lv_if_eq hx hb (of_decide_eq_true hd) (of_decide_eq_true ht) (fun q => h1 q H locs la hP hS hl) (fun q => ?_)
    have w := hn _ _ _ _ _ (h2 q) H locs la hP hS hl
    rw [of_decide_eq_true hn1] at w
    exact w
  · obtain ⟨h1, h2⟩ := h
    refine lv_if_ne hx hb (of_decide_eq_true hd) (of_decide_eq_true ht) (fun q => h1 q H locs la hP hS hl) (fun q => ?_)
    have w := hn _ _ _ _ _ (h2 q) H locs la hP hS hl
    rw [of_decide_eq_true hn1] at w
    exact w
  · obtain ⟨h1, h2⟩ := h
    refine lv_if_lt hx hb (of_decide_eq_true hd) (of_decide_eq_true ht) (fun q => h1 q H locs la hP hS hl) (fun q => ?_)
    have w := hn _ _ _ _ _ (h2 q) H locs la hP hS hl
    rw [of_decide_eq_true hn1] at w
    exact w
  · obtain ⟨h1, h2⟩ := h
    refine lv_if_ge hx hb (of_decide_eq_true hd) (of_decide_eq_true ht) (fun q => h1 q H locs la hP hS hl) (fun q => ?_)
    have w := hn _ _ _ _ _ (h2 q) H locs la hP hS hl
    rw [of_decide_eq_true hn1] at w
    exact w
  · obtain ⟨h1, h2⟩ := h
    refine lv_if_gt hx hb (of_decide_eq_true hd) (of_decide_eq_true ht) (fun q => h1 q H locs la hP hS hl) (fun q => ?_)
    have w := hn _ _ _ _ _ (h2 q) H locs la hP hS hl
    rw [of_decide_eq_true hn1] at w
    exact w
  · obtain ⟨h1, h2⟩ := h
    refine lv_if_le hx hb (of_decide_eq_true hd) (of_decide_eq_true ht) (fun q => h1 q H locs la hP hS hl) (fun q => ?_)
    have w := hn _ _ _ _ _ (h2 q) H locs la hP hS hl
    rw [of_decide_eq_true hn1] at w
    exact w
theorem s_goto {off : Int} (hA : Am p s m args c θ A mi sc) {a : Nat} {v : Int32} {ts : List Nat} {j : Nat} (hk : okE mi ps j (.goto off, a, v, ts) = true) {ls : Lv} {st : List Value} {M : Mem} {o : Ou} {k : Nat} {nx : NX}
    (h : step (GA p l e R s m args below meth c Q θ A mi ps c0 s0) ret tho thr Cl sc (.goto off) a v ts ls st M o k nx) (hn : ∀ ls st M o k, nx ls st M o k → GA p l e R s m args below meth c Q θ A mi ps c0 s0 (j + 1) ls st M o k) : GA p l e R s m args below meth c Q θ A mi ps c0 s0 j ls st M o k := by
  obtain ⟨hx, hb, hml, hown, hts, hK, hap, hsc⟩ := hA
  simp only [okE, Bool.and_eq_true] at hk
  obtain ⟨hd, ht⟩ := hk
  intro H locs la hP hS hl
  exact lv_goto hx hb (of_decide_eq_true hd) (of_decide_eq_true ht) (h H locs la hP hS hl)
theorem s_tableswitch {d lo hi : Int} {offs : Array Int} (hA : Am p s m args c θ A mi sc) {a : Nat} {v : Int32} {ts : List Nat} {j : Nat} (hk : okE mi ps j (.tableswitch d lo hi offs, a, v, ts) = true) {ls : Lv} {st : List Value} {M : Mem} {o : Ou} {k : Nat} {nx : NX}
    (h : step (GA p l e R s m args below meth c Q θ A mi ps c0 s0) ret tho thr Cl sc (.tableswitch d lo hi offs) a v ts ls st M o k nx) (hn : ∀ ls st M o k, nx ls st M o k → GA p l e R s m args below meth c Q θ A mi ps c0 s0 (j + 1) ls st M o k) : GA p l e R s m args below meth c Q θ A mi ps c0 s0 j ls st M o k := by
  obtain ⟨hx, hb, hml, hown, hts, hK, hap, hsc⟩ := hA
  simp only [okE, Bool.and_eq_true] at hk
  obtain ⟨⟨⟨⟨⟨hd, h1⟩, h2⟩, h3⟩, h4⟩, h5⟩ := hk
  have h5 : offs.size < 1000 := of_decide_eq_true h5
  obtain ⟨x, st, rfl, h⟩ := popI_e h
  intro H locs la hP hS hl
  rcases sw_e h4 (by simpa using h5) h with ⟨i, off, t, e1, e2, e3, hG⟩ | ⟨hno, hG⟩
  · have hi : i < offs.size := by have := (List.getElem?_eq_some_iff.mp e1).1; simpa using this
    have hxi : x.toInt = (i : Int) := by rw [e2, nI_toInt (by omega)]; simp
    refine lv_tableIn hx hb (of_decide_eq_true hd) (by rw [of_decide_eq_true h1, hxi]; omega) (by rw [of_decide_eq_true h2, hxi]; omega) (off := off) ?_ e3 (hG H locs la hP hS hl)
    rw [of_decide_eq_true h1, hxi]
    simpa using e1
  · refine lv_tableOut hx hb (of_decide_eq_true hd) ?_ (of_decide_eq_true h3) (hG H locs la hP hS hl)
    rw [of_decide_eq_true h1, of_decide_eq_true h2]
    rcases Int.lt_or_le x.toInt 0 with q | q
    · exact Or.inl q
    · rcases Int.lt_or_le ((offs.size : Int) - 1) x.toInt with q2 | q2
      · exact Or.inr q2
      · exfalso
        refine hno x.toInt.toNat (by rw [Array.length_toList]; omega) ?_
        apply Int32.toInt_inj.mp
        rw [Nat.zero_add, nI_toInt (by omega)]
        omega
theorem s_getfield {n : Nat} (hA : Am p s m args c θ A mi sc) {a : Nat} {v : Int32} {ts : List Nat} {j : Nat} (hk : okE mi ps j (.getfield n, a, v, ts) = true) {ls : Lv} {st : List Value} {M : Mem} {o : Ou} {k : Nat} {nx : NX}
    (h : step (GA p l e R s m args below meth c Q θ A mi ps c0 s0) ret tho thr Cl sc (.getfield n) a v ts ls st M o k nx) (hn : ∀ ls st M o k, nx ls st M o k → GA p l e R s m args below meth c Q θ A mi ps c0 s0 (j + 1) ls st M o k) : GA p l e R s m args below meth c Q θ A mi ps c0 s0 j ls st M o k := by
  obtain ⟨hx, hb, hml, hown, hts, hK, hap, hsc⟩ := hA
  simp only [okE, Bool.and_eq_true] at hk
  obtain ⟨⟨hd, hn1⟩, hf⟩ := hk
  have hf : (owT mi, n, ts.getD 0 0, a) ∈ FL := by simpa using hf
  obtain ⟨r, st, rfl, h⟩ := popR_e h
  obtain ⟨hc, h⟩ := cond_e h
  have hc : clT r = ts.getD 0 0 := Nat.eq_of_beq_eq_true hc
  obtain ⟨f1, f2⟩ := FL_lt _ hf
  dsimp only at f1 f2
  have hr : r < NO := clT_lt (by omega)
  obtain ⟨q, hq, h⟩ := nthK_e h
  intro H locs la hP hS hl
  have hlk := hts _ (FL_ok _ hf)
  rw [← hc] at f1 f2 hlk
  cases q with
  | zero =>
    have w := hn _ _ _ _ _ h H locs la hP hS hl
    rw [of_decide_eq_true hn1] at w
    exact va_get (v := .int (M r a)) hx hb hts (UW_ok _ f1) hown hK hP r ((wcs_get hr).trans (by rw [wc_obj f1])) (cls_ok _ f1) a f2 hlk (fun _ q => by rw [own_ok _ f1 a f2] at q; exact q) (by rw [sv_int hq, Nat.zero_add]) (of_decide_eq_true hd) w
  | succ t =>
    have w := hn _ _ _ _ _ h H locs la hP hS hl
    rw [of_decide_eq_true hn1] at w
    exact va_get (v := .ref (θ.1 t)) hx hb hts (UW_ok _ f1) hown hK hP r ((wcs_get hr).trans (by rw [wc_obj f1])) (cls_ok _ f1) a f2 hlk (fun _ q => by rw [own_ok _ f1 a f2] at q; exact q) (sv_ref hq) (of_decide_eq_true hd) w
theorem s_putfield {n : Nat} (hA : Am p s m args c θ A mi sc) {a : Nat} {v : Int32} {ts : List Nat} {j : Nat} (hk : okE mi ps j (.putfield n, a, v, ts) = true) {ls : Lv} {st : List Value} {M : Mem} {o : Ou} {k : Nat} {nx : NX}
    (h : step (GA p l e R s m args below meth c Q θ A mi ps c0 s0) ret tho thr Cl sc (.putfield n) a v ts ls st M o k nx) (hn : ∀ ls st M o k, nx ls st M o k → GA p l e R s m args below meth c Q θ A mi ps c0 s0 (j + 1) ls st M o k) : GA p l e R s m args below meth c Q θ A mi ps c0 s0 j ls st M o k := by
  obtain ⟨hx, hb, hml, hown, hts, hK, hap, hsc⟩ := hA
  simp only [okE, Bool.and_eq_true] at hk
  obtain ⟨⟨⟨⟨hd, hn1⟩, hf⟩, hfin⟩, hty⟩ := hk
  have hf : (owT mi, n, ts.getD 0 0, a) ∈ FL := by simpa using hf
  have hfin := of_decide_eq_true hfin
  have hty := of_decide_eq_true hty
  obtain ⟨x, st, rfl, h⟩ := popI_e h
  obtain ⟨r, st, rfl, h⟩ := popR_e h
  obtain ⟨hc, h⟩ := cond_e h
  have hc : clT r = ts.getD 0 0 := Nat.eq_of_beq_eq_true hc
  obtain ⟨f1, f2⟩ := FL_lt _ hf
  dsimp only at f1 f2
  have hr : r < NO := clT_lt (by omega)
  obtain ⟨q, hq, h⟩ := nthK_e h
  intro H locs la hP hS hl
  have hlk := hts _ (FL_ok _ hf)
  rw [← hc] at f1 f2 hlk hfin hty
  cases q with
  | succ t => exact h.elim
  | zero =>
    have key : ∀ ty, tyT (clT r) a = ty → narrow ty (.int x) = .int x → fits ty (.int x) = true → nx ls st (mset M r a x) o k → W p l e R s m args below meth c H locs (c0 + k) (s0 + 6 * k) Q (F0 m (ps.getD j 0) la (.int x :: .ref (θ.1 r) :: st.map (cv θ))) := by
      intro ty e1 e2 e3 h
      refine va_put hx hb hts (UW_ok _ f1) (tyT (clT r)) (ty_ok _ f1) (nm_ok _ f1) hown hK hP (hap.D M o) hS r ((wcs_get hr).trans (by rw [wc_obj f1])) (cls_ok _ f1) a f2 hlk (fun _ q => by rw [own_ok _ f1 a f2] at q; exact q) hfin (by rw [ty_ok _ f1 a f2, e1]) e2 e3 (by rw [sv_len, slT_len r hr f1]; exact f2) (of_decide_eq_true hd) (fun H1 locs1 hP1 hD1 hS1 => ?_)
      have e4 : (wcs θ M o).set r (θ.1 r, .inr (clT r, (sv θ M r 0 (slT r)).set a (.int x))) = wcs θ (mset M r a x) o := by
        refine wcs_set hr ?_ (fun i _ hi => wc_other hi)
        rw [wc_obj f1]
        have := sv_set (θ := θ) (M := M) (i := r) (v := x) (b := 0) hq
        rw [Nat.zero_add] at this
        rw [this]
      rw [e4] at hP1
      have w := hn _ _ _ _ _ h H1 locs1 la hP1 hS1 hl
      rw [of_decide_eq_true hn1] at w
      exact w
    cases hz : ts.getD 1 0 with
    | zero =>
      rw [hz] at hty
      simp only [hz] at h
      exact key .int hty rfl rfl h
    | succ z =>
      rw [hz] at hty
      simp only [hz] at h
      obtain ⟨hb01, h⟩ := h
      rcases hb01 with rfl | rfl
      · exact key .boolean hty (by decide) (by decide) h
      · exact key .boolean hty (by decide) (by decide) h
theorem s_iaload (hA : Am p s m args c θ A mi sc) {a : Nat} {v : Int32} {ts : List Nat} {j : Nat} (hk : okE mi ps j (.iaload, a, v, ts) = true) {ls : Lv} {st : List Value} {M : Mem} {o : Ou} {k : Nat} {nx : NX}
    (h : step (GA p l e R s m args below meth c Q θ A mi ps c0 s0) ret tho thr Cl sc (.iaload) a v ts ls st M o k nx) (hn : ∀ ls st M o k, nx ls st M o k → GA p l e R s m args below meth c Q θ A mi ps c0 s0 (j + 1) ls st M o k) : GA p l e R s m args below meth c Q θ A mi ps c0 s0 j ls st M o k := by
  obtain ⟨hx, hb, hml, hown, hts, hK, hap, hsc⟩ := hA
  simp only [okE, Bool.and_eq_true] at hk
  obtain ⟨hd, hn1⟩ := hk
  obtain ⟨q, st, rfl, h⟩ := popI_e h
  obtain ⟨r, st, rfl, h⟩ := popR_e h
  intro H locs la hP hS hl
  have h : cond (Nat.beq r SCR) (match sc.1 with | 0 => False | L + 1 => vp_in q L ∧ nx ls (.int (sc.2 q.toNatClampNeg) :: st) M o k) (cond (Nat.beq (clT r) 9) (vp_in q (lenT r) ∧ nx ls (.int (M r q.toNatClampNeg) :: st) M o k) False) := h
  cases hr : Nat.beq r SCR with
  | true =>
    have e1 : r = SCR := Nat.eq_of_beq_eq_true hr
    rw [hr] at h
    subst e1
    rcases hsc with h0 | ⟨L, hL, hX, hbl, hbA⟩
    · rw [h0] at h
      exact h.elim
    · rw [hL] at h
      obtain ⟨hin, h⟩ : vp_in q L ∧ nx ls (.int (sc.2 q.toNatClampNeg) :: st) M o k := h
      have w := hn _ _ _ _ _ h H locs la hP hS hl
      rw [of_decide_eq_true hn1] at w
      exact va_sld hx hb hX hbl hbA hS hin (of_decide_eq_true hd) w
  | false =>
    rw [hr] at h
    obtain ⟨hc, hin, h⟩ := cond_e (b := Nat.beq (clT r) 9) h
    have hc : clT r = 9 := Nat.eq_of_beq_eq_true hc
    have hr : r < NO := clT_lt (by omega)
    have w := hn _ _ _ _ _ h H locs la hP hS hl
    rw [of_decide_eq_true hn1] at w
    exact va_iald hx hb hK hP r 0 ((wcs_get hr).trans (by rw [wc_int hc])) rfl hin (of_decide_eq_true hd) w
theorem s_baload (hA : Am p s m args c θ A mi sc) {a : Nat} {v : Int32} {ts : List Nat} {j : Nat} (hk : okE mi ps j (.baload, a, v, ts) = true) {ls : Lv} {st : List Value} {M : Mem} {o : Ou} {k : Nat} {nx : NX}
    (h : step (GA p l e R s m args below meth c Q θ A mi ps c0 s0) ret tho thr Cl sc (.baload) a v ts ls st M o k nx) (hn : ∀ ls st M o k, nx ls st M o k → GA p l e R s m args below meth c Q θ A mi ps c0 s0 (j + 1) ls st M o k) : GA p l e R s m args below meth c Q θ A mi ps c0 s0 j ls st M o k := by
  obtain ⟨hx, hb, hml, hown, hts, hK, hap, hsc⟩ := hA
  simp only [okE, Bool.and_eq_true] at hk
  obtain ⟨hd, hn1⟩ := hk
  obtain ⟨q, st, rfl, h⟩ := popI_e h
  obtain ⟨r, st, rfl, h⟩ := popR_e h
  intro H locs la hP hS hl
  obtain ⟨hc, hin, h⟩ := cond_e h
  have hc : clT r = 10 := Nat.eq_of_beq_eq_true hc
  have hr : r < NO := clT_lt (by omega)
  have w := hn _ _ _ _ _ h H locs la hP hS hl
  rw [of_decide_eq_true hn1] at w
  exact va_zald hx hb hK hP r 1 ((wcs_get hr).trans (by rw [wc_bool hc])) rfl hin (of_decide_eq_true hd) w
theorem s_laload (hA : Am p s m args c θ A mi sc) {a : Nat} {v : Int32} {ts : List Nat} {j : Nat} (hk : okE mi ps j (.laload, a, v, ts) = true) {ls : Lv} {st : List Value} {M : Mem} {o : Ou} {k : Nat} {nx : NX}
    (h : step (GA p l e R s m args below meth c Q θ A mi ps c0 s0) ret tho thr Cl sc (.laload) a v ts ls st M o k nx) (hn : ∀ ls st M o k, nx ls st M o k → GA p l e R s m args below meth c Q θ A mi ps c0 s0 (j + 1) ls st M o k) : GA p l e R s m args below meth c Q θ A mi ps c0 s0 j ls st M o k := by
  obtain ⟨hx, hb, hml, hown, hts, hK, hap, hsc⟩ := hA
  simp only [okE, Bool.and_eq_true] at hk
  obtain ⟨hd, hn1⟩ := hk
  obtain ⟨q, st, rfl, h⟩ := popI_e h
  obtain ⟨r, st, rfl, h⟩ := popR_e h
  intro H locs la hP hS hl
  obtain ⟨hc, hin, h⟩ := cond_e h
  have hc : clT r = 11 := Nat.eq_of_beq_eq_true hc
  have hr : r < NO := clT_lt (by omega)
  have hro := clT_out r hr hc
  have w := hn _ _ _ _ _ h H locs la hP hS hl
  rw [of_decide_eq_true hn1] at w
  exact va_lald hx hb hK hP r 2 ((wcs_get hr).trans (by rw [wc_long hc])) rfl (by rw [hro]; exact hin) (of_decide_eq_true hd) w
theorem s_iastore (hA : Am p s m args c θ A mi sc) {a : Nat} {v : Int32} {ts : List Nat} {j : Nat} (hk : okE mi ps j (.iastore, a, v, ts) = true) {ls : Lv} {st : List Value} {M : Mem} {o : Ou} {k : Nat} {nx : NX}
    (h : step (GA p l e R s m args below meth c Q θ A mi ps c0 s0) ret tho thr Cl sc (.iastore) a v ts ls st M o k nx) (hn : ∀ ls st M o k, nx ls st M o k → GA p l e R s m args below meth c Q θ A mi ps c0 s0 (j + 1) ls st M o k) : GA p l e R s m args below meth c Q θ A mi ps c0 s0 j ls st M o k := by
  obtain ⟨hx, hb, hml, hown, hts, hK, hap, hsc⟩ := hA
  simp only [okE, Bool.and_eq_true] at hk
  obtain ⟨hd, hn1⟩ := hk
  obtain ⟨x, st, rfl, h⟩ := popI_e h
  obtain ⟨q, st, rfl, h⟩ := popI_e h
  obtain ⟨r, st, rfl, h⟩ := popR_e h
  intro H locs la hP hS hl
  obtain ⟨hc, hin, h⟩ := cond_e h
  have hc : clT r = 9 := Nat.eq_of_beq_eq_true hc
  have hr : r < NO := clT_lt (by omega)
  refine va_iast hx hb hK hP (hap.D M o) hS r 0 ((wcs_get hr).trans (by rw [wc_int hc])) rfl hin (of_decide_eq_true hd) (fun H1 locs1 hP1 hD1 hS1 => ?_)
  rw [wcs_set (M' := mset M r q.toNatClampNeg x) (o' := o) hr (by rw [wc_int hc, mset_row]) (fun i _ hi => wc_other hi)] at hP1
  have w := hn _ _ _ _ _ h H1 locs1 la hP1 hS1 hl
  rw [of_decide_eq_true hn1] at w
  exact w
theorem s_bastore (hA : Am p s m args c θ A mi sc) {a : Nat} {v : Int32} {ts : List Nat} {j : Nat} (hk : okE mi ps j (.bastore, a, v, ts) = true) {ls : Lv} {st : List Value} {M : Mem} {o : Ou} {k : Nat} {nx : NX}
    (h : step (GA p l e R s m args below meth c Q θ A mi ps c0 s0) ret tho thr Cl sc (.bastore) a v ts ls st M o k nx) (hn : ∀ ls st M o k, nx ls st M o k → GA p l e R s m args below meth c Q θ A mi ps c0 s0 (j + 1) ls st M o k) : GA p l e R s m args below meth c Q θ A mi ps c0 s0 j ls st M o k := by
  obtain ⟨hx, hb, hml, hown, hts, hK, hap, hsc⟩ := hA
  simp only [okE, Bool.and_eq_true] at hk
  obtain ⟨hd, hn1⟩ := hk
  obtain ⟨x, st, rfl, h⟩ := popI_e h
  obtain ⟨q, st, rfl, h⟩ := popI_e h
  obtain ⟨r, st, rfl, h⟩ := popR_e h
  intro H locs la hP hS hl
  obtain ⟨hc, hin, hz, h⟩ := cond_e h
  have hc : clT r = 10 := Nat.eq_of_beq_eq_true hc
  have hr : r < NO := clT_lt (by omega)
  have hnar : vp_nar .boolean x = x := by rcases hz with rfl | rfl <;> decide
  refine va_zast hx hb hK hP (hap.D M o) hS r 1 ((wcs_get hr).trans (by rw [wc_bool hc])) rfl hin (of_decide_eq_true hd) (fun H1 locs1 hP1 hD1 hS1 => ?_)
  rw [hnar, wcs_set (M' := mset M r q.toNatClampNeg x) (o' := o) hr (by rw [wc_bool hc, mset_row]) (fun i _ hi => wc_other hi)] at hP1
  have w := hn _ _ _ _ _ h H1 locs1 la hP1 hS1 hl
  rw [of_decide_eq_true hn1] at w
  exact w
theorem s_lastore (hA : Am p s m args c θ A mi sc) {a : Nat} {v : Int32} {ts : List Nat} {j : Nat} (hk : okE mi ps j (.lastore, a, v, ts) = true) {ls : Lv} {st : List Value} {M : Mem} {o : Ou} {k : Nat} {nx : NX}
    (h : step (GA p l e R s m args below meth c Q θ A mi ps c0 s0) ret tho thr Cl sc (.lastore) a v ts ls st M o k nx) (hn : ∀ ls st M o k, nx ls st M o k → GA p l e R s m args below meth c Q θ A mi ps c0 s0 (j + 1) ls st M o k) : GA p l e R s m args below meth c Q θ A mi ps c0 s0 j ls st M o k := by
  obtain ⟨hx, hb, hml, hown, hts, hK, hap, hsc⟩ := hA
  simp only [okE, Bool.and_eq_true] at hk
  obtain ⟨hd, hn1⟩ := hk
  obtain ⟨x, st, rfl, h⟩ := popL_e h
  obtain ⟨q, st, rfl, h⟩ := popI_e h
  obtain ⟨r, st, rfl, h⟩ := popR_e h
  intro H locs la hP hS hl
  obtain ⟨hc, hin, h⟩ := cond_e h
  have hc : clT r = 11 := Nat.eq_of_beq_eq_true hc
  have hr : r < NO := clT_lt (by omega)
  have hro := clT_out r hr hc
  refine va_last hx hb hK hP (hap.D M o) hS r 2 ((wcs_get hr).trans (by rw [wc_long hc])) rfl (by rw [hro]; exact hin) (of_decide_eq_true hd) (fun H1 locs1 hP1 hD1 hS1 => ?_)
  rw [wcs_set (M' := M) (o' := vp_updL o q.toNatClampNeg x) hr (by rw [wc_long hc]) (fun i hi hne => wc_out hi (fun h9 => hne (by rw [clT_out i hi h9, hro])))] at hP1
  have w := hn _ _ _ _ _ h H1 locs1 la hP1 hS1 hl
  rw [of_decide_eq_true hn1] at w
  exact w
theorem s_arraylength (hA : Am p s m args c θ A mi sc) {a : Nat} {v : Int32} {ts : List Nat} {j : Nat} (hk : okE mi ps j (.arraylength, a, v, ts) = true) {ls : Lv} {st : List Value} {M : Mem} {o : Ou} {k : Nat} {nx : NX}
    (h : step (GA p l e R s m args below meth c Q θ A mi ps c0 s0) ret tho thr Cl sc (.arraylength) a v ts ls st M o k nx) (hn : ∀ ls st M o k, nx ls st M o k → GA p l e R s m args below meth c Q θ A mi ps c0 s0 (j + 1) ls st M o k) : GA p l e R s m args below meth c Q θ A mi ps c0 s0 j ls st M o k := by
  obtain ⟨hx, hb, hml, hown, hts, hK, hap, hsc⟩ := hA
  simp only [okE, Bool.and_eq_true] at hk
  obtain ⟨hd, hn1⟩ := hk
  obtain ⟨r, st, rfl, h⟩ := popR_e h
  intro H locs la hP hS hl
  obtain ⟨hc, h⟩ := cond_e h
  have hc : r = SCR := Nat.eq_of_beq_eq_true hc
  subst hc
  have h : (match sc.1 with | 0 => False | L + 1 => nx ls (.int (nI L) :: st) M o k) := h
  rcases hsc with h0 | ⟨L, hL, hX, hbl, hbA⟩
  · rw [h0] at h
    exact h.elim
  · rw [hL] at h
    have w := hn _ _ _ _ _ h H locs la hP hS hl
    rw [of_decide_eq_true hn1] at w
    exact va_slen hx hb hX hbl hbA hS (of_decide_eq_true hd) w
end SND
end
section
/-! THE LOGIC, PART 4: contracts, calls, ends, throws. -/
/-- words of the throws that the tables alone decide -/
def BW : List Cond := EX.map (fun E => Cond.castable E E) ++ (["java/lang/RuntimeException", "java/lang/Exception", Bundle.tN] : List String).map (fun Y => Cond.declares (Bundle.initS Y))
theorem BW_tab : ∀ w ∈ BW, w.onTables = true := by decide +kernel
theorem BW_warm {s U : State} (hW : s.WarmedH U.vm) : ∀ w ∈ BW, va_Nw w s → va_Nw w U := by
  intro w hw h
  rcases List.mem_append.mp hw with h1 | h1
  · obtain ⟨E, -, rfl⟩ := List.mem_map.mp h1
    exact va_Nw.warmC hW h
  · obtain ⟨Y, -, rfl⟩ := List.mem_map.mp h1
    exact va_tabs rfl (rfl : (s.setVm U.vm).vm = U.vm) (by rw [Cond.declares_setVm hW.alike]; exact h)
/-- what the tables and the statics say at a state -/
def StU (θ : Th) (A : Nat → Prop) (U : State) (H : Heap) : Prop :=
  va_K θ.2.1 vwCl (tysOf θ) U ∧ vx_Zq Bundle.tN "UNASSIGNED_STACK" Bundle.steD A U H ∧ vx_Zq Bundle.tN "SUPPRESSED_SENTINEL" Bundle.listD A U H ∧ (∀ t, t < NTL → vk_R RX7 (TL t).2.2.1 (TL t).2.2.2.2.1 (θ.2.2.2 t) U) ∧
  (∀ w ∈ BW, va_Nw w U) ∧ (∀ E ∈ EX, ∀ F ∈ EX, E ≠ F → va_Nc E F U)
def PreU (θ : Th) (sz : Nat) (M : Mem) (o : Ou) (U : State) : Prop := U.heap.size = sz ∧ va_P θ.2.1 vwCl (wcs θ M o) U.heap ∧ apart θ (fun _ => True) ∧ StU θ (Aset θ sz) U U.heap
def rmOf (d kc : Nat) : Room := { frames := d, cells := kc, slots := 6 * kc, locals := 60 * d }
def wsOf (mi : Nat) : List Cond := wCode mi :: GW
def Qof (θ : Th) (sz : Nat) (post : Option Value → Mem → Ou → Prop) : Array Value → State → Outcome → State → Prop := fun _ st oc t =>
  (∃ v M o, oc = .returned (v.map (cv θ)) ∧ post v M o ∧ va_P θ.2.1 vwCl (wcs θ M o) t.heap) ∧ va_F (Aset θ sz) st t
def Xof (θ : Th) (sz : Nat) (px : String → Mem → Ou → Prop) : String → State → State → Prop := fun E st t =>
  (∃ M o, px E M o ∧ va_P θ.2.1 vwCl (wcs θ M o) t.heap) ∧ va_F (Aset θ sz) st t
/-- THE CONTRACT of method mi at the arguments as and the memory M: it returns with post, or throws with px; at most kc throws are made; d bounds its frames -/
def Ct (l : Launch) (d kc mi : Nat) (as : List Value) (M : Mem) (o : Ou) (post : Option Value → Mem → Ou → Prop) (px : String → Mem → Ou → Prop) : Prop :=
  ∀ (θ : Th) (sz : Nat), vx_Met l (yT mi) (wsOf mi) (rmOf d kc) (va_Pc (as.map (cv θ)) (PreU θ sz M o)) (Qof θ sz post) (Xof θ sz px) kc (6 * kc) (Aset θ sz)
def ClA (l : Launch) (d K : Nat) (k mi : Nat) (as : List Value) (M : Mem) (o : Ou) (cont : Option Value → Mem → Ou → Nat → Prop) (xc : String → Mem → Ou → Nat → Prop) : Prop :=
  ∃ d' kc post px, d' < d ∧ k + kc ≤ K ∧ Ct l d' kc mi as M o post px ∧ (∀ v M' o', post v M' o' → cont v M' o' (k + kc)) ∧ (∀ E M' o', px E M' o' → xc E M' o' (k + kc))
theorem StU.blind {θ : Th} {A : Nat → Prop} {U U' : State} {H : Heap} (hv : U'.vm = U.vm) (h : StU θ A U H) : StU θ A U' H := by
  obtain ⟨h1, h2, h3, h4, h5, h6⟩ := h
  have ha : U.vm.Alike U'.vm := by rw [hv]; exact Vm.Alike.refl _
  exact ⟨h1.moved ha, h2.moved ha, h3.moved ha, fun t ht => (h4 t ht).same hv, fun w hw => va_tabs (BW_tab w hw) hv.symm (h5 w hw), fun E hE F hF hn => (h6 E hE F hF hn).moved ha⟩
theorem StU.warm {θ : Th} {A B : Nat → Prop} {s U : State} {H H1 : Heap} (hW : s.WarmedH U.vm) (h : StU θ A s H) (hq : ∀ a : Nat, a < H.size → ¬ A a → H1[a]? = H[a]?) (hB : ∀ q, B q → A q) : StU θ B U H1 := by
  obtain ⟨h1, h2, h3, h4, h5, h6⟩ := h
  exact ⟨h1.moved hW.alike, ((h2.kept hq).moved hW.alike).narrow hB, ((h3.kept hq).moved hW.alike).narrow hB, fun t ht => (h4 t ht).warm hW, fun w hw => BW_warm hW w hw (h5 w hw), fun E hE F hF hn => (h6 E hE F hF hn).moved hW.alike⟩
theorem pre_blind {θ : Th} {sz : Nat} {M : Mem} {o : Ou} {as : List Value} : FrameBlind (va_Pc as (PreU θ sz M o)) := by
  intro a U g mk h
  obtain ⟨h1, h2, h3, h4, h5⟩ := h
  exact ⟨h1, h2, h3, h4, StU.blind (U := U) (U' := U.calling g mk a) (H := U.heap) rfl h5⟩
theorem mf_at {i : Nat} (h : i < NMT) : mfOk i = true := List.all_eq_true.mp mf_all i (List.mem_range.mpr h)
theorem nm_at {i : Nat} (h : i < NMT) (hk : kdT i ≠ 0) : plainName (yT i).cls = true ∧ (yT i).cls = cnm (owT i) ∧ (yT i).cls ≠ "java/lang/invoke/MethodHandle" ∧ (yT i).cls ≠ "java/lang/invoke/VarHandle" ∧ (parseMethodDescriptor (yT i).desc).map (fun d => d.parameters.length) = some (npT i) ∧ mlT i ≤ 40 := by
  have := List.all_eq_true.mp nm_all i (List.mem_range.mpr h)
  simp only [nmOk, Bool.or_eq_true, beq_iff_eq, Bool.and_eq_true, decide_eq_true_eq] at this
  rcases this with q | ⟨⟨⟨⟨⟨q1, q2⟩, q3⟩, q4⟩, q5⟩, q6⟩
  · exact absurd q hk
  · exact ⟨q1, q2, q3, q4, q5, q6⟩
theorem hh_virt : ∀ i, i < NMT → kdT i = 1 → hhT i = none ∧ owT i < 9 := by decide +kernel
section CAL
variable {p : Program} {l : Launch} {e : Env} {R : Room} {s : State} {m : MethodId} {args : Array Value} {below : List Frame} {meth : Method} {c : Code} {Q : State → Prop}
variable {θ : Th} {A : Nat → Prop} {mi c0 s0 d K : Nat} {ps : List Nat} {sc : Nat × (Nat → Int32)}
variable {ret : Option Value → Mem → Ou → Nat → Prop} {tho : String → Mem → Ou → Nat → Prop} {thr : String → Lv → Mem → Ou → Nat → Prop}
/-- a run of a callee, and what is behind it -/
theorem run_W {H : Heap} {locs : List Loc} {cells slots mc ms sz : Nat} {pc : Nat} {ls : Array Slot} {st0 rest : List Value} {a : Array Value} {post : Option Value → Mem → Ou → Prop} {px : String → Mem → Ou → Prop}
    (hr : vx_Run p l e R s m args below meth c H locs cells slots mc ms (F0 m pc ls st0) rest (Qof θ sz post a) (Xof θ sz px) (Aset θ sz)) (hS : va_S A s.heap H locs) (hA : ∀ q, Aset θ sz q → A q)
    (kx : ∀ (E : String) (ce : Cell) (q9 : Addr) (M : Mem) (o : Ou) (H1 : Heap) (locs1 : List Loc), px E M o → va_P θ.2.1 vwCl (wcs θ M o) H1 → va_S A s.heap H1 locs1 → H1[q9]? = some ce → ce.vm = .none → s.vm.findClass E = some ce.cls → vx_W p l e R s m args below meth c H1 locs1 (cells + mc) (slots + ms) Q (F0 m pc ls rest) q9)
    (kk : ∀ (v : Option Value) (M : Mem) (o : Ou) (H1 : Heap) (locs1 : List Loc), post v M o → va_P θ.2.1 vwCl (wcs θ M o) H1 → va_S A s.heap H1 locs1 → W p l e R s m args below meth c H1 locs1 (cells + mc) (slots + ms) Q (F0 m (pc + 3) ls ((v.map (cv θ)).toList ++ rest))) : W p l e R s m args below meth c H locs cells slots Q (F0 m pc ls st0) := by
  intro T hT X
  rcases hr T hT X with ⟨v, st₀, t, T', L, h0, X', hL, e1, e2, ⟨⟨u, M, o, hv, hp, hb⟩, hF⟩, st⟩ | ⟨q, st₀, t, T', L, E, ce, h0, X', hL, e1, e2, ⟨⟨M, o, hp, hb⟩, hF⟩, hce, hcv, hcl, st⟩
  · cases hv
    obtain ⟨k1, k2, k3⟩ := vx_keep h0 e1 hS (fun q _ => hA q) hA hL hF
    obtain ⟨t2, a1, b1⟩ := kk u M o T'.heap (locs ++ L) hp (by rw [e1]; exact hb) k3 T' rfl X'
    exact ⟨t2, st t2 a1, b1⟩
  · obtain ⟨k1, k2, k3⟩ := vx_keep h0 e1 hS (fun q _ => hA q) hA hL hF
    obtain ⟨t2, a1, b1⟩ := kx E ce q M o T'.heap (locs ++ L) hp (by rw [e1]; exact hb) k3 (by rw [e1]; exact hce) hcv hcl T' rfl X'
    exact ⟨t2, st.trans a1, b1⟩
/-- what the ground says more, for calls -/
def Am2 (l : Launch) (R : Room) (s : State) (θ : Th) (A : Nat → Prop) (c0 s0 d K : Nat) : Prop :=
  StU θ A s s.heap ∧ (∀ q, s.heap.size ≤ q → A q) ∧ d ≤ R.frames ∧ 60 * d ≤ R.locals ∧ c0 + K ≤ R.cells ∧ s0 + 6 * K ≤ R.slots
/-- what a throw out of a callee comes to -/
def ThrOk (p : Program) (l : Launch) (e : Env) (R : Room) (s : State) (m : MethodId) (args : Array Value) (below : List Frame) (meth : Method) (c : Code) (Q : State → Prop) (θ : Th) (A : Nat → Prop) (mi : Nat) (ps : List Nat) (c0 s0 : Nat) (thr : String → Lv → Mem → Ou → Nat → Prop) (j : Nat) : Prop :=
  ∀ (E : String) (ls : Lv) (M : Mem) (o : Ou) (k : Nat), thr E ls M o k → ∀ (ce : Cell) (q9 : Addr) (H : Heap) (locs : List Loc) (la : Array Slot) (st : List Value), va_P θ.2.1 vwCl (wcs θ M o) H → va_S A s.heap H locs → lh θ la (mlT mi) ls → H[q9]? = some ce → ce.vm = .none → s.vm.findClass E = some ce.cls →
    vx_W p l e R s m args below meth c H locs (c0 + k) (s0 + 6 * k) Q (F0 m (ps.getD j 0) la st) q9
theorem cb_of (hA : Am p s m args c θ A mi sc) (hA2 : Am2 l R s θ A c0 s0 d K) {a n d' kc : Nat} (hlk : (owT mi, n, a) ∈ ML) (ha : a < NMT) (hk : kdT a ≠ 0) (hh : hhT a = none) (hd : d' < d) :
    CallB R s args (cnm (owT mi)) n (yT a) (bT a) (mlT a) (rtT a) (wsOf a) (rmOf d' kc) kc (6 * kc) (npT a) := by
  obtain ⟨hx, hb, hml, hown, hts, hK, hap, hsc⟩ := hA
  obtain ⟨hst, hAs, hRf, hRl, hRc, hRs⟩ := hA2
  obtain ⟨-, hcn, n1, n2, n3, n4⟩ := nm_at ha hk
  have hcw : wCode a ∈ GW := cw_ok a ha hk
  have hce : wCode a = Cond.code (yT a) (bT a) (mlT a) (rtT a) := by unfold wCode; rw [hh]
  have hini : Cond.initialized (yT a).cls ∈ GW := by
    have h1 := mf_at ha
    unfold mfOk at h1
    split at h1
    · rename_i h0; exact absurd h0 hk
    · simp only [Bool.and_eq_true] at h1
      exact gw_of (of_decide_eq_true h1.2) rfl
    · simp only [Bool.and_eq_true] at h1
      exact gw_of (of_decide_eq_true h1.2) rfl
  refine ⟨rfl, rfl, ?_, ?_, ?_, ?_, ?_, hts _ hini, ⟨n1, n2⟩, ?_, hts _ (ML_ok _ hlk)⟩
  · show d' + 1 ≤ R.frames; omega
  · show 8 + (mlT a + 11) + 60 * d' ≤ R.locals; omega
  · refine pay_in hts (fun w hw => ?_)
    rcases List.mem_cons.mp hw with rfl | hw
    · exact ⟨hcw, GW_good _ hcw⟩
    · exact ⟨hw, GW_good _ hw⟩
  · rw [← hce]; exact List.mem_cons_self
  · rw [← hce]; exact hts _ hcw
  · intro sig hs
    rw [hs] at n3
    exact (Option.some.inj n3).symm
theorem csw_of (hA : Am p s m args c θ A mi sc) (hA2 : Am2 l R s θ A c0 s0 d K) {a n d' kc : Nat} {hh : List (Nat × Nat × Nat × Nat)} (hlk : (owT mi, n, a) ∈ ML) (ha : a < NMT) (hk : kdT a = 2) (hhe : hhT a = some hh) (hd : d' < d) :
    vx_CSW R s args (cnm (owT mi)) n (yT a) (bT a) (mlT a) (rtT a) hh (wsOf a) (rmOf d' kc) kc (6 * kc) (npT a) := by
  obtain ⟨hx, hb, hml, hown, hts, hK, hap, hsc⟩ := hA
  obtain ⟨hst, hAs, hRf, hRl, hRc, hRs⟩ := hA2
  obtain ⟨-, hcn, n1, n2, n3, n4⟩ := nm_at ha (by omega)
  have hcw : wCode a ∈ GW := cw_ok a ha (by omega)
  have hce : wCode a = Cond.codeWith (yT a) (bT a) (mlT a) (rtT a) hh := by unfold wCode; rw [hhe]
  have h1 := mf_at ha
  simp only [mfOk, hk, Bool.and_eq_true] at h1
  refine ⟨⟨rfl, rfl, ?_, ?_, ?_, ?_⟩, ?_, hts _ (gw_of (of_decide_eq_true h1.2) rfl), ⟨n1, n2⟩, ?_, hts _ (ML_ok _ hlk), hts _ (gw_of (of_decide_eq_true h1.1) rfl)⟩
  · show d' + 1 ≤ R.frames; omega
  · show 8 + (mlT a + 11) + 60 * d' ≤ R.locals; omega
  · refine pay_in hts (fun w hw => ?_)
    rcases List.mem_cons.mp hw with rfl | hw
    · exact ⟨hcw, GW_good _ hcw⟩
    · exact ⟨hw, GW_good _ hw⟩
  · rw [← hce]; exact List.mem_cons_self
  · rw [← hce]; exact hts _ hcw
  · intro sig hs
    rw [hs] at n3
    exact (Option.some.inj n3).symm
theorem pre_of (hA : Am p s m args c θ A mi sc) (hA2 : Am2 l R s θ A c0 s0 d K) {H : Heap} {locs : List Loc} {M : Mem} {o : Ou} {as : List Value} (hP : va_P θ.2.1 vwCl (wcs θ M o) H) (hS : va_S A s.heap H locs) :
    ∀ U : State, U.heap = H → s.WarmedH U.vm → va_Pc (as.map (cv θ)) (PreU θ H.size M o) (as.map (cv θ)).toArray U := by
  intro U hU hW
  obtain ⟨-, -, -, -, -, -, hap, -⟩ := hA
  obtain ⟨hst, hAs, -⟩ := hA2
  refine ⟨rfl, by rw [hU], by rw [hU]; exact hP, ⟨hap.1, fun _ _ => trivial⟩, ?_⟩
  rw [hU]
  refine hst.warm hW (fun a h1 h2 => hS.2.1 a h1 h2) (fun q hq => ?_)
  rcases hq with ⟨i, hi, rfl⟩ | hq
  · exact hap.2 i hi
  · exact hAs q (Nat.le_trans hS.1 hq)
theorem sub_of (hA : Am p s m args c θ A mi sc) (hA2 : Am2 l R s θ A c0 s0 d K) {H : Heap} {locs : List Loc} (hS : va_S A s.heap H locs) : ∀ q, Aset θ H.size q → A q := by
  obtain ⟨-, -, -, -, -, -, hap, -⟩ := hA
  obtain ⟨hst, hAs, -⟩ := hA2
  intro q hq
  rcases hq with ⟨i, hi, rfl⟩ | hq
  · exact hap.2 i hi
  · exact hAs q (Nat.le_trans hS.1 hq)
theorem catS_cv {st : List Value} : catS (st.map (cv θ)) = catS st := by
  unfold catS
  rw [List.map_map]
  congr 1
  apply List.map_congr_left
  intro v _
  cases v <;> rfl
theorem lh_size {la : Array Slot} {nL : Nat} {ls : Lv} (h : lh θ la nL ls) : la.size = nL := by
  obtain ⟨-, lv, h1, -⟩ := h
  exact h1.1
theorem s_invokevirtual {n : Nat} (hA : Am p s m args c θ A mi sc) (hA2 : Am2 l R s θ A c0 s0 d K) {a : Nat} {v : Int32} {ts : List Nat} {j : Nat} (hk : okE mi ps j (.invokevirtual n, a, v, ts) = true) (ht : ThrOk p l e R s m args below meth c Q θ A mi ps c0 s0 thr j) {ls : Lv} {st : List Value} {M : Mem} {o : Ou} {k : Nat} {nx : NX}
    (h : step (GA p l e R s m args below meth c Q θ A mi ps c0 s0) ret tho thr (ClA l d K) sc (.invokevirtual n) a v ts ls st M o k nx) (hn : ∀ ls st M o k, nx ls st M o k → GA p l e R s m args below meth c Q θ A mi ps c0 s0 (j + 1) ls st M o k) : GA p l e R s m args below meth c Q θ A mi ps c0 s0 j ls st M o k := by
  simp only [okE, Bool.and_eq_true] at hk
  obtain ⟨⟨⟨⟨⟨hd, hn1⟩, hlk⟩, hkd⟩, hna⟩, ha⟩ := hk
  have hlk : (owT mi, n, a) ∈ ML := by simpa using hlk
  have hkd : kdT a = 1 := of_decide_eq_true hkd
  have ha : a < NMT := of_decide_eq_true ha
  obtain ⟨as, st, hlen, rfl, h2⟩ := popK_e h
  clear h
  rw [List.append_nil] at h2
  split at h2
  · rename_i r As
    obtain ⟨hr, h⟩ := cond_e h2
    obtain ⟨hcat, d', kc, post, px, hdd, hkK, hct, hc1, hc2⟩ := cond_e h
    have hr : clT r = owT a := Nat.eq_of_beq_eq_true hr
    have hcat : catS st ≤ 8 := Nat.le_of_ble_eq_true hcat
    obtain ⟨hhn, how⟩ := hh_virt a ha hkd
    have hrN : r < NO := clT_lt (by omega)
    obtain ⟨-, hcn, -⟩ := nm_at ha (by omega)
    intro H locs la hP hS hl
    have cb := cb_of (kc := kc) hA hA2 hlk ha (by omega) hhn hdd
    have h1 := mf_at ha
    simp only [mfOk, hkd, Bool.and_eq_true] at h1
    obtain ⟨hx, hb, hml, hown, hts, hK, hap, hsc⟩ := id hA
    obtain ⟨hst, hAs, hRf, hRl, hRc, hRs⟩ := id hA2
    have hrun := vx_runV (p := p) (l := l) (e := e) (R := R) (s := s) (m := m) (args := args) (below := below) (meth := meth) (c := c) (H := H) (locs := locs) (cells := c0 + k) (slots := s0 + 6 * k) (Ts := GW) (own := cnm (owT mi)) (C := (yT a).cls) (b := θ.1 r) (As := As.map (cv θ)) (rest := st.map (cv θ)) (g := F0 m (ps.getD j 0) la (((.ref r :: As).reverse ++ st).map (cv θ))) (nL := mlT mi)
      ⟨hx, hb, hml, hown, hts⟩ (hct θ H.size) ⟨cb, hts _ (gw_of (of_decide_eq_true h1.1.1) rfl), hts _ (gw_of (of_decide_eq_true h1.1.2) rfl)⟩
      ⟨pre_blind, by
        have := va_recv hK hP (cls_ok _ (show clT r < 9 by omega)) ((wcs_get (θ := θ) (M := M) (o := o) hrN).trans (by rw [wc_obj (by omega)]))
        dsimp only at this
        rw [hr, ← hcn] at this
        exact this, pre_of (as := .ref r :: As) hA hA2 hP hS⟩ rfl (by have e9 : ts.getD 0 0 = npT a + 1 := of_decide_eq_true hna; rw [e9, List.length_cons] at hlen; rw [List.length_map]; omega) (lh_size hl) (by simp [cv]) (by
        have : catS (st.map (cv θ)) ≤ 8 := by rw [catS_cv]; exact hcat
        exact lv_room this) (of_decide_eq_true hd) ⟨by omega, by omega⟩
    refine run_W hrun hS (sub_of hA hA2 hS) (fun E ce q9 M' o' H1 locs1 hp hP1 hS1 e1 e2 e3 => ?_) (fun v M' o' H1 locs1 hp hP1 hS1 => ?_)
    · have := ht E ls M' o' (k + kc) (hc2 E M' o' hp) ce q9 H1 locs1 la (st.map (cv θ)) hP1 hS1 hl e1 e2 e3
      rw [← Nat.add_assoc, Nat.mul_add, ← Nat.add_assoc] at this
      exact this
    · have w := hn _ _ _ _ _ (hc1 v M' o' hp) H1 locs1 la hP1 hS1 hl
      rw [of_decide_eq_true hn1, ← Nat.add_assoc, Nat.mul_add, ← Nat.add_assoc] at w
      cases v <;> exact w
  · exact h2.elim
theorem math_ok : (yT 177 = Lib.Math.max.name ∧ yT 178 = Lib.Math.min.name) := by decide +kernel
theorem math_w1 : Cond.static Lib.Math.max.name ∈ GW := by
  have : Cond.static Lib.Math.max.name ∈ lw_tbl := by decide +kernel
  exact List.mem_filter.mpr ⟨this, rfl⟩
theorem math_w2 : Cond.static Lib.Math.min.name ∈ GW := by
  have : Cond.static Lib.Math.min.name ∈ lw_tbl := by decide +kernel
  exact List.mem_filter.mpr ⟨this, rfl⟩
theorem math_w3 : Cond.initialized "java/lang/Math" ∈ GW := by
  have : Cond.initialized "java/lang/Math" ∈ lw_tbl := by decide +kernel
  exact List.mem_filter.mpr ⟨this, rfl⟩
theorem math_w4 : Cond.code Lib.Math.max.name Lib.Math.max.code 2 (some .int) ∈ GW := by
  have : Cond.code Lib.Math.max.name Lib.Math.max.code 2 (some .int) ∈ lw_tbl := by decide +kernel
  exact List.mem_filter.mpr ⟨this, rfl⟩
theorem math_w5 : Cond.code Lib.Math.min.name Lib.Math.min.code 2 (some .int) ∈ GW := by
  have : Cond.code Lib.Math.min.name Lib.Math.min.code 2 (some .int) ∈ lw_tbl := by decide +kernel
  exact List.mem_filter.mpr ⟨this, rfl⟩
theorem s_invokestatic {n : Nat} (hA : Am p s m args c θ A mi sc) (hA2 : Am2 l R s θ A c0 s0 d K) {a : Nat} {v : Int32} {ts : List Nat} {j : Nat} (hk : okE mi ps j (.invokestatic n, a, v, ts) = true) (ht : ThrOk p l e R s m args below meth c Q θ A mi ps c0 s0 thr j) {ls : Lv} {st : List Value} {M : Mem} {o : Ou} {k : Nat} {nx : NX} (hd1 : 1 ≤ d)
    (h : step (GA p l e R s m args below meth c Q θ A mi ps c0 s0) ret tho thr (ClA l d K) sc (.invokestatic n) a v ts ls st M o k nx) (hn : ∀ ls st M o k, nx ls st M o k → GA p l e R s m args below meth c Q θ A mi ps c0 s0 (j + 1) ls st M o k) : GA p l e R s m args below meth c Q θ A mi ps c0 s0 j ls st M o k := by
  simp only [okE, Bool.and_eq_true] at hk
  obtain ⟨⟨⟨⟨hd, hn1⟩, hlk⟩, ha⟩, hkk⟩ := hk
  have hlk : (owT mi, n, a) ∈ ML := by simpa using hlk
  have ha : a < NMT := of_decide_eq_true ha
  simp only [step] at h
  obtain ⟨hx, hb, hml, hown, hts, hK, hap, hsc⟩ := id hA
  obtain ⟨hst, hAs, hRf, hRl, hRc, hRs⟩ := id hA2
  split at h
  · rename_i e1
    simp only [e1] at hkk
    cases of_decide_eq_true hkk
    obtain ⟨y, st, rfl, h2⟩ := popI_e h
    clear h
    obtain ⟨x, st, rfl, h3⟩ := popI_e h2
    clear h2
    obtain ⟨hcat, h⟩ := cond_e h3
    rw [Bool.and_eq_true] at hcat
    have hk0 : k = 0 := Nat.eq_of_beq_eq_true hcat.1
    have hcat : catS st ≤ 8 := Nat.le_of_ble_eq_true hcat.2
    intro H locs la hP hS hl
    have w := hn _ _ _ _ _ h H locs la hP hS hl
    rw [of_decide_eq_true hn1] at w
    have hlw := hts _ (ML_ok _ hlk)
    simp only [wML, math_ok.1] at hlw
    have hc2 : catS (st.map (cv θ)) ≤ 8 := by rw [catS_cv]; exact hcat
    exact va_mmax hx hb (by rw [hml, lh_size hl]) hown hlw (hts _ math_w1) (hts _ math_w3) (hts _ math_w4) (by omega) (by unfold catS at hc2; omega) (by omega) (by omega) (of_decide_eq_true hd) w
  · rename_i e1
    simp only [e1] at hkk
    cases of_decide_eq_true hkk
    obtain ⟨y, st, rfl, h2⟩ := popI_e h
    clear h
    obtain ⟨x, st, rfl, h3⟩ := popI_e h2
    clear h2
    obtain ⟨hcat, h⟩ := cond_e h3
    rw [Bool.and_eq_true] at hcat
    have hk0 : k = 0 := Nat.eq_of_beq_eq_true hcat.1
    have hcat : catS st ≤ 8 := Nat.le_of_ble_eq_true hcat.2
    intro H locs la hP hS hl
    have w := hn _ _ _ _ _ h H locs la hP hS hl
    rw [of_decide_eq_true hn1] at w
    have hlw := hts _ (ML_ok _ hlk)
    simp only [wML, math_ok.2] at hlw
    have hc2 : catS (st.map (cv θ)) ≤ 8 := by rw [catS_cv]; exact hcat
    exact va_mmin hx hb (by rw [hml, lh_size hl]) hown hlw (hts _ math_w2) (hts _ math_w3) (hts _ math_w5) (by omega) (by unfold catS at hc2; omega) (by omega) (by omega) (of_decide_eq_true hd) w
  · rename_i e1 e2
    have hkk : (decide (kdT a = 2) && decide (ts.getD 0 0 = npT a)) = true := by
      revert hkk
      split
      · rename_i q; exact absurd q e1
      · rename_i q; exact absurd q e2
      · exact id
    simp only [Bool.and_eq_true, decide_eq_true_eq] at hkk
    obtain ⟨hkd, hna⟩ := hkk
    obtain ⟨as, st, hlen, rfl, h2⟩ := popK_e h
    clear h
    rw [List.append_nil] at h2
    obtain ⟨hcat, d', kc, post, px, hdd, hkK, hct, hc1, hc2⟩ := cond_e h2
    have hcat : catS st ≤ 8 := Nat.le_of_ble_eq_true hcat
    intro H locs la hP hS hl
    have h1 := mf_at ha
    simp only [mfOk, hkd, Bool.and_eq_true] at h1
    have hrm : 2 * (F0 m (ps.getD j 0) la ((as.reverse ++ st).map (cv θ))).monitorRoom + ((st.map (cv θ)).map fun v => v.category).sum ≤ 8 := by
      have : catS (st.map (cv θ)) ≤ 8 := by rw [catS_cv]; exact hcat
      exact lv_room this
    have hrun : vx_Run p l e R s m args below meth c H locs (c0 + k) (s0 + 6 * k) kc (6 * kc) (F0 m (ps.getD j 0) la ((as.reverse ++ st).map (cv θ))) (st.map (cv θ)) (Qof θ H.size post (as.map (cv θ)).toArray) (Xof θ H.size px) (Aset θ H.size) := by
      cases hhe : hhT a with
      | none => exact vx_runS (Ts := GW) (own := cnm (owT mi)) (As := as.map (cv θ)) (nL := mlT mi) ⟨hx, hb, hml, hown, hts⟩ (hct θ H.size) ⟨cb_of (kc := kc) hA hA2 hlk ha (by omega) hhe hdd, hts _ (gw_of (of_decide_eq_true h1.1) rfl)⟩ ⟨pre_blind, pre_of (as := as) hA hA2 hP hS⟩ rfl (by rw [List.length_map, hlen, hna]) (lh_size hl) (by simp) hrm (of_decide_eq_true hd) ⟨by omega, by omega⟩
      | some hh => exact vx_runSX (hh := hh) (Ts := GW) (own := cnm (owT mi)) (As := as.map (cv θ)) (nL := mlT mi) ⟨hx, hb, hml, hown, hts⟩ (hct θ H.size) (csw_of (kc := kc) hA hA2 hlk ha hkd hhe hdd) ⟨pre_blind, pre_of (as := as) hA hA2 hP hS⟩ rfl (by rw [List.length_map, hlen, hna]) (lh_size hl) (by simp) hrm (of_decide_eq_true hd) ⟨by omega, by omega⟩
    refine run_W hrun hS (sub_of hA hA2 hS) (fun E ce q9 M' o' H1 locs1 hp hP1 hS1 e1 e2 e3 => ?_) (fun v M' o' H1 locs1 hp hP1 hS1 => ?_)
    · have := ht E ls M' o' (k + kc) (hc2 E M' o' hp) ce q9 H1 locs1 la (st.map (cv θ)) hP1 hS1 hl e1 e2 e3
      rw [← Nat.add_assoc, Nat.mul_add, ← Nat.add_assoc] at this
      exact this
    · have w := hn _ _ _ _ _ (hc1 v M' o' hp) H1 locs1 la hP1 hS1 hl
      rw [of_decide_eq_true hn1, ← Nat.add_assoc, Nat.mul_add, ← Nat.add_assoc] at w
      cases v <;> exact w
end CAL
end
section
/-! THE LOGIC, PART 5: a method's body as a whole. -/
def chk (mi : Nat) (ps : List Nat) (em : List En) : Bool := (List.range em.length).all (fun j => okE mi ps j (em.getD j (.nop, 0, 0, [])))
theorem chk_e {mi : Nat} {ps : List Nat} {em : List En} (h : chk mi ps em = true) : ∀ j q, em[j]? = some q → okE mi ps j q = true := by
  intro j q hq
  have hj : j < em.length := (List.getElem?_eq_some_iff.mp hq).1
  have := List.all_eq_true.mp h j (List.mem_range.mpr hj)
  rw [List.getD_eq_getElem?_getD, hq] at this
  exact this
section BOD
variable {p : Program} {l : Launch} {e : Env} {R : Room} {s : State} {m : MethodId} {args : Array Value} {below : List Frame} {meth : Method} {c : Code} {Q : State → Prop}
variable {θ : Th} {A : Nat → Prop} {mi c0 s0 d K : Nat} {ps : List Nat} {sc : Nat × (Nat → Int32)}
variable {ret : Option Value → Mem → Ou → Nat → Prop} {tho : String → Mem → Ou → Nat → Prop} {thr : String → Lv → Mem → Ou → Nat → Prop}
def RetOk (p : Program) (l : Launch) (e : Env) (R : Room) (s : State) (m : MethodId) (args : Array Value) (below : List Frame) (meth : Method) (c : Code) (Q : State → Prop) (θ : Th) (A : Nat → Prop) (mi c0 s0 : Nat) (ret : Option Value → Mem → Ou → Nat → Prop) : Prop :=
  (∀ x M o k, ret (some (.int x)) M o k → (rtT mi = some .int ∨ (rtT mi = some .boolean ∧ bz x)) → ∀ (H : Heap) (locs : List Loc) (la : Array Slot) (pc : Nat), va_P θ.2.1 vwCl (wcs θ M o) H → va_S A s.heap H locs → decode (bT mi) pc = .ok (.ireturn, 1) → W p l e R s m args below meth c H locs (c0 + k) (s0 + 6 * k) Q (F0 m pc la [.int x])) ∧
  (∀ x M o k, ret (some (.long x)) M o k → rtT mi = some .long → ∀ (H : Heap) (locs : List Loc) (la : Array Slot) (pc : Nat), va_P θ.2.1 vwCl (wcs θ M o) H → va_S A s.heap H locs → decode (bT mi) pc = .ok (.lreturn, 1) → W p l e R s m args below meth c H locs (c0 + k) (s0 + 6 * k) Q (F0 m pc la [.long x])) ∧
  (∀ M o k, ret none M o k → rtT mi = none → ∀ (H : Heap) (locs : List Loc) (la : Array Slot) (pc : Nat), va_P θ.2.1 vwCl (wcs θ M o) H → va_S A s.heap H locs → decode (bT mi) pc = .ok (.return_, 1) → W p l e R s m args below meth c H locs (c0 + k) (s0 + 6 * k) Q (F0 m pc la []))
def ThoOk (p : Program) (l : Launch) (e : Env) (R : Room) (s : State) (m : MethodId) (args : Array Value) (below : List Frame) (meth : Method) (c : Code) (Q : State → Prop) (θ : Th) (A : Nat → Prop) (mi : Nat) (ps : List Nat) (c0 s0 : Nat) (tho : String → Mem → Ou → Nat → Prop) : Prop :=
  ∀ (j ik a : Nat), thOk mi ps j ik a = true → ∀ M o k, tho (TL a).1 M o (k + 1) → ∀ (H : Heap) (locs : List Loc) (la : Array Slot) (ls : Lv) (st : List Value), catS st ≤ 8 → va_P θ.2.1 vwCl (wcs θ M o) H → va_S A s.heap H locs → lh θ la (mlT mi) ls → W p l e R s m args below meth c H locs (c0 + k) (s0 + 6 * k) Q (F0 m (ps.getD j 0) la (st.map (cv θ)))
set_option maxHeartbeats 4000000 in
theorem exec_sound (hA : Am p s m args c θ A mi sc) (hA2 : Am2 l R s θ A c0 s0 d K) (hd1 : 1 ≤ d) (hR : RetOk p l e R s m args below meth c Q θ A mi c0 s0 ret) (hT : ThoOk p l e R s m args below meth c Q θ A mi ps c0 s0 tho)
    {em : List En} (hX : ∀ j n a v ts, em[j]? = some (.invokevirtual n, a, v, ts) ∨ em[j]? = some (.invokestatic n, a, v, ts) → ThrOk p l e R s m args below meth c Q θ A mi ps c0 s0 thr j) (hem : chk mi ps em = true) :
    ∀ (r : List En) (j : Nat), em.drop j = r → ∀ ls st M o k, exec (GA p l e R s m args below meth c Q θ A mi ps c0 s0) ret tho thr (ClA l d K) sc r ls st M o k → GA p l e R s m args below meth c Q θ A mi ps c0 s0 j ls st M o k := by
  intro r
  induction r with
  | nil => intro j _ ls st M o k h; exact False.elim h
  | cons q r ih =>
    intro j hj ls st M o k h
    have hq : em[j]? = some q := by
      have : (em.drop j)[0]? = some q := by rw [hj]; rfl
      rwa [List.getElem?_drop, Nat.add_zero] at this
    have hr : em.drop (j + 1) = r := by
      rw [← List.tail_drop, hj]; rfl
    have hk := chk_e hem j q hq
    have hn := ih (j + 1) hr
    obtain ⟨i, a, v, ts⟩ := q
    replace h : step (GA p l e R s m args below meth c Q θ A mi ps c0 s0) ret tho thr (ClA l d K) sc i a v ts ls st M o k (exec (GA p l e R s m args below meth c Q θ A mi ps c0 s0) ret tho thr (ClA l d K) sc r) := h
    cases i
    all_goals first | exact False.elim h | skip
    case iload_n => exact s_iload_n hA hk h hn
    case iload => exact s_iload hA hk h hn
    case lload_n => exact s_lload_n hA hk h hn
    case lload => exact s_lload hA hk h hn
    case aload_n => exact s_aload_n hA hk h hn
    case aload => exact s_aload hA hk h hn
    case istore_n => exact s_istore_n hA hk h hn
    case istore => exact s_istore hA hk h hn
    case astore_n => exact s_astore_n hA hk h hn
    case astore => exact s_astore hA hk h hn
    case lstore_n => exact s_lstore_n hA hk h hn
    case lstore => exact s_lstore hA hk h hn
    case iinc => exact s_iinc hA hk h hn
    case iconst => exact s_iconst hA hk h hn
    case bipush => exact s_bipush hA hk h hn
    case sipush => exact s_sipush hA hk h hn
    case ldc => exact s_ldc hA hk h hn
    case ldc2_w => exact s_ldc2_w hA hk h hn
    case lconst => exact s_lconst hA hk h hn
    case iadd => exact s_iadd hA hk h hn
    case isub => exact s_isub hA hk h hn
    case imul => exact s_imul hA hk h hn
    case iand => exact s_iand hA hk h hn
    case idiv => exact s_idiv hA hk h hn
    case irem => exact s_irem hA hk h hn
    case ladd => exact s_ladd hA hk h hn
    case lsub => exact s_lsub hA hk h hn
    case lmul => exact s_lmul hA hk h hn
    case land => exact s_land hA hk h hn
    case lrem => exact s_lrem hA hk h hn
    case lcmp => exact s_lcmp hA hk h hn
    case i2l => exact s_i2l hA hk h hn
    case l2i => exact s_l2i hA hk h hn
    case dup => exact s_dup hA hk h hn
    case dup2 => exact s_dup2 hA hk h hn
    case if_icmp => exact s_if_icmp hA hk h hn
    case ifCond => exact s_ifCond hA hk h hn
    case goto => exact s_goto hA hk h hn
    case tableswitch => exact s_tableswitch hA hk h hn
    case getfield => exact s_getfield hA hk h hn
    case putfield => exact s_putfield hA hk h hn
    case iaload => exact s_iaload hA hk h hn
    case baload => exact s_baload hA hk h hn
    case laload => exact s_laload hA hk h hn
    case iastore => exact s_iastore hA hk h hn
    case bastore => exact s_bastore hA hk h hn
    case lastore => exact s_lastore hA hk h hn
    case arraylength => exact s_arraylength hA hk h hn
    case invokevirtual n => exact s_invokevirtual hA hA2 hk (hX j n a v ts (Or.inl hq)) h hn
    case invokestatic n => exact s_invokestatic hA hA2 hk (hX j n a v ts (Or.inr hq)) hd1 h hn
    case new n =>
      obtain ⟨hc, h⟩ := cond_e h
      exact fun H locs la hP hS hl => hT j n a hk M o k h H locs la ls st (Nat.le_of_ble_eq_true hc) hP hS hl
    case ireturn =>
      simp only [step] at h
      simp only [okE, Bool.and_eq_true] at hk
      split at h
      · intro H locs la hP hS hl
        split at h
        · exact hR.1 _ _ _ _ h (Or.inl (of_decide_eq_true hk.2)) H locs la _ hP hS (of_decide_eq_true hk.1)
        · rename_i h0
          obtain ⟨hk1, hk2⟩ := hk
          split at hk2
          · exact absurd rfl h0
          · exact hR.1 _ _ _ _ h.2 (Or.inr ⟨of_decide_eq_true hk2, h.1⟩) H locs la _ hP hS (of_decide_eq_true hk1)
      · exact False.elim h
    case lreturn =>
      simp only [step] at h
      simp only [okE, Bool.and_eq_true] at hk
      split at h
      · intro H locs la hP hS hl
        exact hR.2.1 _ _ _ _ h (of_decide_eq_true hk.2) H locs la _ hP hS (of_decide_eq_true hk.1)
      · exact False.elim h
    case return_ =>
      simp only [step] at h
      simp only [okE, Bool.and_eq_true] at hk
      split at h
      · intro H locs la hP hS hl
        exact hR.2.2 _ _ _ h (of_decide_eq_true hk.2) H locs la _ hP hS (of_decide_eq_true hk.1)
      · exact False.elim h
end BOD
end
section
/-! THE LOGIC, PART 6: the contract of a method without handlers. -/
def NMS : List String := ["java/lang/RuntimeException", "java/lang/Exception"]
def thwOk (t : Nat) : Bool := atP lw_tbl ((TLp t).getD 0 0) (.classLink RX7 (TL t).2.1 (TL t).1) && atP lw_tbl ((TLp t).getD 1 0) (.initialized (TL t).1)
theorem thw_all : (List.range NTL).all thwOk = true := by decide +kernel
def ATL : List (Nat × String) := [(67, "java/lang/IllegalStateException"), (108, "java/lang/IllegalArgumentException"), (265, "java/lang/IndexOutOfBoundsException")]
theorem atl_in : ∀ t, t < NTL → ((TL t).2.2.2.1, (TL t).1) ∈ ATL := by decide +kernel
theorem ex_in : ∀ t, t < NTL → (TL t).1 ∈ EX := by decide +kernel
theorem atl0 : ∀ w ∈ (vx_atS RX7 67 "java/lang/IllegalStateException" NMS).filter goodWord, w ∈ lw_tbl := by decide +kernel
theorem atl1 : ∀ w ∈ (vx_atS RX7 108 "java/lang/IllegalArgumentException" NMS).filter goodWord, w ∈ lw_tbl := by decide +kernel
theorem atl2 : ∀ w ∈ (vx_atS RX7 265 "java/lang/IndexOutOfBoundsException" NMS).filter goodWord, w ∈ lw_tbl := by decide +kernel
theorem atl_g : ∀ q ∈ ATL, ∀ w ∈ (vx_atS RX7 q.1 q.2 NMS).filter goodWord, w ∈ GW := by
  intro q hq w hw
  have h2 := (List.mem_filter.mp hw).2
  simp only [ATL, List.mem_cons, List.not_mem_nil, or_false] at hq
  rcases hq with rfl | rfl | rfl
  · exact List.mem_filter.mpr ⟨atl0 w hw, h2⟩
  · exact List.mem_filter.mpr ⟨atl1 w hw, h2⟩
  · exact List.mem_filter.mpr ⟨atl2 w hw, h2⟩
theorem atl_n : ∀ q ∈ ATL, ∀ w ∈ (vx_atS RX7 q.1 q.2 NMS).filter (fun w => !goodWord w), w ∈ BW := by decide +kernel
theorem atl_o : ∀ q ∈ ATL, (vx_atS RX7 q.1 q.2 NMS).all vx_ot = true ∧ Bundle.fit q.2 = true := by decide +kernel
theorem nms_fit : ∀ n ∈ NMS, Bundle.fit n = true := by decide +kernel
def entL : List Value → Nat → Lv
  | [], n => List.replicate n none
  | .long x :: vs, n => some (.long x) :: none :: entL vs (n - 2)
  | .double x :: vs, n => some (.double x) :: none :: entL vs (n - 2)
  | .int x :: vs, n => some (.int x) :: entL vs (n - 1)
  | .ref x :: vs, n => some (.ref x) :: entL vs (n - 1)
  | .null :: vs, n => some .null :: entL vs (n - 1)
  | .float x :: vs, n => some (.float x) :: entL vs (n - 1)
  | .retAddr x :: vs, n => some (.retAddr x) :: entL vs (n - 1)
theorem ldv_rep : ∀ {n i : Nat} {v : Value}, ¬ ldv (List.replicate n none) i = some v := by
  intro n
  induction n with
  | zero => intro i v h; cases i <;> simp [ldv] at h
  | succ n ih => intro i v h; cases i with
    | zero => simp [List.replicate_succ, ldv] at h
    | succ i => exact ih (show ldv (List.replicate n none) i = some v from h)
theorem catS_cons (v : Value) (vs : List Value) : catS (v :: vs) = v.category + catS vs := by simp [catS]
theorem entL_len : ∀ {as : List Value} {n : Nat}, catS as ≤ n → (entL as n).length = n := by
  intro as
  induction as with
  | nil => intro n _; simp [entL]
  | cons v vs ih =>
    intro n h
    rw [catS_cons] at h
    cases v <;> (simp only [Value.category] at h; simp only [entL, List.length_cons]; rw [ih (by omega)]; omega)
theorem entL_at {θ : Th} : ∀ {as : List Value} {n b i : Nat} {v : Value}, ldv (entL as n) i = some v → (b + i, cv θ v) ∈ lv_args b (as.map (cv θ)) := by
  intro as
  induction as with
  | nil => intro n b i v h; exact absurd h ldv_rep
  | cons u us ih =>
    intro n b i v h
    have key1 : ∀ {w : Value}, (cv θ w).category = 1 → ldv (some w :: entL us (n - 1)) i = some v → (b + i, cv θ v) ∈ lv_args b ((w :: us).map (cv θ)) := by
      intro w hc h
      simp only [List.map_cons, lv_args, hc]
      cases i with
      | zero => simp only [ldv, Option.some.injEq] at h; subst h; exact List.mem_cons_self
      | succ i =>
        refine List.mem_cons_of_mem _ ?_
        have := ih (b := b + 1) (show ldv (entL us (n - 1)) i = some v from h)
        rw [show b + 1 + i = b + (i + 1) by omega] at this
        simpa using this
    have key2 : ∀ {w : Value}, (cv θ w).category = 2 → ldv (some w :: none :: entL us (n - 2)) i = some v → (b + i, cv θ v) ∈ lv_args b ((w :: us).map (cv θ)) := by
      intro w hc h
      simp only [List.map_cons, lv_args, hc]
      match i, h with
      | 0, h => simp only [ldv, Option.some.injEq] at h; subst h; exact List.mem_cons_self
      | 1, h => simp [ldv] at h
      | i + 2, h =>
        refine List.mem_cons_of_mem _ ?_
        have := ih (b := b + 2) (show ldv (entL us (n - 2)) i = some v from h)
        rw [show b + 2 + i = b + (i + 2) by omega] at this
        simpa using this
    cases u
    · exact key1 rfl h
    · exact key2 rfl h
    · exact key1 rfl h
    · exact key2 rfl h
    · exact key1 rfl h
    · exact key1 rfl h
    · exact key1 rfl h
theorem lg_len {θ : Th} : ∀ {as : List Value}, (lg_sl (as.map (cv θ))).length = catS as := by
  intro as
  induction as with
  | nil => rfl
  | cons v vs ih =>
    have h1 : lg_sl ((v :: vs).map (cv θ)) = (if (cv θ v).category = 2 then [Slot.val (cv θ v), .second] else [.val (cv θ v)]) ++ lg_sl (vs.map (cv θ)) := by simp [lg_sl]
    rw [h1, List.length_append, ih]
    cases v <;> simp [catS, cv, Value.category]
theorem ent_lh {θ : Th} {as : List Value} {n : Nat} (h : catS as ≤ n) : lh θ ((lg_sl (as.map (cv θ)) ++ List.replicate (n - (lg_sl (as.map (cv θ))).length) Slot.unset).toArray) n (entL as n) :=
  ⟨entL_len h, _, lv_entry (as.map (cv θ)) (by rw [lg_len]; exact h), fun i v hv => by have := entL_at (θ := θ) (b := 0) hv; rwa [Nat.zero_add] at this⟩
/-- the rule of a body: what holds at the entry of every predicate that is closed under runs of the body -/
def BodyR (l : Launch) (d K : Nat) (em : List En) (post : Option Value → Mem → Ou → Prop) (px : String → Mem → Ou → Prop) (G : GG) : Prop :=
  ∀ j ls st M o k, exec G (fun v M o k => post v M o ∧ k ≤ K) (fun E M o k => px E M o ∧ k ≤ K) (fun E _ M o k => px E M o ∧ k ≤ K) (ClA l d K) (0, fun _ => 0) (em.drop j) ls st M o k → G j ls st M o k
section CON
variable {p : Program} {l : Launch} {e : Env} {s : State} {m : MethodId} {args : Array Value} {below : List Frame} {meth : Method} {c : Code}
variable {θ : Th} {mi d K : Nat} {ps : List Nat} {sc : Nat × (Nat → Int32)} {post : Option Value → Mem → Ou → Prop} {px : String → Mem → Ou → Prop}
theorem ret_ok (hA : Am p s m args c θ (Aset θ s.heap.size) mi sc) (hr : meth.sig.returnType = rtT mi) (hlocks : meth.locks = false) :
    RetOk p l e (rmOf d K) s m args below meth c (vx_MQ below (Qof θ s.heap.size post) (Xof θ s.heap.size px) args s K (6 * K) (Aset θ s.heap.size)) θ (Aset θ s.heap.size) mi 0 0 (fun v M o k => post v M o ∧ k ≤ K) := by
  obtain ⟨hx, hb, hml, hown, hts, hK, hap, hsc⟩ := hA
  refine ⟨fun x M o k h hrt H locs la pc hP hS hdg => ?_, fun x M o k h hrt H locs la pc hP hS hdg => ?_, fun M o k h hrt H locs la pc hP hS hdg => ?_⟩
  · refine W.widen (k := K) (n := 6 * K) (by omega) (by omega) (vx_ret ?_)
    rcases hrt with q | ⟨q, hz⟩
    · exact W.iret hx hb (hr.trans q) (fun t ht _ => ⟨⟨some (.int x), M, o, rfl, h.1, by rw [ht]; exact hP⟩, hS.F ht⟩) hS.2.2 hdg hlocks
    · exact W.zret hx hb (hr.trans q) (by rcases hz with rfl | rfl <;> decide) (fun t ht _ => ⟨⟨some (.int x), M, o, rfl, h.1, by rw [ht]; exact hP⟩, hS.F ht⟩) hS.2.2 hdg hlocks
  · refine W.widen (k := K) (n := 6 * K) (by omega) (by omega) (vx_ret ?_)
    exact W.lret hx hb (hr.trans hrt) (fun t ht _ => ⟨⟨some (.long x), M, o, rfl, h.1, by rw [ht]; exact hP⟩, hS.F ht⟩) hS.2.2 hdg hlocks
  · refine W.widen (k := K) (n := 6 * K) (by omega) (by omega) (vx_ret ?_)
    exact W.vret hx hb (hr.trans hrt) (fun t ht _ => ⟨⟨none, M, o, rfl, h.1, by rw [ht]; exact hP⟩, hS.F ht⟩) hS.2.2 hdg hlocks
theorem tho_ok (hl0 : l.stackTraces = false) (hd : 8 ≤ d) (hA : Am p s m args c θ (Aset θ s.heap.size) mi sc) (hst : StU θ (Aset θ s.heap.size) s s.heap) (hno : ∀ x ∈ c.exceptionTable.toList, False) (hlocks : meth.locks = false) :
    ThoOk p l e (rmOf d K) s m args below meth c (vx_MQ below (Qof θ s.heap.size post) (Xof θ s.heap.size px) args s K (6 * K) (Aset θ s.heap.size)) θ (Aset θ s.heap.size) mi ps 0 0 (fun E M o k => px E M o ∧ k ≤ K) := by
  obtain ⟨hx, hb, hml, hown, hts, hK, hap, hsc⟩ := hA
  obtain ⟨-, hU, hN, hstr, hca, -⟩ := hst
  intro j ik a hk M o k h H locs la ls st hcat hP hS hl
  rcases hTL : TL a with ⟨E, ik', is, ic, tx, w⟩
  simp only [thOk, hTL, Bool.and_eq_true, decide_eq_true_eq] at hk
  obtain ⟨⟨⟨hik, ha⟩, how⟩, hk⟩ := hk
  subst hik
  have h1 := List.all_eq_true.mp thw_all a (List.mem_range.mpr ha)
  simp only [thwOk, Bool.and_eq_true] at h1
  have hin := atl_in a ha
  have hex := ex_in a ha
  have hs1 := hstr a ha
  rw [hTL] at h1 hin hs1 hex
  dsimp only at h1 hin hs1 hex
  rw [hTL] at h
  dsimp only at h
  rw [how] at hown
  have hat : ∀ w ∈ vx_atS RX7 ic E NMS, w.before args s = true := vx_hat (fun w hw => hts w (atl_g _ hin w hw)) (atl_n _ hin) (fun w hw => va_Nw.use (BW_tab w hw) (hca w hw))
  have hgood : ∀ w ∈ Cond.classLink RX7 ik' E :: Cond.initialized E :: vx_atS RX7 ic E NMS, vx_ot w = true := by
    intro w hw
    rcases List.mem_cons.mp hw with rfl | hw
    · rfl
    · rcases List.mem_cons.mp hw with rfl | hw
      · rfl
      · exact List.all_eq_true.mp (atl_o _ hin).1 w hw
  have hc2 : catS (st.map (cv θ)) ≤ 8 := by rw [catS_cv]; exact hcat
  unfold catS at hc2
  have hxc : ∀ t : State, s.vm.Alike t.vm → H.size ≤ t.heap.size → (∀ q : Nat, q < H.size → t.heap[q]? = H[q]?) → Xof θ s.heap.size px E s t := by
    intro t _ hz hq
    refine ⟨⟨M, o, h.1, hP.kept (fun k q hk => hq _ (hP k q hk).lt)⟩, Nat.le_trans hS.1 hz, fun q h1 h2 => ?_⟩
    rw [hq q (Nat.lt_of_lt_of_le h1 hS.1)]
    exact hS.2.1 q h1 h2
  have hkK : k + 1 ≤ K := h.2
  cases w with
  | false =>
    simp only [Bool.and_eq_true, decide_eq_true_eq] at hk
    obtain ⟨⟨⟨⟨d0, d3⟩, d4⟩, d6⟩, d9⟩ := hk
    exact vx_throwS (R := rmOf d K) (names := NMS) hx hb hl0 hown (atl_o _ hin).2 nms_fit (hts _ (gw_of (of_decide_eq_true h1.1) rfl)) (hts _ (gw_of (of_decide_eq_true h1.2) rfl)) hs1 hat hgood hU hN hS (by rw [lh_size hl, hml]) d0 d3 d4 d6 d9 (fun x hx => (hno x hx).elim)
      (show 2 + 3 < d by omega) (show _ + (13 * (2 + 1) + 43) ≤ 60 * d by omega) (show 0 + k + 1 ≤ K by omega) (show 0 + 6 * k + 6 ≤ 6 * K by omega) hlocks hxc hS.2.2 (by omega) (by omega)
  | true =>
    simp only [Bool.and_eq_true, decide_eq_true_eq] at hk
    obtain ⟨⟨⟨⟨d0, d3⟩, d4⟩, d6⟩, d9⟩ := hk
    exact vx_throwSW (R := rmOf d K) (names := NMS) hx hb hl0 hown (atl_o _ hin).2 nms_fit (hts _ (gw_of (of_decide_eq_true h1.1) rfl)) (hts _ (gw_of (of_decide_eq_true h1.2) rfl)) hs1 hat hgood hU hN hS (by rw [lh_size hl, hml]) d0 d3 d4 d6 d9 (fun x hx => (hno x hx).elim)
      (show 2 + 3 < d by omega) (show _ + (13 * (2 + 1) + 43) ≤ 60 * d by omega) (show 0 + k + 1 ≤ K by omega) (show 0 + 6 * k + 6 ≤ 6 * K by omega) hlocks hxc hS.2.2 (by omega) (by omega)
theorem ct_plain {as : List Value} {M : Mem} {o : Ou} {em : List En} (hl0 : l.stackTraces = false) (hem : chk mi ps em = true) (hmi : mi < NMT) (hkd : kdT mi ≠ 0) (hh : hhT mi = none) (hp0 : ps.getD 0 0 = 0) (hd : 8 ≤ d) (hcat : catS as ≤ mlT mi)
    (body : ∀ G : GG, BodyR l d K em post px G → G 0 (entL as (mlT mi)) [] M o 0) : Ct l d K mi as M o post px := by
  intro θ sz
  obtain ⟨hpn, hcn, -⟩ := nm_at hmi hkd
  have hce : wCode mi = Cond.code (yT mi) (bT mi) (mlT mi) (rtT mi) := by unfold wCode; rw [hh]
  refine vx_ofW (cc := bT mi) (maxL := mlT mi) (ret := rtT mi) (ws' := GW) hpn (by unfold wsOf; rw [hce]) ?_
  intro p e s m args below meth c s₁ B hml hno hv
  obtain ⟨rfl, rfl, hP, hap, hst⟩ := hv
  have hts := atoms_spec (ws := wsOf mi) B.pre
  have hown : s.vm.findClass (yT mi).cls = some m.cls := findClass_of_methodNamed B.named
  rw [hcn] at hown
  have hA : Am p s m (as.map (cv θ)).toArray c θ (Aset θ s.heap.size) mi (0, fun _ => 0) := ⟨B.exec, B.bytes, hml, hown, fun w hw => hts w (List.mem_cons_of_mem _ hw), hst.1, ⟨hap.1, fun i hi => Or.inl ⟨i, hi, rfl⟩⟩, Or.inl rfl⟩
  have hA2 : Am2 l (rmOf d K) s θ (Aset θ s.heap.size) 0 0 d K := ⟨hst, fun q hq => Or.inr hq, Nat.le_refl _, Nat.le_refl _, by show 0 + K ≤ K; omega, by show 0 + 6 * K ≤ 6 * K; omega⟩
  have hX := exec_sound (e := e) (below := below) (meth := meth) (em := em) (ps := ps) (thr := fun E _ M o k => px E M o ∧ k ≤ K) hA hA2 (by omega) (ret_ok (post := post) (px := px) (d := d) (K := K) hA B.returns B.notSynchronized) (tho_ok (post := post) hl0 hd hA hst hno B.notSynchronized) (fun j n a v ts _ => by
    intro E ls M o k h ce q9 H locs la st hP hS hl e1 e2 e3
    exact vx_out (fun x hx => (hno x hx).elim) B.notSynchronized e1 e2 e3 (fun t ht _ => ⟨⟨M, o, h.1, by rw [ht]; exact hP⟩, hS.F ht⟩) hS.2.2 (by omega) (by omega)) hem
  have := body _ (fun j ls st M o k h => hX _ j rfl ls st M o k h) s.heap [] _ hP va_S.rf (ent_lh hcat)
  rw [hp0] at this
  rw [lg_entry_eq]
  exact this
end CON
end
section
/-- PoloSeason$Line.hasBall()Z -/
def e1 : List En := [
  (.aload_n 0, 0, 0, []),
  (.getfield 31, 6, 0, [0, 1]),
  (.ireturn, 1, 0, [])]
def p1 : List Nat := [0, 1, 4]
set_option maxRecDepth 100000 in
theorem ok1 : chk 1 p1 e1 = true := by decide +kernel
/-- PoloSeason$Line.isFull()Z -/
def e2 : List En := [
  (.aload_n 0, 0, 0, []),
  (.getfield 27, 5, 0, [0, 0]),
  (.bipush 8, 0, 8, []),
  (.if_icmp .lt 7, 0, 0, [6]),
  (.iconst 1, 0, 1, []),
  (.goto 4, 0, 0, [7]),
  (.iconst 0, 0, 0, []),
  (.ireturn, 1, 0, [])]
def p2 : List Nat := [0, 1, 4, 6, 9, 10, 13, 14]
set_option maxRecDepth 100000 in
theorem ok2 : chk 2 p2 e2 = true := by decide +kernel
/-- PoloSeason$Line.riders()I -/
def e3 : List En := [
  (.aload_n 0, 0, 0, []),
  (.getfield 27, 5, 0, [0, 0]),
  (.ireturn, 0, 0, [])]
def p3 : List Nat := [0, 1, 4]
set_option maxRecDepth 100000 in
theorem ok3 : chk 3 p3 e3 = true := by decide +kernel
/-- PoloSeason$Line.placeBall(IIII)V -/
def e4 : List En := [
  (.aload_n 0, 0, 0, []),
  (.iconst 1, 0, 1, []),
  (.putfield 31, 6, 0, [0, 1]),
  (.aload_n 0, 0, 0, []),
  (.iload_n 1, 1, 0, []),
  (.putfield 35, 7, 0, [0, 0]),
  (.aload_n 0, 0, 0, []),
  (.iload_n 2, 2, 0, []),
  (.putfield 38, 8, 0, [0, 0]),
  (.aload_n 0, 0, 0, []),
  (.iload_n 3, 3, 0, []),
  (.putfield 41, 9, 0, [0, 0]),
  (.aload_n 0, 0, 0, []),
  (.iload 4, 4, 0, []),
  (.putfield 44, 10, 0, [0, 0]),
  (.aload_n 0, 0, 0, []),
  (.iconst 0, 0, 0, []),
  (.putfield 27, 5, 0, [0, 0]),
  (.return_, 0, 0, [])]
def p4 : List Nat := [0, 1, 2, 5, 6, 7, 10, 11, 12, 15, 16, 17, 20, 21, 23, 26, 27, 28, 31]
set_option maxRecDepth 100000 in
theorem ok4 : chk 4 p4 e4 = true := by decide +kernel
/-- PoloSeason$Line.addRider(IIIII)I -/
def e5 : List En := [
  (.aload_n 0, 0, 0, []),
  (.getfield 9, 0, 0, [0, 0]),
  (.aload_n 0, 0, 0, []),
  (.getfield 27, 5, 0, [0, 0]),
  (.iload_n 1, 1, 0, []),
  (.iastore, 0, 0, []),
  (.aload_n 0, 0, 0, []),
  (.getfield 15, 1, 0, [0, 0]),
  (.aload_n 0, 0, 0, []),
  (.getfield 27, 5, 0, [0, 0]),
  (.iload_n 2, 2, 0, []),
  (.iastore, 0, 0, []),
  (.aload_n 0, 0, 0, []),
  (.getfield 18, 2, 0, [0, 0]),
  (.aload_n 0, 0, 0, []),
  (.getfield 27, 5, 0, [0, 0]),
  (.iload_n 3, 3, 0, []),
  (.iastore, 0, 0, []),
  (.aload_n 0, 0, 0, []),
  (.getfield 21, 3, 0, [0, 0]),
  (.aload_n 0, 0, 0, []),
  (.getfield 27, 5, 0, [0, 0]),
  (.iload 4, 4, 0, []),
  (.iastore, 0, 0, []),
  (.aload_n 0, 0, 0, []),
  (.getfield 24, 4, 0, [0, 0]),
  (.aload_n 0, 0, 0, []),
  (.getfield 27, 5, 0, [0, 0]),
  (.iload 5, 5, 0, []),
  (.iastore, 0, 0, []),
  (.aload_n 0, 0, 0, []),
  (.dup, 0, 0, []),
  (.getfield 27, 5, 0, [0, 0]),
  (.iconst 1, 0, 1, []),
  (.iadd, 0, 0, []),
  (.putfield 27, 5, 0, [0, 0]),
  (.aload_n 0, 0, 0, []),
  (.getfield 27, 5, 0, [0, 0]),
  (.iconst 1, 0, 1, []),
  (.isub, 0, 0, []),
  (.ireturn, 0, 0, [])]
def p5 : List Nat := [0, 1, 4, 5, 8, 9, 10, 11, 14, 15, 18, 19, 20, 21, 24, 25, 28, 29, 30, 31, 34, 35, 38, 40, 41, 42, 45, 46, 49, 51, 52, 53, 54, 57, 58, 59, 62, 63, 66, 67, 68]
set_option maxRecDepth 100000 in
theorem ok5 : chk 5 p5 e5 = true := by decide +kernel
/-- PoloSeason$Line.firstByRight()I -/
def e6 : List En := [
  (.iconst (-1), 0, (-1), []),
  (.istore_n 1, 1, 0, []),
  (.iconst 0, 0, 0, []),
  (.istore_n 2, 2, 0, []),
  (.iload_n 2, 2, 0, []),
  (.aload_n 0, 0, 0, []),
  (.getfield 27, 5, 0, [0, 0]),
  (.if_icmp .ge 35, 0, 0, [26]),
  (.aload_n 0, 0, 0, []),
  (.iload_n 2, 2, 0, []),
  (.invokevirtual 47, 7, 0, [2, 0]),
  (.lconst 0, 0, 0, []),
  (.lcmp, 0, 0, []),
  (.ifCond .le 19, 0, 0, [24]),
  (.iload_n 1, 1, 0, []),
  (.iconst (-1), 0, (-1), []),
  (.if_icmp .eq 12, 0, 0, [22]),
  (.aload_n 0, 0, 0, []),
  (.iload_n 2, 2, 0, []),
  (.iload_n 1, 1, 0, []),
  (.invokevirtual 51, 8, 0, [3, 0]),
  (.ifCond .eq 5, 0, 0, [24]),
  (.iload_n 2, 2, 0, []),
  (.istore_n 1, 1, 0, []),
  (.iinc 2 1, 2, 1, []),
  (.goto (-37), 0, 0, [4]),
  (.iload_n 1, 1, 0, []),
  (.ireturn, 0, 0, [])]
def p6 : List Nat := [0, 1, 2, 3, 4, 5, 6, 9, 12, 13, 14, 17, 18, 19, 22, 23, 24, 27, 28, 29, 30, 33, 36, 37, 38, 41, 44, 45]
set_option maxRecDepth 100000 in
theorem ok6 : chk 6 p6 e6 = true := by decide +kernel
/-- PoloSeason$Line.alongBall(I)J -/
def e7 : List En := [
  (.aload_n 0, 0, 0, []),
  (.getfield 21, 3, 0, [0, 0]),
  (.iload_n 1, 1, 0, []),
  (.iaload, 0, 0, []),
  (.i2l, 0, 0, []),
  (.aload_n 0, 0, 0, []),
  (.getfield 41, 9, 0, [0, 0]),
  (.i2l, 0, 0, []),
  (.lmul, 0, 0, []),
  (.aload_n 0, 0, 0, []),
  (.getfield 24, 4, 0, [0, 0]),
  (.iload_n 1, 1, 0, []),
  (.iaload, 0, 0, []),
  (.i2l, 0, 0, []),
  (.aload_n 0, 0, 0, []),
  (.getfield 44, 10, 0, [0, 0]),
  (.i2l, 0, 0, []),
  (.lmul, 0, 0, []),
  (.ladd, 0, 0, []),
  (.lreturn, 0, 0, [])]
def p7 : List Nat := [0, 1, 4, 5, 6, 7, 8, 11, 12, 13, 14, 17, 18, 19, 20, 21, 24, 25, 26, 27]
set_option maxRecDepth 100000 in
theorem ok7 : chk 7 p7 e7 = true := by decide +kernel
/-- PoloSeason$Line.goesBefore(II)Z -/
def e8 : List En := [
  (.aload_n 0, 0, 0, []),
  (.iload_n 1, 1, 0, []),
  (.invokevirtual 47, 7, 0, [2, 0]),
  (.aload_n 0, 0, 0, []),
  (.iload_n 1, 1, 0, []),
  (.invokevirtual 47, 7, 0, [2, 0]),
  (.lmul, 0, 0, []),
  (.aload_n 0, 0, 0, []),
  (.getfield 21, 3, 0, [0, 0]),
  (.iload_n 2, 2, 0, []),
  (.iaload, 0, 0, []),
  (.aload_n 0, 0, 0, []),
  (.getfield 24, 4, 0, [0, 0]),
  (.iload_n 2, 2, 0, []),
  (.iaload, 0, 0, []),
  (.invokestatic 55, 10, 0, [2, 0]),
  (.lmul, 0, 0, []),
  (.lstore_n 3, 3, 0, []),
  (.aload_n 0, 0, 0, []),
  (.iload_n 2, 2, 0, []),
  (.invokevirtual 47, 7, 0, [2, 0]),
  (.aload_n 0, 0, 0, []),
  (.iload_n 2, 2, 0, []),
  (.invokevirtual 47, 7, 0, [2, 0]),
  (.lmul, 0, 0, []),
  (.aload_n 0, 0, 0, []),
  (.getfield 21, 3, 0, [0, 0]),
  (.iload_n 1, 1, 0, []),
  (.iaload, 0, 0, []),
  (.aload_n 0, 0, 0, []),
  (.getfield 24, 4, 0, [0, 0]),
  (.iload_n 1, 1, 0, []),
  (.iaload, 0, 0, []),
  (.invokestatic 55, 10, 0, [2, 0]),
  (.lmul, 0, 0, []),
  (.lstore 5, 5, 0, []),
  (.lload_n 3, 3, 0, []),
  (.lload 5, 5, 0, []),
  (.lcmp, 0, 0, []),
  (.ifCond .eq 16, 0, 0, [48]),
  (.lload_n 3, 3, 0, []),
  (.lload 5, 5, 0, []),
  (.lcmp, 0, 0, []),
  (.ifCond .le 7, 0, 0, [46]),
  (.iconst 1, 0, 1, []),
  (.goto 4, 0, 0, [47]),
  (.iconst 0, 0, 0, []),
  (.ireturn, 1, 0, []),
  (.aload_n 0, 0, 0, []),
  (.iload_n 1, 1, 0, []),
  (.invokevirtual 59, 9, 0, [2, 0]),
  (.aload_n 0, 0, 0, []),
  (.iload_n 2, 2, 0, []),
  (.invokevirtual 59, 9, 0, [2, 0]),
  (.lcmp, 0, 0, []),
  (.ifCond .ge 7, 0, 0, [58]),
  (.iconst 1, 0, 1, []),
  (.goto 4, 0, 0, [59]),
  (.iconst 0, 0, 0, []),
  (.ireturn, 1, 0, [])]
def p8 : List Nat := [0, 1, 2, 5, 6, 7, 10, 11, 12, 15, 16, 17, 18, 21, 22, 23, 26, 27, 28, 29, 30, 33, 34, 35, 38, 39, 40, 43, 44, 45, 46, 49, 50, 51, 54, 55, 57, 58, 60, 61, 64, 65, 67, 68, 71, 72, 75, 76, 77, 78, 79, 82, 83, 84, 87, 88, 91, 92, 95, 96]
set_option maxRecDepth 100000 in
theorem ok8 : chk 8 p8 e8 = true := by decide +kernel
/-- PoloSeason$Line.fromBall(I)J -/
def e9 : List En := [
  (.aload_n 0, 0, 0, []),
  (.getfield 15, 1, 0, [0, 0]),
  (.iload_n 1, 1, 0, []),
  (.iaload, 0, 0, []),
  (.aload_n 0, 0, 0, []),
  (.getfield 35, 7, 0, [0, 0]),
  (.isub, 0, 0, []),
  (.aload_n 0, 0, 0, []),
  (.getfield 18, 2, 0, [0, 0]),
  (.iload_n 1, 1, 0, []),
  (.iaload, 0, 0, []),
  (.aload_n 0, 0, 0, []),
  (.getfield 38, 8, 0, [0, 0]),
  (.isub, 0, 0, []),
  (.invokestatic 55, 10, 0, [2, 0]),
  (.lreturn, 0, 0, [])]
def p9 : List Nat := [0, 1, 4, 5, 6, 7, 10, 11, 12, 15, 16, 17, 18, 21, 22, 25]
set_option maxRecDepth 100000 in
theorem ok9 : chk 9 p9 e9 = true := by decide +kernel
/-- PoloSeason$Line.squared(II)J -/
def e10 : List En := [
  (.iload_n 0, 0, 0, []),
  (.i2l, 0, 0, []),
  (.iload_n 0, 0, 0, []),
  (.i2l, 0, 0, []),
  (.lmul, 0, 0, []),
  (.iload_n 1, 1, 0, []),
  (.i2l, 0, 0, []),
  (.iload_n 1, 1, 0, []),
  (.i2l, 0, 0, []),
  (.lmul, 0, 0, []),
  (.ladd, 0, 0, []),
  (.lreturn, 0, 0, [])]
def p10 : List Nat := [0, 1, 2, 3, 4, 5, 6, 7, 8, 9, 10, 11]
set_option maxRecDepth 100000 in
theorem ok10 : chk 10 p10 e10 = true := by decide +kernel
/-- PoloSeason$Line.crosser(I)I -/
def e11 : List En := [
  (.aload_n 0, 0, 0, []),
  (.invokevirtual 62, 6, 0, [1, 0]),
  (.istore_n 2, 2, 0, []),
  (.iload_n 2, 2, 0, []),
  (.iconst (-1), 0, (-1), []),
  (.if_icmp .ne 5, 0, 0, [8]),
  (.iconst (-1), 0, (-1), []),
  (.ireturn, 0, 0, []),
  (.iconst 0, 0, 0, []),
  (.istore_n 3, 3, 0, []),
  (.iconst 0, 0, 0, []),
  (.istore 4, 4, 0, []),
  (.iload 4, 4, 0, []),
  (.aload_n 0, 0, 0, []),
  (.getfield 27, 5, 0, [0, 0]),
  (.if_icmp .ge 46, 0, 0, [38]),
  (.aload_n 0, 0, 0, []),
  (.getfield 9, 0, 0, [0, 0]),
  (.iload 4, 4, 0, []),
  (.iaload, 0, 0, []),
  (.aload_n 0, 0, 0, []),
  (.getfield 9, 0, 0, [0, 0]),
  (.iload_n 2, 2, 0, []),
  (.iaload, 0, 0, []),
  (.if_icmp .eq 24, 0, 0, [36]),
  (.aload_n 0, 0, 0, []),
  (.iload 4, 4, 0, []),
  (.iload_n 2, 2, 0, []),
  (.invokevirtual 66, 12, 0, [3, 0]),
  (.ifCond .eq 14, 0, 0, [36]),
  (.iload_n 3, 3, 0, []),
  (.iload_n 1, 1, 0, []),
  (.if_icmp .ne 6, 0, 0, [35]),
  (.iload 4, 4, 0, []),
  (.ireturn, 0, 0, []),
  (.iinc 3 1, 3, 1, []),
  (.iinc 4 1, 4, 1, []),
  (.goto (-49), 0, 0, [12]),
  (.iconst (-1), 0, (-1), []),
  (.ireturn, 0, 0, [])]
def p11 : List Nat := [0, 1, 4, 5, 6, 7, 10, 11, 12, 13, 14, 15, 17, 19, 20, 23, 26, 27, 30, 32, 33, 34, 37, 38, 39, 42, 43, 45, 46, 49, 52, 53, 54, 57, 59, 60, 63, 66, 69, 70]
set_option maxRecDepth 100000 in
theorem ok11 : chk 11 p11 e11 = true := by decide +kernel
/-- PoloSeason$Line.meets(II)Z -/
def e12 : List En := [
  (.aload_n 0, 0, 0, []),
  (.iload_n 1, 1, 0, []),
  (.iload_n 2, 2, 0, []),
  (.invokevirtual 69, 13, 0, [3, 0]),
  (.ifCond .eq 76, 0, 0, [48]),
  (.aload_n 0, 0, 0, []),
  (.iload_n 2, 2, 0, []),
  (.iload_n 1, 1, 0, []),
  (.invokevirtual 69, 13, 0, [3, 0]),
  (.ifCond .eq 67, 0, 0, [48]),
  (.aload_n 0, 0, 0, []),
  (.getfield 15, 1, 0, [0, 0]),
  (.iload_n 1, 1, 0, []),
  (.iaload, 0, 0, []),
  (.aload_n 0, 0, 0, []),
  (.getfield 21, 3, 0, [0, 0]),
  (.iload_n 1, 1, 0, []),
  (.iaload, 0, 0, []),
  (.aload_n 0, 0, 0, []),
  (.getfield 15, 1, 0, [0, 0]),
  (.iload_n 2, 2, 0, []),
  (.iaload, 0, 0, []),
  (.aload_n 0, 0, 0, []),
  (.getfield 21, 3, 0, [0, 0]),
  (.iload_n 2, 2, 0, []),
  (.iaload, 0, 0, []),
  (.invokestatic 72, 15, 0, [4, 0]),
  (.ifCond .eq 37, 0, 0, [48]),
  (.aload_n 0, 0, 0, []),
  (.getfield 18, 2, 0, [0, 0]),
  (.iload_n 1, 1, 0, []),
  (.iaload, 0, 0, []),
  (.aload_n 0, 0, 0, []),
  (.getfield 24, 4, 0, [0, 0]),
  (.iload_n 1, 1, 0, []),
  (.iaload, 0, 0, []),
  (.aload_n 0, 0, 0, []),
  (.getfield 18, 2, 0, [0, 0]),
  (.iload_n 2, 2, 0, []),
  (.iaload, 0, 0, []),
  (.aload_n 0, 0, 0, []),
  (.getfield 24, 4, 0, [0, 0]),
  (.iload_n 2, 2, 0, []),
  (.iaload, 0, 0, []),
  (.invokestatic 72, 15, 0, [4, 0]),
  (.ifCond .eq 7, 0, 0, [48]),
  (.iconst 1, 0, 1, []),
  (.goto 4, 0, 0, [49]),
  (.iconst 0, 0, 0, []),
  (.ireturn, 1, 0, [])]
def p12 : List Nat := [0, 1, 2, 3, 6, 9, 10, 11, 12, 15, 18, 19, 22, 23, 24, 25, 28, 29, 30, 31, 34, 35, 36, 37, 40, 41, 42, 45, 48, 49, 52, 53, 54, 55, 58, 59, 60, 61, 64, 65, 66, 67, 70, 71, 72, 75, 78, 79, 82, 83]
set_option maxRecDepth 100000 in
theorem ok12 : chk 12 p12 e12 = true := by decide +kernel
/-- PoloSeason$Line.straddles(II)Z -/
def e13 : List En := [
  (.aload_n 0, 0, 0, []),
  (.iload_n 1, 1, 0, []),
  (.aload_n 0, 0, 0, []),
  (.getfield 15, 1, 0, [0, 0]),
  (.iload_n 2, 2, 0, []),
  (.iaload, 0, 0, []),
  (.aload_n 0, 0, 0, []),
  (.getfield 18, 2, 0, [0, 0]),
  (.iload_n 2, 2, 0, []),
  (.iaload, 0, 0, []),
  (.invokevirtual 76, 14, 0, [4, 0]),
  (.lstore_n 3, 3, 0, []),
  (.aload_n 0, 0, 0, []),
  (.iload_n 1, 1, 0, []),
  (.aload_n 0, 0, 0, []),
  (.getfield 15, 1, 0, [0, 0]),
  (.iload_n 2, 2, 0, []),
  (.iaload, 0, 0, []),
  (.aload_n 0, 0, 0, []),
  (.getfield 21, 3, 0, [0, 0]),
  (.iload_n 2, 2, 0, []),
  (.iaload, 0, 0, []),
  (.iadd, 0, 0, []),
  (.aload_n 0, 0, 0, []),
  (.getfield 18, 2, 0, [0, 0]),
  (.iload_n 2, 2, 0, []),
  (.iaload, 0, 0, []),
  (.aload_n 0, 0, 0, []),
  (.getfield 24, 4, 0, [0, 0]),
  (.iload_n 2, 2, 0, []),
  (.iaload, 0, 0, []),
  (.iadd, 0, 0, []),
  (.invokevirtual 76, 14, 0, [4, 0]),
  (.lstore 5, 5, 0, []),
  (.lload_n 3, 3, 0, []),
  (.lconst 0, 0, 0, []),
  (.lcmp, 0, 0, []),
  (.ifCond .gt 10, 0, 0, [42]),
  (.lload 5, 5, 0, []),
  (.lconst 0, 0, 0, []),
  (.lcmp, 0, 0, []),
  (.ifCond .ge 16, 0, 0, [50]),
  (.lload_n 3, 3, 0, []),
  (.lconst 0, 0, 0, []),
  (.lcmp, 0, 0, []),
  (.ifCond .lt 14, 0, 0, [52]),
  (.lload 5, 5, 0, []),
  (.lconst 0, 0, 0, []),
  (.lcmp, 0, 0, []),
  (.ifCond .gt 7, 0, 0, [52]),
  (.iconst 1, 0, 1, []),
  (.goto 4, 0, 0, [53]),
  (.iconst 0, 0, 0, []),
  (.ireturn, 1, 0, [])]
def p13 : List Nat := [0, 1, 2, 3, 6, 7, 8, 9, 12, 13, 14, 17, 18, 19, 20, 21, 24, 25, 26, 27, 30, 31, 32, 33, 34, 37, 38, 39, 40, 43, 44, 45, 46, 49, 51, 52, 53, 54, 57, 59, 60, 61, 64, 65, 66, 67, 70, 72, 73, 74, 77, 78, 81, 82]
set_option maxRecDepth 100000 in
theorem ok13 : chk 13 p13 e13 = true := by decide +kernel
/-- PoloSeason$Line.turn(III)J -/
def e14 : List En := [
  (.aload_n 0, 0, 0, []),
  (.getfield 21, 3, 0, [0, 0]),
  (.iload_n 1, 1, 0, []),
  (.iaload, 0, 0, []),
  (.i2l, 0, 0, []),
  (.iload_n 3, 3, 0, []),
  (.aload_n 0, 0, 0, []),
  (.getfield 18, 2, 0, [0, 0]),
  (.iload_n 1, 1, 0, []),
  (.iaload, 0, 0, []),
  (.isub, 0, 0, []),
  (.i2l, 0, 0, []),
  (.lmul, 0, 0, []),
  (.aload_n 0, 0, 0, []),
  (.getfield 24, 4, 0, [0, 0]),
  (.iload_n 1, 1, 0, []),
  (.iaload, 0, 0, []),
  (.i2l, 0, 0, []),
  (.iload_n 2, 2, 0, []),
  (.aload_n 0, 0, 0, []),
  (.getfield 15, 1, 0, [0, 0]),
  (.iload_n 1, 1, 0, []),
  (.iaload, 0, 0, []),
  (.isub, 0, 0, []),
  (.i2l, 0, 0, []),
  (.lmul, 0, 0, []),
  (.lsub, 0, 0, []),
  (.lreturn, 0, 0, [])]
def p14 : List Nat := [0, 1, 4, 5, 6, 7, 8, 9, 12, 13, 14, 15, 16, 17, 18, 21, 22, 23, 24, 25, 26, 29, 30, 31, 32, 33, 34, 35]
set_option maxRecDepth 100000 in
theorem ok14 : chk 14 p14 e14 = true := by decide +kernel
/-- PoloSeason$Line.overlap(IIII)Z -/
def e15 : List En := [
  (.iload_n 0, 0, 0, []),
  (.iload_n 0, 0, 0, []),
  (.iload_n 1, 1, 0, []),
  (.iadd, 0, 0, []),
  (.invokestatic 80, 178, 0, [2, 2]),
  (.istore 4, 4, 0, []),
  (.iload_n 0, 0, 0, []),
  (.iload_n 0, 0, 0, []),
  (.iload_n 1, 1, 0, []),
  (.iadd, 0, 0, []),
  (.invokestatic 86, 177, 0, [2, 1]),
  (.istore 5, 5, 0, []),
  (.iload_n 2, 2, 0, []),
  (.iload_n 2, 2, 0, []),
  (.iload_n 3, 3, 0, []),
  (.iadd, 0, 0, []),
  (.invokestatic 80, 178, 0, [2, 2]),
  (.istore 6, 6, 0, []),
  (.iload_n 2, 2, 0, []),
  (.iload_n 2, 2, 0, []),
  (.iload_n 3, 3, 0, []),
  (.iadd, 0, 0, []),
  (.invokestatic 86, 177, 0, [2, 1]),
  (.istore 7, 7, 0, []),
  (.iload 4, 4, 0, []),
  (.iload 7, 7, 0, []),
  (.if_icmp .gt 14, 0, 0, [32]),
  (.iload 6, 6, 0, []),
  (.iload 5, 5, 0, []),
  (.if_icmp .gt 7, 0, 0, [32]),
  (.iconst 1, 0, 1, []),
  (.goto 4, 0, 0, [33]),
  (.iconst 0, 0, 0, []),
  (.ireturn, 1, 0, [])]
def p15 : List Nat := [0, 1, 2, 3, 4, 7, 9, 10, 11, 12, 13, 16, 18, 19, 20, 21, 22, 25, 27, 28, 29, 30, 31, 34, 36, 38, 40, 43, 45, 47, 50, 51, 54, 55]
set_option maxRecDepth 100000 in
theorem ok15 : chk 15 p15 e15 = true := by decide +kernel
/-- PoloSeason$Noise.size()I -/
def e17 : List En := [
  (.aload_n 0, 0, 0, []),
  (.getfield 15, 1, 0, [1, 0]),
  (.ireturn, 0, 0, [])]
def p17 : List Nat := [0, 1, 4]
set_option maxRecDepth 100000 in
theorem ok17 : chk 17 p17 e17 = true := by decide +kernel
/-- PoloSeason$Noise.add(I)I -/
def e18 : List En := [
  (.aload_n 0, 0, 0, []),
  (.getfield 15, 1, 0, [1, 0]),
  (.bipush 20, 0, 20, []),
  (.if_icmp .lt 5, 0, 0, [6]),
  (.iconst (-1), 0, (-1), []),
  (.ireturn, 0, 0, []),
  (.aload_n 0, 0, 0, []),
  (.getfield 9, 0, 0, [1, 0]),
  (.aload_n 0, 0, 0, []),
  (.getfield 15, 1, 0, [1, 0]),
  (.iload_n 1, 1, 0, []),
  (.iastore, 0, 0, []),
  (.aload_n 0, 0, 0, []),
  (.dup, 0, 0, []),
  (.getfield 15, 1, 0, [1, 0]),
  (.iconst 1, 0, 1, []),
  (.iadd, 0, 0, []),
  (.putfield 15, 1, 0, [1, 0]),
  (.aload_n 0, 0, 0, []),
  (.getfield 15, 1, 0, [1, 0]),
  (.ireturn, 0, 0, [])]
def p18 : List Nat := [0, 1, 4, 6, 9, 10, 11, 12, 15, 16, 19, 20, 21, 22, 23, 26, 27, 28, 31, 32, 35]
set_option maxRecDepth 100000 in
theorem ok18 : chk 18 p18 e18 = true := by decide +kernel
/-- PoloSeason$Noise.empty()V -/
def e19 : List En := [
  (.aload_n 0, 0, 0, []),
  (.iconst 0, 0, 0, []),
  (.putfield 15, 1, 0, [1, 0]),
  (.return_, 0, 0, [])]
def p19 : List Nat := [0, 1, 2, 5]
set_option maxRecDepth 100000 in
theorem ok19 : chk 19 p19 e19 = true := by decide +kernel
/-- PoloSeason$Noise.remainder(II)I -/
def e20 : List En := [
  (.iload_n 1, 1, 0, []),
  (.ifCond .lt 16, 0, 0, [9]),
  (.iload_n 1, 1, 0, []),
  (.aload_n 0, 0, 0, []),
  (.getfield 15, 1, 0, [1, 0]),
  (.if_icmp .ge 8, 0, 0, [9]),
  (.iload_n 2, 2, 0, []),
  (.iconst 1, 0, 1, []),
  (.if_icmp .ge 5, 0, 0, [11]),
  (.iconst 0, 0, 0, []),
  (.ireturn, 0, 0, []),
  (.aload_n 0, 0, 0, []),
  (.getfield 9, 0, 0, [1, 0]),
  (.iload_n 1, 1, 0, []),
  (.iaload, 0, 0, []),
  (.i2l, 0, 0, []),
  (.ldc2_w 19, 651, 0, []),
  (.land, 0, 0, []),
  (.iload_n 2, 2, 0, []),
  (.i2l, 0, 0, []),
  (.lrem, 0, 0, []),
  (.l2i, 0, 0, []),
  (.ireturn, 0, 0, [])]
def p20 : List Nat := [0, 1, 4, 5, 6, 9, 12, 13, 14, 17, 18, 19, 20, 23, 24, 25, 26, 29, 30, 31, 32, 33, 34]
set_option maxRecDepth 100000 in
theorem ok20 : chk 20 p20 e20 = true := by decide +kernel
/-- PoloSeason$Planner.ponyIn(I)I -/
def e22 : List En := [
  (.iload_n 1, 1, 0, []),
  (.ifCond .lt 18, 0, 0, [10]),
  (.iload_n 1, 1, 0, []),
  (.bipush 6, 0, 6, []),
  (.if_icmp .ge 12, 0, 0, [10]),
  (.aload_n 0, 0, 0, []),
  (.getfield 28, 5, 0, [2, 0]),
  (.iload_n 1, 1, 0, []),
  (.iaload, 0, 0, []),
  (.goto 4, 0, 0, [11]),
  (.iconst (-1), 0, (-1), []),
  (.ireturn, 0, 0, [])]
def p22 : List Nat := [0, 1, 4, 5, 7, 10, 11, 14, 15, 16, 19, 20]
set_option maxRecDepth 100000 in
theorem ok22 : chk 22 p22 e22 = true := by decide +kernel
/-- PoloSeason$Planner.plan(LPoloSeason$Stable;II)V -/
def e23 : List En := [
  (.iload_n 3, 3, 0, []),
  (.bipush 6, 0, 6, []),
  (.invokestatic 41, 178, 0, [2, 2]),
  (.istore 4, 4, 0, []),
  (.aload_n 0, 0, 0, []),
  (.aload_n 1, 1, 0, []),
  (.iload_n 2, 2, 0, []),
  (.iload 4, 4, 0, []),
  (.iconst 1, 0, 1, []),
  (.iadd, 0, 0, []),
  (.iconst 2, 0, 2, []),
  (.idiv, 0, 0, []),
  (.invokevirtual 47, 24, 0, [4, 0]),
  (.aload_n 0, 0, 0, []),
  (.aload_n 0, 0, 0, []),
  (.iload 4, 4, 0, []),
  (.invokevirtual 51, 25, 0, [2, 0]),
  (.invokevirtual 55, 28, 0, [2, 0]),
  (.iconst (-1), 0, (-1), []),
  (.istore 5, 5, 0, []),
  (.iconst 0, 0, 0, []),
  (.istore 6, 6, 0, []),
  (.iload 6, 6, 0, []),
  (.iload 4, 4, 0, []),
  (.if_icmp .ge 48, 0, 0, [49]),
  (.aload_n 0, 0, 0, []),
  (.iload 5, 5, 0, []),
  (.iload 4, 4, 0, []),
  (.iload 6, 6, 0, []),
  (.isub, 0, 0, []),
  (.iconst 1, 0, 1, []),
  (.isub, 0, 0, []),
  (.invokevirtual 59, 29, 0, [3, 0]),
  (.istore 5, 5, 0, []),
  (.aload_n 0, 0, 0, []),
  (.getfield 28, 5, 0, [2, 0]),
  (.iload 6, 6, 0, []),
  (.iload 5, 5, 0, []),
  (.iconst (-1), 0, (-1), []),
  (.if_icmp .ne 7, 0, 0, [42]),
  (.iconst (-1), 0, (-1), []),
  (.goto 10, 0, 0, [46]),
  (.aload_n 0, 0, 0, []),
  (.getfield 9, 0, 0, [2, 0]),
  (.iload 5, 5, 0, []),
  (.iaload, 0, 0, []),
  (.iastore, 0, 0, []),
  (.iinc 6 1, 6, 1, []),
  (.goto (-49), 0, 0, [22]),
  (.return_, 0, 0, [])]
def p23 : List Nat := [0, 1, 3, 6, 8, 9, 10, 11, 13, 14, 15, 16, 17, 20, 21, 22, 24, 27, 30, 31, 33, 34, 36, 38, 40, 43, 44, 46, 48, 50, 51, 52, 53, 56, 58, 59, 62, 64, 66, 67, 70, 71, 74, 75, 78, 80, 81, 82, 85, 88]
set_option maxRecDepth 100000 in
theorem ok23 : chk 23 p23 e23 = true := by decide +kernel
/-- PoloSeason$Planner.collect(LPoloSeason$Stable;II)V -/
def e24 : List En := [
  (.aload_n 0, 0, 0, []),
  (.iconst 0, 0, 0, []),
  (.putfield 31, 6, 0, [2, 0]),
  (.iconst 0, 0, 0, []),
  (.istore 4, 4, 0, []),
  (.iload 4, 4, 0, []),
  (.aload_n 1, 1, 0, []),
  (.invokevirtual 62, 53, 0, [1, 0]),
  (.if_icmp .ge 83, 0, 0, [50]),
  (.aload_n 0, 0, 0, []),
  (.getfield 31, 6, 0, [2, 0]),
  (.bipush 8, 0, 8, []),
  (.if_icmp .ge 74, 0, 0, [50]),
  (.aload_n 1, 1, 0, []),
  (.iload 4, 4, 0, []),
  (.invokevirtual 67, 60, 0, [2, 0]),
  (.iload_n 2, 2, 0, []),
  (.if_icmp .ne 58, 0, 0, [48]),
  (.aload_n 0, 0, 0, []),
  (.getfield 9, 0, 0, [2, 0]),
  (.aload_n 0, 0, 0, []),
  (.getfield 31, 6, 0, [2, 0]),
  (.iload 4, 4, 0, []),
  (.iastore, 0, 0, []),
  (.aload_n 0, 0, 0, []),
  (.getfield 15, 1, 0, [2, 0]),
  (.aload_n 0, 0, 0, []),
  (.getfield 31, 6, 0, [2, 0]),
  (.aload_n 1, 1, 0, []),
  (.iload 4, 4, 0, []),
  (.invokevirtual 70, 61, 0, [2, 0]),
  (.iastore, 0, 0, []),
  (.aload_n 0, 0, 0, []),
  (.getfield 18, 2, 0, [2, 0]),
  (.aload_n 0, 0, 0, []),
  (.getfield 31, 6, 0, [2, 0]),
  (.aload_n 1, 1, 0, []),
  (.iload 4, 4, 0, []),
  (.invokevirtual 73, 63, 0, [2, 0]),
  (.iload_n 3, 3, 0, []),
  (.invokestatic 41, 178, 0, [2, 2]),
  (.iastore, 0, 0, []),
  (.aload_n 0, 0, 0, []),
  (.dup, 0, 0, []),
  (.getfield 31, 6, 0, [2, 0]),
  (.iconst 1, 0, 1, []),
  (.iadd, 0, 0, []),
  (.putfield 31, 6, 0, [2, 0]),
  (.iinc 4 1, 4, 1, []),
  (.goto (-86), 0, 0, [5]),
  (.return_, 0, 0, [])]
def p24 : List Nat := [0, 1, 2, 5, 6, 8, 10, 11, 14, 17, 18, 21, 23, 26, 27, 29, 32, 33, 36, 37, 40, 41, 44, 46, 47, 48, 51, 52, 55, 56, 58, 61, 62, 63, 66, 67, 70, 71, 73, 76, 77, 80, 81, 82, 83, 86, 87, 88, 91, 94, 97]
set_option maxRecDepth 100000 in
theorem ok24 : chk 24 p24 e24 = true := by decide +kernel
/-- PoloSeason$Planner.fillLowest(I)I -/
def e25 : List En := [
  (.iconst 0, 0, 0, []),
  (.istore_n 2, 2, 0, []),
  (.iload_n 2, 2, 0, []),
  (.aload_n 0, 0, 0, []),
  (.getfield 31, 6, 0, [2, 0]),
  (.if_icmp .ge 16, 0, 0, [13]),
  (.aload_n 0, 0, 0, []),
  (.getfield 21, 3, 0, [2, 0]),
  (.iload_n 2, 2, 0, []),
  (.iconst 0, 0, 0, []),
  (.iastore, 0, 0, []),
  (.iinc 2 1, 2, 1, []),
  (.goto (-18), 0, 0, [2]),
  (.iconst 0, 0, 0, []),
  (.istore_n 2, 2, 0, []),
  (.iload_n 2, 2, 0, []),
  (.iload_n 1, 1, 0, []),
  (.if_icmp .ge 40, 0, 0, [41]),
  (.aload_n 0, 0, 0, []),
  (.invokevirtual 76, 26, 0, [1, 0]),
  (.istore_n 3, 3, 0, []),
  (.iload_n 3, 3, 0, []),
  (.iconst (-1), 0, (-1), []),
  (.if_icmp .ne 5, 0, 0, [26]),
  (.iload_n 2, 2, 0, []),
  (.ireturn, 0, 0, []),
  (.aload_n 0, 0, 0, []),
  (.aload_n 0, 0, 0, []),
  (.iload_n 3, 3, 0, []),
  (.invokevirtual 79, 27, 0, [2, 0]),
  (.putfield 35, 7, 0, [2, 0]),
  (.aload_n 0, 0, 0, []),
  (.getfield 21, 3, 0, [2, 0]),
  (.iload_n 3, 3, 0, []),
  (.dup2, 0, 0, []),
  (.iaload, 0, 0, []),
  (.iconst 1, 0, 1, []),
  (.iadd, 0, 0, []),
  (.iastore, 0, 0, []),
  (.iinc 2 1, 2, 1, []),
  (.goto (-39), 0, 0, [15]),
  (.iload_n 1, 1, 0, []),
  (.ireturn, 0, 0, [])]
def p25 : List Nat := [0, 1, 2, 3, 4, 7, 10, 11, 14, 15, 16, 17, 20, 23, 24, 25, 26, 27, 30, 31, 34, 35, 36, 37, 40, 41, 42, 43, 44, 45, 48, 51, 52, 55, 56, 57, 58, 59, 60, 61, 64, 67, 68]
set_option maxRecDepth 100000 in
theorem ok25 : chk 25 p25 e25 = true := by decide +kernel
/-- PoloSeason$Planner.lowestWithRoom()I -/
def e26 : List En := [
  (.iconst (-1), 0, (-1), []),
  (.istore_n 1, 1, 0, []),
  (.iconst 0, 0, 0, []),
  (.istore_n 2, 2, 0, []),
  (.iload_n 2, 2, 0, []),
  (.aload_n 0, 0, 0, []),
  (.getfield 31, 6, 0, [2, 0]),
  (.if_icmp .ge 44, 0, 0, [31]),
  (.aload_n 0, 0, 0, []),
  (.getfield 21, 3, 0, [2, 0]),
  (.iload_n 2, 2, 0, []),
  (.iaload, 0, 0, []),
  (.aload_n 0, 0, 0, []),
  (.getfield 18, 2, 0, [2, 0]),
  (.iload_n 2, 2, 0, []),
  (.iaload, 0, 0, []),
  (.if_icmp .ge 23, 0, 0, [29]),
  (.iload_n 1, 1, 0, []),
  (.iconst (-1), 0, (-1), []),
  (.if_icmp .eq 16, 0, 0, [27]),
  (.aload_n 0, 0, 0, []),
  (.iload_n 2, 2, 0, []),
  (.invokevirtual 79, 27, 0, [2, 0]),
  (.aload_n 0, 0, 0, []),
  (.iload_n 1, 1, 0, []),
  (.invokevirtual 79, 27, 0, [2, 0]),
  (.if_icmp .ge 5, 0, 0, [29]),
  (.iload_n 2, 2, 0, []),
  (.istore_n 1, 1, 0, []),
  (.iinc 2 1, 2, 1, []),
  (.goto (-46), 0, 0, [4]),
  (.iload_n 1, 1, 0, []),
  (.ireturn, 0, 0, [])]
def p26 : List Nat := [0, 1, 2, 3, 4, 5, 6, 9, 12, 13, 16, 17, 18, 19, 22, 23, 24, 27, 28, 29, 32, 33, 34, 37, 38, 39, 42, 45, 46, 47, 50, 53, 54]
set_option maxRecDepth 100000 in
theorem ok26 : chk 26 p26 e26 = true := by decide +kernel
/-- PoloSeason$Planner.levelNow(I)I -/
def e27 : List En := [
  (.aload_n 0, 0, 0, []),
  (.getfield 15, 1, 0, [2, 0]),
  (.iload_n 1, 1, 0, []),
  (.iaload, 0, 0, []),
  (.aload_n 0, 0, 0, []),
  (.getfield 21, 3, 0, [2, 0]),
  (.iload_n 1, 1, 0, []),
  (.iaload, 0, 0, []),
  (.bipush 7, 0, 7, []),
  (.imul, 0, 0, []),
  (.iadd, 0, 0, []),
  (.ireturn, 0, 0, [])]
def p27 : List Nat := [0, 1, 4, 5, 6, 7, 10, 11, 12, 14, 15, 16]
set_option maxRecDepth 100000 in
theorem ok27 : chk 27 p27 e27 = true := by decide +kernel
/-- PoloSeason$Planner.splitByThreshold(I)V -/
def e28 : List En := [
  (.aload_n 0, 0, 0, []),
  (.iload_n 1, 1, 0, []),
  (.putfield 38, 8, 0, [2, 0]),
  (.iconst 0, 0, 0, []),
  (.istore_n 2, 2, 0, []),
  (.iload_n 2, 2, 0, []),
  (.aload_n 0, 0, 0, []),
  (.getfield 31, 6, 0, [2, 0]),
  (.if_icmp .ge 107, 0, 0, [71]),
  (.aload_n 0, 0, 0, []),
  (.getfield 21, 3, 0, [2, 0]),
  (.iload_n 2, 2, 0, []),
  (.iconst 0, 0, 0, []),
  (.iastore, 0, 0, []),
  (.aload_n 0, 0, 0, []),
  (.getfield 24, 4, 0, [2, 0]),
  (.iload_n 2, 2, 0, []),
  (.iconst 0, 0, 0, []),
  (.bastore, 0, 0, []),
  (.iconst 0, 0, 0, []),
  (.istore_n 3, 3, 0, []),
  (.iload_n 3, 3, 0, []),
  (.aload_n 0, 0, 0, []),
  (.getfield 18, 2, 0, [2, 0]),
  (.iload_n 2, 2, 0, []),
  (.iaload, 0, 0, []),
  (.if_icmp .ge 60, 0, 0, [60]),
  (.aload_n 0, 0, 0, []),
  (.getfield 15, 1, 0, [2, 0]),
  (.iload_n 2, 2, 0, []),
  (.iaload, 0, 0, []),
  (.iload_n 3, 3, 0, []),
  (.bipush 7, 0, 7, []),
  (.imul, 0, 0, []),
  (.iadd, 0, 0, []),
  (.istore 4, 4, 0, []),
  (.iload 4, 4, 0, []),
  (.aload_n 0, 0, 0, []),
  (.getfield 35, 7, 0, [2, 0]),
  (.if_icmp .ge 16, 0, 0, [49]),
  (.aload_n 0, 0, 0, []),
  (.getfield 21, 3, 0, [2, 0]),
  (.iload_n 2, 2, 0, []),
  (.dup2, 0, 0, []),
  (.iaload, 0, 0, []),
  (.iconst 1, 0, 1, []),
  (.iadd, 0, 0, []),
  (.iastore, 0, 0, []),
  (.goto 19, 0, 0, [58]),
  (.iload 4, 4, 0, []),
  (.aload_n 0, 0, 0, []),
  (.getfield 35, 7, 0, [2, 0]),
  (.if_icmp .ne 10, 0, 0, [58]),
  (.aload_n 0, 0, 0, []),
  (.getfield 24, 4, 0, [2, 0]),
  (.iload_n 2, 2, 0, []),
  (.iconst 1, 0, 1, []),
  (.bastore, 0, 0, []),
  (.iinc 3 1, 3, 1, []),
  (.goto (-64), 0, 0, [21]),
  (.aload_n 0, 0, 0, []),
  (.dup, 0, 0, []),
  (.getfield 38, 8, 0, [2, 0]),
  (.aload_n 0, 0, 0, []),
  (.getfield 21, 3, 0, [2, 0]),
  (.iload_n 2, 2, 0, []),
  (.iaload, 0, 0, []),
  (.isub, 0, 0, []),
  (.putfield 38, 8, 0, [2, 0]),
  (.iinc 2 1, 2, 1, []),
  (.goto (-109), 0, 0, [5]),
  (.return_, 0, 0, [])]
def p28 : List Nat := [0, 1, 2, 5, 6, 7, 8, 9, 12, 15, 16, 19, 20, 21, 22, 23, 26, 27, 28, 29, 30, 31, 32, 33, 36, 37, 38, 41, 42, 45, 46, 47, 48, 50, 51, 52, 54, 56, 57, 60, 63, 64, 67, 68, 69, 70, 71, 72, 73, 76, 78, 79, 82, 85, 86, 89, 90, 91, 92, 95, 98, 99, 100, 103, 104, 107, 108, 109, 110, 113, 116, 119]
set_option maxRecDepth 100000 in
theorem ok28 : chk 28 p28 e28 = true := by decide +kernel
/-- PoloSeason$Planner.firstThatCompletes(II)I -/
def e29 : List En := [
  (.iconst 0, 0, 0, []),
  (.istore_n 3, 3, 0, []),
  (.iload_n 3, 3, 0, []),
  (.aload_n 0, 0, 0, []),
  (.getfield 31, 6, 0, [2, 0]),
  (.if_icmp .ge 25, 0, 0, [18]),
  (.iload_n 3, 3, 0, []),
  (.iload_n 1, 1, 0, []),
  (.if_icmp .eq 14, 0, 0, [16]),
  (.aload_n 0, 0, 0, []),
  (.iload_n 3, 3, 0, []),
  (.iload_n 2, 2, 0, []),
  (.invokevirtual 82, 30, 0, [3, 0]),
  (.ifCond .eq 5, 0, 0, [16]),
  (.iload_n 3, 3, 0, []),
  (.ireturn, 0, 0, []),
  (.iinc 3 1, 3, 1, []),
  (.goto (-27), 0, 0, [2]),
  (.iconst (-1), 0, (-1), []),
  (.ireturn, 0, 0, [])]
def p29 : List Nat := [0, 1, 2, 3, 4, 7, 10, 11, 12, 15, 16, 17, 18, 21, 24, 25, 26, 29, 32, 33]
set_option maxRecDepth 100000 in
theorem ok29 : chk 29 p29 e29 = true := by decide +kernel
/-- PoloSeason$Planner.completesWith(II)Z -/
def e30 : List En := [
  (.aload_n 0, 0, 0, []),
  (.getfield 21, 3, 0, [2, 0]),
  (.iload_n 1, 1, 0, []),
  (.iaload, 0, 0, []),
  (.ifCond .le 36, 0, 0, [30]),
  (.aload_n 0, 0, 0, []),
  (.getfield 21, 3, 0, [2, 0]),
  (.iload_n 1, 1, 0, []),
  (.dup2, 0, 0, []),
  (.iaload, 0, 0, []),
  (.iconst 1, 0, 1, []),
  (.isub, 0, 0, []),
  (.iastore, 0, 0, []),
  (.aload_n 0, 0, 0, []),
  (.iload_n 1, 1, 0, []),
  (.iload_n 2, 2, 0, []),
  (.invokevirtual 86, 31, 0, [3, 0]),
  (.ifCond .eq 5, 0, 0, [20]),
  (.iconst 1, 0, 1, []),
  (.ireturn, 1, 0, []),
  (.aload_n 0, 0, 0, []),
  (.getfield 21, 3, 0, [2, 0]),
  (.iload_n 1, 1, 0, []),
  (.dup2, 0, 0, []),
  (.iaload, 0, 0, []),
  (.iconst 1, 0, 1, []),
  (.iadd, 0, 0, []),
  (.iastore, 0, 0, []),
  (.iconst 0, 0, 0, []),
  (.ireturn, 1, 0, []),
  (.aload_n 0, 0, 0, []),
  (.getfield 24, 4, 0, [2, 0]),
  (.iload_n 1, 1, 0, []),
  (.baload, 0, 0, []),
  (.ifCond .eq 10, 0, 0, [38]),
  (.aload_n 0, 0, 0, []),
  (.getfield 38, 8, 0, [2, 0]),
  (.ifCond .gt 5, 0, 0, [40]),
  (.iconst 0, 0, 0, []),
  (.ireturn, 1, 0, []),
  (.aload_n 0, 0, 0, []),
  (.getfield 24, 4, 0, [2, 0]),
  (.iload_n 1, 1, 0, []),
  (.iconst 0, 0, 0, []),
  (.bastore, 0, 0, []),
  (.aload_n 0, 0, 0, []),
  (.dup, 0, 0, []),
  (.getfield 38, 8, 0, [2, 0]),
  (.iconst 1, 0, 1, []),
  (.isub, 0, 0, []),
  (.putfield 38, 8, 0, [2, 0]),
  (.aload_n 0, 0, 0, []),
  (.iload_n 1, 1, 0, []),
  (.iload_n 2, 2, 0, []),
  (.invokevirtual 86, 31, 0, [3, 0]),
  (.ifCond .eq 5, 0, 0, [58]),
  (.iconst 1, 0, 1, []),
  (.ireturn, 1, 0, []),
  (.aload_n 0, 0, 0, []),
  (.getfield 24, 4, 0, [2, 0]),
  (.iload_n 1, 1, 0, []),
  (.iconst 1, 0, 1, []),
  (.bastore, 0, 0, []),
  (.aload_n 0, 0, 0, []),
  (.dup, 0, 0, []),
  (.getfield 38, 8, 0, [2, 0]),
  (.iconst 1, 0, 1, []),
  (.iadd, 0, 0, []),
  (.putfield 38, 8, 0, [2, 0]),
  (.iconst 0, 0, 0, []),
  (.ireturn, 1, 0, [])]
def p30 : List Nat := [0, 1, 4, 5, 6, 9, 10, 13, 14, 15, 16, 17, 18, 19, 20, 21, 22, 25, 28, 29, 30, 31, 34, 35, 36, 37, 38, 39, 40, 41, 42, 43, 46, 47, 48, 51, 52, 55, 58, 59, 60, 61, 64, 65, 66, 67, 68, 69, 72, 73, 74, 77, 78, 79, 80, 83, 86, 87, 88, 89, 92, 93, 94, 95, 96, 97, 100, 101, 102, 105, 106]
set_option maxRecDepth 100000 in
theorem ok30 : chk 30 p30 e30 = true := by decide +kernel
/-- PoloSeason$Planner.completes(II)Z -/
def e31 : List En := [
  (.iconst 0, 0, 0, []),
  (.istore_n 3, 3, 0, []),
  (.iconst 0, 0, 0, []),
  (.istore 4, 4, 0, []),
  (.iload 4, 4, 0, []),
  (.aload_n 0, 0, 0, []),
  (.getfield 31, 6, 0, [2, 0]),
  (.if_icmp .ge 65, 0, 0, [41]),
  (.iload 4, 4, 0, []),
  (.iload_n 1, 1, 0, []),
  (.if_icmp .ne 7, 0, 0, [13]),
  (.iload_n 2, 2, 0, []),
  (.goto 6, 0, 0, [16]),
  (.iload_n 2, 2, 0, []),
  (.iconst 1, 0, 1, []),
  (.iadd, 0, 0, []),
  (.iconst 2, 0, 2, []),
  (.idiv, 0, 0, []),
  (.istore 5, 5, 0, []),
  (.aload_n 0, 0, 0, []),
  (.getfield 21, 3, 0, [2, 0]),
  (.iload 4, 4, 0, []),
  (.iaload, 0, 0, []),
  (.iload 5, 5, 0, []),
  (.if_icmp .le 5, 0, 0, [27]),
  (.iconst 0, 0, 0, []),
  (.ireturn, 1, 0, []),
  (.aload_n 0, 0, 0, []),
  (.getfield 24, 4, 0, [2, 0]),
  (.iload 4, 4, 0, []),
  (.baload, 0, 0, []),
  (.ifCond .eq 18, 0, 0, [39]),
  (.aload_n 0, 0, 0, []),
  (.getfield 21, 3, 0, [2, 0]),
  (.iload 4, 4, 0, []),
  (.iaload, 0, 0, []),
  (.iload 5, 5, 0, []),
  (.if_icmp .ge 6, 0, 0, [39]),
  (.iinc 3 1, 3, 1, []),
  (.iinc 4 1, 4, 1, []),
  (.goto (-68), 0, 0, [4]),
  (.iload_n 3, 3, 0, []),
  (.aload_n 0, 0, 0, []),
  (.getfield 38, 8, 0, [2, 0]),
  (.if_icmp .lt 7, 0, 0, [47]),
  (.iconst 1, 0, 1, []),
  (.goto 4, 0, 0, [48]),
  (.iconst 0, 0, 0, []),
  (.ireturn, 1, 0, [])]
def p31 : List Nat := [0, 1, 2, 3, 5, 7, 8, 11, 14, 16, 17, 20, 21, 24, 25, 26, 27, 28, 29, 31, 32, 35, 37, 38, 40, 43, 44, 45, 46, 49, 51, 52, 55, 56, 59, 61, 62, 64, 67, 70, 73, 76, 77, 78, 81, 84, 85, 88, 89]
set_option maxRecDepth 100000 in
theorem ok31 : chk 31 p31 e31 = true := by decide +kernel
/-- PoloSeason$Roster.players()I -/
def e33 : List En := [
  (.aload_n 0, 0, 0, []),
  (.getfield 22, 3, 0, [3, 0]),
  (.ireturn, 0, 0, [])]
def p33 : List Nat := [0, 1, 4]
set_option maxRecDepth 100000 in
theorem ok33 : chk 33 p33 e33 = true := by decide +kernel
/-- PoloSeason$Roster.teams()I -/
def e34 : List En := [
  (.aload_n 0, 0, 0, []),
  (.getfield 26, 4, 0, [3, 0]),
  (.ireturn, 0, 0, [])]
def p34 : List Nat := [0, 1, 4]
set_option maxRecDepth 100000 in
theorem ok34 : chk 34 p34 e34 = true := by decide +kernel
/-- PoloSeason$Roster.playersAreFull()Z -/
def e35 : List En := [
  (.aload_n 0, 0, 0, []),
  (.getfield 22, 3, 0, [3, 0]),
  (.bipush 32, 0, 32, []),
  (.if_icmp .lt 7, 0, 0, [6]),
  (.iconst 1, 0, 1, []),
  (.goto 4, 0, 0, [7]),
  (.iconst 0, 0, 0, []),
  (.ireturn, 1, 0, [])]
def p35 : List Nat := [0, 1, 4, 6, 9, 10, 13, 14]
set_option maxRecDepth 100000 in
theorem ok35 : chk 35 p35 e35 = true := by decide +kernel
/-- PoloSeason$Roster.teamsAreFull()Z -/
def e36 : List En := [
  (.aload_n 0, 0, 0, []),
  (.getfield 26, 4, 0, [3, 0]),
  (.bipush 8, 0, 8, []),
  (.if_icmp .lt 7, 0, 0, [6]),
  (.iconst 1, 0, 1, []),
  (.goto 4, 0, 0, [7]),
  (.iconst 0, 0, 0, []),
  (.ireturn, 1, 0, [])]
def p36 : List Nat := [0, 1, 4, 6, 9, 10, 13, 14]
set_option maxRecDepth 100000 in
theorem ok36 : chk 36 p36 e36 = true := by decide +kernel
/-- PoloSeason$Roster.addPlayer(I)I -/
def e37 : List En := [
  (.aload_n 0, 0, 0, []),
  (.getfield 9, 0, 0, [3, 0]),
  (.aload_n 0, 0, 0, []),
  (.getfield 22, 3, 0, [3, 0]),
  (.iload_n 1, 1, 0, []),
  (.iastore, 0, 0, []),
  (.aload_n 0, 0, 0, []),
  (.dup, 0, 0, []),
  (.getfield 22, 3, 0, [3, 0]),
  (.iconst 1, 0, 1, []),
  (.iadd, 0, 0, []),
  (.putfield 22, 3, 0, [3, 0]),
  (.aload_n 0, 0, 0, []),
  (.getfield 22, 3, 0, [3, 0]),
  (.iconst 1, 0, 1, []),
  (.isub, 0, 0, []),
  (.ireturn, 0, 0, [])]
def p37 : List Nat := [0, 1, 4, 5, 8, 9, 10, 11, 12, 15, 16, 17, 20, 21, 24, 25, 26]
set_option maxRecDepth 100000 in
theorem ok37 : chk 37 p37 e37 = true := by decide +kernel
/-- PoloSeason$Roster.changeHandicap(II)I -/
def e38 : List En := [
  (.aload_n 0, 0, 0, []),
  (.getfield 9, 0, 0, [3, 0]),
  (.iload_n 1, 1, 0, []),
  (.iaload, 0, 0, []),
  (.istore_n 3, 3, 0, []),
  (.aload_n 0, 0, 0, []),
  (.getfield 9, 0, 0, [3, 0]),
  (.iload_n 1, 1, 0, []),
  (.iload_n 2, 2, 0, []),
  (.iastore, 0, 0, []),
  (.iload_n 3, 3, 0, []),
  (.ireturn, 0, 0, [])]
def p38 : List Nat := [0, 1, 4, 5, 6, 7, 8, 11, 12, 13, 14, 15]
set_option maxRecDepth 100000 in
theorem ok38 : chk 38 p38 e38 = true := by decide +kernel
/-- PoloSeason$Roster.inTeam(I)Z -/
def e39 : List En := [
  (.aload_n 0, 0, 0, []),
  (.getfield 15, 1, 0, [3, 0]),
  (.iload_n 1, 1, 0, []),
  (.baload, 0, 0, []),
  (.ireturn, 1, 0, [])]
def p39 : List Nat := [0, 1, 4, 5, 6]
set_option maxRecDepth 100000 in
theorem ok39 : chk 39 p39 e39 = true := by decide +kernel
/-- PoloSeason$Roster.addTeam(IIII)I -/
def e40 : List En := [
  (.aload_n 0, 0, 0, []),
  (.getfield 26, 4, 0, [3, 0]),
  (.iconst 4, 0, 4, []),
  (.imul, 0, 0, []),
  (.istore 5, 5, 0, []),
  (.aload_n 0, 0, 0, []),
  (.iload 5, 5, 0, []),
  (.iload_n 1, 1, 0, []),
  (.invokevirtual 29, 41, 0, [3, 0]),
  (.aload_n 0, 0, 0, []),
  (.iload 5, 5, 0, []),
  (.iconst 1, 0, 1, []),
  (.iadd, 0, 0, []),
  (.iload_n 2, 2, 0, []),
  (.invokevirtual 29, 41, 0, [3, 0]),
  (.aload_n 0, 0, 0, []),
  (.iload 5, 5, 0, []),
  (.iconst 2, 0, 2, []),
  (.iadd, 0, 0, []),
  (.iload_n 3, 3, 0, []),
  (.invokevirtual 29, 41, 0, [3, 0]),
  (.aload_n 0, 0, 0, []),
  (.iload 5, 5, 0, []),
  (.iconst 3, 0, 3, []),
  (.iadd, 0, 0, []),
  (.iload 4, 4, 0, []),
  (.invokevirtual 29, 41, 0, [3, 0]),
  (.aload_n 0, 0, 0, []),
  (.dup, 0, 0, []),
  (.getfield 26, 4, 0, [3, 0]),
  (.iconst 1, 0, 1, []),
  (.iadd, 0, 0, []),
  (.putfield 26, 4, 0, [3, 0]),
  (.aload_n 0, 0, 0, []),
  (.getfield 26, 4, 0, [3, 0]),
  (.iconst 1, 0, 1, []),
  (.isub, 0, 0, []),
  (.ireturn, 0, 0, [])]
def p40 : List Nat := [0, 1, 4, 5, 6, 8, 9, 11, 12, 15, 16, 18, 19, 20, 21, 24, 25, 27, 28, 29, 30, 33, 34, 36, 37, 38, 40, 43, 44, 45, 48, 49, 50, 53, 54, 57, 58, 59]
set_option maxRecDepth 100000 in
theorem ok40 : chk 40 p40 e40 = true := by decide +kernel
/-- PoloSeason$Roster.seat(II)V -/
def e41 : List En := [
  (.aload_n 0, 0, 0, []),
  (.getfield 19, 2, 0, [3, 0]),
  (.iload_n 1, 1, 0, []),
  (.iload_n 2, 2, 0, []),
  (.iastore, 0, 0, []),
  (.aload_n 0, 0, 0, []),
  (.getfield 15, 1, 0, [3, 0]),
  (.iload_n 2, 2, 0, []),
  (.iconst 1, 0, 1, []),
  (.bastore, 0, 0, []),
  (.return_, 0, 0, [])]
def p41 : List Nat := [0, 1, 4, 5, 6, 7, 8, 11, 12, 13, 14]
set_option maxRecDepth 100000 in
theorem ok41 : chk 41 p41 e41 = true := by decide +kernel
/-- PoloSeason$Roster.memberOf(II)I -/
def e42 : List En := [
  (.aload_n 0, 0, 0, []),
  (.getfield 19, 2, 0, [3, 0]),
  (.iload_n 1, 1, 0, []),
  (.iconst 4, 0, 4, []),
  (.imul, 0, 0, []),
  (.iload_n 2, 2, 0, []),
  (.iadd, 0, 0, []),
  (.iaload, 0, 0, []),
  (.ireturn, 0, 0, [])]
def p42 : List Nat := [0, 1, 4, 5, 6, 7, 8, 9, 10]
set_option maxRecDepth 100000 in
theorem ok42 : chk 42 p42 e42 = true := by decide +kernel
/-- PoloSeason$Roster.sumOf(I)I -/
def e43 : List En := [
  (.iconst 0, 0, 0, []),
  (.istore_n 2, 2, 0, []),
  (.iconst 0, 0, 0, []),
  (.istore_n 3, 3, 0, []),
  (.iload_n 3, 3, 0, []),
  (.iconst 4, 0, 4, []),
  (.if_icmp .ge 23, 0, 0, [19]),
  (.iload_n 2, 2, 0, []),
  (.aload_n 0, 0, 0, []),
  (.getfield 9, 0, 0, [3, 0]),
  (.aload_n 0, 0, 0, []),
  (.iload_n 1, 1, 0, []),
  (.iload_n 3, 3, 0, []),
  (.invokevirtual 33, 42, 0, [3, 0]),
  (.iaload, 0, 0, []),
  (.iadd, 0, 0, []),
  (.istore_n 2, 2, 0, []),
  (.iinc 3 1, 3, 1, []),
  (.goto (-22), 0, 0, [4]),
  (.iload_n 2, 2, 0, []),
  (.ireturn, 0, 0, [])]
def p43 : List Nat := [0, 1, 2, 3, 4, 5, 6, 9, 10, 11, 14, 15, 16, 17, 20, 21, 22, 23, 26, 29, 30]
set_option maxRecDepth 100000 in
theorem ok43 : chk 43 p43 e43 = true := by decide +kernel
/-- PoloSeason$Row.size()I -/
def e45 : List En := [
  (.aload_n 0, 0, 0, []),
  (.getfield 15, 1, 0, [4, 0]),
  (.ireturn, 0, 0, [])]
def p45 : List Nat := [0, 1, 4]
set_option maxRecDepth 100000 in
theorem ok45 : chk 45 p45 e45 = true := by decide +kernel
/-- PoloSeason$Row.empty()V -/
def e46 : List En := [
  (.aload_n 0, 0, 0, []),
  (.iconst 0, 0, 0, []),
  (.putfield 15, 1, 0, [4, 0]),
  (.return_, 0, 0, [])]
def p46 : List Nat := [0, 1, 2, 5]
set_option maxRecDepth 100000 in
theorem ok46 : chk 46 p46 e46 = true := by decide +kernel
/-- PoloSeason$Row.append(I)V -/
def e47 : List En := [
  (.aload_n 0, 0, 0, []),
  (.getfield 15, 1, 0, [4, 0]),
  (.bipush 8, 0, 8, []),
  (.if_icmp .ge 23, 0, 0, [16]),
  (.aload_n 0, 0, 0, []),
  (.getfield 9, 0, 0, [4, 0]),
  (.aload_n 0, 0, 0, []),
  (.getfield 15, 1, 0, [4, 0]),
  (.iload_n 1, 1, 0, []),
  (.iastore, 0, 0, []),
  (.aload_n 0, 0, 0, []),
  (.dup, 0, 0, []),
  (.getfield 15, 1, 0, [4, 0]),
  (.iconst 1, 0, 1, []),
  (.iadd, 0, 0, []),
  (.putfield 15, 1, 0, [4, 0]),
  (.return_, 0, 0, [])]
def p47 : List Nat := [0, 1, 4, 6, 9, 10, 13, 14, 17, 18, 19, 20, 21, 24, 25, 26, 29]
set_option maxRecDepth 100000 in
theorem ok47 : chk 47 p47 e47 = true := by decide +kernel
/-- PoloSeason$Row.at(I)I -/
def e48 : List En := [
  (.iload_n 1, 1, 0, []),
  (.ifCond .lt 20, 0, 0, [11]),
  (.iload_n 1, 1, 0, []),
  (.aload_n 0, 0, 0, []),
  (.getfield 15, 1, 0, [4, 0]),
  (.if_icmp .ge 12, 0, 0, [11]),
  (.aload_n 0, 0, 0, []),
  (.getfield 9, 0, 0, [4, 0]),
  (.iload_n 1, 1, 0, []),
  (.iaload, 0, 0, []),
  (.goto 4, 0, 0, [12]),
  (.iconst (-1), 0, (-1), []),
  (.ireturn, 0, 0, [])]
def p48 : List Nat := [0, 1, 4, 5, 6, 9, 12, 13, 16, 17, 18, 21, 22]
set_option maxRecDepth 100000 in
theorem ok48 : chk 48 p48 e48 = true := by decide +kernel
/-- PoloSeason$Row.contains(I)Z -/
def e49 : List En := [
  (.iconst 0, 0, 0, []),
  (.istore_n 2, 2, 0, []),
  (.iload_n 2, 2, 0, []),
  (.aload_n 0, 0, 0, []),
  (.getfield 15, 1, 0, [4, 0]),
  (.if_icmp .ge 21, 0, 0, [16]),
  (.aload_n 0, 0, 0, []),
  (.getfield 9, 0, 0, [4, 0]),
  (.iload_n 2, 2, 0, []),
  (.iaload, 0, 0, []),
  (.iload_n 1, 1, 0, []),
  (.if_icmp .ne 5, 0, 0, [14]),
  (.iconst 1, 0, 1, []),
  (.ireturn, 1, 0, []),
  (.iinc 2 1, 2, 1, []),
  (.goto (-23), 0, 0, [2]),
  (.iconst 0, 0, 0, []),
  (.ireturn, 1, 0, [])]
def p49 : List Nat := [0, 1, 2, 3, 4, 7, 10, 11, 14, 15, 16, 17, 20, 21, 22, 25, 28, 29]
set_option maxRecDepth 100000 in
theorem ok49 : chk 49 p49 e49 = true := by decide +kernel
/-- PoloSeason$Row.exchange(II)V -/
def e50 : List En := [
  (.iload_n 1, 1, 0, []),
  (.ifCond .lt 23, 0, 0, [12]),
  (.iload_n 1, 1, 0, []),
  (.aload_n 0, 0, 0, []),
  (.getfield 15, 1, 0, [4, 0]),
  (.if_icmp .ge 15, 0, 0, [12]),
  (.iload_n 2, 2, 0, []),
  (.ifCond .lt 11, 0, 0, [12]),
  (.iload_n 2, 2, 0, []),
  (.aload_n 0, 0, 0, []),
  (.getfield 15, 1, 0, [4, 0]),
  (.if_icmp .lt 4, 0, 0, [13]),
  (.return_, 0, 0, []),
  (.aload_n 0, 0, 0, []),
  (.getfield 9, 0, 0, [4, 0]),
  (.iload_n 1, 1, 0, []),
  (.iaload, 0, 0, []),
  (.istore_n 3, 3, 0, []),
  (.aload_n 0, 0, 0, []),
  (.getfield 9, 0, 0, [4, 0]),
  (.iload_n 1, 1, 0, []),
  (.aload_n 0, 0, 0, []),
  (.getfield 9, 0, 0, [4, 0]),
  (.iload_n 2, 2, 0, []),
  (.iaload, 0, 0, []),
  (.iastore, 0, 0, []),
  (.aload_n 0, 0, 0, []),
  (.getfield 9, 0, 0, [4, 0]),
  (.iload_n 2, 2, 0, []),
  (.iload_n 3, 3, 0, []),
  (.iastore, 0, 0, []),
  (.return_, 0, 0, [])]
def p50 : List Nat := [0, 1, 4, 5, 6, 9, 12, 13, 16, 17, 18, 21, 24, 25, 26, 29, 30, 31, 32, 33, 36, 37, 38, 41, 42, 43, 44, 45, 48, 49, 50, 51]
set_option maxRecDepth 100000 in
theorem ok50 : chk 50 p50 e50 = true := by decide +kernel
/-- PoloSeason$Row.removeAll(LPoloSeason$Row;)V -/
def e51 : List En := [
  (.iconst 0, 0, 0, []),
  (.istore_n 2, 2, 0, []),
  (.iconst 0, 0, 0, []),
  (.istore_n 3, 3, 0, []),
  (.iload_n 3, 3, 0, []),
  (.aload_n 0, 0, 0, []),
  (.getfield 15, 1, 0, [4, 0]),
  (.if_icmp .ge 37, 0, 0, [26]),
  (.aload_n 1, 1, 0, []),
  (.aload_n 0, 0, 0, []),
  (.getfield 9, 0, 0, [4, 0]),
  (.iload_n 3, 3, 0, []),
  (.iaload, 0, 0, []),
  (.invokevirtual 19, 49, 0, [2, 0]),
  (.ifCond .ne 18, 0, 0, [24]),
  (.aload_n 0, 0, 0, []),
  (.getfield 9, 0, 0, [4, 0]),
  (.iload_n 2, 2, 0, []),
  (.aload_n 0, 0, 0, []),
  (.getfield 9, 0, 0, [4, 0]),
  (.iload_n 3, 3, 0, []),
  (.iaload, 0, 0, []),
  (.iastore, 0, 0, []),
  (.iinc 2 1, 2, 1, []),
  (.iinc 3 1, 3, 1, []),
  (.goto (-39), 0, 0, [4]),
  (.aload_n 0, 0, 0, []),
  (.iload_n 2, 2, 0, []),
  (.putfield 15, 1, 0, [4, 0]),
  (.return_, 0, 0, [])]
def p51 : List Nat := [0, 1, 2, 3, 4, 5, 6, 9, 12, 13, 14, 17, 18, 19, 22, 25, 26, 29, 30, 31, 34, 35, 36, 37, 40, 43, 46, 47, 48, 51]
set_option maxRecDepth 100000 in
theorem ok51 : chk 51 p51 e51 = true := by decide +kernel
/-- PoloSeason$Stable.ponies()I -/
def e53 : List En := [
  (.aload_n 0, 0, 0, []),
  (.getfield 24, 4, 0, [5, 0]),
  (.ireturn, 0, 0, [])]
def p53 : List Nat := [0, 1, 4]
set_option maxRecDepth 100000 in
theorem ok53 : chk 53 p53 e53 = true := by decide +kernel
/-- PoloSeason$Stable.today()I -/
def e54 : List En := [
  (.aload_n 0, 0, 0, []),
  (.getfield 28, 5, 0, [5, 0]),
  (.ireturn, 0, 0, [])]
def p54 : List Nat := [0, 1, 4]
set_option maxRecDepth 100000 in
theorem ok54 : chk 54 p54 e54 = true := by decide +kernel
/-- PoloSeason$Stable.isFull()Z -/
def e55 : List En := [
  (.aload_n 0, 0, 0, []),
  (.getfield 24, 4, 0, [5, 0]),
  (.bipush 60, 0, 60, []),
  (.if_icmp .lt 7, 0, 0, [6]),
  (.iconst 1, 0, 1, []),
  (.goto 4, 0, 0, [7]),
  (.iconst 0, 0, 0, []),
  (.ireturn, 1, 0, [])]
def p55 : List Nat := [0, 1, 4, 6, 9, 10, 13, 14]
set_option maxRecDepth 100000 in
theorem ok55 : chk 55 p55 e55 = true := by decide +kernel
/-- PoloSeason$Stable.poniesOf(I)I -/
def e56 : List En := [
  (.iconst 0, 0, 0, []),
  (.istore_n 2, 2, 0, []),
  (.iconst 0, 0, 0, []),
  (.istore_n 3, 3, 0, []),
  (.iload_n 3, 3, 0, []),
  (.aload_n 0, 0, 0, []),
  (.getfield 24, 4, 0, [5, 0]),
  (.if_icmp .ge 22, 0, 0, [17]),
  (.aload_n 0, 0, 0, []),
  (.getfield 9, 0, 0, [5, 0]),
  (.iload_n 3, 3, 0, []),
  (.iaload, 0, 0, []),
  (.iload_n 1, 1, 0, []),
  (.if_icmp .ne 6, 0, 0, [15]),
  (.iinc 2 1, 2, 1, []),
  (.iinc 3 1, 3, 1, []),
  (.goto (-24), 0, 0, [4]),
  (.iload_n 2, 2, 0, []),
  (.ireturn, 0, 0, [])]
def p56 : List Nat := [0, 1, 2, 3, 4, 5, 6, 9, 12, 13, 16, 17, 18, 19, 22, 25, 28, 31, 32]
set_option maxRecDepth 100000 in
theorem ok56 : chk 56 p56 e56 = true := by decide +kernel
/-- PoloSeason$Stable.addPony(I)I -/
def e57 : List En := [
  (.aload_n 0, 0, 0, []),
  (.getfield 9, 0, 0, [5, 0]),
  (.aload_n 0, 0, 0, []),
  (.getfield 24, 4, 0, [5, 0]),
  (.iload_n 1, 1, 0, []),
  (.iastore, 0, 0, []),
  (.aload_n 0, 0, 0, []),
  (.dup, 0, 0, []),
  (.getfield 24, 4, 0, [5, 0]),
  (.iconst 1, 0, 1, []),
  (.iadd, 0, 0, []),
  (.putfield 24, 4, 0, [5, 0]),
  (.aload_n 0, 0, 0, []),
  (.getfield 24, 4, 0, [5, 0]),
  (.iconst 1, 0, 1, []),
  (.isub, 0, 0, []),
  (.ireturn, 0, 0, [])]
def p57 : List Nat := [0, 1, 4, 5, 8, 9, 10, 11, 12, 15, 16, 17, 20, 21, 24, 25, 26]
set_option maxRecDepth 100000 in
theorem ok57 : chk 57 p57 e57 = true := by decide +kernel
/-- PoloSeason$Stable.layUp(II)Z -/
def e58 : List En := [
  (.aload_n 0, 0, 0, []),
  (.getfield 21, 3, 0, [5, 0]),
  (.iload_n 1, 1, 0, []),
  (.iload_n 2, 2, 0, []),
  (.iastore, 0, 0, []),
  (.aload_n 0, 0, 0, []),
  (.iload_n 1, 1, 0, []),
  (.invokevirtual 31, 59, 0, [2, 0]),
  (.ireturn, 1, 0, [])]
def p58 : List Nat := [0, 1, 4, 5, 6, 7, 8, 9, 12]
set_option maxRecDepth 100000 in
theorem ok58 : chk 58 p58 e58 = true := by decide +kernel
/-- PoloSeason$Stable.isLame(I)Z -/
def e59 : List En := [
  (.aload_n 0, 0, 0, []),
  (.getfield 28, 5, 0, [5, 0]),
  (.aload_n 0, 0, 0, []),
  (.getfield 21, 3, 0, [5, 0]),
  (.iload_n 1, 1, 0, []),
  (.iaload, 0, 0, []),
  (.if_icmp .ge 7, 0, 0, [9]),
  (.iconst 1, 0, 1, []),
  (.goto 4, 0, 0, [10]),
  (.iconst 0, 0, 0, []),
  (.ireturn, 1, 0, [])]
def p59 : List Nat := [0, 1, 4, 5, 8, 9, 10, 13, 14, 17, 18]
set_option maxRecDepth 100000 in
theorem ok59 : chk 59 p59 e59 = true := by decide +kernel
/-- PoloSeason$Stable.ownerOf(I)I -/
def e60 : List En := [
  (.aload_n 0, 0, 0, []),
  (.getfield 9, 0, 0, [5, 0]),
  (.iload_n 1, 1, 0, []),
  (.iaload, 0, 0, []),
  (.ireturn, 0, 0, [])]
def p60 : List Nat := [0, 1, 4, 5, 6]
set_option maxRecDepth 100000 in
theorem ok60 : chk 60 p60 e60 = true := by decide +kernel
/-- PoloSeason$Stable.ledOf(I)I -/
def e61 : List En := [
  (.aload_n 0, 0, 0, []),
  (.getfield 15, 1, 0, [5, 0]),
  (.iload_n 1, 1, 0, []),
  (.iaload, 0, 0, []),
  (.ireturn, 0, 0, [])]
def p61 : List Nat := [0, 1, 4, 5, 6]
set_option maxRecDepth 100000 in
theorem ok61 : chk 61 p61 e61 = true := by decide +kernel
/-- PoloSeason$Stable.ridesToday(I)I -/
def e62 : List En := [
  (.aload_n 0, 0, 0, []),
  (.getfield 18, 2, 0, [5, 0]),
  (.iload_n 1, 1, 0, []),
  (.iaload, 0, 0, []),
  (.ireturn, 0, 0, [])]
def p62 : List Nat := [0, 1, 4, 5, 6]
set_option maxRecDepth 100000 in
theorem ok62 : chk 62 p62 e62 = true := by decide +kernel
/-- PoloSeason$Stable.ridesLeft(I)I -/
def e63 : List En := [
  (.aload_n 0, 0, 0, []),
  (.iload_n 1, 1, 0, []),
  (.invokevirtual 31, 59, 0, [2, 0]),
  (.ifCond .eq 7, 0, 0, [6]),
  (.iconst 0, 0, 0, []),
  (.goto 11, 0, 0, [12]),
  (.iconst 2, 0, 2, []),
  (.aload_n 0, 0, 0, []),
  (.getfield 18, 2, 0, [5, 0]),
  (.iload_n 1, 1, 0, []),
  (.iaload, 0, 0, []),
  (.isub, 0, 0, []),
  (.ireturn, 0, 0, [])]
def p63 : List Nat := [0, 1, 2, 5, 8, 9, 12, 13, 14, 17, 18, 19, 20]
set_option maxRecDepth 100000 in
theorem ok63 : chk 63 p63 e63 = true := by decide +kernel
/-- PoloSeason$Stable.ride(I)V -/
def e64 : List En := [
  (.aload_n 0, 0, 0, []),
  (.getfield 18, 2, 0, [5, 0]),
  (.iload_n 1, 1, 0, []),
  (.dup2, 0, 0, []),
  (.iaload, 0, 0, []),
  (.iconst 1, 0, 1, []),
  (.iadd, 0, 0, []),
  (.iastore, 0, 0, []),
  (.aload_n 0, 0, 0, []),
  (.getfield 15, 1, 0, [5, 0]),
  (.iload_n 1, 1, 0, []),
  (.dup2, 0, 0, []),
  (.iaload, 0, 0, []),
  (.bipush 7, 0, 7, []),
  (.iadd, 0, 0, []),
  (.iastore, 0, 0, []),
  (.return_, 0, 0, [])]
def p64 : List Nat := [0, 1, 4, 5, 6, 7, 8, 9, 10, 11, 14, 15, 16, 17, 19, 20, 21]
set_option maxRecDepth 100000 in
theorem ok64 : chk 64 p64 e64 = true := by decide +kernel
/-- PoloSeason$Stable.nextDay()I -/
def e65 : List En := [
  (.iconst 0, 0, 0, []),
  (.istore_n 1, 1, 0, []),
  (.iload_n 1, 1, 0, []),
  (.aload_n 0, 0, 0, []),
  (.getfield 24, 4, 0, [5, 0]),
  (.if_icmp .ge 16, 0, 0, [13]),
  (.aload_n 0, 0, 0, []),
  (.getfield 18, 2, 0, [5, 0]),
  (.iload_n 1, 1, 0, []),
  (.iconst 0, 0, 0, []),
  (.iastore, 0, 0, []),
  (.iinc 1 1, 1, 1, []),
  (.goto (-18), 0, 0, [2]),
  (.aload_n 0, 0, 0, []),
  (.dup, 0, 0, []),
  (.getfield 28, 5, 0, [5, 0]),
  (.iconst 1, 0, 1, []),
  (.iadd, 0, 0, []),
  (.putfield 28, 5, 0, [5, 0]),
  (.aload_n 0, 0, 0, []),
  (.getfield 28, 5, 0, [5, 0]),
  (.ireturn, 0, 0, [])]
def p65 : List Nat := [0, 1, 2, 3, 4, 7, 10, 11, 14, 15, 16, 17, 20, 23, 24, 25, 28, 29, 30, 33, 34, 37]
set_option maxRecDepth 100000 in
theorem ok65 : chk 65 p65 e65 = true := by decide +kernel
/-- PoloSeason$Tournament.beginAnew(II)V -/
def e67 : List En := [
  (.aload_n 0, 0, 0, []),
  (.getfield 12, 0, 0, [6, 0]),
  (.invokevirtual 47, 46, 0, [1, 0]),
  (.aload_n 0, 0, 0, []),
  (.getfield 18, 1, 0, [6, 0]),
  (.invokevirtual 47, 46, 0, [1, 0]),
  (.aload_n 0, 0, 0, []),
  (.getfield 21, 2, 0, [6, 0]),
  (.invokevirtual 47, 46, 0, [1, 0]),
  (.aload_n 0, 0, 0, []),
  (.getfield 24, 3, 0, [6, 0]),
  (.invokevirtual 47, 46, 0, [1, 0]),
  (.aload_n 0, 0, 0, []),
  (.iconst 1, 0, 1, []),
  (.putfield 27, 4, 0, [6, 1]),
  (.aload_n 0, 0, 0, []),
  (.iconst 0, 0, 0, []),
  (.putfield 31, 5, 0, [6, 1]),
  (.aload_n 0, 0, 0, []),
  (.iload_n 1, 1, 0, []),
  (.putfield 34, 6, 0, [6, 0]),
  (.aload_n 0, 0, 0, []),
  (.iload_n 2, 2, 0, []),
  (.putfield 38, 7, 0, [6, 0]),
  (.aload_n 0, 0, 0, []),
  (.iconst 0, 0, 0, []),
  (.putfield 41, 8, 0, [6, 0]),
  (.aload_n 0, 0, 0, []),
  (.iconst 0, 0, 0, []),
  (.putfield 44, 9, 0, [6, 0]),
  (.return_, 0, 0, [])]
def p67 : List Nat := [0, 1, 4, 7, 8, 11, 14, 15, 18, 21, 22, 25, 28, 29, 30, 33, 34, 35, 38, 39, 40, 43, 44, 45, 48, 49, 50, 53, 54, 55, 58]
set_option maxRecDepth 100000 in
theorem ok67 : chk 67 p67 e67 = true := by decide +kernel
/-- PoloSeason$Tournament.isOpen()Z -/
def e68 : List En := [
  (.aload_n 0, 0, 0, []),
  (.getfield 27, 4, 0, [6, 1]),
  (.ireturn, 1, 0, [])]
def p68 : List Nat := [0, 1, 4]
set_option maxRecDepth 100000 in
theorem ok68 : chk 68 p68 e68 = true := by decide +kernel
/-- PoloSeason$Tournament.isDrawn()Z -/
def e69 : List En := [
  (.aload_n 0, 0, 0, []),
  (.getfield 31, 5, 0, [6, 1]),
  (.ireturn, 1, 0, [])]
def p69 : List Nat := [0, 1, 4]
set_option maxRecDepth 100000 in
theorem ok69 : chk 69 p69 e69 = true := by decide +kernel
/-- PoloSeason$Tournament.limit()I -/
def e70 : List En := [
  (.aload_n 0, 0, 0, []),
  (.getfield 34, 6, 0, [6, 0]),
  (.ireturn, 0, 0, [])]
def p70 : List Nat := [0, 1, 4]
set_option maxRecDepth 100000 in
theorem ok70 : chk 70 p70 e70 = true := by decide +kernel
/-- PoloSeason$Tournament.chukkas()I -/
def e71 : List En := [
  (.aload_n 0, 0, 0, []),
  (.getfield 38, 7, 0, [6, 0]),
  (.ireturn, 0, 0, [])]
def p71 : List Nat := [0, 1, 4]
set_option maxRecDepth 100000 in
theorem ok71 : chk 71 p71 e71 = true := by decide +kernel
/-- PoloSeason$Tournament.teams()I -/
def e72 : List En := [
  (.aload_n 0, 0, 0, []),
  (.getfield 12, 0, 0, [6, 0]),
  (.invokevirtual 50, 45, 0, [1, 0]),
  (.ireturn, 0, 0, [])]
def p72 : List Nat := [0, 1, 4, 7]
set_option maxRecDepth 100000 in
theorem ok72 : chk 72 p72 e72 = true := by decide +kernel
/-- PoloSeason$Tournament.matchesPlayed()I -/
def e73 : List En := [
  (.aload_n 0, 0, 0, []),
  (.getfield 41, 8, 0, [6, 0]),
  (.ireturn, 0, 0, [])]
def p73 : List Nat := [0, 1, 4]
set_option maxRecDepth 100000 in
theorem ok73 : chk 73 p73 e73 = true := by decide +kernel
/-- PoloSeason$Tournament.roundsBegun()I -/
def e74 : List En := [
  (.aload_n 0, 0, 0, []),
  (.getfield 44, 9, 0, [6, 0]),
  (.ireturn, 0, 0, [])]
def p74 : List Nat := [0, 1, 4]
set_option maxRecDepth 100000 in
theorem ok74 : chk 74 p74 e74 = true := by decide +kernel
/-- PoloSeason$Tournament.holds(I)Z -/
def e75 : List En := [
  (.aload_n 0, 0, 0, []),
  (.getfield 12, 0, 0, [6, 0]),
  (.iload_n 1, 1, 0, []),
  (.invokevirtual 54, 49, 0, [2, 0]),
  (.ireturn, 1, 0, [])]
def p75 : List Nat := [0, 1, 4, 5, 8]
set_option maxRecDepth 100000 in
theorem ok75 : chk 75 p75 e75 = true := by decide +kernel
/-- PoloSeason$Tournament.admit(I)I -/
def e76 : List En := [
  (.aload_n 0, 0, 0, []),
  (.getfield 12, 0, 0, [6, 0]),
  (.iload_n 1, 1, 0, []),
  (.invokevirtual 58, 47, 0, [2, 0]),
  (.aload_n 0, 0, 0, []),
  (.getfield 12, 0, 0, [6, 0]),
  (.invokevirtual 50, 45, 0, [1, 0]),
  (.ireturn, 0, 0, [])]
def p76 : List Nat := [0, 1, 4, 5, 8, 9, 12, 15]
set_option maxRecDepth 100000 in
theorem ok76 : chk 76 p76 e76 = true := by decide +kernel
/-- PoloSeason$Tournament.shuffle(LPoloSeason$Noise;)V -/
def e77 : List En := [
  (.iconst 0, 0, 0, []),
  (.istore_n 2, 2, 0, []),
  (.iload_n 2, 2, 0, []),
  (.aload_n 0, 0, 0, []),
  (.getfield 12, 0, 0, [6, 0]),
  (.invokevirtual 50, 45, 0, [1, 0]),
  (.if_icmp .ge 24, 0, 0, [16]),
  (.aload_n 0, 0, 0, []),
  (.getfield 18, 1, 0, [6, 0]),
  (.aload_n 0, 0, 0, []),
  (.getfield 12, 0, 0, [6, 0]),
  (.iload_n 2, 2, 0, []),
  (.invokevirtual 62, 48, 0, [2, 0]),
  (.invokevirtual 58, 47, 0, [2, 0]),
  (.iinc 2 1, 2, 1, []),
  (.goto (-29), 0, 0, [2]),
  (.iconst 0, 0, 0, []),
  (.istore_n 2, 2, 0, []),
  (.aload_n 0, 0, 0, []),
  (.getfield 18, 1, 0, [6, 0]),
  (.invokevirtual 50, 45, 0, [1, 0]),
  (.iconst 1, 0, 1, []),
  (.isub, 0, 0, []),
  (.istore_n 3, 3, 0, []),
  (.iload_n 3, 3, 0, []),
  (.iconst 1, 0, 1, []),
  (.if_icmp .lt 28, 0, 0, [40]),
  (.aload_n 0, 0, 0, []),
  (.getfield 18, 1, 0, [6, 0]),
  (.iload_n 3, 3, 0, []),
  (.aload_n 1, 1, 0, []),
  (.iload_n 2, 2, 0, []),
  (.iload_n 3, 3, 0, []),
  (.iconst 1, 0, 1, []),
  (.iadd, 0, 0, []),
  (.invokevirtual 66, 20, 0, [3, 0]),
  (.invokevirtual 72, 50, 0, [3, 0]),
  (.iinc 2 1, 2, 1, []),
  (.iinc 3 (-1), 3, (-1), []),
  (.goto (-27), 0, 0, [24]),
  (.aload_n 0, 0, 0, []),
  (.iconst 1, 0, 1, []),
  (.putfield 31, 5, 0, [6, 1]),
  (.aload_n 0, 0, 0, []),
  (.iconst 1, 0, 1, []),
  (.putfield 44, 9, 0, [6, 0]),
  (.return_, 0, 0, [])]
def p77 : List Nat := [0, 1, 2, 3, 4, 7, 10, 13, 14, 17, 18, 21, 22, 25, 28, 31, 34, 35, 36, 37, 40, 43, 44, 45, 46, 47, 48, 51, 52, 55, 56, 57, 58, 59, 60, 61, 64, 67, 70, 73, 76, 77, 78, 81, 82, 83, 86]
set_option maxRecDepth 100000 in
theorem ok77 : chk 77 p77 e77 = true := by decide +kernel
/-- PoloSeason$Tournament.sideOfNext(I)I -/
def e78 : List En := [
  (.aload_n 0, 0, 0, []),
  (.getfield 24, 3, 0, [6, 0]),
  (.invokevirtual 50, 45, 0, [1, 0]),
  (.istore_n 2, 2, 0, []),
  (.aload_n 0, 0, 0, []),
  (.getfield 18, 1, 0, [6, 0]),
  (.invokevirtual 50, 45, 0, [1, 0]),
  (.iconst 1, 0, 1, []),
  (.if_icmp .ne 46, 0, 0, [30]),
  (.aload_n 0, 0, 0, []),
  (.getfield 21, 2, 0, [6, 0]),
  (.invokevirtual 50, 45, 0, [1, 0]),
  (.iconst 1, 0, 1, []),
  (.if_icmp .ne 35, 0, 0, [30]),
  (.iload_n 2, 2, 0, []),
  (.ifCond .le 7, 0, 0, [18]),
  (.iconst (-1), 0, (-1), []),
  (.goto 26, 0, 0, [29]),
  (.iload_n 1, 1, 0, []),
  (.ifCond .ne 14, 0, 0, [25]),
  (.aload_n 0, 0, 0, []),
  (.getfield 18, 1, 0, [6, 0]),
  (.iconst 0, 0, 0, []),
  (.invokevirtual 62, 48, 0, [2, 0]),
  (.goto 11, 0, 0, [29]),
  (.aload_n 0, 0, 0, []),
  (.getfield 21, 2, 0, [6, 0]),
  (.iconst 0, 0, 0, []),
  (.invokevirtual 62, 48, 0, [2, 0]),
  (.ireturn, 0, 0, []),
  (.aload_n 0, 0, 0, []),
  (.getfield 18, 1, 0, [6, 0]),
  (.invokevirtual 50, 45, 0, [1, 0]),
  (.iconst 2, 0, 2, []),
  (.idiv, 0, 0, []),
  (.istore_n 3, 3, 0, []),
  (.iload_n 2, 2, 0, []),
  (.iload_n 3, 3, 0, []),
  (.if_icmp .ge 16, 0, 0, [48]),
  (.aload_n 0, 0, 0, []),
  (.getfield 18, 1, 0, [6, 0]),
  (.iconst 2, 0, 2, []),
  (.iload_n 2, 2, 0, []),
  (.imul, 0, 0, []),
  (.iload_n 1, 1, 0, []),
  (.iadd, 0, 0, []),
  (.invokevirtual 62, 48, 0, [2, 0]),
  (.ireturn, 0, 0, []),
  (.iload_n 2, 2, 0, []),
  (.iload_n 3, 3, 0, []),
  (.isub, 0, 0, []),
  (.istore 4, 4, 0, []),
  (.iload 4, 4, 0, []),
  (.aload_n 0, 0, 0, []),
  (.getfield 21, 2, 0, [6, 0]),
  (.invokevirtual 50, 45, 0, [1, 0]),
  (.iconst 2, 0, 2, []),
  (.idiv, 0, 0, []),
  (.if_icmp .ge 19, 0, 0, [68]),
  (.aload_n 0, 0, 0, []),
  (.getfield 21, 2, 0, [6, 0]),
  (.iconst 2, 0, 2, []),
  (.iload 4, 4, 0, []),
  (.imul, 0, 0, []),
  (.iload_n 1, 1, 0, []),
  (.iadd, 0, 0, []),
  (.invokevirtual 62, 48, 0, [2, 0]),
  (.goto 4, 0, 0, [69]),
  (.iconst (-1), 0, (-1), []),
  (.ireturn, 0, 0, [])]
def p78 : List Nat := [0, 1, 4, 7, 8, 9, 12, 15, 16, 19, 20, 23, 26, 27, 30, 31, 34, 35, 38, 39, 42, 43, 46, 47, 50, 53, 54, 57, 58, 61, 62, 63, 66, 69, 70, 71, 72, 73, 74, 77, 78, 81, 82, 83, 84, 85, 86, 89, 90, 91, 92, 93, 95, 97, 98, 101, 104, 105, 106, 109, 110, 113, 114, 116, 117, 118, 119, 122, 125, 126]
set_option maxRecDepth 100000 in
theorem ok78 : chk 78 p78 e78 = true := by decide +kernel
/-- PoloSeason$Tournament.endMatch(I)V -/
def e79 : List En := [
  (.aload_n 0, 0, 0, []),
  (.getfield 24, 3, 0, [6, 0]),
  (.iload_n 1, 1, 0, []),
  (.invokevirtual 58, 47, 0, [2, 0]),
  (.aload_n 0, 0, 0, []),
  (.dup, 0, 0, []),
  (.getfield 41, 8, 0, [6, 0]),
  (.iconst 1, 0, 1, []),
  (.iadd, 0, 0, []),
  (.putfield 41, 8, 0, [6, 0]),
  (.aload_n 0, 0, 0, []),
  (.iconst 0, 0, 0, []),
  (.invokevirtual 76, 78, 0, [2, 0]),
  (.iconst (-1), 0, (-1), []),
  (.if_icmp .ne 7, 0, 0, [17]),
  (.aload_n 0, 0, 0, []),
  (.invokevirtual 79, 80, 0, [1, 0]),
  (.return_, 0, 0, [])]
def p79 : List Nat := [0, 1, 4, 5, 8, 9, 10, 13, 14, 15, 18, 19, 20, 23, 24, 27, 28, 31]
set_option maxRecDepth 100000 in
theorem ok79 : chk 79 p79 e79 = true := by decide +kernel
/-- PoloSeason$Tournament.endRound()V -/
def e80 : List En := [
  (.aload_n 0, 0, 0, []),
  (.getfield 21, 2, 0, [6, 0]),
  (.aload_n 0, 0, 0, []),
  (.getfield 24, 3, 0, [6, 0]),
  (.invokevirtual 82, 51, 0, [2, 0]),
  (.iconst 0, 0, 0, []),
  (.istore_n 1, 1, 0, []),
  (.iload_n 1, 1, 0, []),
  (.aload_n 0, 0, 0, []),
  (.getfield 24, 3, 0, [6, 0]),
  (.invokevirtual 50, 45, 0, [1, 0]),
  (.if_icmp .ge 42, 0, 0, [29]),
  (.aload_n 0, 0, 0, []),
  (.getfield 18, 1, 0, [6, 0]),
  (.aload_n 0, 0, 0, []),
  (.getfield 24, 3, 0, [6, 0]),
  (.iload_n 1, 1, 0, []),
  (.invokevirtual 62, 48, 0, [2, 0]),
  (.invokevirtual 54, 49, 0, [2, 0]),
  (.ifCond .eq 18, 0, 0, [27]),
  (.aload_n 0, 0, 0, []),
  (.getfield 21, 2, 0, [6, 0]),
  (.aload_n 0, 0, 0, []),
  (.getfield 24, 3, 0, [6, 0]),
  (.iload_n 1, 1, 0, []),
  (.invokevirtual 62, 48, 0, [2, 0]),
  (.invokevirtual 58, 47, 0, [2, 0]),
  (.iinc 1 1, 1, 1, []),
  (.goto (-47), 0, 0, [7]),
  (.aload_n 0, 0, 0, []),
  (.getfield 18, 1, 0, [6, 0]),
  (.aload_n 0, 0, 0, []),
  (.getfield 24, 3, 0, [6, 0]),
  (.invokevirtual 82, 51, 0, [2, 0]),
  (.aload_n 0, 0, 0, []),
  (.getfield 24, 3, 0, [6, 0]),
  (.invokevirtual 47, 46, 0, [1, 0]),
  (.aload_n 0, 0, 0, []),
  (.invokevirtual 86, 81, 0, [1, 0]),
  (.ifCond .ne 13, 0, 0, [46]),
  (.aload_n 0, 0, 0, []),
  (.dup, 0, 0, []),
  (.getfield 44, 9, 0, [6, 0]),
  (.iconst 1, 0, 1, []),
  (.iadd, 0, 0, []),
  (.putfield 44, 9, 0, [6, 0]),
  (.return_, 0, 0, [])]
def p80 : List Nat := [0, 1, 4, 5, 8, 11, 12, 13, 14, 15, 18, 21, 24, 25, 28, 29, 32, 33, 36, 39, 42, 43, 46, 47, 50, 51, 54, 57, 60, 63, 64, 67, 68, 71, 74, 75, 78, 81, 82, 85, 88, 89, 90, 93, 94, 95, 98]
set_option maxRecDepth 100000 in
theorem ok80 : chk 80 p80 e80 = true := by decide +kernel
/-- PoloSeason$Tournament.isWon()Z -/
def e81 : List En := [
  (.aload_n 0, 0, 0, []),
  (.getfield 31, 5, 0, [6, 1]),
  (.ifCond .eq 26, 0, 0, [14]),
  (.aload_n 0, 0, 0, []),
  (.getfield 18, 1, 0, [6, 0]),
  (.invokevirtual 50, 45, 0, [1, 0]),
  (.aload_n 0, 0, 0, []),
  (.getfield 21, 2, 0, [6, 0]),
  (.invokevirtual 50, 45, 0, [1, 0]),
  (.iadd, 0, 0, []),
  (.iconst 1, 0, 1, []),
  (.if_icmp .ne 7, 0, 0, [14]),
  (.iconst 1, 0, 1, []),
  (.goto 4, 0, 0, [15]),
  (.iconst 0, 0, 0, []),
  (.ireturn, 1, 0, [])]
def p81 : List Nat := [0, 1, 4, 7, 8, 11, 14, 15, 18, 21, 22, 23, 26, 27, 30, 31]
set_option maxRecDepth 100000 in
theorem ok81 : chk 81 p81 e81 = true := by decide +kernel
/-- PoloSeason$Tournament.placeOf(I)I -/
def e82 : List En := [
  (.aload_n 0, 0, 0, []),
  (.getfield 31, 5, 0, [6, 1]),
  (.ifCond .eq 14, 0, 0, [8]),
  (.aload_n 0, 0, 0, []),
  (.getfield 12, 0, 0, [6, 0]),
  (.iload_n 1, 1, 0, []),
  (.invokevirtual 54, 49, 0, [2, 0]),
  (.ifCond .ne 5, 0, 0, [10]),
  (.iconst 0, 0, 0, []),
  (.ireturn, 0, 0, []),
  (.aload_n 0, 0, 0, []),
  (.getfield 18, 1, 0, [6, 0]),
  (.iload_n 1, 1, 0, []),
  (.invokevirtual 54, 49, 0, [2, 0]),
  (.istore_n 2, 2, 0, []),
  (.iload_n 2, 2, 0, []),
  (.ifCond .ne 16, 0, 0, [24]),
  (.aload_n 0, 0, 0, []),
  (.getfield 21, 2, 0, [6, 0]),
  (.iload_n 1, 1, 0, []),
  (.invokevirtual 54, 49, 0, [2, 0]),
  (.ifCond .ne 5, 0, 0, [24]),
  (.iconst 3, 0, 3, []),
  (.ireturn, 0, 0, []),
  (.aload_n 0, 0, 0, []),
  (.invokevirtual 86, 81, 0, [1, 0]),
  (.ifCond .eq 5, 0, 0, [29]),
  (.iconst 4, 0, 4, []),
  (.ireturn, 0, 0, []),
  (.iload_n 2, 2, 0, []),
  (.ifCond .eq 7, 0, 0, [33]),
  (.iconst 1, 0, 1, []),
  (.goto 4, 0, 0, [34]),
  (.iconst 2, 0, 2, []),
  (.ireturn, 0, 0, [])]
def p82 : List Nat := [0, 1, 4, 7, 8, 11, 12, 15, 18, 19, 20, 21, 24, 25, 28, 29, 30, 33, 34, 37, 38, 41, 44, 45, 46, 47, 50, 53, 54, 55, 56, 59, 60, 63, 64]
set_option maxRecDepth 100000 in
theorem ok82 : chk 82 p82 e82 = true := by decide +kernel
/-- PoloSeason$Tournament.inRow(II)I -/
def e83 : List En := [
  (.iload_n 1, 1, 0, []),
  (.ifCond .ne 12, 0, 0, [7]),
  (.aload_n 0, 0, 0, []),
  (.getfield 18, 1, 0, [6, 0]),
  (.iload_n 2, 2, 0, []),
  (.invokevirtual 62, 48, 0, [2, 0]),
  (.ireturn, 0, 0, []),
  (.iload_n 1, 1, 0, []),
  (.iconst 1, 0, 1, []),
  (.if_icmp .ne 14, 0, 0, [15]),
  (.aload_n 0, 0, 0, []),
  (.getfield 21, 2, 0, [6, 0]),
  (.iload_n 2, 2, 0, []),
  (.invokevirtual 62, 48, 0, [2, 0]),
  (.goto 4, 0, 0, [16]),
  (.iconst (-1), 0, (-1), []),
  (.ireturn, 0, 0, [])]
def p83 : List Nat := [0, 1, 4, 5, 8, 9, 12, 13, 14, 15, 18, 19, 22, 23, 26, 29, 30]
set_option maxRecDepth 100000 in
theorem ok83 : chk 83 p83 e83 = true := by decide +kernel
/-- PoloSeason.player(I)I -/
def e85 : List En := [
  (.iload_n 1, 1, 0, []),
  (.invokestatic 55, 110, 0, [1, 0]),
  (.aload_n 0, 0, 0, []),
  (.getfield 10, 0, 0, [7, 0]),
  (.invokevirtual 59, 35, 0, [1, 0]),
  (.ifCond .eq 13, 0, 0, [11]),
  (.new 63, 0, 0, []),
  (.nop, 0, 0, []),
  (.nop, 0, 0, []),
  (.nop, 0, 0, []),
  (.nop, 0, 0, []),
  (.aload_n 0, 0, 0, []),
  (.getfield 10, 0, 0, [7, 0]),
  (.iload_n 1, 1, 0, []),
  (.invokevirtual 70, 37, 0, [2, 0]),
  (.ireturn, 0, 0, [])]
def p85 : List Nat := [0, 1, 4, 5, 8, 11, 14, 17, 18, 20, 23, 24, 25, 28, 29, 32]
set_option maxRecDepth 100000 in
theorem ok85 : chk 85 p85 e85 = true := by decide +kernel
/-- PoloSeason.rate(II)I -/
def e86 : List En := [
  (.aload_n 0, 0, 0, []),
  (.iload_n 1, 1, 0, []),
  (.invokevirtual 74, 113, 0, [2, 0]),
  (.iload_n 2, 2, 0, []),
  (.invokestatic 55, 110, 0, [1, 0]),
  (.aload_n 0, 0, 0, []),
  (.getfield 10, 0, 0, [7, 0]),
  (.iload_n 1, 1, 0, []),
  (.iload_n 2, 2, 0, []),
  (.invokevirtual 77, 38, 0, [3, 0]),
  (.ireturn, 0, 0, [])]
def p86 : List Nat := [0, 1, 2, 5, 6, 9, 10, 13, 14, 15, 18]
set_option maxRecDepth 100000 in
theorem ok86 : chk 86 p86 e86 = true := by decide +kernel
/-- PoloSeason.team(IIII)I -/
def e87 : List En := [
  (.aload_n 0, 0, 0, []),
  (.iload_n 1, 1, 0, []),
  (.invokevirtual 74, 113, 0, [2, 0]),
  (.aload_n 0, 0, 0, []),
  (.iload_n 2, 2, 0, []),
  (.invokevirtual 74, 113, 0, [2, 0]),
  (.aload_n 0, 0, 0, []),
  (.iload_n 3, 3, 0, []),
  (.invokevirtual 74, 113, 0, [2, 0]),
  (.aload_n 0, 0, 0, []),
  (.iload 4, 4, 0, []),
  (.invokevirtual 74, 113, 0, [2, 0]),
  (.aload_n 0, 0, 0, []),
  (.getfield 10, 0, 0, [7, 0]),
  (.invokevirtual 81, 36, 0, [1, 0]),
  (.ifCond .eq 13, 0, 0, [21]),
  (.new 63, 1, 0, []),
  (.nop, 0, 0, []),
  (.nop, 0, 0, []),
  (.nop, 0, 0, []),
  (.nop, 0, 0, []),
  (.iload_n 1, 1, 0, []),
  (.iload_n 2, 2, 0, []),
  (.if_icmp .eq 31, 0, 0, [39]),
  (.iload_n 1, 1, 0, []),
  (.iload_n 3, 3, 0, []),
  (.if_icmp .eq 26, 0, 0, [39]),
  (.iload_n 1, 1, 0, []),
  (.iload 4, 4, 0, []),
  (.if_icmp .eq 20, 0, 0, [39]),
  (.iload_n 2, 2, 0, []),
  (.iload_n 3, 3, 0, []),
  (.if_icmp .eq 15, 0, 0, [39]),
  (.iload_n 2, 2, 0, []),
  (.iload 4, 4, 0, []),
  (.if_icmp .eq 9, 0, 0, [39]),
  (.iload_n 3, 3, 0, []),
  (.iload 4, 4, 0, []),
  (.if_icmp .ne 7, 0, 0, [41]),
  (.iconst 1, 0, 1, []),
  (.goto 4, 0, 0, [42]),
  (.iconst 0, 0, 0, []),
  (.istore 5, 5, 0, []),
  (.iload 5, 5, 0, []),
  (.ifCond .ne 48, 0, 0, [65]),
  (.aload_n 0, 0, 0, []),
  (.getfield 10, 0, 0, [7, 0]),
  (.iload_n 1, 1, 0, []),
  (.invokevirtual 86, 39, 0, [2, 0]),
  (.ifCond .ne 37, 0, 0, [65]),
  (.aload_n 0, 0, 0, []),
  (.getfield 10, 0, 0, [7, 0]),
  (.iload_n 2, 2, 0, []),
  (.invokevirtual 86, 39, 0, [2, 0]),
  (.ifCond .ne 26, 0, 0, [65]),
  (.aload_n 0, 0, 0, []),
  (.getfield 10, 0, 0, [7, 0]),
  (.iload_n 3, 3, 0, []),
  (.invokevirtual 86, 39, 0, [2, 0]),
  (.ifCond .ne 15, 0, 0, [65]),
  (.aload_n 0, 0, 0, []),
  (.getfield 10, 0, 0, [7, 0]),
  (.iload 4, 4, 0, []),
  (.invokevirtual 86, 39, 0, [2, 0]),
  (.ifCond .eq 5, 0, 0, [67]),
  (.iconst (-1), 0, (-1), []),
  (.ireturn, 0, 0, []),
  (.aload_n 0, 0, 0, []),
  (.getfield 10, 0, 0, [7, 0]),
  (.iload_n 1, 1, 0, []),
  (.iload_n 2, 2, 0, []),
  (.iload_n 3, 3, 0, []),
  (.iload 4, 4, 0, []),
  (.invokevirtual 90, 40, 0, [5, 0]),
  (.ireturn, 0, 0, [])]
def p87 : List Nat := [0, 1, 2, 5, 6, 7, 10, 11, 12, 15, 16, 18, 21, 22, 25, 28, 31, 34, 35, 37, 40, 41, 42, 43, 46, 47, 48, 51, 52, 54, 57, 58, 59, 62, 63, 65, 68, 69, 71, 74, 75, 78, 79, 81, 83, 86, 87, 90, 91, 94, 97, 98, 101, 102, 105, 108, 109, 112, 113, 116, 119, 120, 123, 125, 128, 131, 132, 133, 134, 137, 138, 139, 140, 142, 145]
set_option maxRecDepth 100000 in
theorem ok87 : chk 87 p87 e87 = true := by decide +kernel
/-- PoloSeason.strength(I)I -/
def e88 : List En := [
  (.aload_n 0, 0, 0, []),
  (.iload_n 1, 1, 0, []),
  (.invokevirtual 94, 114, 0, [2, 0]),
  (.aload_n 0, 0, 0, []),
  (.getfield 10, 0, 0, [7, 0]),
  (.iload_n 1, 1, 0, []),
  (.invokevirtual 97, 43, 0, [2, 0]),
  (.ireturn, 0, 0, [])]
def p88 : List Nat := [0, 1, 2, 5, 6, 9, 10, 13]
set_option maxRecDepth 100000 in
theorem ok88 : chk 88 p88 e88 = true := by decide +kernel
/-- PoloSeason.cup(II)V -/
def e89 : List En := [
  (.iload_n 1, 1, 0, []),
  (.iconst 0, 0, 0, []),
  (.bipush 40, 0, 40, []),
  (.invokestatic 100, 109, 0, [3, 0]),
  (.ifCond .eq 13, 0, 0, [10]),
  (.iload_n 2, 2, 0, []),
  (.iconst 4, 0, 4, []),
  (.bipush 6, 0, 6, []),
  (.invokestatic 100, 109, 0, [3, 0]),
  (.ifCond .ne 13, 0, 0, [15]),
  (.new 104, 2, 0, []),
  (.nop, 0, 0, []),
  (.nop, 0, 0, []),
  (.nop, 0, 0, []),
  (.nop, 0, 0, []),
  (.aload_n 0, 0, 0, []),
  (.getfield 26, 2, 0, [7, 0]),
  (.iload_n 1, 1, 0, []),
  (.iload_n 2, 2, 0, []),
  (.invokevirtual 109, 67, 0, [3, 0]),
  (.return_, 0, 0, [])]
def p89 : List Nat := [0, 1, 2, 4, 7, 10, 11, 12, 14, 17, 20, 23, 24, 26, 29, 30, 31, 34, 35, 36, 39]
set_option maxRecDepth 100000 in
theorem ok89 : chk 89 p89 e89 = true := by decide +kernel
/-- PoloSeason.enter(I)I -/
def e90 : List En := [
  (.aload_n 0, 0, 0, []),
  (.iload_n 1, 1, 0, []),
  (.invokevirtual 94, 114, 0, [2, 0]),
  (.aload_n 0, 0, 0, []),
  (.invokevirtual 113, 116, 0, [1, 0]),
  (.aload_n 0, 0, 0, []),
  (.getfield 26, 2, 0, [7, 0]),
  (.iload_n 1, 1, 0, []),
  (.invokevirtual 116, 75, 0, [2, 0]),
  (.ifCond .eq 5, 0, 0, [12]),
  (.iconst (-1), 0, (-1), []),
  (.ireturn, 0, 0, []),
  (.aload_n 0, 0, 0, []),
  (.getfield 10, 0, 0, [7, 0]),
  (.iload_n 1, 1, 0, []),
  (.invokevirtual 97, 43, 0, [2, 0]),
  (.aload_n 0, 0, 0, []),
  (.getfield 26, 2, 0, [7, 0]),
  (.invokevirtual 119, 70, 0, [1, 0]),
  (.if_icmp .le 6, 0, 0, [22]),
  (.bipush (-2), 0, (-2), []),
  (.ireturn, 0, 0, []),
  (.aload_n 0, 0, 0, []),
  (.getfield 26, 2, 0, [7, 0]),
  (.iload_n 1, 1, 0, []),
  (.invokevirtual 123, 76, 0, [2, 0]),
  (.ireturn, 0, 0, [])]
def p90 : List Nat := [0, 1, 2, 5, 6, 9, 10, 13, 14, 17, 20, 21, 22, 23, 26, 27, 30, 31, 34, 37, 40, 42, 43, 44, 47, 48, 51]
set_option maxRecDepth 100000 in
theorem ok90 : chk 90 p90 e90 = true := by decide +kernel
/-- PoloSeason.noise(I)I -/
def e91 : List En := [
  (.aload_n 0, 0, 0, []),
  (.getfield 19, 1, 0, [7, 0]),
  (.iload_n 1, 1, 0, []),
  (.invokevirtual 126, 18, 0, [2, 0]),
  (.ireturn, 0, 0, [])]
def p91 : List Nat := [0, 1, 4, 5, 8]
set_option maxRecDepth 100000 in
theorem ok91 : chk 91 p91 e91 = true := by decide +kernel
/-- PoloSeason.draw()I -/
def e92 : List En := [
  (.aload_n 0, 0, 0, []),
  (.invokevirtual 113, 116, 0, [1, 0]),
  (.aload_n 0, 0, 0, []),
  (.getfield 26, 2, 0, [7, 0]),
  (.invokevirtual 129, 72, 0, [1, 0]),
  (.istore_n 1, 1, 0, []),
  (.iload_n 1, 1, 0, []),
  (.iconst 2, 0, 2, []),
  (.if_icmp .ge 5, 0, 0, [11]),
  (.iconst (-1), 0, (-1), []),
  (.ireturn, 0, 0, []),
  (.aload_n 0, 0, 0, []),
  (.getfield 19, 1, 0, [7, 0]),
  (.invokevirtual 132, 17, 0, [1, 0]),
  (.iload_n 1, 1, 0, []),
  (.iconst 1, 0, 1, []),
  (.isub, 0, 0, []),
  (.if_icmp .ge 6, 0, 0, [20]),
  (.bipush (-2), 0, (-2), []),
  (.ireturn, 0, 0, []),
  (.aload_n 0, 0, 0, []),
  (.getfield 26, 2, 0, [7, 0]),
  (.aload_n 0, 0, 0, []),
  (.getfield 19, 1, 0, [7, 0]),
  (.invokevirtual 135, 77, 0, [2, 0]),
  (.aload_n 0, 0, 0, []),
  (.getfield 19, 1, 0, [7, 0]),
  (.invokevirtual 139, 19, 0, [1, 0]),
  (.iload_n 1, 1, 0, []),
  (.ireturn, 0, 0, [])]
def p92 : List Nat := [0, 1, 4, 5, 8, 11, 12, 13, 14, 17, 18, 19, 20, 23, 26, 27, 28, 29, 32, 34, 35, 36, 39, 40, 43, 46, 47, 50, 53, 54]
set_option maxRecDepth 100000 in
theorem ok92 : chk 92 p92 e92 = true := by decide +kernel
/-- PoloSeason.next(I)I -/
def e93 : List En := [
  (.iload_n 1, 1, 0, []),
  (.invokestatic 142, 111, 0, [1, 0]),
  (.aload_n 0, 0, 0, []),
  (.getfield 26, 2, 0, [7, 0]),
  (.iload_n 1, 1, 0, []),
  (.invokevirtual 145, 78, 0, [2, 0]),
  (.ireturn, 0, 0, [])]
def p93 : List Nat := [0, 1, 4, 5, 8, 9, 12]
set_option maxRecDepth 100000 in
theorem ok93 : chk 93 p93 e93 = true := by decide +kernel
/-- PoloSeason.given(I)I -/
def e94 : List En := [
  (.iload_n 1, 1, 0, []),
  (.invokestatic 142, 111, 0, [1, 0]),
  (.aload_n 0, 0, 0, []),
  (.getfield 26, 2, 0, [7, 0]),
  (.iload_n 1, 1, 0, []),
  (.invokevirtual 145, 78, 0, [2, 0]),
  (.istore_n 2, 2, 0, []),
  (.aload_n 0, 0, 0, []),
  (.getfield 26, 2, 0, [7, 0]),
  (.iconst 1, 0, 1, []),
  (.iload_n 1, 1, 0, []),
  (.isub, 0, 0, []),
  (.invokevirtual 145, 78, 0, [2, 0]),
  (.istore_n 3, 3, 0, []),
  (.iload_n 2, 2, 0, []),
  (.iconst (-1), 0, (-1), []),
  (.if_icmp .eq 8, 0, 0, [20]),
  (.iload_n 3, 3, 0, []),
  (.iconst (-1), 0, (-1), []),
  (.if_icmp .ne 5, 0, 0, [22]),
  (.iconst (-1), 0, (-1), []),
  (.ireturn, 0, 0, []),
  (.aload_n 0, 0, 0, []),
  (.iload_n 2, 2, 0, []),
  (.iload_n 3, 3, 0, []),
  (.invokevirtual 148, 117, 0, [3, 0]),
  (.ireturn, 0, 0, [])]
def p94 : List Nat := [0, 1, 4, 5, 8, 9, 12, 13, 14, 17, 18, 19, 20, 23, 24, 25, 26, 29, 30, 31, 34, 35, 36, 37, 38, 39, 42]
set_option maxRecDepth 100000 in
theorem ok94 : chk 94 p94 e94 = true := by decide +kernel
/-- PoloSeason.play(II)I -/
def e95 : List En := [
  (.iload_n 1, 1, 0, []),
  (.iconst 0, 0, 0, []),
  (.bipush 50, 0, 50, []),
  (.invokestatic 100, 109, 0, [3, 0]),
  (.ifCond .eq 13, 0, 0, [10]),
  (.iload_n 2, 2, 0, []),
  (.iconst 0, 0, 0, []),
  (.bipush 50, 0, 50, []),
  (.invokestatic 100, 109, 0, [3, 0]),
  (.ifCond .ne 13, 0, 0, [15]),
  (.new 104, 3, 0, []),
  (.nop, 0, 0, []),
  (.nop, 0, 0, []),
  (.nop, 0, 0, []),
  (.nop, 0, 0, []),
  (.aload_n 0, 0, 0, []),
  (.getfield 26, 2, 0, [7, 0]),
  (.iconst 0, 0, 0, []),
  (.invokevirtual 145, 78, 0, [2, 0]),
  (.istore_n 3, 3, 0, []),
  (.aload_n 0, 0, 0, []),
  (.getfield 26, 2, 0, [7, 0]),
  (.iconst 1, 0, 1, []),
  (.invokevirtual 145, 78, 0, [2, 0]),
  (.istore 4, 4, 0, []),
  (.iload_n 3, 3, 0, []),
  (.iconst (-1), 0, (-1), []),
  (.if_icmp .eq 9, 0, 0, [31]),
  (.iload 4, 4, 0, []),
  (.iconst (-1), 0, (-1), []),
  (.if_icmp .ne 13, 0, 0, [36]),
  (.new 63, 4, 0, []),
  (.nop, 0, 0, []),
  (.nop, 0, 0, []),
  (.nop, 0, 0, []),
  (.nop, 0, 0, []),
  (.iconst 2, 0, 2, []),
  (.iload_n 1, 1, 0, []),
  (.imul, 0, 0, []),
  (.aload_n 0, 0, 0, []),
  (.iload_n 3, 3, 0, []),
  (.iload 4, 4, 0, []),
  (.invokevirtual 148, 117, 0, [3, 0]),
  (.iadd, 0, 0, []),
  (.istore 5, 5, 0, []),
  (.iconst 2, 0, 2, []),
  (.iload_n 2, 2, 0, []),
  (.imul, 0, 0, []),
  (.aload_n 0, 0, 0, []),
  (.iload 4, 4, 0, []),
  (.iload_n 3, 3, 0, []),
  (.invokevirtual 148, 117, 0, [3, 0]),
  (.iadd, 0, 0, []),
  (.istore 6, 6, 0, []),
  (.iload 5, 5, 0, []),
  (.iload 6, 6, 0, []),
  (.if_icmp .ne 5, 0, 0, [59]),
  (.iconst (-1), 0, (-1), []),
  (.ireturn, 0, 0, []),
  (.aload_n 0, 0, 0, []),
  (.iload_n 3, 3, 0, []),
  (.invokevirtual 155, 118, 0, [2, 0]),
  (.aload_n 0, 0, 0, []),
  (.iload 4, 4, 0, []),
  (.invokevirtual 155, 118, 0, [2, 0]),
  (.iload 5, 5, 0, []),
  (.iload 6, 6, 0, []),
  (.if_icmp .le 7, 0, 0, [70]),
  (.iconst 1, 0, 1, []),
  (.goto 4, 0, 0, [71]),
  (.iconst 0, 0, 0, []),
  (.istore 7, 7, 0, []),
  (.aload_n 0, 0, 0, []),
  (.getfield 26, 2, 0, [7, 0]),
  (.iload 7, 7, 0, []),
  (.ifCond .eq 8, 0, 0, [78]),
  (.iload 4, 4, 0, []),
  (.goto 4, 0, 0, [79]),
  (.iload_n 3, 3, 0, []),
  (.invokevirtual 158, 79, 0, [2, 0]),
  (.iload 7, 7, 0, []),
  (.ifCond .eq 7, 0, 0, [84]),
  (.iload_n 3, 3, 0, []),
  (.goto 5, 0, 0, [85]),
  (.iload 4, 4, 0, []),
  (.ireturn, 0, 0, [])]
def p95 : List Nat := [0, 1, 2, 4, 7, 10, 11, 12, 14, 17, 20, 23, 24, 26, 29, 30, 31, 34, 35, 38, 39, 40, 43, 44, 47, 49, 50, 51, 54, 56, 57, 60, 63, 64, 66, 69, 70, 71, 72, 73, 74, 75, 77, 80, 81, 83, 84, 85, 86, 87, 89, 90, 93, 94, 96, 98, 100, 103, 104, 105, 106, 107, 110, 111, 113, 116, 118, 120, 123, 124, 127, 128, 130, 131, 134, 136, 139, 141, 144, 145, 148, 150, 153, 154, 157, 159]
set_option maxRecDepth 100000 in
theorem ok95 : chk 95 p95 e95 = true := by decide +kernel
/-- PoloSeason.where(I)I -/
def e96 : List En := [
  (.aload_n 0, 0, 0, []),
  (.iload_n 1, 1, 0, []),
  (.invokevirtual 94, 114, 0, [2, 0]),
  (.aload_n 0, 0, 0, []),
  (.getfield 26, 2, 0, [7, 0]),
  (.iload_n 1, 1, 0, []),
  (.invokevirtual 161, 82, 0, [2, 0]),
  (.ireturn, 0, 0, [])]
def p96 : List Nat := [0, 1, 2, 5, 6, 9, 10, 13]
set_option maxRecDepth 100000 in
theorem ok96 : chk 96 p96 e96 = true := by decide +kernel
/-- PoloSeason.row(II)I -/
def e97 : List En := [
  (.iload_n 1, 1, 0, []),
  (.invokestatic 142, 111, 0, [1, 0]),
  (.aload_n 0, 0, 0, []),
  (.getfield 26, 2, 0, [7, 0]),
  (.iload_n 1, 1, 0, []),
  (.iload_n 2, 2, 0, []),
  (.invokevirtual 164, 83, 0, [3, 0]),
  (.ireturn, 0, 0, [])]
def p97 : List Nat := [0, 1, 4, 5, 8, 9, 10, 13]
set_option maxRecDepth 100000 in
theorem ok97 : chk 97 p97 e97 = true := by decide +kernel
/-- PoloSeason.pony(I)I -/
def e98 : List En := [
  (.aload_n 0, 0, 0, []),
  (.iload_n 1, 1, 0, []),
  (.invokevirtual 74, 113, 0, [2, 0]),
  (.aload_n 0, 0, 0, []),
  (.getfield 33, 3, 0, [7, 0]),
  (.invokevirtual 167, 55, 0, [1, 0]),
  (.ifCond .ne 16, 0, 0, [13]),
  (.aload_n 0, 0, 0, []),
  (.getfield 33, 3, 0, [7, 0]),
  (.iload_n 1, 1, 0, []),
  (.invokevirtual 170, 56, 0, [2, 0]),
  (.bipush 8, 0, 8, []),
  (.if_icmp .lt 13, 0, 0, [18]),
  (.new 63, 5, 0, []),
  (.nop, 0, 0, []),
  (.nop, 0, 0, []),
  (.nop, 0, 0, []),
  (.nop, 0, 0, []),
  (.aload_n 0, 0, 0, []),
  (.getfield 33, 3, 0, [7, 0]),
  (.iload_n 1, 1, 0, []),
  (.invokevirtual 175, 57, 0, [2, 0]),
  (.ireturn, 0, 0, [])]
def p98 : List Nat := [0, 1, 2, 5, 6, 9, 12, 15, 16, 19, 20, 23, 25, 28, 31, 32, 34, 37, 38, 39, 42, 43, 46]
set_option maxRecDepth 100000 in
theorem ok98 : chk 98 p98 e98 = true := by decide +kernel
/-- PoloSeason.lame(II)Z -/
def e99 : List En := [
  (.aload_n 0, 0, 0, []),
  (.iload_n 1, 1, 0, []),
  (.invokevirtual 178, 115, 0, [2, 0]),
  (.iload_n 2, 2, 0, []),
  (.iconst 0, 0, 0, []),
  (.ldc 181, 842, 100000, []),
  (.invokestatic 100, 109, 0, [3, 0]),
  (.ifCond .ne 13, 0, 0, [13]),
  (.new 104, 6, 0, []),
  (.nop, 0, 0, []),
  (.nop, 0, 0, []),
  (.nop, 0, 0, []),
  (.nop, 0, 0, []),
  (.aload_n 0, 0, 0, []),
  (.getfield 33, 3, 0, [7, 0]),
  (.iload_n 1, 1, 0, []),
  (.iload_n 2, 2, 0, []),
  (.invokevirtual 184, 58, 0, [3, 0]),
  (.ireturn, 1, 0, [])]
def p99 : List Nat := [0, 1, 2, 5, 6, 7, 9, 12, 15, 18, 19, 21, 24, 25, 26, 29, 30, 31, 34]
set_option maxRecDepth 100000 in
theorem ok99 : chk 99 p99 e99 = true := by decide +kernel
/-- PoloSeason.told(II)I -/
def e100 : List En := [
  (.aload_n 0, 0, 0, []),
  (.iload_n 1, 1, 0, []),
  (.invokevirtual 178, 115, 0, [2, 0]),
  (.iload_n 2, 2, 0, []),
  (.tableswitch 53 0 2 #[26, 35, 44], 0, 0, [20, 5, 10, 15]),
  (.aload_n 0, 0, 0, []),
  (.getfield 33, 3, 0, [7, 0]),
  (.iload_n 1, 1, 0, []),
  (.invokevirtual 188, 60, 0, [2, 0]),
  (.ireturn, 0, 0, []),
  (.aload_n 0, 0, 0, []),
  (.getfield 33, 3, 0, [7, 0]),
  (.iload_n 1, 1, 0, []),
  (.invokevirtual 191, 61, 0, [2, 0]),
  (.ireturn, 0, 0, []),
  (.aload_n 0, 0, 0, []),
  (.getfield 33, 3, 0, [7, 0]),
  (.iload_n 1, 1, 0, []),
  (.invokevirtual 194, 62, 0, [2, 0]),
  (.ireturn, 0, 0, []),
  (.new 104, 7, 0, []),
  (.nop, 0, 0, []),
  (.nop, 0, 0, []),
  (.nop, 0, 0, []),
  (.nop, 0, 0, [])]
def p100 : List Nat := [0, 1, 2, 5, 6, 32, 33, 36, 37, 40, 41, 42, 45, 46, 49, 50, 51, 54, 55, 58, 59, 62, 63, 65, 68]
set_option maxRecDepth 100000 in
theorem ok100 : chk 100 p100 e100 = true := by decide +kernel
/-- PoloSeason.mount(III)I -/
def e101 : List En := [
  (.aload_n 0, 0, 0, []),
  (.iload_n 1, 1, 0, []),
  (.invokevirtual 74, 113, 0, [2, 0]),
  (.iload_n 2, 2, 0, []),
  (.iconst 1, 0, 1, []),
  (.bipush 6, 0, 6, []),
  (.invokestatic 100, 109, 0, [3, 0]),
  (.ifCond .eq 14, 0, 0, [15]),
  (.iload_n 3, 3, 0, []),
  (.iconst 0, 0, 0, []),
  (.iload_n 2, 2, 0, []),
  (.iconst 1, 0, 1, []),
  (.isub, 0, 0, []),
  (.invokestatic 100, 109, 0, [3, 0]),
  (.ifCond .ne 13, 0, 0, [20]),
  (.new 104, 8, 0, []),
  (.nop, 0, 0, []),
  (.nop, 0, 0, []),
  (.nop, 0, 0, []),
  (.nop, 0, 0, []),
  (.aload_n 0, 0, 0, []),
  (.getfield 40, 4, 0, [7, 0]),
  (.aload_n 0, 0, 0, []),
  (.getfield 33, 3, 0, [7, 0]),
  (.iload_n 1, 1, 0, []),
  (.iload_n 2, 2, 0, []),
  (.invokevirtual 201, 23, 0, [4, 0]),
  (.aload_n 0, 0, 0, []),
  (.getfield 40, 4, 0, [7, 0]),
  (.iload_n 3, 3, 0, []),
  (.invokevirtual 205, 22, 0, [2, 0]),
  (.ireturn, 0, 0, [])]
def p101 : List Nat := [0, 1, 2, 5, 6, 7, 9, 12, 15, 16, 17, 18, 19, 20, 23, 26, 29, 30, 32, 35, 36, 37, 40, 41, 44, 45, 46, 49, 50, 53, 54, 57]
set_option maxRecDepth 100000 in
theorem ok101 : chk 101 p101 e101 = true := by decide +kernel
/-- PoloSeason.afoot()I -/
def e102 : List En := [
  (.aload_n 0, 0, 0, []),
  (.getfield 51, 6, 0, [7, 0]),
  (.ireturn, 0, 0, [])]
def p102 : List Nat := [0, 1, 4]
set_option maxRecDepth 100000 in
theorem ok102 : chk 102 p102 e102 = true := by decide +kernel
/-- PoloSeason.rest()I -/
def e103 : List En := [
  (.aload_n 0, 0, 0, []),
  (.getfield 33, 3, 0, [7, 0]),
  (.invokevirtual 208, 54, 0, [1, 0]),
  (.ldc 181, 842, 100000, []),
  (.if_icmp .lt 13, 0, 0, [10]),
  (.new 63, 9, 0, []),
  (.nop, 0, 0, []),
  (.nop, 0, 0, []),
  (.nop, 0, 0, []),
  (.nop, 0, 0, []),
  (.aload_n 0, 0, 0, []),
  (.getfield 33, 3, 0, [7, 0]),
  (.invokevirtual 213, 65, 0, [1, 0]),
  (.ireturn, 0, 0, [])]
def p103 : List Nat := [0, 1, 4, 7, 9, 12, 15, 16, 18, 21, 22, 23, 26, 29]
set_option maxRecDepth 100000 in
theorem ok103 : chk 103 p103 e103 = true := by decide +kernel
/-- PoloSeason.ball(IIII)V -/
def e104 : List En := [
  (.iload_n 1, 1, 0, []),
  (.iload_n 2, 2, 0, []),
  (.iload_n 3, 3, 0, []),
  (.iload 4, 4, 0, []),
  (.invokestatic 216, 112, 0, [4, 0]),
  (.aload_n 0, 0, 0, []),
  (.getfield 47, 5, 0, [7, 0]),
  (.iload_n 1, 1, 0, []),
  (.iload_n 2, 2, 0, []),
  (.iload_n 3, 3, 0, []),
  (.iload 4, 4, 0, []),
  (.invokevirtual 220, 4, 0, [5, 0]),
  (.return_, 0, 0, [])]
def p104 : List Nat := [0, 1, 2, 3, 5, 8, 9, 12, 13, 14, 15, 17, 20]
set_option maxRecDepth 100000 in
theorem ok104 : chk 104 p104 e104 = true := by decide +kernel
/-- PoloSeason.rider(IIIII)I -/
def e105 : List En := [
  (.iload_n 1, 1, 0, []),
  (.invokestatic 142, 111, 0, [1, 0]),
  (.iload_n 2, 2, 0, []),
  (.iload_n 3, 3, 0, []),
  (.iload 4, 4, 0, []),
  (.iload 5, 5, 0, []),
  (.invokestatic 216, 112, 0, [4, 0]),
  (.aload_n 0, 0, 0, []),
  (.getfield 47, 5, 0, [7, 0]),
  (.invokevirtual 223, 1, 0, [1, 0]),
  (.ifCond .eq 13, 0, 0, [15]),
  (.aload_n 0, 0, 0, []),
  (.getfield 47, 5, 0, [7, 0]),
  (.invokevirtual 226, 2, 0, [1, 0]),
  (.ifCond .eq 13, 0, 0, [20]),
  (.new 63, 10, 0, []),
  (.nop, 0, 0, []),
  (.nop, 0, 0, []),
  (.nop, 0, 0, []),
  (.nop, 0, 0, []),
  (.aload_n 0, 0, 0, []),
  (.getfield 47, 5, 0, [7, 0]),
  (.iload_n 1, 1, 0, []),
  (.iload_n 2, 2, 0, []),
  (.iload_n 3, 3, 0, []),
  (.iload 4, 4, 0, []),
  (.iload 5, 5, 0, []),
  (.invokevirtual 229, 5, 0, [6, 0]),
  (.ireturn, 0, 0, [])]
def p105 : List Nat := [0, 1, 4, 5, 6, 8, 10, 13, 14, 17, 20, 23, 24, 27, 30, 33, 36, 37, 39, 42, 43, 44, 47, 48, 49, 50, 52, 54, 57]
set_option maxRecDepth 100000 in
theorem ok105 : chk 105 p105 e105 = true := by decide +kernel
/-- PoloSeason.right()I -/
def e106 : List En := [
  (.aload_n 0, 0, 0, []),
  (.getfield 47, 5, 0, [7, 0]),
  (.invokevirtual 233, 6, 0, [1, 0]),
  (.ireturn, 0, 0, [])]
def p106 : List Nat := [0, 1, 4, 7]
set_option maxRecDepth 100000 in
theorem ok106 : chk 106 p106 e106 = true := by decide +kernel
/-- PoloSeason.foul(I)I -/
def e107 : List En := [
  (.aload_n 0, 0, 0, []),
  (.getfield 47, 5, 0, [7, 0]),
  (.iload_n 1, 1, 0, []),
  (.invokevirtual 236, 11, 0, [2, 0]),
  (.ireturn, 0, 0, [])]
def p107 : List Nat := [0, 1, 4, 5, 8]
set_option maxRecDepth 100000 in
theorem ok107 : chk 107 p107 e107 = true := by decide +kernel
/-- PoloSeason.count(I)I -/
def e108 : List En := [
  (.iload_n 1, 1, 0, []),
  (.tableswitch 123 0 8 #[51, 59, 67, 75, 83, 91, 99, 107, 115], 0, 0, [38, 2, 6, 10, 14, 18, 22, 26, 30, 34]),
  (.aload_n 0, 0, 0, []),
  (.getfield 10, 0, 0, [7, 0]),
  (.invokevirtual 239, 33, 0, [1, 0]),
  (.ireturn, 0, 0, []),
  (.aload_n 0, 0, 0, []),
  (.getfield 10, 0, 0, [7, 0]),
  (.invokevirtual 242, 34, 0, [1, 0]),
  (.ireturn, 0, 0, []),
  (.aload_n 0, 0, 0, []),
  (.getfield 33, 3, 0, [7, 0]),
  (.invokevirtual 243, 53, 0, [1, 0]),
  (.ireturn, 0, 0, []),
  (.aload_n 0, 0, 0, []),
  (.getfield 26, 2, 0, [7, 0]),
  (.invokevirtual 129, 72, 0, [1, 0]),
  (.ireturn, 0, 0, []),
  (.aload_n 0, 0, 0, []),
  (.getfield 26, 2, 0, [7, 0]),
  (.invokevirtual 246, 73, 0, [1, 0]),
  (.ireturn, 0, 0, []),
  (.aload_n 0, 0, 0, []),
  (.getfield 26, 2, 0, [7, 0]),
  (.invokevirtual 249, 74, 0, [1, 0]),
  (.ireturn, 0, 0, []),
  (.aload_n 0, 0, 0, []),
  (.getfield 33, 3, 0, [7, 0]),
  (.invokevirtual 208, 54, 0, [1, 0]),
  (.ireturn, 0, 0, []),
  (.aload_n 0, 0, 0, []),
  (.getfield 19, 1, 0, [7, 0]),
  (.invokevirtual 132, 17, 0, [1, 0]),
  (.ireturn, 0, 0, []),
  (.aload_n 0, 0, 0, []),
  (.getfield 47, 5, 0, [7, 0]),
  (.invokevirtual 252, 3, 0, [1, 0]),
  (.ireturn, 0, 0, []),
  (.iconst (-1), 0, (-1), []),
  (.ireturn, 0, 0, [])]
def p108 : List Nat := [0, 1, 52, 53, 56, 59, 60, 61, 64, 67, 68, 69, 72, 75, 76, 77, 80, 83, 84, 85, 88, 91, 92, 93, 96, 99, 100, 101, 104, 107, 108, 109, 112, 115, 116, 117, 120, 123, 124, 125]
set_option maxRecDepth 100000 in
theorem ok108 : chk 108 p108 e108 = true := by decide +kernel
/-- PoloSeason.within(III)Z -/
def e109 : List En := [
  (.iload_n 0, 0, 0, []),
  (.iload_n 1, 1, 0, []),
  (.if_icmp .lt 12, 0, 0, [8]),
  (.iload_n 0, 0, 0, []),
  (.iload_n 2, 2, 0, []),
  (.if_icmp .gt 7, 0, 0, [8]),
  (.iconst 1, 0, 1, []),
  (.goto 4, 0, 0, [9]),
  (.iconst 0, 0, 0, []),
  (.ireturn, 1, 0, [])]
def p109 : List Nat := [0, 1, 2, 5, 6, 7, 10, 11, 14, 15]
set_option maxRecDepth 100000 in
theorem ok109 : chk 109 p109 e109 = true := by decide +kernel
/-- PoloSeason.requireHandicap(I)V -/
def e110 : List En := [
  (.iload_n 0, 0, 0, []),
  (.bipush (-2), 0, (-2), []),
  (.bipush 10, 0, 10, []),
  (.invokestatic 100, 109, 0, [3, 0]),
  (.ifCond .ne 13, 0, 0, [10]),
  (.new 104, 11, 0, []),
  (.nop, 0, 0, []),
  (.nop, 0, 0, []),
  (.nop, 0, 0, []),
  (.nop, 0, 0, []),
  (.return_, 0, 0, [])]
def p110 : List Nat := [0, 1, 3, 5, 8, 11, 14, 15, 17, 20, 21]
set_option maxRecDepth 100000 in
theorem ok110 : chk 110 p110 e110 = true := by decide +kernel
/-- PoloSeason.requireZeroOrOne(I)V -/
def e111 : List En := [
  (.iload_n 0, 0, 0, []),
  (.ifCond .eq 19, 0, 0, [10]),
  (.iload_n 0, 0, 0, []),
  (.iconst 1, 0, 1, []),
  (.if_icmp .eq 14, 0, 0, [10]),
  (.new 104, 12, 0, []),
  (.nop, 0, 0, []),
  (.nop, 0, 0, []),
  (.nop, 0, 0, []),
  (.nop, 0, 0, []),
  (.return_, 0, 0, [])]
def p111 : List Nat := [0, 1, 4, 5, 6, 9, 12, 13, 16, 19, 20]
set_option maxRecDepth 100000 in
theorem ok111 : chk 111 p111 e111 = true := by decide +kernel
/-- PoloSeason.requireWay(IIII)V -/
def e112 : List En := [
  (.iload_n 0, 0, 0, []),
  (.sipush (-1000), 0, (-1000), []),
  (.sipush 1000, 0, 1000, []),
  (.invokestatic 100, 109, 0, [3, 0]),
  (.ifCond .eq 20, 0, 0, [12]),
  (.iload_n 1, 1, 0, []),
  (.sipush (-1000), 0, (-1000), []),
  (.sipush 1000, 0, 1000, []),
  (.invokestatic 100, 109, 0, [3, 0]),
  (.ifCond .eq 7, 0, 0, [12]),
  (.iconst 1, 0, 1, []),
  (.goto 4, 0, 0, [13]),
  (.iconst 0, 0, 0, []),
  (.istore 4, 4, 0, []),
  (.iload_n 2, 2, 0, []),
  (.sipush (-1000), 0, (-1000), []),
  (.sipush 1000, 0, 1000, []),
  (.invokestatic 100, 109, 0, [3, 0]),
  (.ifCond .eq 20, 0, 0, [26]),
  (.iload_n 3, 3, 0, []),
  (.sipush (-1000), 0, (-1000), []),
  (.sipush 1000, 0, 1000, []),
  (.invokestatic 100, 109, 0, [3, 0]),
  (.ifCond .eq 7, 0, 0, [26]),
  (.iconst 1, 0, 1, []),
  (.goto 4, 0, 0, [27]),
  (.iconst 0, 0, 0, []),
  (.istore 5, 5, 0, []),
  (.iload 4, 4, 0, []),
  (.ifCond .eq 16, 0, 0, [36]),
  (.iload 5, 5, 0, []),
  (.ifCond .eq 11, 0, 0, [36]),
  (.iload_n 2, 2, 0, []),
  (.ifCond .ne 18, 0, 0, [41]),
  (.iload_n 3, 3, 0, []),
  (.ifCond .ne 14, 0, 0, [41]),
  (.new 104, 13, 0, []),
  (.nop, 0, 0, []),
  (.nop, 0, 0, []),
  (.nop, 0, 0, []),
  (.nop, 0, 0, []),
  (.return_, 0, 0, [])]
def p112 : List Nat := [0, 1, 4, 7, 10, 13, 14, 17, 20, 23, 26, 27, 30, 31, 33, 34, 37, 40, 43, 46, 47, 50, 53, 56, 59, 60, 63, 64, 66, 68, 71, 73, 76, 77, 80, 81, 84, 87, 88, 91, 94, 95]
set_option maxRecDepth 100000 in
theorem ok112 : chk 112 p112 e112 = true := by decide +kernel
/-- PoloSeason.requirePlayer(I)V -/
def e113 : List En := [
  (.iload_n 1, 1, 0, []),
  (.iconst 0, 0, 0, []),
  (.aload_n 0, 0, 0, []),
  (.getfield 10, 0, 0, [7, 0]),
  (.invokevirtual 239, 33, 0, [1, 0]),
  (.iconst 1, 0, 1, []),
  (.isub, 0, 0, []),
  (.invokestatic 100, 109, 0, [3, 0]),
  (.ifCond .ne 14, 0, 0, [14]),
  (.new 261, 14, 0, []),
  (.nop, 0, 0, []),
  (.nop, 0, 0, []),
  (.nop, 0, 0, []),
  (.nop, 0, 0, []),
  (.return_, 0, 0, [])]
def p113 : List Nat := [0, 1, 2, 3, 6, 9, 10, 11, 14, 17, 20, 21, 24, 27, 28]
set_option maxRecDepth 100000 in
theorem ok113 : chk 113 p113 e113 = true := by decide +kernel
/-- PoloSeason.requireTeam(I)V -/
def e114 : List En := [
  (.iload_n 1, 1, 0, []),
  (.iconst 0, 0, 0, []),
  (.aload_n 0, 0, 0, []),
  (.getfield 10, 0, 0, [7, 0]),
  (.invokevirtual 242, 34, 0, [1, 0]),
  (.iconst 1, 0, 1, []),
  (.isub, 0, 0, []),
  (.invokestatic 100, 109, 0, [3, 0]),
  (.ifCond .ne 14, 0, 0, [14]),
  (.new 261, 15, 0, []),
  (.nop, 0, 0, []),
  (.nop, 0, 0, []),
  (.nop, 0, 0, []),
  (.nop, 0, 0, []),
  (.return_, 0, 0, [])]
def p114 : List Nat := [0, 1, 2, 3, 6, 9, 10, 11, 14, 17, 20, 21, 24, 27, 28]
set_option maxRecDepth 100000 in
theorem ok114 : chk 114 p114 e114 = true := by decide +kernel
/-- PoloSeason.requirePony(I)V -/
def e115 : List En := [
  (.iload_n 1, 1, 0, []),
  (.iconst 0, 0, 0, []),
  (.aload_n 0, 0, 0, []),
  (.getfield 33, 3, 0, [7, 0]),
  (.invokevirtual 243, 53, 0, [1, 0]),
  (.iconst 1, 0, 1, []),
  (.isub, 0, 0, []),
  (.invokestatic 100, 109, 0, [3, 0]),
  (.ifCond .ne 14, 0, 0, [14]),
  (.new 261, 16, 0, []),
  (.nop, 0, 0, []),
  (.nop, 0, 0, []),
  (.nop, 0, 0, []),
  (.nop, 0, 0, []),
  (.return_, 0, 0, [])]
def p115 : List Nat := [0, 1, 2, 3, 6, 9, 10, 11, 14, 17, 20, 21, 24, 27, 28]
set_option maxRecDepth 100000 in
theorem ok115 : chk 115 p115 e115 = true := by decide +kernel
/-- PoloSeason.requireUndrawnCup()V -/
def e116 : List En := [
  (.aload_n 0, 0, 0, []),
  (.getfield 26, 2, 0, [7, 0]),
  (.invokevirtual 270, 68, 0, [1, 0]),
  (.ifCond .eq 13, 0, 0, [8]),
  (.aload_n 0, 0, 0, []),
  (.getfield 26, 2, 0, [7, 0]),
  (.invokevirtual 273, 69, 0, [1, 0]),
  (.ifCond .eq 14, 0, 0, [13]),
  (.new 63, 17, 0, []),
  (.nop, 0, 0, []),
  (.nop, 0, 0, []),
  (.nop, 0, 0, []),
  (.nop, 0, 0, []),
  (.return_, 0, 0, [])]
def p116 : List Nat := [0, 1, 4, 7, 10, 11, 14, 17, 20, 23, 24, 27, 30, 31]
set_option maxRecDepth 100000 in
theorem ok116 : chk 116 p116 e116 = true := by decide +kernel
/-- PoloSeason.halvesFor(II)I -/
def e117 : List En := [
  (.aload_n 0, 0, 0, []),
  (.getfield 10, 0, 0, [7, 0]),
  (.iload_n 2, 2, 0, []),
  (.invokevirtual 97, 43, 0, [2, 0]),
  (.aload_n 0, 0, 0, []),
  (.getfield 10, 0, 0, [7, 0]),
  (.iload_n 1, 1, 0, []),
  (.invokevirtual 97, 43, 0, [2, 0]),
  (.isub, 0, 0, []),
  (.istore_n 3, 3, 0, []),
  (.iload_n 3, 3, 0, []),
  (.ifCond .gt 5, 0, 0, [14]),
  (.iconst 0, 0, 0, []),
  (.ireturn, 0, 0, []),
  (.iload_n 3, 3, 0, []),
  (.aload_n 0, 0, 0, []),
  (.getfield 26, 2, 0, [7, 0]),
  (.invokevirtual 278, 71, 0, [1, 0]),
  (.imul, 0, 0, []),
  (.istore 4, 4, 0, []),
  (.iload 4, 4, 0, []),
  (.bipush 6, 0, 6, []),
  (.idiv, 0, 0, []),
  (.iconst 2, 0, 2, []),
  (.imul, 0, 0, []),
  (.iload 4, 4, 0, []),
  (.bipush 6, 0, 6, []),
  (.irem, 0, 0, []),
  (.ifCond .ne 7, 0, 0, [31]),
  (.iconst 0, 0, 0, []),
  (.goto 4, 0, 0, [32]),
  (.iconst 1, 0, 1, []),
  (.iadd, 0, 0, []),
  (.ireturn, 0, 0, [])]
def p117 : List Nat := [0, 1, 4, 5, 8, 9, 12, 13, 16, 17, 18, 19, 22, 23, 24, 25, 26, 29, 32, 33, 35, 37, 39, 40, 41, 42, 44, 46, 47, 50, 51, 54, 55, 56]
set_option maxRecDepth 100000 in
theorem ok117 : chk 117 p117 e117 = true := by decide +kernel
/-- PoloSeason.rideTeam(I)V -/
def e118 : List En := [
  (.iconst 0, 0, 0, []),
  (.istore_n 2, 2, 0, []),
  (.iload_n 2, 2, 0, []),
  (.iconst 4, 0, 4, []),
  (.if_icmp .ge 22, 0, 0, [14]),
  (.aload_n 0, 0, 0, []),
  (.aload_n 0, 0, 0, []),
  (.getfield 10, 0, 0, [7, 0]),
  (.iload_n 1, 1, 0, []),
  (.iload_n 2, 2, 0, []),
  (.invokevirtual 281, 42, 0, [3, 0]),
  (.invokevirtual 284, 119, 0, [2, 0]),
  (.iinc 2 1, 2, 1, []),
  (.goto (-21), 0, 0, [2]),
  (.return_, 0, 0, [])]
def p118 : List Nat := [0, 1, 2, 3, 4, 7, 8, 9, 12, 13, 14, 17, 20, 23, 26]
set_option maxRecDepth 100000 in
theorem ok118 : chk 118 p118 e118 = true := by decide +kernel
/-- PoloSeason.ridePlayer(I)V -/
def e119 : List En := [
  (.aload_n 0, 0, 0, []),
  (.getfield 26, 2, 0, [7, 0]),
  (.invokevirtual 278, 71, 0, [1, 0]),
  (.istore_n 2, 2, 0, []),
  (.aload_n 0, 0, 0, []),
  (.getfield 40, 4, 0, [7, 0]),
  (.aload_n 0, 0, 0, []),
  (.getfield 33, 3, 0, [7, 0]),
  (.iload_n 1, 1, 0, []),
  (.iload_n 2, 2, 0, []),
  (.invokevirtual 201, 23, 0, [4, 0]),
  (.iconst 0, 0, 0, []),
  (.istore_n 3, 3, 0, []),
  (.iload_n 3, 3, 0, []),
  (.iload_n 2, 2, 0, []),
  (.if_icmp .ge 47, 0, 0, [37]),
  (.aload_n 0, 0, 0, []),
  (.getfield 40, 4, 0, [7, 0]),
  (.iload_n 3, 3, 0, []),
  (.invokevirtual 205, 22, 0, [2, 0]),
  (.istore 4, 4, 0, []),
  (.iload 4, 4, 0, []),
  (.iconst (-1), 0, (-1), []),
  (.if_icmp .ne 16, 0, 0, [31]),
  (.aload_n 0, 0, 0, []),
  (.dup, 0, 0, []),
  (.getfield 51, 6, 0, [7, 0]),
  (.iconst 1, 0, 1, []),
  (.iadd, 0, 0, []),
  (.putfield 51, 6, 0, [7, 0]),
  (.goto 12, 0, 0, [35]),
  (.aload_n 0, 0, 0, []),
  (.getfield 33, 3, 0, [7, 0]),
  (.iload 4, 4, 0, []),
  (.invokevirtual 287, 64, 0, [2, 0]),
  (.iinc 3 1, 3, 1, []),
  (.goto (-46), 0, 0, [13]),
  (.return_, 0, 0, [])]
def p119 : List Nat := [0, 1, 4, 7, 8, 9, 12, 13, 16, 17, 18, 21, 22, 23, 24, 25, 28, 29, 32, 33, 36, 38, 40, 41, 44, 45, 46, 49, 50, 51, 54, 57, 58, 61, 63, 66, 69, 72]
set_option maxRecDepth 100000 in
theorem ok119 : chk 119 p119 e119 = true := by decide +kernel
end
section
/-- PoloSeasonModel.thrown()I -/
def e121 : List En := [
  (.aload_n 0, 0, 0, []),
  (.getfield 95, 0, 0, [8, 0]),
  (.ireturn, 0, 0, [])]
def p121 : List Nat := [0, 1, 4]
set_option maxRecDepth 100000 in
theorem ok121 : chk 121 p121 e121 = true := by decide +kernel
/-- PoloSeasonModel.bad(ZI)Z -/
def e122 : List En := [
  (.iload_n 1, 1, 0, []),
  (.ifCond .eq 8, 0, 0, [5]),
  (.aload_n 0, 0, 0, []),
  (.iload_n 2, 2, 0, []),
  (.putfield 95, 0, 0, [8, 0]),
  (.iload_n 1, 1, 0, []),
  (.ireturn, 1, 0, [])]
def p122 : List Nat := [0, 1, 4, 5, 6, 9, 10]
set_option maxRecDepth 100000 in
theorem ok122 : chk 122 p122 e122 = true := by decide +kernel
/-- PoloSeasonModel.isHandicap(I)Z -/
def e123 : List En := [
  (.iload_n 0, 0, 0, []),
  (.bipush (-2), 0, (-2), []),
  (.if_icmp .lt 13, 0, 0, [8]),
  (.iload_n 0, 0, 0, []),
  (.bipush 10, 0, 10, []),
  (.if_icmp .gt 7, 0, 0, [8]),
  (.iconst 1, 0, 1, []),
  (.goto 4, 0, 0, [9]),
  (.iconst 0, 0, 0, []),
  (.ireturn, 1, 0, [])]
def p123 : List Nat := [0, 1, 3, 6, 7, 9, 12, 13, 16, 17]
set_option maxRecDepth 100000 in
theorem ok123 : chk 123 p123 e123 = true := by decide +kernel
/-- PoloSeasonModel.isPlayer(I)Z -/
def e124 : List En := [
  (.iload_n 1, 1, 0, []),
  (.ifCond .lt 15, 0, 0, [8]),
  (.iload_n 1, 1, 0, []),
  (.aload_n 0, 0, 0, []),
  (.getfield 99, 3, 0, [8, 0]),
  (.if_icmp .ge 7, 0, 0, [8]),
  (.iconst 1, 0, 1, []),
  (.goto 4, 0, 0, [9]),
  (.iconst 0, 0, 0, []),
  (.ireturn, 1, 0, [])]
def p124 : List Nat := [0, 1, 4, 5, 6, 9, 12, 13, 16, 17]
set_option maxRecDepth 100000 in
theorem ok124 : chk 124 p124 e124 = true := by decide +kernel
/-- PoloSeasonModel.player(I)I -/
def e125 : List En := [
  (.aload_n 0, 0, 0, []),
  (.iconst 0, 0, 0, []),
  (.putfield 95, 0, 0, [8, 0]),
  (.aload_n 0, 0, 0, []),
  (.iload_n 1, 1, 0, []),
  (.invokestatic 102, 123, 0, [1, 0]),
  (.ifCond .ne 7, 0, 0, [9]),
  (.iconst 1, 0, 1, []),
  (.goto 4, 0, 0, [10]),
  (.iconst 0, 0, 0, []),
  (.iconst 1, 0, 1, []),
  (.invokevirtual 106, 122, 0, [3, 0]),
  (.ifCond .ne 25, 0, 0, [24]),
  (.aload_n 0, 0, 0, []),
  (.aload_n 0, 0, 0, []),
  (.getfield 99, 3, 0, [8, 0]),
  (.bipush 32, 0, 32, []),
  (.if_icmp .ne 7, 0, 0, [20]),
  (.iconst 1, 0, 1, []),
  (.goto 4, 0, 0, [21]),
  (.iconst 0, 0, 0, []),
  (.iconst 2, 0, 2, []),
  (.invokevirtual 106, 122, 0, [3, 0]),
  (.ifCond .eq 5, 0, 0, [26]),
  (.iconst 0, 0, 0, []),
  (.ireturn, 0, 0, []),
  (.aload_n 0, 0, 0, []),
  (.getfield 9, 1, 0, [8, 0]),
  (.aload_n 0, 0, 0, []),
  (.getfield 99, 3, 0, [8, 0]),
  (.iload_n 1, 1, 0, []),
  (.iastore, 0, 0, []),
  (.aload_n 0, 0, 0, []),
  (.dup, 0, 0, []),
  (.getfield 99, 3, 0, [8, 0]),
  (.iconst 1, 0, 1, []),
  (.iadd, 0, 0, []),
  (.putfield 99, 3, 0, [8, 0]),
  (.aload_n 0, 0, 0, []),
  (.getfield 99, 3, 0, [8, 0]),
  (.iconst 1, 0, 1, []),
  (.isub, 0, 0, []),
  (.ireturn, 0, 0, [])]
def p125 : List Nat := [0, 1, 2, 5, 6, 7, 10, 13, 14, 17, 18, 19, 22, 25, 26, 27, 30, 32, 35, 36, 39, 40, 41, 44, 47, 48, 49, 50, 53, 54, 57, 58, 59, 60, 61, 64, 65, 66, 69, 70, 73, 74, 75]
set_option maxRecDepth 100000 in
theorem ok125 : chk 125 p125 e125 = true := by decide +kernel
/-- PoloSeasonModel.rate(II)I -/
def e126 : List En := [
  (.aload_n 0, 0, 0, []),
  (.iconst 0, 0, 0, []),
  (.putfield 95, 0, 0, [8, 0]),
  (.aload_n 0, 0, 0, []),
  (.aload_n 0, 0, 0, []),
  (.iload_n 1, 1, 0, []),
  (.invokevirtual 110, 124, 0, [2, 0]),
  (.ifCond .ne 7, 0, 0, [10]),
  (.iconst 1, 0, 1, []),
  (.goto 4, 0, 0, [11]),
  (.iconst 0, 0, 0, []),
  (.iconst 1, 0, 1, []),
  (.invokevirtual 106, 122, 0, [3, 0]),
  (.ifCond .ne 23, 0, 0, [24]),
  (.aload_n 0, 0, 0, []),
  (.iload_n 2, 2, 0, []),
  (.invokestatic 102, 123, 0, [1, 0]),
  (.ifCond .ne 7, 0, 0, [20]),
  (.iconst 1, 0, 1, []),
  (.goto 4, 0, 0, [21]),
  (.iconst 0, 0, 0, []),
  (.iconst 2, 0, 2, []),
  (.invokevirtual 106, 122, 0, [3, 0]),
  (.ifCond .eq 5, 0, 0, [26]),
  (.iconst 0, 0, 0, []),
  (.ireturn, 0, 0, []),
  (.aload_n 0, 0, 0, []),
  (.getfield 9, 1, 0, [8, 0]),
  (.iload_n 1, 1, 0, []),
  (.iaload, 0, 0, []),
  (.istore_n 3, 3, 0, []),
  (.aload_n 0, 0, 0, []),
  (.getfield 9, 1, 0, [8, 0]),
  (.iload_n 1, 1, 0, []),
  (.iload_n 2, 2, 0, []),
  (.iastore, 0, 0, []),
  (.iload_n 3, 3, 0, []),
  (.ireturn, 0, 0, [])]
def p126 : List Nat := [0, 1, 2, 5, 6, 7, 8, 11, 14, 15, 18, 19, 20, 23, 26, 27, 28, 31, 34, 35, 38, 39, 40, 43, 46, 47, 48, 49, 52, 53, 54, 55, 56, 59, 60, 61, 62, 63]
set_option maxRecDepth 100000 in
theorem ok126 : chk 126 p126 e126 = true := by decide +kernel
/-- PoloSeasonModel.team(IIII)I -/
def e127 : List En := [
  (.aload_n 0, 0, 0, []),
  (.iconst 0, 0, 0, []),
  (.putfield 95, 0, 0, [8, 0]),
  (.aload_n 0, 0, 0, []),
  (.aload_n 0, 0, 0, []),
  (.iload_n 1, 1, 0, []),
  (.invokevirtual 110, 124, 0, [2, 0]),
  (.ifCond .eq 28, 0, 0, [20]),
  (.aload_n 0, 0, 0, []),
  (.iload_n 2, 2, 0, []),
  (.invokevirtual 110, 124, 0, [2, 0]),
  (.ifCond .eq 20, 0, 0, [20]),
  (.aload_n 0, 0, 0, []),
  (.iload_n 3, 3, 0, []),
  (.invokevirtual 110, 124, 0, [2, 0]),
  (.ifCond .eq 12, 0, 0, [20]),
  (.aload_n 0, 0, 0, []),
  (.iload 4, 4, 0, []),
  (.invokevirtual 110, 124, 0, [2, 0]),
  (.ifCond .ne 7, 0, 0, [22]),
  (.iconst 1, 0, 1, []),
  (.goto 4, 0, 0, [23]),
  (.iconst 0, 0, 0, []),
  (.iconst 1, 0, 1, []),
  (.invokevirtual 106, 122, 0, [3, 0]),
  (.ifCond .ne 25, 0, 0, [37]),
  (.aload_n 0, 0, 0, []),
  (.aload_n 0, 0, 0, []),
  (.getfield 113, 5, 0, [8, 0]),
  (.bipush 8, 0, 8, []),
  (.if_icmp .ne 7, 0, 0, [33]),
  (.iconst 1, 0, 1, []),
  (.goto 4, 0, 0, [34]),
  (.iconst 0, 0, 0, []),
  (.iconst 2, 0, 2, []),
  (.invokevirtual 106, 122, 0, [3, 0]),
  (.ifCond .eq 5, 0, 0, [39]),
  (.iconst 0, 0, 0, []),
  (.ireturn, 0, 0, []),
  (.iload_n 1, 1, 0, []),
  (.iload_n 2, 2, 0, []),
  (.if_icmp .eq 31, 0, 0, [57]),
  (.iload_n 1, 1, 0, []),
  (.iload_n 3, 3, 0, []),
  (.if_icmp .eq 26, 0, 0, [57]),
  (.iload_n 1, 1, 0, []),
  (.iload 4, 4, 0, []),
  (.if_icmp .eq 20, 0, 0, [57]),
  (.iload_n 2, 2, 0, []),
  (.iload_n 3, 3, 0, []),
  (.if_icmp .eq 15, 0, 0, [57]),
  (.iload_n 2, 2, 0, []),
  (.iload 4, 4, 0, []),
  (.if_icmp .eq 9, 0, 0, [57]),
  (.iload_n 3, 3, 0, []),
  (.iload 4, 4, 0, []),
  (.if_icmp .ne 5, 0, 0, [59]),
  (.iconst (-1), 0, (-1), []),
  (.ireturn, 0, 0, []),
  (.aload_n 0, 0, 0, []),
  (.getfield 13, 2, 0, [8, 0]),
  (.iload_n 1, 1, 0, []),
  (.iaload, 0, 0, []),
  (.ifCond .ge 31, 0, 0, [79]),
  (.aload_n 0, 0, 0, []),
  (.getfield 13, 2, 0, [8, 0]),
  (.iload_n 2, 2, 0, []),
  (.iaload, 0, 0, []),
  (.ifCond .ge 22, 0, 0, [79]),
  (.aload_n 0, 0, 0, []),
  (.getfield 13, 2, 0, [8, 0]),
  (.iload_n 3, 3, 0, []),
  (.iaload, 0, 0, []),
  (.ifCond .ge 13, 0, 0, [79]),
  (.aload_n 0, 0, 0, []),
  (.getfield 13, 2, 0, [8, 0]),
  (.iload 4, 4, 0, []),
  (.iaload, 0, 0, []),
  (.ifCond .lt 5, 0, 0, [81]),
  (.iconst (-1), 0, (-1), []),
  (.ireturn, 0, 0, []),
  (.aload_n 0, 0, 0, []),
  (.getfield 16, 4, 0, [8, 0]),
  (.iconst 4, 0, 4, []),
  (.aload_n 0, 0, 0, []),
  (.getfield 113, 5, 0, [8, 0]),
  (.imul, 0, 0, []),
  (.iload_n 1, 1, 0, []),
  (.iastore, 0, 0, []),
  (.aload_n 0, 0, 0, []),
  (.getfield 16, 4, 0, [8, 0]),
  (.iconst 4, 0, 4, []),
  (.aload_n 0, 0, 0, []),
  (.getfield 113, 5, 0, [8, 0]),
  (.imul, 0, 0, []),
  (.iconst 1, 0, 1, []),
  (.iadd, 0, 0, []),
  (.iload_n 2, 2, 0, []),
  (.iastore, 0, 0, []),
  (.aload_n 0, 0, 0, []),
  (.getfield 16, 4, 0, [8, 0]),
  (.iconst 4, 0, 4, []),
  (.aload_n 0, 0, 0, []),
  (.getfield 113, 5, 0, [8, 0]),
  (.imul, 0, 0, []),
  (.iconst 2, 0, 2, []),
  (.iadd, 0, 0, []),
  (.iload_n 3, 3, 0, []),
  (.iastore, 0, 0, []),
  (.aload_n 0, 0, 0, []),
  (.getfield 16, 4, 0, [8, 0]),
  (.iconst 4, 0, 4, []),
  (.aload_n 0, 0, 0, []),
  (.getfield 113, 5, 0, [8, 0]),
  (.imul, 0, 0, []),
  (.iconst 3, 0, 3, []),
  (.iadd, 0, 0, []),
  (.iload 4, 4, 0, []),
  (.iastore, 0, 0, []),
  (.iconst 0, 0, 0, []),
  (.istore 5, 5, 0, []),
  (.iload 5, 5, 0, []),
  (.iconst 4, 0, 4, []),
  (.if_icmp .ge 32, 0, 0, [140]),
  (.aload_n 0, 0, 0, []),
  (.getfield 13, 2, 0, [8, 0]),
  (.aload_n 0, 0, 0, []),
  (.getfield 16, 4, 0, [8, 0]),
  (.iconst 4, 0, 4, []),
  (.aload_n 0, 0, 0, []),
  (.getfield 113, 5, 0, [8, 0]),
  (.imul, 0, 0, []),
  (.iload 5, 5, 0, []),
  (.iadd, 0, 0, []),
  (.iaload, 0, 0, []),
  (.aload_n 0, 0, 0, []),
  (.getfield 113, 5, 0, [8, 0]),
  (.iastore, 0, 0, []),
  (.iinc 5 1, 5, 1, []),
  (.goto (-32), 0, 0, [121]),
  (.aload_n 0, 0, 0, []),
  (.dup, 0, 0, []),
  (.getfield 113, 5, 0, [8, 0]),
  (.iconst 1, 0, 1, []),
  (.iadd, 0, 0, []),
  (.putfield 113, 5, 0, [8, 0]),
  (.aload_n 0, 0, 0, []),
  (.getfield 113, 5, 0, [8, 0]),
  (.iconst 1, 0, 1, []),
  (.isub, 0, 0, []),
  (.ireturn, 0, 0, [])]
def p127 : List Nat := [0, 1, 2, 5, 6, 7, 8, 11, 14, 15, 16, 19, 22, 23, 24, 27, 30, 31, 33, 36, 39, 40, 43, 44, 45, 48, 51, 52, 53, 56, 58, 61, 62, 65, 66, 67, 70, 73, 74, 75, 76, 77, 80, 81, 82, 85, 86, 88, 91, 92, 93, 96, 97, 99, 102, 103, 105, 108, 109, 110, 111, 114, 115, 116, 119, 120, 123, 124, 125, 128, 129, 132, 133, 134, 137, 138, 141, 143, 144, 147, 148, 149, 150, 153, 154, 155, 158, 159, 160, 161, 162, 165, 166, 167, 170, 171, 172, 173, 174, 175, 176, 179, 180, 181, 184, 185, 186, 187, 188, 189, 190, 193, 194, 195, 198, 199, 200, 201, 203, 204, 205, 207, 209, 210, 213, 214, 217, 218, 221, 222, 223, 226, 227, 229, 230, 231, 232, 235, 236, 239, 242, 243, 244, 247, 248, 249, 252, 253, 256, 257, 258]
set_option maxRecDepth 100000 in
theorem ok127 : chk 127 p127 e127 = true := by decide +kernel
/-- PoloSeasonModel.isTeam(I)Z -/
def e128 : List En := [
  (.aload_n 0, 0, 0, []),
  (.iload_n 1, 1, 0, []),
  (.ifCond .lt 11, 0, 0, [7]),
  (.iload_n 1, 1, 0, []),
  (.aload_n 0, 0, 0, []),
  (.getfield 113, 5, 0, [8, 0]),
  (.if_icmp .lt 7, 0, 0, [9]),
  (.iconst 1, 0, 1, []),
  (.goto 4, 0, 0, [10]),
  (.iconst 0, 0, 0, []),
  (.putfield 95, 0, 0, [8, 0]),
  (.aload_n 0, 0, 0, []),
  (.getfield 95, 0, 0, [8, 0]),
  (.ifCond .ne 7, 0, 0, [16]),
  (.iconst 1, 0, 1, []),
  (.goto 4, 0, 0, [17]),
  (.iconst 0, 0, 0, []),
  (.ireturn, 1, 0, [])]
def p128 : List Nat := [0, 1, 2, 5, 6, 7, 10, 13, 14, 17, 18, 21, 22, 25, 28, 29, 32, 33]
set_option maxRecDepth 100000 in
theorem ok128 : chk 128 p128 e128 = true := by decide +kernel
/-- PoloSeasonModel.strengthOf(I)I -/
def e129 : List En := [
  (.iconst 0, 0, 0, []),
  (.istore_n 2, 2, 0, []),
  (.iconst 0, 0, 0, []),
  (.istore_n 3, 3, 0, []),
  (.iload_n 3, 3, 0, []),
  (.iconst 4, 0, 4, []),
  (.if_icmp .ge 27, 0, 0, [23]),
  (.iload_n 2, 2, 0, []),
  (.aload_n 0, 0, 0, []),
  (.getfield 9, 1, 0, [8, 0]),
  (.aload_n 0, 0, 0, []),
  (.getfield 16, 4, 0, [8, 0]),
  (.iconst 4, 0, 4, []),
  (.iload_n 1, 1, 0, []),
  (.imul, 0, 0, []),
  (.iload_n 3, 3, 0, []),
  (.iadd, 0, 0, []),
  (.iaload, 0, 0, []),
  (.iaload, 0, 0, []),
  (.iadd, 0, 0, []),
  (.istore_n 2, 2, 0, []),
  (.iinc 3 1, 3, 1, []),
  (.goto (-26), 0, 0, [4]),
  (.iload_n 2, 2, 0, []),
  (.ireturn, 0, 0, [])]
def p129 : List Nat := [0, 1, 2, 3, 4, 5, 6, 9, 10, 11, 14, 15, 18, 19, 20, 21, 22, 23, 24, 25, 26, 27, 30, 33, 34]
set_option maxRecDepth 100000 in
theorem ok129 : chk 129 p129 e129 = true := by decide +kernel
/-- PoloSeasonModel.strength(I)I -/
def e130 : List En := [
  (.aload_n 0, 0, 0, []),
  (.iload_n 1, 1, 0, []),
  (.invokevirtual 116, 128, 0, [2, 0]),
  (.ifCond .eq 11, 0, 0, [8]),
  (.aload_n 0, 0, 0, []),
  (.iload_n 1, 1, 0, []),
  (.invokevirtual 119, 129, 0, [2, 0]),
  (.goto 4, 0, 0, [9]),
  (.iconst 0, 0, 0, []),
  (.ireturn, 0, 0, [])]
def p130 : List Nat := [0, 1, 2, 5, 8, 9, 10, 13, 16, 17]
set_option maxRecDepth 100000 in
theorem ok130 : chk 130 p130 e130 = true := by decide +kernel
/-- PoloSeasonModel.cup(II)V -/
def e131 : List En := [
  (.aload_n 0, 0, 0, []),
  (.iconst 0, 0, 0, []),
  (.putfield 95, 0, 0, [8, 0]),
  (.aload_n 0, 0, 0, []),
  (.iload_n 1, 1, 0, []),
  (.ifCond .lt 20, 0, 0, [15]),
  (.iload_n 1, 1, 0, []),
  (.bipush 40, 0, 40, []),
  (.if_icmp .gt 14, 0, 0, [15]),
  (.iload_n 2, 2, 0, []),
  (.iconst 4, 0, 4, []),
  (.if_icmp .lt 9, 0, 0, [15]),
  (.iload_n 2, 2, 0, []),
  (.bipush 6, 0, 6, []),
  (.if_icmp .le 7, 0, 0, [17]),
  (.iconst 1, 0, 1, []),
  (.goto 4, 0, 0, [18]),
  (.iconst 0, 0, 0, []),
  (.iconst 1, 0, 1, []),
  (.invokevirtual 106, 122, 0, [3, 0]),
  (.ifCond .eq 4, 0, 0, [22]),
  (.return_, 0, 0, []),
  (.aload_n 0, 0, 0, []),
  (.iconst 1, 0, 1, []),
  (.putfield 123, 6, 0, [8, 1]),
  (.aload_n 0, 0, 0, []),
  (.iconst 0, 0, 0, []),
  (.putfield 127, 7, 0, [8, 1]),
  (.aload_n 0, 0, 0, []),
  (.iload_n 1, 1, 0, []),
  (.putfield 130, 8, 0, [8, 0]),
  (.aload_n 0, 0, 0, []),
  (.iload_n 2, 2, 0, []),
  (.putfield 133, 9, 0, [8, 0]),
  (.aload_n 0, 0, 0, []),
  (.iconst 0, 0, 0, []),
  (.putfield 136, 13, 0, [8, 0]),
  (.aload_n 0, 0, 0, []),
  (.iconst 0, 0, 0, []),
  (.putfield 139, 10, 0, [8, 0]),
  (.aload_n 0, 0, 0, []),
  (.iconst 0, 0, 0, []),
  (.putfield 142, 11, 0, [8, 0]),
  (.aload_n 0, 0, 0, []),
  (.iconst 0, 0, 0, []),
  (.putfield 145, 18, 0, [8, 0]),
  (.aload_n 0, 0, 0, []),
  (.iconst 0, 0, 0, []),
  (.putfield 148, 19, 0, [8, 0]),
  (.aload_n 0, 0, 0, []),
  (.iconst 0, 0, 0, []),
  (.putfield 151, 23, 0, [8, 0]),
  (.aload_n 0, 0, 0, []),
  (.iconst 0, 0, 0, []),
  (.putfield 154, 24, 0, [8, 0]),
  (.return_, 0, 0, [])]
def p131 : List Nat := [0, 1, 2, 5, 6, 7, 10, 11, 13, 16, 17, 18, 21, 22, 24, 27, 28, 31, 32, 33, 36, 39, 40, 41, 42, 45, 46, 47, 50, 51, 52, 55, 56, 57, 60, 61, 62, 65, 66, 67, 70, 71, 72, 75, 76, 77, 80, 81, 82, 85, 86, 87, 90, 91, 92, 95]
set_option maxRecDepth 100000 in
theorem ok131 : chk 131 p131 e131 = true := by decide +kernel
/-- PoloSeasonModel.enter(I)I -/
def e132 : List En := [
  (.aload_n 0, 0, 0, []),
  (.iload_n 1, 1, 0, []),
  (.invokevirtual 116, 128, 0, [2, 0]),
  (.ifCond .eq 30, 0, 0, [17]),
  (.aload_n 0, 0, 0, []),
  (.aload_n 0, 0, 0, []),
  (.getfield 123, 6, 0, [8, 1]),
  (.ifCond .eq 10, 0, 0, [11]),
  (.aload_n 0, 0, 0, []),
  (.getfield 127, 7, 0, [8, 1]),
  (.ifCond .eq 7, 0, 0, [13]),
  (.iconst 1, 0, 1, []),
  (.goto 4, 0, 0, [14]),
  (.iconst 0, 0, 0, []),
  (.iconst 2, 0, 2, []),
  (.invokevirtual 106, 122, 0, [3, 0]),
  (.ifCond .eq 5, 0, 0, [19]),
  (.iconst 0, 0, 0, []),
  (.ireturn, 0, 0, []),
  (.iconst 0, 0, 0, []),
  (.istore_n 2, 2, 0, []),
  (.iload_n 2, 2, 0, []),
  (.aload_n 0, 0, 0, []),
  (.getfield 136, 13, 0, [8, 0]),
  (.if_icmp .ge 21, 0, 0, [35]),
  (.aload_n 0, 0, 0, []),
  (.getfield 19, 12, 0, [8, 0]),
  (.iload_n 2, 2, 0, []),
  (.iaload, 0, 0, []),
  (.iload_n 1, 1, 0, []),
  (.if_icmp .ne 5, 0, 0, [33]),
  (.iconst (-1), 0, (-1), []),
  (.ireturn, 0, 0, []),
  (.iinc 2 1, 2, 1, []),
  (.goto (-23), 0, 0, [21]),
  (.aload_n 0, 0, 0, []),
  (.iload_n 1, 1, 0, []),
  (.invokevirtual 119, 129, 0, [2, 0]),
  (.aload_n 0, 0, 0, []),
  (.getfield 130, 8, 0, [8, 0]),
  (.if_icmp .le 6, 0, 0, [43]),
  (.bipush (-2), 0, (-2), []),
  (.ireturn, 0, 0, []),
  (.aload_n 0, 0, 0, []),
  (.getfield 19, 12, 0, [8, 0]),
  (.aload_n 0, 0, 0, []),
  (.getfield 136, 13, 0, [8, 0]),
  (.iload_n 1, 1, 0, []),
  (.iastore, 0, 0, []),
  (.aload_n 0, 0, 0, []),
  (.dup, 0, 0, []),
  (.getfield 136, 13, 0, [8, 0]),
  (.iconst 1, 0, 1, []),
  (.iadd, 0, 0, []),
  (.putfield 136, 13, 0, [8, 0]),
  (.aload_n 0, 0, 0, []),
  (.getfield 136, 13, 0, [8, 0]),
  (.ireturn, 0, 0, [])]
def p132 : List Nat := [0, 1, 2, 5, 8, 9, 10, 13, 16, 17, 20, 23, 24, 27, 28, 29, 32, 35, 36, 37, 38, 39, 40, 41, 44, 47, 48, 51, 52, 53, 54, 57, 58, 59, 62, 65, 66, 67, 70, 71, 74, 77, 79, 80, 81, 84, 85, 88, 89, 90, 91, 92, 95, 96, 97, 100, 101, 104]
set_option maxRecDepth 100000 in
theorem ok132 : chk 132 p132 e132 = true := by decide +kernel
/-- PoloSeasonModel.noise(I)I -/
def e133 : List En := [
  (.aload_n 0, 0, 0, []),
  (.iconst 0, 0, 0, []),
  (.putfield 95, 0, 0, [8, 0]),
  (.aload_n 0, 0, 0, []),
  (.getfield 157, 15, 0, [8, 0]),
  (.bipush 20, 0, 20, []),
  (.if_icmp .ne 5, 0, 0, [9]),
  (.iconst (-1), 0, (-1), []),
  (.ireturn, 0, 0, []),
  (.aload_n 0, 0, 0, []),
  (.getfield 22, 14, 0, [8, 0]),
  (.aload_n 0, 0, 0, []),
  (.getfield 157, 15, 0, [8, 0]),
  (.iload_n 1, 1, 0, []),
  (.iastore, 0, 0, []),
  (.aload_n 0, 0, 0, []),
  (.dup, 0, 0, []),
  (.getfield 157, 15, 0, [8, 0]),
  (.iconst 1, 0, 1, []),
  (.iadd, 0, 0, []),
  (.putfield 157, 15, 0, [8, 0]),
  (.aload_n 0, 0, 0, []),
  (.getfield 157, 15, 0, [8, 0]),
  (.ireturn, 0, 0, [])]
def p133 : List Nat := [0, 1, 2, 5, 6, 9, 11, 14, 15, 16, 17, 20, 21, 24, 25, 26, 27, 28, 31, 32, 33, 36, 37, 40]
set_option maxRecDepth 100000 in
theorem ok133 : chk 133 p133 e133 = true := by decide +kernel
/-- PoloSeasonModel.draw()I -/
def e134 : List En := [
  (.aload_n 0, 0, 0, []),
  (.iconst 0, 0, 0, []),
  (.putfield 95, 0, 0, [8, 0]),
  (.aload_n 0, 0, 0, []),
  (.aload_n 0, 0, 0, []),
  (.getfield 123, 6, 0, [8, 1]),
  (.ifCond .eq 10, 0, 0, [10]),
  (.aload_n 0, 0, 0, []),
  (.getfield 127, 7, 0, [8, 1]),
  (.ifCond .eq 7, 0, 0, [12]),
  (.iconst 1, 0, 1, []),
  (.goto 4, 0, 0, [13]),
  (.iconst 0, 0, 0, []),
  (.iconst 1, 0, 1, []),
  (.invokevirtual 106, 122, 0, [3, 0]),
  (.ifCond .eq 5, 0, 0, [18]),
  (.iconst 0, 0, 0, []),
  (.ireturn, 0, 0, []),
  (.aload_n 0, 0, 0, []),
  (.getfield 136, 13, 0, [8, 0]),
  (.iconst 2, 0, 2, []),
  (.if_icmp .ge 5, 0, 0, [24]),
  (.iconst (-1), 0, (-1), []),
  (.ireturn, 0, 0, []),
  (.aload_n 0, 0, 0, []),
  (.getfield 157, 15, 0, [8, 0]),
  (.aload_n 0, 0, 0, []),
  (.getfield 136, 13, 0, [8, 0]),
  (.iconst 1, 0, 1, []),
  (.isub, 0, 0, []),
  (.if_icmp .ge 6, 0, 0, [33]),
  (.bipush (-2), 0, (-2), []),
  (.ireturn, 0, 0, []),
  (.iconst 0, 0, 0, []),
  (.istore_n 1, 1, 0, []),
  (.iload_n 1, 1, 0, []),
  (.aload_n 0, 0, 0, []),
  (.getfield 136, 13, 0, [8, 0]),
  (.if_icmp .ge 21, 0, 0, [49]),
  (.aload_n 0, 0, 0, []),
  (.getfield 25, 16, 0, [8, 0]),
  (.iload_n 1, 1, 0, []),
  (.aload_n 0, 0, 0, []),
  (.getfield 19, 12, 0, [8, 0]),
  (.iload_n 1, 1, 0, []),
  (.iaload, 0, 0, []),
  (.iastore, 0, 0, []),
  (.iinc 1 1, 1, 1, []),
  (.goto (-23), 0, 0, [35]),
  (.iconst 0, 0, 0, []),
  (.istore_n 1, 1, 0, []),
  (.aload_n 0, 0, 0, []),
  (.getfield 136, 13, 0, [8, 0]),
  (.iconst 1, 0, 1, []),
  (.isub, 0, 0, []),
  (.istore_n 2, 2, 0, []),
  (.iload_n 2, 2, 0, []),
  (.ifCond .le 58, 0, 0, [93]),
  (.aload_n 0, 0, 0, []),
  (.getfield 22, 14, 0, [8, 0]),
  (.iload_n 1, 1, 0, []),
  (.iaload, 0, 0, []),
  (.i2l, 0, 0, []),
  (.ldc2_w 160, 1145, 0, []),
  (.land, 0, 0, []),
  (.iload_n 2, 2, 0, []),
  (.iconst 1, 0, 1, []),
  (.iadd, 0, 0, []),
  (.i2l, 0, 0, []),
  (.lrem, 0, 0, []),
  (.l2i, 0, 0, []),
  (.istore_n 3, 3, 0, []),
  (.iinc 1 1, 1, 1, []),
  (.aload_n 0, 0, 0, []),
  (.getfield 25, 16, 0, [8, 0]),
  (.iload_n 2, 2, 0, []),
  (.iaload, 0, 0, []),
  (.istore 4, 4, 0, []),
  (.aload_n 0, 0, 0, []),
  (.getfield 25, 16, 0, [8, 0]),
  (.iload_n 2, 2, 0, []),
  (.aload_n 0, 0, 0, []),
  (.getfield 25, 16, 0, [8, 0]),
  (.iload_n 3, 3, 0, []),
  (.iaload, 0, 0, []),
  (.iastore, 0, 0, []),
  (.aload_n 0, 0, 0, []),
  (.getfield 25, 16, 0, [8, 0]),
  (.iload_n 3, 3, 0, []),
  (.iload 4, 4, 0, []),
  (.iastore, 0, 0, []),
  (.iinc 2 (-1), 2, (-1), []),
  (.goto (-56), 0, 0, [56]),
  (.aload_n 0, 0, 0, []),
  (.iconst 0, 0, 0, []),
  (.putfield 157, 15, 0, [8, 0]),
  (.aload_n 0, 0, 0, []),
  (.iconst 1, 0, 1, []),
  (.putfield 127, 7, 0, [8, 1]),
  (.aload_n 0, 0, 0, []),
  (.aload_n 0, 0, 0, []),
  (.getfield 136, 13, 0, [8, 0]),
  (.putfield 145, 18, 0, [8, 0]),
  (.aload_n 0, 0, 0, []),
  (.iconst 0, 0, 0, []),
  (.putfield 148, 19, 0, [8, 0]),
  (.iconst 0, 0, 0, []),
  (.istore_n 2, 2, 0, []),
  (.iload_n 2, 2, 0, []),
  (.bipush 8, 0, 8, []),
  (.if_icmp .ge 16, 0, 0, [118]),
  (.aload_n 0, 0, 0, []),
  (.getfield 40, 25, 0, [8, 0]),
  (.iload_n 2, 2, 0, []),
  (.iconst 0, 0, 0, []),
  (.iastore, 0, 0, []),
  (.iinc 2 1, 2, 1, []),
  (.goto (-16), 0, 0, [108]),
  (.aload_n 0, 0, 0, []),
  (.invokevirtual 162, 135, 0, [1, 0]),
  (.aload_n 0, 0, 0, []),
  (.getfield 136, 13, 0, [8, 0]),
  (.ireturn, 0, 0, [])]
def p134 : List Nat := [0, 1, 2, 5, 6, 7, 10, 13, 14, 17, 20, 21, 24, 25, 26, 29, 32, 33, 34, 35, 38, 39, 42, 43, 44, 45, 48, 49, 52, 53, 54, 57, 59, 60, 61, 62, 63, 64, 67, 70, 71, 74, 75, 76, 79, 80, 81, 82, 85, 88, 89, 90, 91, 94, 95, 96, 97, 98, 101, 102, 105, 106, 107, 108, 111, 112, 113, 114, 115, 116, 117, 118, 119, 122, 123, 126, 127, 128, 130, 131, 134, 135, 136, 139, 140, 141, 142, 143, 146, 147, 149, 150, 153, 156, 157, 158, 161, 162, 163, 166, 167, 168, 171, 174, 175, 176, 179, 180, 181, 182, 184, 187, 188, 191, 192, 193, 194, 197, 200, 201, 204, 205, 208]
set_option maxRecDepth 100000 in
theorem ok134 : chk 134 p134 e134 = true := by decide +kernel
/-- PoloSeasonModel.begins()V -/
def e135 : List En := [
  (.aload_n 0, 0, 0, []),
  (.iconst 0, 0, 0, []),
  (.putfield 151, 23, 0, [8, 0]),
  (.aload_n 0, 0, 0, []),
  (.iconst 0, 0, 0, []),
  (.putfield 154, 24, 0, [8, 0]),
  (.iconst 0, 0, 0, []),
  (.istore_n 1, 1, 0, []),
  (.iload_n 1, 1, 0, []),
  (.aload_n 0, 0, 0, []),
  (.getfield 136, 13, 0, [8, 0]),
  (.if_icmp .ge 21, 0, 0, [22]),
  (.aload_n 0, 0, 0, []),
  (.getfield 40, 25, 0, [8, 0]),
  (.aload_n 0, 0, 0, []),
  (.getfield 19, 12, 0, [8, 0]),
  (.iload_n 1, 1, 0, []),
  (.iaload, 0, 0, []),
  (.iconst 3, 0, 3, []),
  (.iastore, 0, 0, []),
  (.iinc 1 1, 1, 1, []),
  (.goto (-23), 0, 0, [8]),
  (.iconst 0, 0, 0, []),
  (.istore_n 1, 1, 0, []),
  (.iload_n 1, 1, 0, []),
  (.aload_n 0, 0, 0, []),
  (.getfield 145, 18, 0, [8, 0]),
  (.if_icmp .ge 38, 0, 0, [47]),
  (.aload_n 0, 0, 0, []),
  (.getfield 40, 25, 0, [8, 0]),
  (.aload_n 0, 0, 0, []),
  (.getfield 25, 16, 0, [8, 0]),
  (.iload_n 1, 1, 0, []),
  (.iaload, 0, 0, []),
  (.aload_n 0, 0, 0, []),
  (.getfield 145, 18, 0, [8, 0]),
  (.aload_n 0, 0, 0, []),
  (.getfield 148, 19, 0, [8, 0]),
  (.iadd, 0, 0, []),
  (.iconst 1, 0, 1, []),
  (.if_icmp .ne 7, 0, 0, [43]),
  (.iconst 4, 0, 4, []),
  (.goto 4, 0, 0, [44]),
  (.iconst 1, 0, 1, []),
  (.iastore, 0, 0, []),
  (.iinc 1 1, 1, 1, []),
  (.goto (-40), 0, 0, [24]),
  (.iconst 0, 0, 0, []),
  (.istore_n 1, 1, 0, []),
  (.iload_n 1, 1, 0, []),
  (.aload_n 0, 0, 0, []),
  (.getfield 148, 19, 0, [8, 0]),
  (.if_icmp .ge 38, 0, 0, [72]),
  (.aload_n 0, 0, 0, []),
  (.getfield 40, 25, 0, [8, 0]),
  (.aload_n 0, 0, 0, []),
  (.getfield 28, 17, 0, [8, 0]),
  (.iload_n 1, 1, 0, []),
  (.iaload, 0, 0, []),
  (.aload_n 0, 0, 0, []),
  (.getfield 145, 18, 0, [8, 0]),
  (.aload_n 0, 0, 0, []),
  (.getfield 148, 19, 0, [8, 0]),
  (.iadd, 0, 0, []),
  (.iconst 1, 0, 1, []),
  (.if_icmp .ne 7, 0, 0, [68]),
  (.iconst 4, 0, 4, []),
  (.goto 4, 0, 0, [69]),
  (.iconst 2, 0, 2, []),
  (.iastore, 0, 0, []),
  (.iinc 1 1, 1, 1, []),
  (.goto (-40), 0, 0, [49]),
  (.aload_n 0, 0, 0, []),
  (.getfield 145, 18, 0, [8, 0]),
  (.aload_n 0, 0, 0, []),
  (.getfield 148, 19, 0, [8, 0]),
  (.iadd, 0, 0, []),
  (.iconst 1, 0, 1, []),
  (.if_icmp .ne 4, 0, 0, [80]),
  (.return_, 0, 0, []),
  (.aload_n 0, 0, 0, []),
  (.dup, 0, 0, []),
  (.getfield 139, 10, 0, [8, 0]),
  (.iconst 1, 0, 1, []),
  (.iadd, 0, 0, []),
  (.putfield 139, 10, 0, [8, 0]),
  (.aload_n 0, 0, 0, []),
  (.getfield 145, 18, 0, [8, 0]),
  (.iconst 1, 0, 1, []),
  (.if_icmp .ne 28, 0, 0, [105]),
  (.aload_n 0, 0, 0, []),
  (.getfield 148, 19, 0, [8, 0]),
  (.iconst 1, 0, 1, []),
  (.if_icmp .ne 20, 0, 0, [105]),
  (.aload_n 0, 0, 0, []),
  (.aload_n 0, 0, 0, []),
  (.getfield 25, 16, 0, [8, 0]),
  (.iconst 0, 0, 0, []),
  (.iaload, 0, 0, []),
  (.aload_n 0, 0, 0, []),
  (.getfield 28, 17, 0, [8, 0]),
  (.iconst 0, 0, 0, []),
  (.iaload, 0, 0, []),
  (.invokevirtual 165, 136, 0, [3, 0]),
  (.return_, 0, 0, []),
  (.iconst 0, 0, 0, []),
  (.istore_n 1, 1, 0, []),
  (.iload_n 1, 1, 0, []),
  (.iconst 1, 0, 1, []),
  (.iadd, 0, 0, []),
  (.aload_n 0, 0, 0, []),
  (.getfield 145, 18, 0, [8, 0]),
  (.if_icmp .ge 27, 0, 0, [127]),
  (.aload_n 0, 0, 0, []),
  (.aload_n 0, 0, 0, []),
  (.getfield 25, 16, 0, [8, 0]),
  (.iload_n 1, 1, 0, []),
  (.iaload, 0, 0, []),
  (.aload_n 0, 0, 0, []),
  (.getfield 25, 16, 0, [8, 0]),
  (.iload_n 1, 1, 0, []),
  (.iconst 1, 0, 1, []),
  (.iadd, 0, 0, []),
  (.iaload, 0, 0, []),
  (.invokevirtual 165, 136, 0, [3, 0]),
  (.iinc 1 2, 1, 2, []),
  (.goto (-31), 0, 0, [107]),
  (.iconst 0, 0, 0, []),
  (.istore_n 1, 1, 0, []),
  (.iload_n 1, 1, 0, []),
  (.iconst 1, 0, 1, []),
  (.iadd, 0, 0, []),
  (.aload_n 0, 0, 0, []),
  (.getfield 148, 19, 0, [8, 0]),
  (.if_icmp .ge 27, 0, 0, [149]),
  (.aload_n 0, 0, 0, []),
  (.aload_n 0, 0, 0, []),
  (.getfield 28, 17, 0, [8, 0]),
  (.iload_n 1, 1, 0, []),
  (.iaload, 0, 0, []),
  (.aload_n 0, 0, 0, []),
  (.getfield 28, 17, 0, [8, 0]),
  (.iload_n 1, 1, 0, []),
  (.iconst 1, 0, 1, []),
  (.iadd, 0, 0, []),
  (.iaload, 0, 0, []),
  (.invokevirtual 165, 136, 0, [3, 0]),
  (.iinc 1 2, 1, 2, []),
  (.goto (-31), 0, 0, [129]),
  (.return_, 0, 0, [])]
def p135 : List Nat := [0, 1, 2, 5, 6, 7, 10, 11, 12, 13, 14, 17, 20, 21, 24, 25, 28, 29, 30, 31, 32, 35, 38, 39, 40, 41, 42, 45, 48, 49, 52, 53, 56, 57, 58, 59, 62, 63, 66, 67, 68, 71, 72, 75, 76, 77, 80, 83, 84, 85, 86, 87, 90, 93, 94, 97, 98, 101, 102, 103, 104, 107, 108, 111, 112, 113, 116, 117, 120, 121, 122, 125, 128, 129, 132, 133, 136, 137, 138, 141, 142, 143, 144, 147, 148, 149, 152, 153, 156, 157, 160, 161, 164, 165, 168, 169, 170, 173, 174, 175, 176, 179, 180, 181, 184, 185, 186, 187, 188, 189, 190, 191, 194, 197, 198, 199, 202, 203, 204, 205, 208, 209, 210, 211, 212, 215, 218, 221, 222, 223, 224, 225, 226, 227, 230, 233, 234, 235, 238, 239, 240, 241, 244, 245, 246, 247, 248, 251, 254, 257]
set_option maxRecDepth 100000 in
theorem ok135 : chk 135 p135 e135 = true := by decide +kernel
/-- PoloSeasonModel.pairs(II)V -/
def e136 : List En := [
  (.aload_n 0, 0, 0, []),
  (.getfield 31, 20, 0, [8, 0]),
  (.aload_n 0, 0, 0, []),
  (.getfield 151, 23, 0, [8, 0]),
  (.iload_n 1, 1, 0, []),
  (.iastore, 0, 0, []),
  (.aload_n 0, 0, 0, []),
  (.getfield 34, 21, 0, [8, 0]),
  (.aload_n 0, 0, 0, []),
  (.getfield 151, 23, 0, [8, 0]),
  (.iload_n 2, 2, 0, []),
  (.iastore, 0, 0, []),
  (.aload_n 0, 0, 0, []),
  (.dup, 0, 0, []),
  (.getfield 151, 23, 0, [8, 0]),
  (.iconst 1, 0, 1, []),
  (.iadd, 0, 0, []),
  (.putfield 151, 23, 0, [8, 0]),
  (.return_, 0, 0, [])]
def p136 : List Nat := [0, 1, 4, 5, 8, 9, 10, 11, 14, 15, 18, 19, 20, 21, 22, 25, 26, 27, 30]
set_option maxRecDepth 100000 in
theorem ok136 : chk 136 p136 e136 = true := by decide +kernel
/-- PoloSeasonModel.hasLost(I)Z -/
def e137 : List En := [
  (.iconst 0, 0, 0, []),
  (.istore_n 2, 2, 0, []),
  (.iconst 0, 0, 0, []),
  (.istore_n 3, 3, 0, []),
  (.iload_n 3, 3, 0, []),
  (.aload_n 0, 0, 0, []),
  (.getfield 151, 23, 0, [8, 0]),
  (.if_icmp .ge 29, 0, 0, [22]),
  (.iload_n 2, 2, 0, []),
  (.ifCond .ne 13, 0, 0, [16]),
  (.aload_n 0, 0, 0, []),
  (.getfield 37, 22, 0, [8, 0]),
  (.iload_n 3, 3, 0, []),
  (.iaload, 0, 0, []),
  (.iload_n 1, 1, 0, []),
  (.if_icmp .ne 7, 0, 0, [18]),
  (.iconst 1, 0, 1, []),
  (.goto 4, 0, 0, [19]),
  (.iconst 0, 0, 0, []),
  (.istore_n 2, 2, 0, []),
  (.iinc 3 1, 3, 1, []),
  (.goto (-31), 0, 0, [4]),
  (.iload_n 2, 2, 0, []),
  (.ireturn, 1, 0, [])]
def p137 : List Nat := [0, 1, 2, 3, 4, 5, 6, 9, 12, 13, 16, 17, 20, 21, 22, 23, 26, 27, 30, 31, 32, 35, 38, 39]
set_option maxRecDepth 100000 in
theorem ok137 : chk 137 p137 e137 = true := by decide +kernel
/-- PoloSeasonModel.ends()V -/
def e138 : List En := [
  (.iconst 0, 0, 0, []),
  (.istore_n 1, 1, 0, []),
  (.iconst 0, 0, 0, []),
  (.istore_n 2, 2, 0, []),
  (.iload_n 2, 2, 0, []),
  (.aload_n 0, 0, 0, []),
  (.getfield 148, 19, 0, [8, 0]),
  (.if_icmp .ge 40, 0, 0, [27]),
  (.aload_n 0, 0, 0, []),
  (.aload_n 0, 0, 0, []),
  (.getfield 28, 17, 0, [8, 0]),
  (.iload_n 2, 2, 0, []),
  (.iaload, 0, 0, []),
  (.invokevirtual 169, 137, 0, [2, 0]),
  (.ifCond .eq 6, 0, 0, [16]),
  (.goto 18, 0, 0, [25]),
  (.aload_n 0, 0, 0, []),
  (.getfield 28, 17, 0, [8, 0]),
  (.iload_n 1, 1, 0, []),
  (.aload_n 0, 0, 0, []),
  (.getfield 28, 17, 0, [8, 0]),
  (.iload_n 2, 2, 0, []),
  (.iaload, 0, 0, []),
  (.iastore, 0, 0, []),
  (.iinc 1 1, 1, 1, []),
  (.iinc 2 1, 2, 1, []),
  (.goto (-42), 0, 0, [4]),
  (.aload_n 0, 0, 0, []),
  (.iload_n 1, 1, 0, []),
  (.putfield 148, 19, 0, [8, 0]),
  (.iconst 0, 0, 0, []),
  (.istore_n 2, 2, 0, []),
  (.iload_n 2, 2, 0, []),
  (.aload_n 0, 0, 0, []),
  (.getfield 151, 23, 0, [8, 0]),
  (.if_icmp .ge 52, 0, 0, [63]),
  (.aload_n 0, 0, 0, []),
  (.getfield 40, 25, 0, [8, 0]),
  (.aload_n 0, 0, 0, []),
  (.getfield 37, 22, 0, [8, 0]),
  (.iload_n 2, 2, 0, []),
  (.iaload, 0, 0, []),
  (.iaload, 0, 0, []),
  (.iconst 1, 0, 1, []),
  (.if_icmp .eq 6, 0, 0, [46]),
  (.goto 28, 0, 0, [61]),
  (.aload_n 0, 0, 0, []),
  (.getfield 28, 17, 0, [8, 0]),
  (.aload_n 0, 0, 0, []),
  (.getfield 148, 19, 0, [8, 0]),
  (.aload_n 0, 0, 0, []),
  (.getfield 37, 22, 0, [8, 0]),
  (.iload_n 2, 2, 0, []),
  (.iaload, 0, 0, []),
  (.iastore, 0, 0, []),
  (.aload_n 0, 0, 0, []),
  (.dup, 0, 0, []),
  (.getfield 148, 19, 0, [8, 0]),
  (.iconst 1, 0, 1, []),
  (.iadd, 0, 0, []),
  (.putfield 148, 19, 0, [8, 0]),
  (.iinc 2 1, 2, 1, []),
  (.goto (-54), 0, 0, [32]),
  (.iconst 0, 0, 0, []),
  (.istore_n 1, 1, 0, []),
  (.iconst 0, 0, 0, []),
  (.istore_n 2, 2, 0, []),
  (.iload_n 2, 2, 0, []),
  (.aload_n 0, 0, 0, []),
  (.getfield 145, 18, 0, [8, 0]),
  (.if_icmp .ge 40, 0, 0, [90]),
  (.aload_n 0, 0, 0, []),
  (.aload_n 0, 0, 0, []),
  (.getfield 25, 16, 0, [8, 0]),
  (.iload_n 2, 2, 0, []),
  (.iaload, 0, 0, []),
  (.invokevirtual 169, 137, 0, [2, 0]),
  (.ifCond .eq 6, 0, 0, [79]),
  (.goto 18, 0, 0, [88]),
  (.aload_n 0, 0, 0, []),
  (.getfield 25, 16, 0, [8, 0]),
  (.iload_n 1, 1, 0, []),
  (.aload_n 0, 0, 0, []),
  (.getfield 25, 16, 0, [8, 0]),
  (.iload_n 2, 2, 0, []),
  (.iaload, 0, 0, []),
  (.iastore, 0, 0, []),
  (.iinc 1 1, 1, 1, []),
  (.iinc 2 1, 2, 1, []),
  (.goto (-42), 0, 0, [67]),
  (.aload_n 0, 0, 0, []),
  (.iload_n 1, 1, 0, []),
  (.putfield 145, 18, 0, [8, 0]),
  (.aload_n 0, 0, 0, []),
  (.invokevirtual 162, 135, 0, [1, 0]),
  (.return_, 0, 0, [])]
def p138 : List Nat := [0, 1, 2, 3, 4, 5, 6, 9, 12, 13, 14, 17, 18, 19, 22, 25, 28, 29, 32, 33, 34, 37, 38, 39, 40, 43, 46, 49, 50, 51, 54, 55, 56, 57, 58, 61, 64, 65, 68, 69, 72, 73, 74, 75, 76, 79, 82, 83, 86, 87, 90, 91, 94, 95, 96, 97, 98, 99, 102, 103, 104, 107, 110, 113, 114, 115, 116, 117, 118, 119, 122, 125, 126, 127, 130, 131, 132, 135, 138, 141, 142, 145, 146, 147, 150, 151, 152, 153, 156, 159, 162, 163, 164, 167, 168, 171]
set_option maxRecDepth 100000 in
theorem ok138 : chk 138 p138 e138 = true := by decide +kernel
/-- PoloSeasonModel.isWhich(I)Z -/
def e139 : List En := [
  (.iload_n 0, 0, 0, []),
  (.ifCond .eq 8, 0, 0, [5]),
  (.iload_n 0, 0, 0, []),
  (.iconst 1, 0, 1, []),
  (.if_icmp .ne 7, 0, 0, [7]),
  (.iconst 1, 0, 1, []),
  (.goto 4, 0, 0, [8]),
  (.iconst 0, 0, 0, []),
  (.ireturn, 1, 0, [])]
def p139 : List Nat := [0, 1, 4, 5, 6, 9, 10, 13, 14]
set_option maxRecDepth 100000 in
theorem ok139 : chk 139 p139 e139 = true := by decide +kernel
/-- PoloSeasonModel.next(I)I -/
def e140 : List En := [
  (.aload_n 0, 0, 0, []),
  (.iconst 0, 0, 0, []),
  (.putfield 95, 0, 0, [8, 0]),
  (.aload_n 0, 0, 0, []),
  (.iload_n 1, 1, 0, []),
  (.invokestatic 172, 139, 0, [1, 0]),
  (.ifCond .ne 7, 0, 0, [9]),
  (.iconst 1, 0, 1, []),
  (.goto 4, 0, 0, [10]),
  (.iconst 0, 0, 0, []),
  (.iconst 1, 0, 1, []),
  (.invokevirtual 106, 122, 0, [3, 0]),
  (.ifCond .eq 5, 0, 0, [15]),
  (.iconst 0, 0, 0, []),
  (.ireturn, 0, 0, []),
  (.aload_n 0, 0, 0, []),
  (.getfield 154, 24, 0, [8, 0]),
  (.aload_n 0, 0, 0, []),
  (.getfield 151, 23, 0, [8, 0]),
  (.if_icmp .ne 7, 0, 0, [22]),
  (.iconst (-1), 0, (-1), []),
  (.goto 28, 0, 0, [35]),
  (.iload_n 1, 1, 0, []),
  (.ifCond .ne 15, 0, 0, [30]),
  (.aload_n 0, 0, 0, []),
  (.getfield 31, 20, 0, [8, 0]),
  (.aload_n 0, 0, 0, []),
  (.getfield 154, 24, 0, [8, 0]),
  (.iaload, 0, 0, []),
  (.goto 12, 0, 0, [35]),
  (.aload_n 0, 0, 0, []),
  (.getfield 34, 21, 0, [8, 0]),
  (.aload_n 0, 0, 0, []),
  (.getfield 154, 24, 0, [8, 0]),
  (.iaload, 0, 0, []),
  (.ireturn, 0, 0, [])]
def p140 : List Nat := [0, 1, 2, 5, 6, 7, 10, 13, 14, 17, 18, 19, 22, 25, 26, 27, 28, 31, 32, 35, 38, 39, 42, 43, 46, 47, 50, 51, 54, 55, 58, 59, 62, 63, 66, 67]
set_option maxRecDepth 100000 in
theorem ok140 : chk 140 p140 e140 = true := by decide +kernel
/-- PoloSeasonModel.givenTo(II)I -/
def e141 : List En := [
  (.aload_n 0, 0, 0, []),
  (.iload_n 2, 2, 0, []),
  (.invokevirtual 119, 129, 0, [2, 0]),
  (.aload_n 0, 0, 0, []),
  (.iload_n 1, 1, 0, []),
  (.invokevirtual 119, 129, 0, [2, 0]),
  (.isub, 0, 0, []),
  (.istore_n 3, 3, 0, []),
  (.iload_n 3, 3, 0, []),
  (.ifCond .gt 5, 0, 0, [12]),
  (.iconst 0, 0, 0, []),
  (.ireturn, 0, 0, []),
  (.iload_n 3, 3, 0, []),
  (.aload_n 0, 0, 0, []),
  (.getfield 133, 9, 0, [8, 0]),
  (.imul, 0, 0, []),
  (.istore 4, 4, 0, []),
  (.iconst 2, 0, 2, []),
  (.iload 4, 4, 0, []),
  (.bipush 6, 0, 6, []),
  (.idiv, 0, 0, []),
  (.imul, 0, 0, []),
  (.iload 4, 4, 0, []),
  (.bipush 6, 0, 6, []),
  (.irem, 0, 0, []),
  (.ifCond .le 7, 0, 0, [28]),
  (.iconst 1, 0, 1, []),
  (.goto 4, 0, 0, [29]),
  (.iconst 0, 0, 0, []),
  (.iadd, 0, 0, []),
  (.ireturn, 0, 0, [])]
def p141 : List Nat := [0, 1, 2, 5, 6, 7, 10, 11, 12, 13, 16, 17, 18, 19, 20, 23, 24, 26, 27, 29, 31, 32, 33, 35, 37, 38, 41, 42, 45, 46, 47]
set_option maxRecDepth 100000 in
theorem ok141 : chk 141 p141 e141 = true := by decide +kernel
/-- PoloSeasonModel.given(I)I -/
def e142 : List En := [
  (.aload_n 0, 0, 0, []),
  (.iconst 0, 0, 0, []),
  (.putfield 95, 0, 0, [8, 0]),
  (.aload_n 0, 0, 0, []),
  (.iload_n 1, 1, 0, []),
  (.invokestatic 172, 139, 0, [1, 0]),
  (.ifCond .ne 7, 0, 0, [9]),
  (.iconst 1, 0, 1, []),
  (.goto 4, 0, 0, [10]),
  (.iconst 0, 0, 0, []),
  (.iconst 1, 0, 1, []),
  (.invokevirtual 106, 122, 0, [3, 0]),
  (.ifCond .eq 5, 0, 0, [15]),
  (.iconst 0, 0, 0, []),
  (.ireturn, 0, 0, []),
  (.aload_n 0, 0, 0, []),
  (.getfield 154, 24, 0, [8, 0]),
  (.aload_n 0, 0, 0, []),
  (.getfield 151, 23, 0, [8, 0]),
  (.if_icmp .ne 5, 0, 0, [22]),
  (.iconst (-1), 0, (-1), []),
  (.ireturn, 0, 0, []),
  (.iload_n 1, 1, 0, []),
  (.ifCond .ne 28, 0, 0, [37]),
  (.aload_n 0, 0, 0, []),
  (.aload_n 0, 0, 0, []),
  (.getfield 31, 20, 0, [8, 0]),
  (.aload_n 0, 0, 0, []),
  (.getfield 154, 24, 0, [8, 0]),
  (.iaload, 0, 0, []),
  (.aload_n 0, 0, 0, []),
  (.getfield 34, 21, 0, [8, 0]),
  (.aload_n 0, 0, 0, []),
  (.getfield 154, 24, 0, [8, 0]),
  (.iaload, 0, 0, []),
  (.invokevirtual 175, 141, 0, [3, 0]),
  (.goto 25, 0, 0, [49]),
  (.aload_n 0, 0, 0, []),
  (.aload_n 0, 0, 0, []),
  (.getfield 34, 21, 0, [8, 0]),
  (.aload_n 0, 0, 0, []),
  (.getfield 154, 24, 0, [8, 0]),
  (.iaload, 0, 0, []),
  (.aload_n 0, 0, 0, []),
  (.getfield 31, 20, 0, [8, 0]),
  (.aload_n 0, 0, 0, []),
  (.getfield 154, 24, 0, [8, 0]),
  (.iaload, 0, 0, []),
  (.invokevirtual 175, 141, 0, [3, 0]),
  (.ireturn, 0, 0, [])]
def p142 : List Nat := [0, 1, 2, 5, 6, 7, 10, 13, 14, 17, 18, 19, 22, 25, 26, 27, 28, 31, 32, 35, 38, 39, 40, 41, 44, 45, 46, 49, 50, 53, 54, 55, 58, 59, 62, 63, 66, 69, 70, 71, 74, 75, 78, 79, 80, 83, 84, 87, 88, 91]
set_option maxRecDepth 100000 in
theorem ok142 : chk 142 p142 e142 = true := by decide +kernel
/-- PoloSeasonModel.play(II)I -/
def e143 : List En := [
  (.aload_n 0, 0, 0, []),
  (.iconst 0, 0, 0, []),
  (.putfield 95, 0, 0, [8, 0]),
  (.aload_n 0, 0, 0, []),
  (.iload_n 1, 1, 0, []),
  (.ifCond .lt 19, 0, 0, [14]),
  (.iload_n 1, 1, 0, []),
  (.bipush 50, 0, 50, []),
  (.if_icmp .gt 13, 0, 0, [14]),
  (.iload_n 2, 2, 0, []),
  (.ifCond .lt 9, 0, 0, [14]),
  (.iload_n 2, 2, 0, []),
  (.bipush 50, 0, 50, []),
  (.if_icmp .le 7, 0, 0, [16]),
  (.iconst 1, 0, 1, []),
  (.goto 4, 0, 0, [17]),
  (.iconst 0, 0, 0, []),
  (.iconst 1, 0, 1, []),
  (.invokevirtual 106, 122, 0, [3, 0]),
  (.ifCond .ne 27, 0, 0, [32]),
  (.aload_n 0, 0, 0, []),
  (.aload_n 0, 0, 0, []),
  (.getfield 154, 24, 0, [8, 0]),
  (.aload_n 0, 0, 0, []),
  (.getfield 151, 23, 0, [8, 0]),
  (.if_icmp .ne 7, 0, 0, [28]),
  (.iconst 1, 0, 1, []),
  (.goto 4, 0, 0, [29]),
  (.iconst 0, 0, 0, []),
  (.iconst 2, 0, 2, []),
  (.invokevirtual 106, 122, 0, [3, 0]),
  (.ifCond .eq 5, 0, 0, [34]),
  (.iconst 0, 0, 0, []),
  (.ireturn, 0, 0, []),
  (.aload_n 0, 0, 0, []),
  (.getfield 31, 20, 0, [8, 0]),
  (.aload_n 0, 0, 0, []),
  (.getfield 154, 24, 0, [8, 0]),
  (.iaload, 0, 0, []),
  (.istore_n 3, 3, 0, []),
  (.aload_n 0, 0, 0, []),
  (.getfield 34, 21, 0, [8, 0]),
  (.aload_n 0, 0, 0, []),
  (.getfield 154, 24, 0, [8, 0]),
  (.iaload, 0, 0, []),
  (.istore 4, 4, 0, []),
  (.iconst 2, 0, 2, []),
  (.iload_n 1, 1, 0, []),
  (.imul, 0, 0, []),
  (.aload_n 0, 0, 0, []),
  (.iload_n 3, 3, 0, []),
  (.iload 4, 4, 0, []),
  (.invokevirtual 175, 141, 0, [3, 0]),
  (.iadd, 0, 0, []),
  (.istore 5, 5, 0, []),
  (.iconst 2, 0, 2, []),
  (.iload_n 2, 2, 0, []),
  (.imul, 0, 0, []),
  (.aload_n 0, 0, 0, []),
  (.iload 4, 4, 0, []),
  (.iload_n 3, 3, 0, []),
  (.invokevirtual 175, 141, 0, [3, 0]),
  (.iadd, 0, 0, []),
  (.istore 6, 6, 0, []),
  (.iload 5, 5, 0, []),
  (.iload 6, 6, 0, []),
  (.if_icmp .ne 5, 0, 0, [69]),
  (.iconst (-1), 0, (-1), []),
  (.ireturn, 0, 0, []),
  (.aload_n 0, 0, 0, []),
  (.iload_n 3, 3, 0, []),
  (.iload 4, 4, 0, []),
  (.invokevirtual 179, 159, 0, [3, 0]),
  (.aload_n 0, 0, 0, []),
  (.getfield 37, 22, 0, [8, 0]),
  (.aload_n 0, 0, 0, []),
  (.getfield 154, 24, 0, [8, 0]),
  (.iload 5, 5, 0, []),
  (.iload 6, 6, 0, []),
  (.if_icmp .le 8, 0, 0, [82]),
  (.iload 4, 4, 0, []),
  (.goto 4, 0, 0, [83]),
  (.iload_n 3, 3, 0, []),
  (.iastore, 0, 0, []),
  (.aload_n 0, 0, 0, []),
  (.dup, 0, 0, []),
  (.getfield 154, 24, 0, [8, 0]),
  (.iconst 1, 0, 1, []),
  (.iadd, 0, 0, []),
  (.putfield 154, 24, 0, [8, 0]),
  (.aload_n 0, 0, 0, []),
  (.dup, 0, 0, []),
  (.getfield 142, 11, 0, [8, 0]),
  (.iconst 1, 0, 1, []),
  (.iadd, 0, 0, []),
  (.putfield 142, 11, 0, [8, 0]),
  (.aload_n 0, 0, 0, []),
  (.getfield 154, 24, 0, [8, 0]),
  (.aload_n 0, 0, 0, []),
  (.getfield 151, 23, 0, [8, 0]),
  (.if_icmp .ne 7, 0, 0, [103]),
  (.aload_n 0, 0, 0, []),
  (.invokevirtual 182, 138, 0, [1, 0]),
  (.iload 5, 5, 0, []),
  (.iload 6, 6, 0, []),
  (.if_icmp .le 7, 0, 0, [108]),
  (.iload_n 3, 3, 0, []),
  (.goto 5, 0, 0, [109]),
  (.iload 4, 4, 0, []),
  (.ireturn, 0, 0, [])]
def p143 : List Nat := [0, 1, 2, 5, 6, 7, 10, 11, 13, 16, 17, 20, 21, 23, 26, 27, 30, 31, 32, 35, 38, 39, 40, 43, 44, 47, 50, 51, 54, 55, 56, 59, 62, 63, 64, 65, 68, 69, 72, 73, 74, 75, 78, 79, 82, 83, 85, 86, 87, 88, 89, 90, 92, 95, 96, 98, 99, 100, 101, 102, 104, 105, 108, 109, 111, 113, 115, 118, 119, 120, 121, 122, 124, 127, 128, 131, 132, 135, 137, 139, 142, 144, 147, 148, 149, 150, 151, 154, 155, 156, 159, 160, 161, 164, 165, 166, 169, 170, 173, 174, 177, 180, 181, 184, 186, 188, 191, 192, 195, 197]
set_option maxRecDepth 100000 in
theorem ok143 : chk 143 p143 e143 = true := by decide +kernel
/-- PoloSeasonModel.where(I)I -/
def e144 : List En := [
  (.aload_n 0, 0, 0, []),
  (.iload_n 1, 1, 0, []),
  (.invokevirtual 116, 128, 0, [2, 0]),
  (.ifCond .ne 5, 0, 0, [6]),
  (.iconst 0, 0, 0, []),
  (.ireturn, 0, 0, []),
  (.aload_n 0, 0, 0, []),
  (.getfield 127, 7, 0, [8, 1]),
  (.ifCond .eq 12, 0, 0, [14]),
  (.aload_n 0, 0, 0, []),
  (.getfield 40, 25, 0, [8, 0]),
  (.iload_n 1, 1, 0, []),
  (.iaload, 0, 0, []),
  (.goto 4, 0, 0, [15]),
  (.iconst 0, 0, 0, []),
  (.ireturn, 0, 0, [])]
def p144 : List Nat := [0, 1, 2, 5, 8, 9, 10, 11, 14, 17, 18, 21, 22, 23, 26, 27]
set_option maxRecDepth 100000 in
theorem ok144 : chk 144 p144 e144 = true := by decide +kernel
/-- PoloSeasonModel.row(II)I -/
def e145 : List En := [
  (.aload_n 0, 0, 0, []),
  (.iconst 0, 0, 0, []),
  (.putfield 95, 0, 0, [8, 0]),
  (.aload_n 0, 0, 0, []),
  (.iload_n 1, 1, 0, []),
  (.invokestatic 172, 139, 0, [1, 0]),
  (.ifCond .ne 7, 0, 0, [9]),
  (.iconst 1, 0, 1, []),
  (.goto 4, 0, 0, [10]),
  (.iconst 0, 0, 0, []),
  (.iconst 1, 0, 1, []),
  (.invokevirtual 106, 122, 0, [3, 0]),
  (.ifCond .eq 5, 0, 0, [15]),
  (.iconst 0, 0, 0, []),
  (.ireturn, 0, 0, []),
  (.iload_n 2, 2, 0, []),
  (.ifCond .lt 22, 0, 0, [26]),
  (.iload_n 2, 2, 0, []),
  (.iload_n 1, 1, 0, []),
  (.ifCond .ne 10, 0, 0, [23]),
  (.aload_n 0, 0, 0, []),
  (.getfield 145, 18, 0, [8, 0]),
  (.goto 7, 0, 0, [25]),
  (.aload_n 0, 0, 0, []),
  (.getfield 148, 19, 0, [8, 0]),
  (.if_icmp .lt 7, 0, 0, [28]),
  (.iconst (-1), 0, (-1), []),
  (.goto 22, 0, 0, [39]),
  (.iload_n 1, 1, 0, []),
  (.ifCond .ne 12, 0, 0, [35]),
  (.aload_n 0, 0, 0, []),
  (.getfield 25, 16, 0, [8, 0]),
  (.iload_n 2, 2, 0, []),
  (.iaload, 0, 0, []),
  (.goto 9, 0, 0, [39]),
  (.aload_n 0, 0, 0, []),
  (.getfield 28, 17, 0, [8, 0]),
  (.iload_n 2, 2, 0, []),
  (.iaload, 0, 0, []),
  (.ireturn, 0, 0, [])]
def p145 : List Nat := [0, 1, 2, 5, 6, 7, 10, 13, 14, 17, 18, 19, 22, 25, 26, 27, 28, 31, 32, 33, 36, 37, 40, 43, 44, 47, 50, 51, 54, 55, 58, 59, 62, 63, 64, 67, 68, 71, 72, 73]
set_option maxRecDepth 100000 in
theorem ok145 : chk 145 p145 e145 = true := by decide +kernel
/-- PoloSeasonModel.pony(I)I -/
def e146 : List En := [
  (.aload_n 0, 0, 0, []),
  (.iconst 0, 0, 0, []),
  (.putfield 95, 0, 0, [8, 0]),
  (.iconst 0, 0, 0, []),
  (.istore_n 2, 2, 0, []),
  (.iconst 0, 0, 0, []),
  (.istore_n 3, 3, 0, []),
  (.iload_n 3, 3, 0, []),
  (.aload_n 0, 0, 0, []),
  (.getfield 185, 30, 0, [8, 0]),
  (.if_icmp .ge 27, 0, 0, [25]),
  (.iload_n 2, 2, 0, []),
  (.aload_n 0, 0, 0, []),
  (.getfield 43, 26, 0, [8, 0]),
  (.iload_n 3, 3, 0, []),
  (.iaload, 0, 0, []),
  (.iload_n 1, 1, 0, []),
  (.if_icmp .ne 7, 0, 0, [20]),
  (.iconst 1, 0, 1, []),
  (.goto 4, 0, 0, [21]),
  (.iconst 0, 0, 0, []),
  (.iadd, 0, 0, []),
  (.istore_n 2, 2, 0, []),
  (.iinc 3 1, 3, 1, []),
  (.goto (-29), 0, 0, [7]),
  (.aload_n 0, 0, 0, []),
  (.aload_n 0, 0, 0, []),
  (.iload_n 1, 1, 0, []),
  (.invokevirtual 110, 124, 0, [2, 0]),
  (.ifCond .ne 7, 0, 0, [32]),
  (.iconst 1, 0, 1, []),
  (.goto 4, 0, 0, [33]),
  (.iconst 0, 0, 0, []),
  (.iconst 1, 0, 1, []),
  (.invokevirtual 106, 122, 0, [3, 0]),
  (.ifCond .ne 31, 0, 0, [50]),
  (.aload_n 0, 0, 0, []),
  (.aload_n 0, 0, 0, []),
  (.getfield 185, 30, 0, [8, 0]),
  (.bipush 60, 0, 60, []),
  (.if_icmp .eq 9, 0, 0, [44]),
  (.iload_n 2, 2, 0, []),
  (.bipush 8, 0, 8, []),
  (.if_icmp .ne 7, 0, 0, [46]),
  (.iconst 1, 0, 1, []),
  (.goto 4, 0, 0, [47]),
  (.iconst 0, 0, 0, []),
  (.iconst 2, 0, 2, []),
  (.invokevirtual 106, 122, 0, [3, 0]),
  (.ifCond .eq 5, 0, 0, [52]),
  (.iconst 0, 0, 0, []),
  (.ireturn, 0, 0, []),
  (.aload_n 0, 0, 0, []),
  (.getfield 43, 26, 0, [8, 0]),
  (.aload_n 0, 0, 0, []),
  (.getfield 185, 30, 0, [8, 0]),
  (.iload_n 1, 1, 0, []),
  (.iastore, 0, 0, []),
  (.aload_n 0, 0, 0, []),
  (.dup, 0, 0, []),
  (.getfield 185, 30, 0, [8, 0]),
  (.iconst 1, 0, 1, []),
  (.iadd, 0, 0, []),
  (.putfield 185, 30, 0, [8, 0]),
  (.aload_n 0, 0, 0, []),
  (.getfield 185, 30, 0, [8, 0]),
  (.iconst 1, 0, 1, []),
  (.isub, 0, 0, []),
  (.ireturn, 0, 0, [])]
def p146 : List Nat := [0, 1, 2, 5, 6, 7, 8, 9, 10, 11, 14, 17, 18, 19, 22, 23, 24, 25, 28, 29, 32, 33, 34, 35, 38, 41, 42, 43, 44, 47, 50, 51, 54, 55, 56, 59, 62, 63, 64, 67, 69, 72, 73, 75, 78, 79, 82, 83, 84, 87, 90, 91, 92, 93, 96, 97, 100, 101, 102, 103, 104, 107, 108, 109, 112, 113, 116, 117, 118]
set_option maxRecDepth 100000 in
theorem ok146 : chk 146 p146 e146 = true := by decide +kernel
/-- PoloSeasonModel.isPony(I)Z -/
def e147 : List En := [
  (.aload_n 0, 0, 0, []),
  (.iload_n 1, 1, 0, []),
  (.ifCond .lt 11, 0, 0, [7]),
  (.iload_n 1, 1, 0, []),
  (.aload_n 0, 0, 0, []),
  (.getfield 185, 30, 0, [8, 0]),
  (.if_icmp .lt 7, 0, 0, [9]),
  (.iconst 1, 0, 1, []),
  (.goto 4, 0, 0, [10]),
  (.iconst 0, 0, 0, []),
  (.putfield 95, 0, 0, [8, 0]),
  (.aload_n 0, 0, 0, []),
  (.getfield 95, 0, 0, [8, 0]),
  (.ifCond .ne 7, 0, 0, [16]),
  (.iconst 1, 0, 1, []),
  (.goto 4, 0, 0, [17]),
  (.iconst 0, 0, 0, []),
  (.ireturn, 1, 0, [])]
def p147 : List Nat := [0, 1, 2, 5, 6, 7, 10, 13, 14, 17, 18, 21, 22, 25, 28, 29, 32, 33]
set_option maxRecDepth 100000 in
theorem ok147 : chk 147 p147 e147 = true := by decide +kernel
/-- PoloSeasonModel.lame(II)Z -/
def e148 : List En := [
  (.aload_n 0, 0, 0, []),
  (.iload_n 1, 1, 0, []),
  (.invokevirtual 188, 147, 0, [2, 0]),
  (.ifCond .eq 26, 0, 0, [16]),
  (.aload_n 0, 0, 0, []),
  (.iload_n 2, 2, 0, []),
  (.ifCond .lt 9, 0, 0, [10]),
  (.iload_n 2, 2, 0, []),
  (.ldc 191, 1237, 100000, []),
  (.if_icmp .le 7, 0, 0, [12]),
  (.iconst 1, 0, 1, []),
  (.goto 4, 0, 0, [13]),
  (.iconst 0, 0, 0, []),
  (.iconst 2, 0, 2, []),
  (.invokevirtual 106, 122, 0, [3, 0]),
  (.ifCond .eq 5, 0, 0, [18]),
  (.iconst 0, 0, 0, []),
  (.ireturn, 1, 0, []),
  (.aload_n 0, 0, 0, []),
  (.getfield 52, 29, 0, [8, 0]),
  (.iload_n 1, 1, 0, []),
  (.iload_n 2, 2, 0, []),
  (.iastore, 0, 0, []),
  (.iload_n 2, 2, 0, []),
  (.aload_n 0, 0, 0, []),
  (.getfield 192, 31, 0, [8, 0]),
  (.if_icmp .le 7, 0, 0, [29]),
  (.iconst 1, 0, 1, []),
  (.goto 4, 0, 0, [30]),
  (.iconst 0, 0, 0, []),
  (.ireturn, 1, 0, [])]
def p148 : List Nat := [0, 1, 2, 5, 8, 9, 10, 13, 14, 16, 19, 20, 23, 24, 25, 28, 31, 32, 33, 34, 37, 38, 39, 40, 41, 42, 45, 48, 49, 52, 53]
set_option maxRecDepth 100000 in
theorem ok148 : chk 148 p148 e148 = true := by decide +kernel
/-- PoloSeasonModel.told(II)I -/
def e149 : List En := [
  (.aload_n 0, 0, 0, []),
  (.iload_n 1, 1, 0, []),
  (.invokevirtual 188, 147, 0, [2, 0]),
  (.ifCond .eq 25, 0, 0, [16]),
  (.aload_n 0, 0, 0, []),
  (.iload_n 2, 2, 0, []),
  (.ifCond .lt 8, 0, 0, [10]),
  (.iload_n 2, 2, 0, []),
  (.iconst 2, 0, 2, []),
  (.if_icmp .le 7, 0, 0, [12]),
  (.iconst 1, 0, 1, []),
  (.goto 4, 0, 0, [13]),
  (.iconst 0, 0, 0, []),
  (.iconst 2, 0, 2, []),
  (.invokevirtual 106, 122, 0, [3, 0]),
  (.ifCond .eq 5, 0, 0, [18]),
  (.iconst 0, 0, 0, []),
  (.ireturn, 0, 0, []),
  (.iload_n 2, 2, 0, []),
  (.ifCond .ne 12, 0, 0, [25]),
  (.aload_n 0, 0, 0, []),
  (.getfield 43, 26, 0, [8, 0]),
  (.iload_n 1, 1, 0, []),
  (.iaload, 0, 0, []),
  (.goto 26, 0, 0, [39]),
  (.iload_n 2, 2, 0, []),
  (.iconst 1, 0, 1, []),
  (.if_icmp .ne 15, 0, 0, [35]),
  (.bipush 7, 0, 7, []),
  (.aload_n 0, 0, 0, []),
  (.getfield 46, 27, 0, [8, 0]),
  (.iload_n 1, 1, 0, []),
  (.iaload, 0, 0, []),
  (.imul, 0, 0, []),
  (.goto 9, 0, 0, [39]),
  (.aload_n 0, 0, 0, []),
  (.getfield 49, 28, 0, [8, 0]),
  (.iload_n 1, 1, 0, []),
  (.iaload, 0, 0, []),
  (.ireturn, 0, 0, [])]
def p149 : List Nat := [0, 1, 2, 5, 8, 9, 10, 13, 14, 15, 18, 19, 22, 23, 24, 27, 30, 31, 32, 33, 36, 37, 40, 41, 42, 45, 46, 47, 50, 52, 53, 56, 57, 58, 59, 62, 63, 66, 67, 68]
set_option maxRecDepth 100000 in
theorem ok149 : chk 149 p149 e149 = true := by decide +kernel
/-- PoloSeasonModel.rest()I -/
def e150 : List En := [
  (.aload_n 0, 0, 0, []),
  (.iconst 0, 0, 0, []),
  (.putfield 95, 0, 0, [8, 0]),
  (.aload_n 0, 0, 0, []),
  (.aload_n 0, 0, 0, []),
  (.getfield 192, 31, 0, [8, 0]),
  (.ldc 191, 1237, 100000, []),
  (.if_icmp .ne 7, 0, 0, [10]),
  (.iconst 1, 0, 1, []),
  (.goto 4, 0, 0, [11]),
  (.iconst 0, 0, 0, []),
  (.iconst 1, 0, 1, []),
  (.invokevirtual 106, 122, 0, [3, 0]),
  (.ifCond .eq 5, 0, 0, [16]),
  (.iconst 0, 0, 0, []),
  (.ireturn, 0, 0, []),
  (.aload_n 0, 0, 0, []),
  (.dup, 0, 0, []),
  (.getfield 192, 31, 0, [8, 0]),
  (.iconst 1, 0, 1, []),
  (.iadd, 0, 0, []),
  (.putfield 192, 31, 0, [8, 0]),
  (.iconst 0, 0, 0, []),
  (.istore_n 1, 1, 0, []),
  (.iload_n 1, 1, 0, []),
  (.aload_n 0, 0, 0, []),
  (.getfield 185, 30, 0, [8, 0]),
  (.if_icmp .ge 16, 0, 0, [35]),
  (.aload_n 0, 0, 0, []),
  (.getfield 49, 28, 0, [8, 0]),
  (.iload_n 1, 1, 0, []),
  (.iconst 0, 0, 0, []),
  (.iastore, 0, 0, []),
  (.iinc 1 1, 1, 1, []),
  (.goto (-18), 0, 0, [24]),
  (.aload_n 0, 0, 0, []),
  (.getfield 192, 31, 0, [8, 0]),
  (.ireturn, 0, 0, [])]
def p150 : List Nat := [0, 1, 2, 5, 6, 7, 10, 12, 15, 16, 19, 20, 21, 24, 27, 28, 29, 30, 31, 34, 35, 36, 39, 40, 41, 42, 43, 46, 49, 50, 53, 54, 55, 56, 59, 62, 63, 66]
set_option maxRecDepth 100000 in
theorem ok150 : chk 150 p150 e150 = true := by decide +kernel
/-- PoloSeasonModel.total()I -/
def e151 : List En := [
  (.iconst 0, 0, 0, []),
  (.istore_n 1, 1, 0, []),
  (.iconst 0, 0, 0, []),
  (.istore_n 2, 2, 0, []),
  (.iload_n 2, 2, 0, []),
  (.aload_n 0, 0, 0, []),
  (.getfield 195, 35, 0, [8, 0]),
  (.if_icmp .ge 18, 0, 0, [17]),
  (.iload_n 1, 1, 0, []),
  (.aload_n 0, 0, 0, []),
  (.getfield 61, 36, 0, [8, 0]),
  (.iload_n 2, 2, 0, []),
  (.iaload, 0, 0, []),
  (.iadd, 0, 0, []),
  (.istore_n 1, 1, 0, []),
  (.iinc 2 1, 2, 1, []),
  (.goto (-20), 0, 0, [4]),
  (.iload_n 1, 1, 0, []),
  (.ireturn, 0, 0, [])]
def p151 : List Nat := [0, 1, 2, 3, 4, 5, 6, 9, 12, 13, 14, 17, 18, 19, 20, 21, 24, 27, 28]
set_option maxRecDepth 100000 in
theorem ok151 : chk 151 p151 e151 = true := by decide +kernel
/-- PoloSeasonModel.sortLed()V -/
def e152 : List En := [
  (.iconst 0, 0, 0, []),
  (.istore_n 1, 1, 0, []),
  (.iload_n 1, 1, 0, []),
  (.aload_n 0, 0, 0, []),
  (.getfield 195, 35, 0, [8, 0]),
  (.if_icmp .ge 73, 0, 0, [50]),
  (.aload_n 0, 0, 0, []),
  (.getfield 46, 27, 0, [8, 0]),
  (.aload_n 0, 0, 0, []),
  (.getfield 55, 33, 0, [8, 0]),
  (.iload_n 1, 1, 0, []),
  (.iaload, 0, 0, []),
  (.iaload, 0, 0, []),
  (.aload_n 0, 0, 0, []),
  (.getfield 61, 36, 0, [8, 0]),
  (.iload_n 1, 1, 0, []),
  (.iaload, 0, 0, []),
  (.iadd, 0, 0, []),
  (.istore_n 2, 2, 0, []),
  (.iload_n 1, 1, 0, []),
  (.istore_n 3, 3, 0, []),
  (.iload_n 3, 3, 0, []),
  (.ifCond .le 35, 0, 0, [43]),
  (.aload_n 0, 0, 0, []),
  (.getfield 68, 39, 0, [8, 0]),
  (.iload_n 3, 3, 0, []),
  (.iconst 1, 0, 1, []),
  (.isub, 0, 0, []),
  (.iaload, 0, 0, []),
  (.iload_n 2, 2, 0, []),
  (.if_icmp .ge 23, 0, 0, [43]),
  (.aload_n 0, 0, 0, []),
  (.getfield 68, 39, 0, [8, 0]),
  (.iload_n 3, 3, 0, []),
  (.aload_n 0, 0, 0, []),
  (.getfield 68, 39, 0, [8, 0]),
  (.iload_n 3, 3, 0, []),
  (.iconst 1, 0, 1, []),
  (.isub, 0, 0, []),
  (.iaload, 0, 0, []),
  (.iastore, 0, 0, []),
  (.iinc 3 (-1), 3, (-1), []),
  (.goto (-33), 0, 0, [21]),
  (.aload_n 0, 0, 0, []),
  (.getfield 68, 39, 0, [8, 0]),
  (.iload_n 3, 3, 0, []),
  (.iload_n 2, 2, 0, []),
  (.iastore, 0, 0, []),
  (.iinc 1 1, 1, 1, []),
  (.goto (-75), 0, 0, [2]),
  (.return_, 0, 0, [])]
def p152 : List Nat := [0, 1, 2, 3, 4, 7, 10, 11, 14, 15, 18, 19, 20, 21, 22, 25, 26, 27, 28, 29, 30, 31, 32, 35, 36, 39, 40, 41, 42, 43, 44, 47, 48, 51, 52, 53, 56, 57, 58, 59, 60, 61, 64, 67, 68, 71, 72, 73, 74, 77, 80]
set_option maxRecDepth 100000 in
theorem ok152 : chk 152 p152 e152 = true := by decide +kernel
/-- PoloSeasonModel.compared()I -/
def e153 : List En := [
  (.iconst 0, 0, 0, []),
  (.istore_n 1, 1, 0, []),
  (.iload_n 1, 1, 0, []),
  (.aload_n 0, 0, 0, []),
  (.getfield 195, 35, 0, [8, 0]),
  (.if_icmp .ge 38, 0, 0, [27]),
  (.aload_n 0, 0, 0, []),
  (.getfield 68, 39, 0, [8, 0]),
  (.iload_n 1, 1, 0, []),
  (.iaload, 0, 0, []),
  (.aload_n 0, 0, 0, []),
  (.getfield 71, 40, 0, [8, 0]),
  (.iload_n 1, 1, 0, []),
  (.iaload, 0, 0, []),
  (.if_icmp .eq 17, 0, 0, [25]),
  (.aload_n 0, 0, 0, []),
  (.getfield 68, 39, 0, [8, 0]),
  (.iload_n 1, 1, 0, []),
  (.iaload, 0, 0, []),
  (.aload_n 0, 0, 0, []),
  (.getfield 71, 40, 0, [8, 0]),
  (.iload_n 1, 1, 0, []),
  (.iaload, 0, 0, []),
  (.isub, 0, 0, []),
  (.ireturn, 0, 0, []),
  (.iinc 1 1, 1, 1, []),
  (.goto (-40), 0, 0, [2]),
  (.iconst 0, 0, 0, []),
  (.ireturn, 0, 0, [])]
def p153 : List Nat := [0, 1, 2, 3, 4, 7, 10, 11, 14, 15, 16, 17, 20, 21, 22, 25, 26, 29, 30, 31, 32, 35, 36, 37, 38, 39, 42, 45, 46]
set_option maxRecDepth 100000 in
theorem ok153 : chk 153 p153 e153 = true := by decide +kernel
/-- PoloSeasonModel.keepsShare()V -/
def e154 : List En := [
  (.iconst 0, 0, 0, []),
  (.istore_n 1, 1, 0, []),
  (.iload_n 1, 1, 0, []),
  (.aload_n 0, 0, 0, []),
  (.getfield 195, 35, 0, [8, 0]),
  (.if_icmp .ge 29, 0, 0, [21]),
  (.aload_n 0, 0, 0, []),
  (.getfield 65, 37, 0, [8, 0]),
  (.bipush 8, 0, 8, []),
  (.aload_n 0, 0, 0, []),
  (.getfield 198, 38, 0, [8, 0]),
  (.imul, 0, 0, []),
  (.iload_n 1, 1, 0, []),
  (.iadd, 0, 0, []),
  (.aload_n 0, 0, 0, []),
  (.getfield 61, 36, 0, [8, 0]),
  (.iload_n 1, 1, 0, []),
  (.iaload, 0, 0, []),
  (.iastore, 0, 0, []),
  (.iinc 1 1, 1, 1, []),
  (.goto (-31), 0, 0, [2]),
  (.aload_n 0, 0, 0, []),
  (.dup, 0, 0, []),
  (.getfield 198, 38, 0, [8, 0]),
  (.iconst 1, 0, 1, []),
  (.iadd, 0, 0, []),
  (.putfield 198, 38, 0, [8, 0]),
  (.return_, 0, 0, [])]
def p154 : List Nat := [0, 1, 2, 3, 4, 7, 10, 11, 14, 16, 17, 20, 21, 22, 23, 24, 27, 28, 29, 30, 33, 36, 37, 38, 41, 42, 43, 46]
set_option maxRecDepth 100000 in
theorem ok154 : chk 154 p154 e154 = true := by decide +kernel
/-- PoloSeasonModel.sharesOf(I)V -/
def e155 : List En := [
  (.aload_n 0, 0, 0, []),
  (.iconst (-1), 0, (-1), []),
  (.putfield 201, 41, 0, [8, 0]),
  (.aload_n 0, 0, 0, []),
  (.iconst 0, 0, 0, []),
  (.putfield 198, 38, 0, [8, 0]),
  (.iconst 0, 0, 0, []),
  (.istore_n 2, 2, 0, []),
  (.iload_n 2, 2, 0, []),
  (.aload_n 0, 0, 0, []),
  (.getfield 195, 35, 0, [8, 0]),
  (.if_icmp .ge 16, 0, 0, [19]),
  (.aload_n 0, 0, 0, []),
  (.getfield 61, 36, 0, [8, 0]),
  (.iload_n 2, 2, 0, []),
  (.iconst 0, 0, 0, []),
  (.iastore, 0, 0, []),
  (.iinc 2 1, 2, 1, []),
  (.goto (-18), 0, 0, [8]),
  (.iconst 1, 0, 1, []),
  (.istore_n 2, 2, 0, []),
  (.iload_n 2, 2, 0, []),
  (.ifCond .eq 233, 0, 0, [142]),
  (.aload_n 0, 0, 0, []),
  (.invokevirtual 204, 151, 0, [1, 0]),
  (.istore_n 3, 3, 0, []),
  (.iload_n 3, 3, 0, []),
  (.iload_n 1, 1, 0, []),
  (.if_icmp .gt 15, 0, 0, [35]),
  (.iload_n 3, 3, 0, []),
  (.aload_n 0, 0, 0, []),
  (.getfield 201, 41, 0, [8, 0]),
  (.if_icmp .lt 7, 0, 0, [35]),
  (.iconst 1, 0, 1, []),
  (.goto 4, 0, 0, [36]),
  (.iconst 0, 0, 0, []),
  (.istore 4, 4, 0, []),
  (.iconst 0, 0, 0, []),
  (.istore 5, 5, 0, []),
  (.iload 5, 5, 0, []),
  (.aload_n 0, 0, 0, []),
  (.getfield 195, 35, 0, [8, 0]),
  (.if_icmp .ge 37, 0, 0, [60]),
  (.iload 4, 4, 0, []),
  (.ifCond .eq 23, 0, 0, [56]),
  (.iload_n 1, 1, 0, []),
  (.iconst 2, 0, 2, []),
  (.if_icmp .gt 14, 0, 0, [54]),
  (.aload_n 0, 0, 0, []),
  (.getfield 61, 36, 0, [8, 0]),
  (.iload 5, 5, 0, []),
  (.iaload, 0, 0, []),
  (.iconst 2, 0, 2, []),
  (.if_icmp .ge 7, 0, 0, [56]),
  (.iconst 1, 0, 1, []),
  (.goto 4, 0, 0, [57]),
  (.iconst 0, 0, 0, []),
  (.istore 4, 4, 0, []),
  (.iinc 5 1, 5, 1, []),
  (.goto (-40), 0, 0, [39]),
  (.iload 4, 4, 0, []),
  (.ifCond .eq 81, 0, 0, [101]),
  (.aload_n 0, 0, 0, []),
  (.invokevirtual 208, 152, 0, [1, 0]),
  (.iload_n 3, 3, 0, []),
  (.aload_n 0, 0, 0, []),
  (.getfield 201, 41, 0, [8, 0]),
  (.if_icmp .le 7, 0, 0, [70]),
  (.iconst (-1), 0, (-1), []),
  (.goto 7, 0, 0, [72]),
  (.aload_n 0, 0, 0, []),
  (.invokevirtual 211, 153, 0, [1, 0]),
  (.istore 5, 5, 0, []),
  (.iload 5, 5, 0, []),
  (.ifCond .ge 45, 0, 0, [97]),
  (.aload_n 0, 0, 0, []),
  (.iload_n 3, 3, 0, []),
  (.putfield 201, 41, 0, [8, 0]),
  (.aload_n 0, 0, 0, []),
  (.iconst 0, 0, 0, []),
  (.putfield 198, 38, 0, [8, 0]),
  (.iconst 0, 0, 0, []),
  (.istore 6, 6, 0, []),
  (.iload 6, 6, 0, []),
  (.aload_n 0, 0, 0, []),
  (.getfield 195, 35, 0, [8, 0]),
  (.if_icmp .ge 23, 0, 0, [97]),
  (.aload_n 0, 0, 0, []),
  (.getfield 71, 40, 0, [8, 0]),
  (.iload 6, 6, 0, []),
  (.aload_n 0, 0, 0, []),
  (.getfield 68, 39, 0, [8, 0]),
  (.iload 6, 6, 0, []),
  (.iaload, 0, 0, []),
  (.iastore, 0, 0, []),
  (.iinc 6 1, 6, 1, []),
  (.goto (-26), 0, 0, [83]),
  (.iload 5, 5, 0, []),
  (.ifCond .gt 7, 0, 0, [101]),
  (.aload_n 0, 0, 0, []),
  (.invokevirtual 214, 154, 0, [1, 0]),
  (.iconst 0, 0, 0, []),
  (.istore 5, 5, 0, []),
  (.iload 5, 5, 0, []),
  (.aload_n 0, 0, 0, []),
  (.getfield 195, 35, 0, [8, 0]),
  (.if_icmp .ge 34, 0, 0, [123]),
  (.aload_n 0, 0, 0, []),
  (.getfield 61, 36, 0, [8, 0]),
  (.iload 5, 5, 0, []),
  (.iaload, 0, 0, []),
  (.aload_n 0, 0, 0, []),
  (.getfield 58, 34, 0, [8, 0]),
  (.iload 5, 5, 0, []),
  (.iaload, 0, 0, []),
  (.if_icmp .ne 17, 0, 0, [123]),
  (.aload_n 0, 0, 0, []),
  (.getfield 61, 36, 0, [8, 0]),
  (.iload 5, 5, 0, []),
  (.iconst 0, 0, 0, []),
  (.iastore, 0, 0, []),
  (.iinc 5 1, 5, 1, []),
  (.goto (-37), 0, 0, [103]),
  (.iload 5, 5, 0, []),
  (.aload_n 0, 0, 0, []),
  (.getfield 195, 35, 0, [8, 0]),
  (.if_icmp .ge 7, 0, 0, [129]),
  (.iconst 1, 0, 1, []),
  (.goto 4, 0, 0, [130]),
  (.iconst 0, 0, 0, []),
  (.istore_n 2, 2, 0, []),
  (.iload_n 2, 2, 0, []),
  (.ifCond .eq 14, 0, 0, [141]),
  (.aload_n 0, 0, 0, []),
  (.getfield 61, 36, 0, [8, 0]),
  (.iload 5, 5, 0, []),
  (.dup2, 0, 0, []),
  (.iaload, 0, 0, []),
  (.iconst 1, 0, 1, []),
  (.iadd, 0, 0, []),
  (.iastore, 0, 0, []),
  (.goto (-231), 0, 0, [21]),
  (.return_, 0, 0, [])]
def p155 : List Nat := [0, 1, 2, 5, 6, 7, 10, 11, 12, 13, 14, 17, 20, 21, 24, 25, 26, 27, 30, 33, 34, 35, 36, 39, 40, 43, 44, 45, 46, 49, 50, 51, 54, 57, 58, 61, 62, 64, 65, 67, 69, 70, 73, 76, 78, 81, 82, 83, 86, 87, 90, 92, 93, 94, 97, 98, 101, 102, 104, 107, 110, 112, 115, 116, 119, 120, 121, 124, 127, 128, 131, 132, 135, 137, 139, 142, 143, 144, 147, 148, 149, 152, 153, 155, 157, 158, 161, 164, 165, 168, 170, 171, 174, 176, 177, 178, 181, 184, 186, 189, 190, 193, 194, 196, 198, 199, 202, 205, 206, 209, 211, 212, 213, 216, 218, 219, 222, 223, 226, 228, 229, 230, 233, 236, 238, 239, 242, 245, 246, 249, 250, 251, 252, 255, 256, 259, 261, 262, 263, 264, 265, 266, 269]
set_option maxRecDepth 100000 in
theorem ok155 : chk 155 p155 e155 = true := by decide +kernel
/-- PoloSeasonModel.mayGoOn()Z -/
def e156 : List En := [
  (.iconst 0, 0, 0, []),
  (.istore_n 1, 1, 0, []),
  (.iload_n 1, 1, 0, []),
  (.aload_n 0, 0, 0, []),
  (.getfield 198, 38, 0, [8, 0]),
  (.if_icmp .ge 63, 0, 0, [41]),
  (.iconst 1, 0, 1, []),
  (.istore_n 2, 2, 0, []),
  (.iconst 0, 0, 0, []),
  (.istore_n 3, 3, 0, []),
  (.iload_n 3, 3, 0, []),
  (.aload_n 0, 0, 0, []),
  (.getfield 195, 35, 0, [8, 0]),
  (.if_icmp .ge 39, 0, 0, [35]),
  (.iload_n 2, 2, 0, []),
  (.ifCond .eq 35, 0, 0, [35]),
  (.aload_n 0, 0, 0, []),
  (.getfield 77, 43, 0, [8, 0]),
  (.iload_n 3, 3, 0, []),
  (.iaload, 0, 0, []),
  (.aload_n 0, 0, 0, []),
  (.getfield 65, 37, 0, [8, 0]),
  (.bipush 8, 0, 8, []),
  (.iload_n 1, 1, 0, []),
  (.imul, 0, 0, []),
  (.iload_n 3, 3, 0, []),
  (.iadd, 0, 0, []),
  (.iaload, 0, 0, []),
  (.if_icmp .gt 7, 0, 0, [31]),
  (.iconst 1, 0, 1, []),
  (.goto 4, 0, 0, [32]),
  (.iconst 0, 0, 0, []),
  (.istore_n 2, 2, 0, []),
  (.iinc 3 1, 3, 1, []),
  (.goto (-41), 0, 0, [10]),
  (.iload_n 2, 2, 0, []),
  (.ifCond .eq 5, 0, 0, [39]),
  (.iconst 1, 0, 1, []),
  (.ireturn, 1, 0, []),
  (.iinc 1 1, 1, 1, []),
  (.goto (-65), 0, 0, [2]),
  (.iconst 0, 0, 0, []),
  (.ireturn, 1, 0, [])]
def p156 : List Nat := [0, 1, 2, 3, 4, 7, 10, 11, 12, 13, 14, 15, 16, 19, 22, 23, 26, 27, 30, 31, 32, 33, 36, 38, 39, 40, 41, 42, 43, 46, 47, 50, 51, 52, 55, 58, 59, 62, 63, 64, 67, 70, 71]
set_option maxRecDepth 100000 in
theorem ok156 : chk 156 p156 e156 = true := by decide +kernel
/-- PoloSeasonModel.tries(III)Z -/
def e157 : List En := [
  (.iload_n 3, 3, 0, []),
  (.iload_n 2, 2, 0, []),
  (.iadd, 0, 0, []),
  (.iload_n 1, 1, 0, []),
  (.isub, 0, 0, []),
  (.aload_n 0, 0, 0, []),
  (.getfield 201, 41, 0, [8, 0]),
  (.if_icmp .ge 5, 0, 0, [10]),
  (.iconst 0, 0, 0, []),
  (.ireturn, 1, 0, []),
  (.iload_n 1, 1, 0, []),
  (.iload_n 2, 2, 0, []),
  (.if_icmp .ne 5, 0, 0, [15]),
  (.iconst 1, 0, 1, []),
  (.ireturn, 1, 0, []),
  (.iconst 0, 0, 0, []),
  (.istore 4, 4, 0, []),
  (.iload 4, 4, 0, []),
  (.aload_n 0, 0, 0, []),
  (.getfield 195, 35, 0, [8, 0]),
  (.if_icmp .ge 82, 0, 0, [70]),
  (.iload_n 1, 1, 0, []),
  (.ifCond .le 19, 0, 0, [32]),
  (.aload_n 0, 0, 0, []),
  (.getfield 74, 42, 0, [8, 0]),
  (.iload_n 1, 1, 0, []),
  (.iconst 1, 0, 1, []),
  (.isub, 0, 0, []),
  (.iaload, 0, 0, []),
  (.iload 4, 4, 0, []),
  (.if_icmp .ne 6, 0, 0, [32]),
  (.goto 56, 0, 0, [68]),
  (.aload_n 0, 0, 0, []),
  (.getfield 77, 43, 0, [8, 0]),
  (.iload 4, 4, 0, []),
  (.dup2, 0, 0, []),
  (.iaload, 0, 0, []),
  (.iconst 1, 0, 1, []),
  (.iadd, 0, 0, []),
  (.iastore, 0, 0, []),
  (.aload_n 0, 0, 0, []),
  (.getfield 74, 42, 0, [8, 0]),
  (.iload_n 1, 1, 0, []),
  (.iload 4, 4, 0, []),
  (.iastore, 0, 0, []),
  (.aload_n 0, 0, 0, []),
  (.invokevirtual 217, 156, 0, [1, 0]),
  (.ifCond .eq 19, 0, 0, [60]),
  (.aload_n 0, 0, 0, []),
  (.iload_n 1, 1, 0, []),
  (.iconst 1, 0, 1, []),
  (.iadd, 0, 0, []),
  (.iload_n 2, 2, 0, []),
  (.iload_n 3, 3, 0, []),
  (.iconst 1, 0, 1, []),
  (.iadd, 0, 0, []),
  (.invokevirtual 221, 157, 0, [4, 0]),
  (.ifCond .eq 5, 0, 0, [60]),
  (.iconst 1, 0, 1, []),
  (.ireturn, 1, 0, []),
  (.aload_n 0, 0, 0, []),
  (.getfield 77, 43, 0, [8, 0]),
  (.iload 4, 4, 0, []),
  (.dup2, 0, 0, []),
  (.iaload, 0, 0, []),
  (.iconst 1, 0, 1, []),
  (.isub, 0, 0, []),
  (.iastore, 0, 0, []),
  (.iinc 4 1, 4, 1, []),
  (.goto (-85), 0, 0, [17]),
  (.aload_n 0, 0, 0, []),
  (.getfield 74, 42, 0, [8, 0]),
  (.iload_n 1, 1, 0, []),
  (.iconst (-1), 0, (-1), []),
  (.iastore, 0, 0, []),
  (.aload_n 0, 0, 0, []),
  (.iload_n 1, 1, 0, []),
  (.iconst 1, 0, 1, []),
  (.iadd, 0, 0, []),
  (.iload_n 2, 2, 0, []),
  (.iload_n 3, 3, 0, []),
  (.invokevirtual 221, 157, 0, [4, 0]),
  (.ireturn, 1, 0, [])]
def p157 : List Nat := [0, 1, 2, 3, 4, 5, 6, 9, 12, 13, 14, 15, 16, 19, 20, 21, 22, 24, 26, 27, 30, 33, 34, 37, 38, 41, 42, 43, 44, 45, 47, 50, 53, 54, 57, 59, 60, 61, 62, 63, 64, 65, 68, 69, 71, 72, 73, 76, 79, 80, 81, 82, 83, 84, 85, 86, 87, 90, 93, 94, 95, 96, 99, 101, 102, 103, 104, 105, 106, 109, 112, 113, 116, 117, 118, 119, 120, 121, 122, 123, 124, 125, 128]
set_option maxRecDepth 100000 in
theorem ok157 : chk 157 p157 e157 = true := by decide +kernel
/-- PoloSeasonModel.mounts(II)V -/
def e158 : List En := [
  (.aload_n 0, 0, 0, []),
  (.iconst 0, 0, 0, []),
  (.putfield 195, 35, 0, [8, 0]),
  (.iconst 0, 0, 0, []),
  (.istore_n 3, 3, 0, []),
  (.iload_n 3, 3, 0, []),
  (.aload_n 0, 0, 0, []),
  (.getfield 185, 30, 0, [8, 0]),
  (.if_icmp .ge 86, 0, 0, [56]),
  (.aload_n 0, 0, 0, []),
  (.getfield 43, 26, 0, [8, 0]),
  (.iload_n 3, 3, 0, []),
  (.iaload, 0, 0, []),
  (.iload_n 1, 1, 0, []),
  (.if_icmp .eq 6, 0, 0, [16]),
  (.goto 67, 0, 0, [54]),
  (.aload_n 0, 0, 0, []),
  (.getfield 55, 33, 0, [8, 0]),
  (.aload_n 0, 0, 0, []),
  (.getfield 195, 35, 0, [8, 0]),
  (.iload_n 3, 3, 0, []),
  (.iastore, 0, 0, []),
  (.aload_n 0, 0, 0, []),
  (.getfield 58, 34, 0, [8, 0]),
  (.aload_n 0, 0, 0, []),
  (.getfield 195, 35, 0, [8, 0]),
  (.aload_n 0, 0, 0, []),
  (.getfield 52, 29, 0, [8, 0]),
  (.iload_n 3, 3, 0, []),
  (.iaload, 0, 0, []),
  (.aload_n 0, 0, 0, []),
  (.getfield 192, 31, 0, [8, 0]),
  (.if_icmp .le 7, 0, 0, [35]),
  (.iconst 0, 0, 0, []),
  (.goto 11, 0, 0, [41]),
  (.iconst 2, 0, 2, []),
  (.aload_n 0, 0, 0, []),
  (.getfield 49, 28, 0, [8, 0]),
  (.iload_n 3, 3, 0, []),
  (.iaload, 0, 0, []),
  (.isub, 0, 0, []),
  (.iastore, 0, 0, []),
  (.aload_n 0, 0, 0, []),
  (.getfield 77, 43, 0, [8, 0]),
  (.aload_n 0, 0, 0, []),
  (.getfield 195, 35, 0, [8, 0]),
  (.iconst 0, 0, 0, []),
  (.iastore, 0, 0, []),
  (.aload_n 0, 0, 0, []),
  (.dup, 0, 0, []),
  (.getfield 195, 35, 0, [8, 0]),
  (.iconst 1, 0, 1, []),
  (.iadd, 0, 0, []),
  (.putfield 195, 35, 0, [8, 0]),
  (.iinc 3 1, 3, 1, []),
  (.goto (-88), 0, 0, [5]),
  (.aload_n 0, 0, 0, []),
  (.iload_n 2, 2, 0, []),
  (.invokevirtual 225, 155, 0, [2, 0]),
  (.aload_n 0, 0, 0, []),
  (.iconst 0, 0, 0, []),
  (.iload_n 2, 2, 0, []),
  (.iconst 0, 0, 0, []),
  (.invokevirtual 221, 157, 0, [4, 0]),
  (.istore_n 3, 3, 0, []),
  (.iconst 0, 0, 0, []),
  (.istore 4, 4, 0, []),
  (.iload 4, 4, 0, []),
  (.iload_n 2, 2, 0, []),
  (.if_icmp .ge 21, 0, 0, [79]),
  (.iload_n 3, 3, 0, []),
  (.ifCond .ne 17, 0, 0, [79]),
  (.aload_n 0, 0, 0, []),
  (.getfield 74, 42, 0, [8, 0]),
  (.iload 4, 4, 0, []),
  (.iconst (-1), 0, (-1), []),
  (.iastore, 0, 0, []),
  (.iinc 4 1, 4, 1, []),
  (.goto (-21), 0, 0, [67]),
  (.return_, 0, 0, [])]
def p158 : List Nat := [0, 1, 2, 5, 6, 7, 8, 9, 12, 15, 16, 19, 20, 21, 22, 25, 28, 29, 32, 33, 36, 37, 38, 39, 42, 43, 46, 47, 50, 51, 52, 53, 56, 59, 60, 63, 64, 65, 68, 69, 70, 71, 72, 73, 76, 77, 80, 81, 82, 83, 84, 87, 88, 89, 92, 95, 98, 99, 100, 103, 104, 105, 106, 107, 110, 111, 112, 114, 116, 117, 120, 121, 124, 125, 128, 130, 131, 132, 135, 138]
set_option maxRecDepth 100000 in
theorem ok158 : chk 158 p158 e158 = true := by decide +kernel
/-- PoloSeasonModel.rides(II)V -/
def e159 : List En := [
  (.iconst 0, 0, 0, []),
  (.istore_n 3, 3, 0, []),
  (.iload_n 3, 3, 0, []),
  (.bipush 8, 0, 8, []),
  (.if_icmp .ge 121, 0, 0, [74]),
  (.aload_n 0, 0, 0, []),
  (.aload_n 0, 0, 0, []),
  (.getfield 16, 4, 0, [8, 0]),
  (.iconst 4, 0, 4, []),
  (.iload_n 3, 3, 0, []),
  (.iconst 4, 0, 4, []),
  (.if_icmp .ge 7, 0, 0, [14]),
  (.iload_n 1, 1, 0, []),
  (.goto 4, 0, 0, [15]),
  (.iload_n 2, 2, 0, []),
  (.imul, 0, 0, []),
  (.iload_n 3, 3, 0, []),
  (.iconst 4, 0, 4, []),
  (.irem, 0, 0, []),
  (.iadd, 0, 0, []),
  (.iaload, 0, 0, []),
  (.aload_n 0, 0, 0, []),
  (.getfield 133, 9, 0, [8, 0]),
  (.invokevirtual 229, 158, 0, [3, 0]),
  (.iconst 0, 0, 0, []),
  (.istore 4, 4, 0, []),
  (.iload 4, 4, 0, []),
  (.aload_n 0, 0, 0, []),
  (.getfield 133, 9, 0, [8, 0]),
  (.if_icmp .ge 74, 0, 0, [72]),
  (.aload_n 0, 0, 0, []),
  (.getfield 74, 42, 0, [8, 0]),
  (.iload 4, 4, 0, []),
  (.iaload, 0, 0, []),
  (.ifCond .ge 16, 0, 0, [42]),
  (.aload_n 0, 0, 0, []),
  (.dup, 0, 0, []),
  (.getfield 232, 32, 0, [8, 0]),
  (.iconst 1, 0, 1, []),
  (.iadd, 0, 0, []),
  (.putfield 232, 32, 0, [8, 0]),
  (.goto 45, 0, 0, [70]),
  (.aload_n 0, 0, 0, []),
  (.getfield 46, 27, 0, [8, 0]),
  (.aload_n 0, 0, 0, []),
  (.getfield 55, 33, 0, [8, 0]),
  (.aload_n 0, 0, 0, []),
  (.getfield 74, 42, 0, [8, 0]),
  (.iload 4, 4, 0, []),
  (.iaload, 0, 0, []),
  (.iaload, 0, 0, []),
  (.dup2, 0, 0, []),
  (.iaload, 0, 0, []),
  (.iconst 1, 0, 1, []),
  (.iadd, 0, 0, []),
  (.iastore, 0, 0, []),
  (.aload_n 0, 0, 0, []),
  (.getfield 49, 28, 0, [8, 0]),
  (.aload_n 0, 0, 0, []),
  (.getfield 55, 33, 0, [8, 0]),
  (.aload_n 0, 0, 0, []),
  (.getfield 74, 42, 0, [8, 0]),
  (.iload 4, 4, 0, []),
  (.iaload, 0, 0, []),
  (.iaload, 0, 0, []),
  (.dup2, 0, 0, []),
  (.iaload, 0, 0, []),
  (.iconst 1, 0, 1, []),
  (.iadd, 0, 0, []),
  (.iastore, 0, 0, []),
  (.iinc 4 1, 4, 1, []),
  (.goto (-77), 0, 0, [26]),
  (.iinc 3 1, 3, 1, []),
  (.goto (-121), 0, 0, [2]),
  (.return_, 0, 0, [])]
def p159 : List Nat := [0, 1, 2, 3, 5, 8, 9, 10, 13, 14, 15, 16, 19, 20, 23, 24, 25, 26, 27, 28, 29, 30, 31, 34, 37, 38, 40, 42, 43, 46, 49, 50, 53, 55, 56, 59, 60, 61, 64, 65, 66, 69, 72, 73, 76, 77, 80, 81, 84, 86, 87, 88, 89, 90, 91, 92, 93, 94, 97, 98, 101, 102, 105, 107, 108, 109, 110, 111, 112, 113, 114, 117, 120, 123, 126]
set_option maxRecDepth 100000 in
theorem ok159 : chk 159 p159 e159 = true := by decide +kernel
/-- PoloSeasonModel.mount(III)I -/
def e160 : List En := [
  (.aload_n 0, 0, 0, []),
  (.iconst 0, 0, 0, []),
  (.putfield 95, 0, 0, [8, 0]),
  (.aload_n 0, 0, 0, []),
  (.aload_n 0, 0, 0, []),
  (.iload_n 1, 1, 0, []),
  (.invokevirtual 110, 124, 0, [2, 0]),
  (.ifCond .ne 7, 0, 0, [10]),
  (.iconst 1, 0, 1, []),
  (.goto 4, 0, 0, [11]),
  (.iconst 0, 0, 0, []),
  (.iconst 1, 0, 1, []),
  (.invokevirtual 106, 122, 0, [3, 0]),
  (.ifCond .ne 36, 0, 0, [32]),
  (.aload_n 0, 0, 0, []),
  (.iload_n 2, 2, 0, []),
  (.iconst 1, 0, 1, []),
  (.if_icmp .lt 18, 0, 0, [26]),
  (.iload_n 2, 2, 0, []),
  (.bipush 6, 0, 6, []),
  (.if_icmp .gt 12, 0, 0, [26]),
  (.iload_n 3, 3, 0, []),
  (.ifCond .lt 8, 0, 0, [26]),
  (.iload_n 3, 3, 0, []),
  (.iload_n 2, 2, 0, []),
  (.if_icmp .lt 7, 0, 0, [28]),
  (.iconst 1, 0, 1, []),
  (.goto 4, 0, 0, [29]),
  (.iconst 0, 0, 0, []),
  (.iconst 2, 0, 2, []),
  (.invokevirtual 106, 122, 0, [3, 0]),
  (.ifCond .eq 5, 0, 0, [34]),
  (.iconst 0, 0, 0, []),
  (.ireturn, 0, 0, []),
  (.aload_n 0, 0, 0, []),
  (.iload_n 1, 1, 0, []),
  (.iload_n 2, 2, 0, []),
  (.invokevirtual 229, 158, 0, [3, 0]),
  (.aload_n 0, 0, 0, []),
  (.getfield 74, 42, 0, [8, 0]),
  (.iload_n 3, 3, 0, []),
  (.iaload, 0, 0, []),
  (.ifCond .ge 7, 0, 0, [45]),
  (.iconst (-1), 0, (-1), []),
  (.goto 14, 0, 0, [52]),
  (.aload_n 0, 0, 0, []),
  (.getfield 55, 33, 0, [8, 0]),
  (.aload_n 0, 0, 0, []),
  (.getfield 74, 42, 0, [8, 0]),
  (.iload_n 3, 3, 0, []),
  (.iaload, 0, 0, []),
  (.iaload, 0, 0, []),
  (.ireturn, 0, 0, [])]
def p160 : List Nat := [0, 1, 2, 5, 6, 7, 8, 11, 14, 15, 18, 19, 20, 23, 26, 27, 28, 29, 32, 33, 35, 38, 39, 42, 43, 44, 47, 48, 51, 52, 53, 56, 59, 60, 61, 62, 63, 64, 67, 68, 71, 72, 73, 76, 77, 80, 81, 84, 85, 88, 89, 90, 91]
set_option maxRecDepth 100000 in
theorem ok160 : chk 160 p160 e160 = true := by decide +kernel
/-- PoloSeasonModel.afoot()I -/
def e161 : List En := [
  (.aload_n 0, 0, 0, []),
  (.iconst 0, 0, 0, []),
  (.putfield 95, 0, 0, [8, 0]),
  (.aload_n 0, 0, 0, []),
  (.getfield 232, 32, 0, [8, 0]),
  (.ireturn, 0, 0, [])]
def p161 : List Nat := [0, 1, 2, 5, 6, 9]
set_option maxRecDepth 100000 in
theorem ok161 : chk 161 p161 e161 = true := by decide +kernel
/-- PoloSeasonModel.isPlace(I)Z -/
def e162 : List En := [
  (.iload_n 0, 0, 0, []),
  (.sipush (-1000), 0, (-1000), []),
  (.if_icmp .lt 14, 0, 0, [8]),
  (.iload_n 0, 0, 0, []),
  (.sipush 1000, 0, 1000, []),
  (.if_icmp .gt 7, 0, 0, [8]),
  (.iconst 1, 0, 1, []),
  (.goto 4, 0, 0, [9]),
  (.iconst 0, 0, 0, []),
  (.ireturn, 1, 0, [])]
def p162 : List Nat := [0, 1, 4, 7, 8, 11, 14, 15, 18, 19]
set_option maxRecDepth 100000 in
theorem ok162 : chk 162 p162 e162 = true := by decide +kernel
/-- PoloSeasonModel.isLine(IIII)Z -/
def e163 : List En := [
  (.iload_n 0, 0, 0, []),
  (.invokestatic 235, 162, 0, [1, 0]),
  (.ifCond .eq 36, 0, 0, [18]),
  (.iload_n 1, 1, 0, []),
  (.invokestatic 235, 162, 0, [1, 0]),
  (.ifCond .eq 29, 0, 0, [18]),
  (.iload_n 2, 2, 0, []),
  (.invokestatic 235, 162, 0, [1, 0]),
  (.ifCond .eq 22, 0, 0, [18]),
  (.iload_n 3, 3, 0, []),
  (.invokestatic 235, 162, 0, [1, 0]),
  (.ifCond .eq 15, 0, 0, [18]),
  (.iload_n 2, 2, 0, []),
  (.ifCond .ne 7, 0, 0, [16]),
  (.iload_n 3, 3, 0, []),
  (.ifCond .eq 7, 0, 0, [18]),
  (.iconst 1, 0, 1, []),
  (.goto 4, 0, 0, [19]),
  (.iconst 0, 0, 0, []),
  (.ireturn, 1, 0, [])]
def p163 : List Nat := [0, 1, 4, 7, 8, 11, 14, 15, 18, 21, 22, 25, 28, 29, 32, 33, 36, 37, 40, 41]
set_option maxRecDepth 100000 in
theorem ok163 : chk 163 p163 e163 = true := by decide +kernel
/-- PoloSeasonModel.ball(IIII)V -/
def e164 : List En := [
  (.aload_n 0, 0, 0, []),
  (.iconst 0, 0, 0, []),
  (.putfield 95, 0, 0, [8, 0]),
  (.aload_n 0, 0, 0, []),
  (.iload_n 1, 1, 0, []),
  (.iload_n 2, 2, 0, []),
  (.iload_n 3, 3, 0, []),
  (.iload 4, 4, 0, []),
  (.invokestatic 238, 163, 0, [4, 0]),
  (.ifCond .ne 7, 0, 0, [12]),
  (.iconst 1, 0, 1, []),
  (.goto 4, 0, 0, [13]),
  (.iconst 0, 0, 0, []),
  (.iconst 1, 0, 1, []),
  (.invokevirtual 106, 122, 0, [3, 0]),
  (.ifCond .eq 4, 0, 0, [17]),
  (.return_, 0, 0, []),
  (.aload_n 0, 0, 0, []),
  (.iconst 1, 0, 1, []),
  (.putfield 242, 44, 0, [8, 1]),
  (.aload_n 0, 0, 0, []),
  (.iload_n 1, 1, 0, []),
  (.putfield 245, 45, 0, [8, 0]),
  (.aload_n 0, 0, 0, []),
  (.iload_n 2, 2, 0, []),
  (.putfield 248, 46, 0, [8, 0]),
  (.aload_n 0, 0, 0, []),
  (.iload_n 3, 3, 0, []),
  (.putfield 251, 47, 0, [8, 0]),
  (.aload_n 0, 0, 0, []),
  (.iload 4, 4, 0, []),
  (.putfield 254, 48, 0, [8, 0]),
  (.aload_n 0, 0, 0, []),
  (.iconst 0, 0, 0, []),
  (.putfield 257, 49, 0, [8, 0]),
  (.return_, 0, 0, [])]
def p164 : List Nat := [0, 1, 2, 5, 6, 7, 8, 9, 11, 14, 17, 18, 21, 22, 23, 26, 29, 30, 31, 32, 35, 36, 37, 40, 41, 42, 45, 46, 47, 50, 51, 53, 56, 57, 58, 61]
set_option maxRecDepth 100000 in
theorem ok164 : chk 164 p164 e164 = true := by decide +kernel
/-- PoloSeasonModel.rider(IIIII)I -/
def e165 : List En := [
  (.aload_n 0, 0, 0, []),
  (.iconst 0, 0, 0, []),
  (.putfield 95, 0, 0, [8, 0]),
  (.aload_n 0, 0, 0, []),
  (.iload_n 1, 1, 0, []),
  (.invokestatic 172, 139, 0, [1, 0]),
  (.ifCond .eq 15, 0, 0, [13]),
  (.iload_n 2, 2, 0, []),
  (.iload_n 3, 3, 0, []),
  (.iload 4, 4, 0, []),
  (.iload 5, 5, 0, []),
  (.invokestatic 238, 163, 0, [4, 0]),
  (.ifCond .ne 7, 0, 0, [15]),
  (.iconst 1, 0, 1, []),
  (.goto 4, 0, 0, [16]),
  (.iconst 0, 0, 0, []),
  (.iconst 1, 0, 1, []),
  (.invokevirtual 106, 122, 0, [3, 0]),
  (.ifCond .ne 32, 0, 0, [33]),
  (.aload_n 0, 0, 0, []),
  (.aload_n 0, 0, 0, []),
  (.getfield 242, 44, 0, [8, 1]),
  (.ifCond .eq 12, 0, 0, [27]),
  (.aload_n 0, 0, 0, []),
  (.getfield 257, 49, 0, [8, 0]),
  (.bipush 8, 0, 8, []),
  (.if_icmp .ne 7, 0, 0, [29]),
  (.iconst 1, 0, 1, []),
  (.goto 4, 0, 0, [30]),
  (.iconst 0, 0, 0, []),
  (.iconst 2, 0, 2, []),
  (.invokevirtual 106, 122, 0, [3, 0]),
  (.ifCond .eq 5, 0, 0, [35]),
  (.iconst 0, 0, 0, []),
  (.ireturn, 0, 0, []),
  (.aload_n 0, 0, 0, []),
  (.getfield 80, 50, 0, [8, 0]),
  (.aload_n 0, 0, 0, []),
  (.getfield 257, 49, 0, [8, 0]),
  (.iload_n 1, 1, 0, []),
  (.iastore, 0, 0, []),
  (.aload_n 0, 0, 0, []),
  (.getfield 83, 51, 0, [8, 0]),
  (.aload_n 0, 0, 0, []),
  (.getfield 257, 49, 0, [8, 0]),
  (.iload_n 2, 2, 0, []),
  (.iastore, 0, 0, []),
  (.aload_n 0, 0, 0, []),
  (.getfield 86, 52, 0, [8, 0]),
  (.aload_n 0, 0, 0, []),
  (.getfield 257, 49, 0, [8, 0]),
  (.iload_n 3, 3, 0, []),
  (.iastore, 0, 0, []),
  (.aload_n 0, 0, 0, []),
  (.getfield 89, 53, 0, [8, 0]),
  (.aload_n 0, 0, 0, []),
  (.getfield 257, 49, 0, [8, 0]),
  (.iload 4, 4, 0, []),
  (.iastore, 0, 0, []),
  (.aload_n 0, 0, 0, []),
  (.getfield 92, 54, 0, [8, 0]),
  (.aload_n 0, 0, 0, []),
  (.getfield 257, 49, 0, [8, 0]),
  (.iload 5, 5, 0, []),
  (.iastore, 0, 0, []),
  (.aload_n 0, 0, 0, []),
  (.dup, 0, 0, []),
  (.getfield 257, 49, 0, [8, 0]),
  (.iconst 1, 0, 1, []),
  (.iadd, 0, 0, []),
  (.putfield 257, 49, 0, [8, 0]),
  (.aload_n 0, 0, 0, []),
  (.getfield 257, 49, 0, [8, 0]),
  (.iconst 1, 0, 1, []),
  (.isub, 0, 0, []),
  (.ireturn, 0, 0, [])]
def p165 : List Nat := [0, 1, 2, 5, 6, 7, 10, 13, 14, 15, 17, 19, 22, 25, 26, 29, 30, 31, 34, 37, 38, 39, 42, 45, 46, 49, 51, 54, 55, 58, 59, 60, 63, 66, 67, 68, 69, 72, 73, 76, 77, 78, 79, 82, 83, 86, 87, 88, 89, 92, 93, 96, 97, 98, 99, 102, 103, 106, 108, 109, 110, 113, 114, 117, 119, 120, 121, 122, 125, 126, 127, 130, 131, 134, 135, 136]
set_option maxRecDepth 100000 in
theorem ok165 : chk 165 p165 e165 = true := by decide +kernel
/-- PoloSeasonModel.along(I)J -/
def e166 : List En := [
  (.aload_n 0, 0, 0, []),
  (.getfield 89, 53, 0, [8, 0]),
  (.iload_n 1, 1, 0, []),
  (.iaload, 0, 0, []),
  (.i2l, 0, 0, []),
  (.aload_n 0, 0, 0, []),
  (.getfield 251, 47, 0, [8, 0]),
  (.i2l, 0, 0, []),
  (.lmul, 0, 0, []),
  (.aload_n 0, 0, 0, []),
  (.getfield 92, 54, 0, [8, 0]),
  (.iload_n 1, 1, 0, []),
  (.iaload, 0, 0, []),
  (.i2l, 0, 0, []),
  (.aload_n 0, 0, 0, []),
  (.getfield 254, 48, 0, [8, 0]),
  (.i2l, 0, 0, []),
  (.lmul, 0, 0, []),
  (.ladd, 0, 0, []),
  (.lreturn, 0, 0, [])]
def p166 : List Nat := [0, 1, 4, 5, 6, 7, 8, 11, 12, 13, 14, 17, 18, 19, 20, 21, 24, 25, 26, 27]
set_option maxRecDepth 100000 in
theorem ok166 : chk 166 p166 e166 = true := by decide +kernel
/-- PoloSeasonModel.way(I)J -/
def e167 : List En := [
  (.aload_n 0, 0, 0, []),
  (.getfield 89, 53, 0, [8, 0]),
  (.iload_n 1, 1, 0, []),
  (.iaload, 0, 0, []),
  (.i2l, 0, 0, []),
  (.aload_n 0, 0, 0, []),
  (.getfield 89, 53, 0, [8, 0]),
  (.iload_n 1, 1, 0, []),
  (.iaload, 0, 0, []),
  (.i2l, 0, 0, []),
  (.lmul, 0, 0, []),
  (.aload_n 0, 0, 0, []),
  (.getfield 92, 54, 0, [8, 0]),
  (.iload_n 1, 1, 0, []),
  (.iaload, 0, 0, []),
  (.i2l, 0, 0, []),
  (.aload_n 0, 0, 0, []),
  (.getfield 92, 54, 0, [8, 0]),
  (.iload_n 1, 1, 0, []),
  (.iaload, 0, 0, []),
  (.i2l, 0, 0, []),
  (.lmul, 0, 0, []),
  (.ladd, 0, 0, []),
  (.lreturn, 0, 0, [])]
def p167 : List Nat := [0, 1, 4, 5, 6, 7, 8, 11, 12, 13, 14, 15, 16, 19, 20, 21, 22, 23, 26, 27, 28, 29, 30, 31]
set_option maxRecDepth 100000 in
theorem ok167 : chk 167 p167 e167 = true := by decide +kernel
/-- PoloSeasonModel.far(I)J -/
def e168 : List En := [
  (.aload_n 0, 0, 0, []),
  (.getfield 83, 51, 0, [8, 0]),
  (.iload_n 1, 1, 0, []),
  (.iaload, 0, 0, []),
  (.aload_n 0, 0, 0, []),
  (.getfield 245, 45, 0, [8, 0]),
  (.isub, 0, 0, []),
  (.i2l, 0, 0, []),
  (.lstore_n 2, 2, 0, []),
  (.aload_n 0, 0, 0, []),
  (.getfield 86, 52, 0, [8, 0]),
  (.iload_n 1, 1, 0, []),
  (.iaload, 0, 0, []),
  (.aload_n 0, 0, 0, []),
  (.getfield 248, 46, 0, [8, 0]),
  (.isub, 0, 0, []),
  (.i2l, 0, 0, []),
  (.lstore 4, 4, 0, []),
  (.lload_n 2, 2, 0, []),
  (.lload_n 2, 2, 0, []),
  (.lmul, 0, 0, []),
  (.lload 4, 4, 0, []),
  (.lload 4, 4, 0, []),
  (.lmul, 0, 0, []),
  (.ladd, 0, 0, []),
  (.lreturn, 0, 0, [])]
def p168 : List Nat := [0, 1, 4, 5, 6, 7, 10, 11, 12, 13, 14, 17, 18, 19, 20, 23, 24, 25, 27, 28, 29, 30, 32, 34, 35, 36]
set_option maxRecDepth 100000 in
theorem ok168 : chk 168 p168 e168 = true := by decide +kernel
/-- PoloSeasonModel.isAhead(II)Z -/
def e169 : List En := [
  (.aload_n 0, 0, 0, []),
  (.iload_n 1, 1, 0, []),
  (.invokevirtual 260, 166, 0, [2, 0]),
  (.aload_n 0, 0, 0, []),
  (.iload_n 1, 1, 0, []),
  (.invokevirtual 260, 166, 0, [2, 0]),
  (.lmul, 0, 0, []),
  (.aload_n 0, 0, 0, []),
  (.iload_n 2, 2, 0, []),
  (.invokevirtual 264, 167, 0, [2, 0]),
  (.lmul, 0, 0, []),
  (.lstore_n 3, 3, 0, []),
  (.aload_n 0, 0, 0, []),
  (.iload_n 2, 2, 0, []),
  (.invokevirtual 260, 166, 0, [2, 0]),
  (.aload_n 0, 0, 0, []),
  (.iload_n 2, 2, 0, []),
  (.invokevirtual 260, 166, 0, [2, 0]),
  (.lmul, 0, 0, []),
  (.aload_n 0, 0, 0, []),
  (.iload_n 1, 1, 0, []),
  (.invokevirtual 264, 167, 0, [2, 0]),
  (.lmul, 0, 0, []),
  (.lstore 5, 5, 0, []),
  (.lload_n 3, 3, 0, []),
  (.lload 5, 5, 0, []),
  (.lcmp, 0, 0, []),
  (.ifCond .eq 18, 0, 0, [36]),
  (.lload_n 3, 3, 0, []),
  (.lload 5, 5, 0, []),
  (.lcmp, 0, 0, []),
  (.ifCond .le 7, 0, 0, [34]),
  (.iconst 1, 0, 1, []),
  (.goto 26, 0, 0, [47]),
  (.iconst 0, 0, 0, []),
  (.goto 22, 0, 0, [47]),
  (.aload_n 0, 0, 0, []),
  (.iload_n 1, 1, 0, []),
  (.invokevirtual 267, 168, 0, [2, 0]),
  (.aload_n 0, 0, 0, []),
  (.iload_n 2, 2, 0, []),
  (.invokevirtual 267, 168, 0, [2, 0]),
  (.lcmp, 0, 0, []),
  (.ifCond .ge 7, 0, 0, [46]),
  (.iconst 1, 0, 1, []),
  (.goto 4, 0, 0, [47]),
  (.iconst 0, 0, 0, []),
  (.ireturn, 1, 0, [])]
def p169 : List Nat := [0, 1, 2, 5, 6, 7, 10, 11, 12, 13, 16, 17, 18, 19, 20, 23, 24, 25, 28, 29, 30, 31, 34, 35, 37, 38, 40, 41, 44, 45, 47, 48, 51, 52, 55, 56, 59, 60, 61, 64, 65, 66, 69, 70, 73, 74, 77, 78]
set_option maxRecDepth 100000 in
theorem ok169 : chk 169 p169 e169 = true := by decide +kernel
/-- PoloSeasonModel.rightOf()I -/
def e170 : List En := [
  (.iconst (-1), 0, (-1), []),
  (.istore_n 1, 1, 0, []),
  (.iconst 0, 0, 0, []),
  (.istore_n 2, 2, 0, []),
  (.iload_n 2, 2, 0, []),
  (.aload_n 0, 0, 0, []),
  (.getfield 257, 49, 0, [8, 0]),
  (.if_icmp .ge 34, 0, 0, [25]),
  (.aload_n 0, 0, 0, []),
  (.iload_n 2, 2, 0, []),
  (.invokevirtual 260, 166, 0, [2, 0]),
  (.lconst 0, 0, 0, []),
  (.lcmp, 0, 0, []),
  (.ifCond .le 18, 0, 0, [23]),
  (.iload_n 1, 1, 0, []),
  (.ifCond .lt 12, 0, 0, [21]),
  (.aload_n 0, 0, 0, []),
  (.iload_n 2, 2, 0, []),
  (.iload_n 1, 1, 0, []),
  (.invokevirtual 270, 169, 0, [3, 0]),
  (.ifCond .eq 5, 0, 0, [23]),
  (.iload_n 2, 2, 0, []),
  (.istore_n 1, 1, 0, []),
  (.iinc 2 1, 2, 1, []),
  (.goto (-36), 0, 0, [4]),
  (.iload_n 1, 1, 0, []),
  (.ireturn, 0, 0, [])]
def p170 : List Nat := [0, 1, 2, 3, 4, 5, 6, 9, 12, 13, 14, 17, 18, 19, 22, 23, 26, 27, 28, 29, 32, 35, 36, 37, 40, 43, 44]
set_option maxRecDepth 100000 in
theorem ok170 : chk 170 p170 e170 = true := by decide +kernel
/-- PoloSeasonModel.right()I -/
def e171 : List En := [
  (.aload_n 0, 0, 0, []),
  (.iconst 0, 0, 0, []),
  (.putfield 95, 0, 0, [8, 0]),
  (.aload_n 0, 0, 0, []),
  (.invokevirtual 274, 170, 0, [1, 0]),
  (.ireturn, 0, 0, [])]
def p171 : List Nat := [0, 1, 2, 5, 6, 9]
set_option maxRecDepth 100000 in
theorem ok171 : chk 171 p171 e171 = true := by decide +kernel
/-- PoloSeasonModel.turn(JJJJJJ)I -/
def e172 : List En := [
  (.lload 4, 4, 0, []),
  (.lload_n 0, 0, 0, []),
  (.lsub, 0, 0, []),
  (.lload 10, 10, 0, []),
  (.lload_n 2, 2, 0, []),
  (.lsub, 0, 0, []),
  (.lmul, 0, 0, []),
  (.lload 6, 6, 0, []),
  (.lload_n 2, 2, 0, []),
  (.lsub, 0, 0, []),
  (.lload 8, 8, 0, []),
  (.lload_n 0, 0, 0, []),
  (.lsub, 0, 0, []),
  (.lmul, 0, 0, []),
  (.lsub, 0, 0, []),
  (.lstore 12, 12, 0, []),
  (.lload 12, 12, 0, []),
  (.lconst 0, 0, 0, []),
  (.lcmp, 0, 0, []),
  (.ifCond .le 7, 0, 0, [22]),
  (.iconst 1, 0, 1, []),
  (.goto 15, 0, 0, [29]),
  (.lload 12, 12, 0, []),
  (.lconst 0, 0, 0, []),
  (.lcmp, 0, 0, []),
  (.ifCond .ge 7, 0, 0, [28]),
  (.iconst (-1), 0, (-1), []),
  (.goto 4, 0, 0, [29]),
  (.iconst 0, 0, 0, []),
  (.ireturn, 0, 0, [])]
def p172 : List Nat := [0, 2, 3, 4, 6, 7, 8, 9, 11, 12, 13, 15, 16, 17, 18, 19, 21, 23, 24, 25, 28, 29, 32, 34, 35, 36, 39, 40, 43, 44]
set_option maxRecDepth 100000 in
theorem ok172 : chk 172 p172 e172 = true := by decide +kernel
/-- PoloSeasonModel.isOn(JJJJJJ)Z -/
def e173 : List En := [
  (.lload_n 0, 0, 0, []),
  (.lload 4, 4, 0, []),
  (.lcmp, 0, 0, []),
  (.ifCond .ge 26, 0, 0, [16]),
  (.lload 8, 8, 0, []),
  (.lload_n 0, 0, 0, []),
  (.lcmp, 0, 0, []),
  (.ifCond .lt 15, 0, 0, [14]),
  (.lload 8, 8, 0, []),
  (.lload 4, 4, 0, []),
  (.lcmp, 0, 0, []),
  (.ifCond .gt 7, 0, 0, [14]),
  (.iconst 1, 0, 1, []),
  (.goto 27, 0, 0, [27]),
  (.iconst 0, 0, 0, []),
  (.goto 23, 0, 0, [27]),
  (.lload 8, 8, 0, []),
  (.lload 4, 4, 0, []),
  (.lcmp, 0, 0, []),
  (.ifCond .lt 14, 0, 0, [26]),
  (.lload 8, 8, 0, []),
  (.lload_n 0, 0, 0, []),
  (.lcmp, 0, 0, []),
  (.ifCond .gt 7, 0, 0, [26]),
  (.iconst 1, 0, 1, []),
  (.goto 4, 0, 0, [27]),
  (.iconst 0, 0, 0, []),
  (.istore 12, 12, 0, []),
  (.lload_n 2, 2, 0, []),
  (.lload 6, 6, 0, []),
  (.lcmp, 0, 0, []),
  (.ifCond .ge 26, 0, 0, [44]),
  (.lload 10, 10, 0, []),
  (.lload_n 2, 2, 0, []),
  (.lcmp, 0, 0, []),
  (.ifCond .lt 15, 0, 0, [42]),
  (.lload 10, 10, 0, []),
  (.lload 6, 6, 0, []),
  (.lcmp, 0, 0, []),
  (.ifCond .gt 7, 0, 0, [42]),
  (.iconst 1, 0, 1, []),
  (.goto 27, 0, 0, [55]),
  (.iconst 0, 0, 0, []),
  (.goto 23, 0, 0, [55]),
  (.lload 10, 10, 0, []),
  (.lload 6, 6, 0, []),
  (.lcmp, 0, 0, []),
  (.ifCond .lt 14, 0, 0, [54]),
  (.lload 10, 10, 0, []),
  (.lload_n 2, 2, 0, []),
  (.lcmp, 0, 0, []),
  (.ifCond .gt 7, 0, 0, [54]),
  (.iconst 1, 0, 1, []),
  (.goto 4, 0, 0, [55]),
  (.iconst 0, 0, 0, []),
  (.istore 13, 13, 0, []),
  (.iload 12, 12, 0, []),
  (.ifCond .eq 12, 0, 0, [62]),
  (.iload 13, 13, 0, []),
  (.ifCond .eq 7, 0, 0, [62]),
  (.iconst 1, 0, 1, []),
  (.goto 4, 0, 0, [63]),
  (.iconst 0, 0, 0, []),
  (.ireturn, 1, 0, [])]
def p173 : List Nat := [0, 1, 3, 4, 7, 9, 10, 11, 14, 16, 18, 19, 22, 23, 26, 27, 30, 32, 34, 35, 38, 40, 41, 42, 45, 46, 49, 50, 52, 53, 55, 56, 59, 61, 62, 63, 66, 68, 70, 71, 74, 75, 78, 79, 82, 84, 86, 87, 90, 92, 93, 94, 97, 98, 101, 102, 104, 106, 109, 111, 114, 115, 118, 119]
set_option maxRecDepth 100000 in
theorem ok173 : chk 173 p173 e173 = true := by decide +kernel
/-- PoloSeasonModel.meets(II)Z -/
def e174 : List En := [
  (.aload_n 0, 0, 0, []),
  (.getfield 83, 51, 0, [8, 0]),
  (.iload_n 1, 1, 0, []),
  (.iaload, 0, 0, []),
  (.i2l, 0, 0, []),
  (.lstore_n 3, 3, 0, []),
  (.aload_n 0, 0, 0, []),
  (.getfield 86, 52, 0, [8, 0]),
  (.iload_n 1, 1, 0, []),
  (.iaload, 0, 0, []),
  (.i2l, 0, 0, []),
  (.lstore 5, 5, 0, []),
  (.lload_n 3, 3, 0, []),
  (.aload_n 0, 0, 0, []),
  (.getfield 89, 53, 0, [8, 0]),
  (.iload_n 1, 1, 0, []),
  (.iaload, 0, 0, []),
  (.i2l, 0, 0, []),
  (.ladd, 0, 0, []),
  (.lstore 7, 7, 0, []),
  (.lload 5, 5, 0, []),
  (.aload_n 0, 0, 0, []),
  (.getfield 92, 54, 0, [8, 0]),
  (.iload_n 1, 1, 0, []),
  (.iaload, 0, 0, []),
  (.i2l, 0, 0, []),
  (.ladd, 0, 0, []),
  (.lstore 9, 9, 0, []),
  (.aload_n 0, 0, 0, []),
  (.getfield 83, 51, 0, [8, 0]),
  (.iload_n 2, 2, 0, []),
  (.iaload, 0, 0, []),
  (.i2l, 0, 0, []),
  (.lstore 11, 11, 0, []),
  (.aload_n 0, 0, 0, []),
  (.getfield 86, 52, 0, [8, 0]),
  (.iload_n 2, 2, 0, []),
  (.iaload, 0, 0, []),
  (.i2l, 0, 0, []),
  (.lstore 13, 13, 0, []),
  (.lload 11, 11, 0, []),
  (.aload_n 0, 0, 0, []),
  (.getfield 89, 53, 0, [8, 0]),
  (.iload_n 2, 2, 0, []),
  (.iaload, 0, 0, []),
  (.i2l, 0, 0, []),
  (.ladd, 0, 0, []),
  (.lstore 15, 15, 0, []),
  (.lload 13, 13, 0, []),
  (.aload_n 0, 0, 0, []),
  (.getfield 92, 54, 0, [8, 0]),
  (.iload_n 2, 2, 0, []),
  (.iaload, 0, 0, []),
  (.i2l, 0, 0, []),
  (.ladd, 0, 0, []),
  (.lstore 17, 17, 0, []),
  (.lload_n 3, 3, 0, []),
  (.lload 5, 5, 0, []),
  (.lload 7, 7, 0, []),
  (.lload 9, 9, 0, []),
  (.lload 11, 11, 0, []),
  (.lload 13, 13, 0, []),
  (.invokestatic 277, 172, 0, [6, 0]),
  (.istore 19, 19, 0, []),
  (.lload_n 3, 3, 0, []),
  (.lload 5, 5, 0, []),
  (.lload 7, 7, 0, []),
  (.lload 9, 9, 0, []),
  (.lload 15, 15, 0, []),
  (.lload 17, 17, 0, []),
  (.invokestatic 277, 172, 0, [6, 0]),
  (.istore 20, 20, 0, []),
  (.lload 11, 11, 0, []),
  (.lload 13, 13, 0, []),
  (.lload 15, 15, 0, []),
  (.lload 17, 17, 0, []),
  (.lload_n 3, 3, 0, []),
  (.lload 5, 5, 0, []),
  (.invokestatic 277, 172, 0, [6, 0]),
  (.istore 21, 21, 0, []),
  (.lload 11, 11, 0, []),
  (.lload 13, 13, 0, []),
  (.lload 15, 15, 0, []),
  (.lload 17, 17, 0, []),
  (.lload 7, 7, 0, []),
  (.lload 9, 9, 0, []),
  (.invokestatic 277, 172, 0, [6, 0]),
  (.istore 22, 22, 0, []),
  (.iload 19, 19, 0, []),
  (.ifCond .ne 20, 0, 0, [98]),
  (.lload_n 3, 3, 0, []),
  (.lload 5, 5, 0, []),
  (.lload 7, 7, 0, []),
  (.lload 9, 9, 0, []),
  (.lload 11, 11, 0, []),
  (.lload 13, 13, 0, []),
  (.invokestatic 281, 173, 0, [6, 0]),
  (.ifCond .ne 25, 0, 0, [108]),
  (.iload 20, 20, 0, []),
  (.ifCond .ne 22, 0, 0, [110]),
  (.lload_n 3, 3, 0, []),
  (.lload 5, 5, 0, []),
  (.lload 7, 7, 0, []),
  (.lload 9, 9, 0, []),
  (.lload 15, 15, 0, []),
  (.lload 17, 17, 0, []),
  (.invokestatic 281, 173, 0, [6, 0]),
  (.ifCond .eq 5, 0, 0, [110]),
  (.iconst 1, 0, 1, []),
  (.ireturn, 1, 0, []),
  (.iload 21, 21, 0, []),
  (.ifCond .ne 20, 0, 0, [120]),
  (.lload 11, 11, 0, []),
  (.lload 13, 13, 0, []),
  (.lload 15, 15, 0, []),
  (.lload 17, 17, 0, []),
  (.lload_n 3, 3, 0, []),
  (.lload 5, 5, 0, []),
  (.invokestatic 281, 173, 0, [6, 0]),
  (.ifCond .ne 26, 0, 0, [130]),
  (.iload 22, 22, 0, []),
  (.ifCond .ne 23, 0, 0, [132]),
  (.lload 11, 11, 0, []),
  (.lload 13, 13, 0, []),
  (.lload 15, 15, 0, []),
  (.lload 17, 17, 0, []),
  (.lload 7, 7, 0, []),
  (.lload 9, 9, 0, []),
  (.invokestatic 281, 173, 0, [6, 0]),
  (.ifCond .eq 5, 0, 0, [132]),
  (.iconst 1, 0, 1, []),
  (.ireturn, 1, 0, []),
  (.iload 21, 21, 0, []),
  (.iload 22, 22, 0, []),
  (.imul, 0, 0, []),
  (.ifCond .ge 15, 0, 0, [142]),
  (.iload 19, 19, 0, []),
  (.iload 20, 20, 0, []),
  (.imul, 0, 0, []),
  (.ifCond .ge 7, 0, 0, [142]),
  (.iconst 1, 0, 1, []),
  (.goto 4, 0, 0, [143]),
  (.iconst 0, 0, 0, []),
  (.ireturn, 1, 0, [])]
def p174 : List Nat := [0, 1, 4, 5, 6, 7, 8, 9, 12, 13, 14, 15, 17, 18, 19, 22, 23, 24, 25, 26, 28, 30, 31, 34, 35, 36, 37, 38, 40, 41, 44, 45, 46, 47, 49, 50, 53, 54, 55, 56, 58, 60, 61, 64, 65, 66, 67, 68, 70, 72, 73, 76, 77, 78, 79, 80, 82, 83, 85, 87, 89, 91, 93, 96, 98, 99, 101, 103, 105, 107, 109, 112, 114, 116, 118, 120, 122, 123, 125, 128, 130, 132, 134, 136, 138, 140, 142, 145, 147, 149, 152, 153, 155, 157, 159, 161, 163, 166, 169, 171, 174, 175, 177, 179, 181, 183, 185, 188, 191, 192, 193, 195, 198, 200, 202, 204, 206, 207, 209, 212, 215, 217, 220, 222, 224, 226, 228, 230, 232, 235, 238, 239, 240, 242, 244, 245, 248, 250, 252, 253, 256, 257, 260, 261]
set_option maxRecDepth 100000 in
theorem ok174 : chk 174 p174 e174 = true := by decide +kernel
/-- PoloSeasonModel.foul(I)I -/
def e175 : List En := [
  (.aload_n 0, 0, 0, []),
  (.iconst 0, 0, 0, []),
  (.putfield 95, 0, 0, [8, 0]),
  (.aload_n 0, 0, 0, []),
  (.invokevirtual 274, 170, 0, [1, 0]),
  (.istore_n 2, 2, 0, []),
  (.iload_n 1, 1, 0, []),
  (.istore_n 3, 3, 0, []),
  (.iconst 0, 0, 0, []),
  (.istore 4, 4, 0, []),
  (.iload 4, 4, 0, []),
  (.aload_n 0, 0, 0, []),
  (.getfield 257, 49, 0, [8, 0]),
  (.if_icmp .ge 56, 0, 0, [40]),
  (.iload_n 2, 2, 0, []),
  (.ifCond .lt 52, 0, 0, [40]),
  (.iload_n 1, 1, 0, []),
  (.ifCond .lt 48, 0, 0, [40]),
  (.aload_n 0, 0, 0, []),
  (.getfield 80, 50, 0, [8, 0]),
  (.iload 4, 4, 0, []),
  (.iaload, 0, 0, []),
  (.aload_n 0, 0, 0, []),
  (.getfield 80, 50, 0, [8, 0]),
  (.iload_n 2, 2, 0, []),
  (.iaload, 0, 0, []),
  (.if_icmp .eq 26, 0, 0, [38]),
  (.aload_n 0, 0, 0, []),
  (.iload_n 2, 2, 0, []),
  (.iload 4, 4, 0, []),
  (.invokevirtual 285, 174, 0, [3, 0]),
  (.ifCond .ne 6, 0, 0, [33]),
  (.goto 13, 0, 0, [38]),
  (.iload_n 3, 3, 0, []),
  (.ifCond .ne 6, 0, 0, [37]),
  (.iload 4, 4, 0, []),
  (.ireturn, 0, 0, []),
  (.iinc 3 (-1), 3, (-1), []),
  (.iinc 4 1, 4, 1, []),
  (.goto (-59), 0, 0, [10]),
  (.iconst (-1), 0, (-1), []),
  (.ireturn, 0, 0, [])]
def p175 : List Nat := [0, 1, 2, 5, 6, 9, 10, 11, 12, 13, 15, 17, 18, 21, 24, 25, 28, 29, 32, 33, 36, 38, 39, 40, 43, 44, 45, 48, 49, 50, 52, 55, 58, 61, 62, 65, 67, 68, 71, 74, 77, 78]
set_option maxRecDepth 100000 in
theorem ok175 : chk 175 p175 e175 = true := by decide +kernel
/-- PoloSeasonModel.count(I)I -/
def e176 : List En := [
  (.aload_n 0, 0, 0, []),
  (.iconst 0, 0, 0, []),
  (.putfield 95, 0, 0, [8, 0]),
  (.iload_n 1, 1, 0, []),
  (.tableswitch 95 0 8 #[50, 55, 60, 65, 70, 75, 80, 85, 90], 0, 0, [32, 5, 8, 11, 14, 17, 20, 23, 26, 29]),
  (.aload_n 0, 0, 0, []),
  (.getfield 99, 3, 0, [8, 0]),
  (.ireturn, 0, 0, []),
  (.aload_n 0, 0, 0, []),
  (.getfield 113, 5, 0, [8, 0]),
  (.ireturn, 0, 0, []),
  (.aload_n 0, 0, 0, []),
  (.getfield 185, 30, 0, [8, 0]),
  (.ireturn, 0, 0, []),
  (.aload_n 0, 0, 0, []),
  (.getfield 136, 13, 0, [8, 0]),
  (.ireturn, 0, 0, []),
  (.aload_n 0, 0, 0, []),
  (.getfield 142, 11, 0, [8, 0]),
  (.ireturn, 0, 0, []),
  (.aload_n 0, 0, 0, []),
  (.getfield 139, 10, 0, [8, 0]),
  (.ireturn, 0, 0, []),
  (.aload_n 0, 0, 0, []),
  (.getfield 192, 31, 0, [8, 0]),
  (.ireturn, 0, 0, []),
  (.aload_n 0, 0, 0, []),
  (.getfield 157, 15, 0, [8, 0]),
  (.ireturn, 0, 0, []),
  (.aload_n 0, 0, 0, []),
  (.getfield 257, 49, 0, [8, 0]),
  (.ireturn, 0, 0, []),
  (.iconst (-1), 0, (-1), []),
  (.ireturn, 0, 0, [])]
def p176 : List Nat := [0, 1, 2, 5, 6, 56, 57, 60, 61, 62, 65, 66, 67, 70, 71, 72, 75, 76, 77, 80, 81, 82, 85, 86, 87, 90, 91, 92, 95, 96, 97, 100, 101, 102]
set_option maxRecDepth 100000 in
theorem ok176 : chk 176 p176 e176 = true := by decide +kernel
end
section
/-- PoloSeasonLaw.player(LPoloSeason;I[J)I -/
def e179 : List En := [
  (.aload_n 2, 2, 0, []),
  (.iconst 0, 0, 0, []),
  (.aload_n 0, 0, 0, []),
  (.iload_n 1, 1, 0, []),
  (.invokevirtual 7, 85, 0, [2, 0]),
  (.i2l, 0, 0, []),
  (.lastore, 0, 0, []),
  (.goto 9, 0, 0, [14]),
  (.astore_n 3, 3, 0, []),
  (.iconst 1, 0, 1, []),
  (.ireturn, 0, 0, []),
  (.astore_n 3, 3, 0, []),
  (.iconst 2, 0, 2, []),
  (.ireturn, 0, 0, []),
  (.iconst 0, 0, 0, []),
  (.ireturn, 0, 0, [])]
def p179 : List Nat := [0, 1, 2, 3, 4, 7, 8, 9, 12, 13, 14, 15, 16, 17, 18, 19]
set_option maxRecDepth 100000 in
theorem ok179 : chk 179 p179 e179 = true := by decide +kernel
/-- PoloSeasonLaw.rate(LPoloSeason;II[J)I -/
def e180 : List En := [
  (.aload_n 3, 3, 0, []),
  (.iconst 0, 0, 0, []),
  (.aload_n 0, 0, 0, []),
  (.iload_n 1, 1, 0, []),
  (.iload_n 2, 2, 0, []),
  (.invokevirtual 17, 86, 0, [3, 0]),
  (.i2l, 0, 0, []),
  (.lastore, 0, 0, []),
  (.goto 11, 0, 0, [15]),
  (.astore 4, 4, 0, []),
  (.iconst 1, 0, 1, []),
  (.ireturn, 0, 0, []),
  (.astore 4, 4, 0, []),
  (.iconst 2, 0, 2, []),
  (.ireturn, 0, 0, []),
  (.iconst 0, 0, 0, []),
  (.ireturn, 0, 0, [])]
def p180 : List Nat := [0, 1, 2, 3, 4, 5, 8, 9, 10, 13, 15, 16, 17, 19, 20, 21, 22]
set_option maxRecDepth 100000 in
theorem ok180 : chk 180 p180 e180 = true := by decide +kernel
/-- PoloSeasonLaw.team(LPoloSeason;IIII[J)I -/
def e181 : List En := [
  (.aload 5, 5, 0, []),
  (.iconst 0, 0, 0, []),
  (.aload_n 0, 0, 0, []),
  (.iload_n 1, 1, 0, []),
  (.iload_n 2, 2, 0, []),
  (.iload_n 3, 3, 0, []),
  (.iload 4, 4, 0, []),
  (.invokevirtual 23, 87, 0, [5, 0]),
  (.i2l, 0, 0, []),
  (.lastore, 0, 0, []),
  (.goto 11, 0, 0, [17]),
  (.astore 6, 6, 0, []),
  (.iconst 1, 0, 1, []),
  (.ireturn, 0, 0, []),
  (.astore 6, 6, 0, []),
  (.iconst 2, 0, 2, []),
  (.ireturn, 0, 0, []),
  (.iconst 0, 0, 0, []),
  (.ireturn, 0, 0, [])]
def p181 : List Nat := [0, 2, 3, 4, 5, 6, 7, 9, 12, 13, 14, 17, 19, 20, 21, 23, 24, 25, 26]
set_option maxRecDepth 100000 in
theorem ok181 : chk 181 p181 e181 = true := by decide +kernel
/-- PoloSeasonLaw.strength(LPoloSeason;I[J)I -/
def e182 : List En := [
  (.aload_n 2, 2, 0, []),
  (.iconst 0, 0, 0, []),
  (.aload_n 0, 0, 0, []),
  (.iload_n 1, 1, 0, []),
  (.invokevirtual 27, 88, 0, [2, 0]),
  (.i2l, 0, 0, []),
  (.lastore, 0, 0, []),
  (.goto 6, 0, 0, [11]),
  (.astore_n 3, 3, 0, []),
  (.iconst 1, 0, 1, []),
  (.ireturn, 0, 0, []),
  (.iconst 0, 0, 0, []),
  (.ireturn, 0, 0, [])]
def p182 : List Nat := [0, 1, 2, 3, 4, 7, 8, 9, 12, 13, 14, 15, 16]
set_option maxRecDepth 100000 in
theorem ok182 : chk 182 p182 e182 = true := by decide +kernel
/-- PoloSeasonLaw.cup(LPoloSeason;II)I -/
def e183 : List En := [
  (.aload_n 0, 0, 0, []),
  (.iload_n 1, 1, 0, []),
  (.iload_n 2, 2, 0, []),
  (.invokevirtual 30, 89, 0, [3, 0]),
  (.goto 6, 0, 0, [8]),
  (.astore_n 3, 3, 0, []),
  (.iconst 1, 0, 1, []),
  (.ireturn, 0, 0, []),
  (.iconst 0, 0, 0, []),
  (.ireturn, 0, 0, [])]
def p183 : List Nat := [0, 1, 2, 3, 6, 9, 10, 11, 12, 13]
set_option maxRecDepth 100000 in
theorem ok183 : chk 183 p183 e183 = true := by decide +kernel
/-- PoloSeasonLaw.enter(LPoloSeason;I[J)I -/
def e184 : List En := [
  (.aload_n 2, 2, 0, []),
  (.iconst 0, 0, 0, []),
  (.aload_n 0, 0, 0, []),
  (.iload_n 1, 1, 0, []),
  (.invokevirtual 34, 90, 0, [2, 0]),
  (.i2l, 0, 0, []),
  (.lastore, 0, 0, []),
  (.goto 9, 0, 0, [14]),
  (.astore_n 3, 3, 0, []),
  (.iconst 1, 0, 1, []),
  (.ireturn, 0, 0, []),
  (.astore_n 3, 3, 0, []),
  (.iconst 2, 0, 2, []),
  (.ireturn, 0, 0, []),
  (.iconst 0, 0, 0, []),
  (.ireturn, 0, 0, [])]
def p184 : List Nat := [0, 1, 2, 3, 4, 7, 8, 9, 12, 13, 14, 15, 16, 17, 18, 19]
set_option maxRecDepth 100000 in
theorem ok184 : chk 184 p184 e184 = true := by decide +kernel
/-- PoloSeasonLaw.draw(LPoloSeason;[J)I -/
def e185 : List En := [
  (.aload_n 1, 1, 0, []),
  (.iconst 0, 0, 0, []),
  (.aload_n 0, 0, 0, []),
  (.invokevirtual 37, 92, 0, [1, 0]),
  (.i2l, 0, 0, []),
  (.lastore, 0, 0, []),
  (.goto 6, 0, 0, [10]),
  (.astore_n 2, 2, 0, []),
  (.iconst 1, 0, 1, []),
  (.ireturn, 0, 0, []),
  (.iconst 0, 0, 0, []),
  (.ireturn, 0, 0, [])]
def p185 : List Nat := [0, 1, 2, 3, 6, 7, 8, 11, 12, 13, 14, 15]
set_option maxRecDepth 100000 in
theorem ok185 : chk 185 p185 e185 = true := by decide +kernel
/-- PoloSeasonLaw.next(LPoloSeason;I[J)I -/
def e186 : List En := [
  (.aload_n 2, 2, 0, []),
  (.iconst 0, 0, 0, []),
  (.aload_n 0, 0, 0, []),
  (.iload_n 1, 1, 0, []),
  (.invokevirtual 41, 93, 0, [2, 0]),
  (.i2l, 0, 0, []),
  (.lastore, 0, 0, []),
  (.goto 6, 0, 0, [11]),
  (.astore_n 3, 3, 0, []),
  (.iconst 1, 0, 1, []),
  (.ireturn, 0, 0, []),
  (.iconst 0, 0, 0, []),
  (.ireturn, 0, 0, [])]
def p186 : List Nat := [0, 1, 2, 3, 4, 7, 8, 9, 12, 13, 14, 15, 16]
set_option maxRecDepth 100000 in
theorem ok186 : chk 186 p186 e186 = true := by decide +kernel
/-- PoloSeasonLaw.given(LPoloSeason;I[J)I -/
def e187 : List En := [
  (.aload_n 2, 2, 0, []),
  (.iconst 0, 0, 0, []),
  (.aload_n 0, 0, 0, []),
  (.iload_n 1, 1, 0, []),
  (.invokevirtual 44, 94, 0, [2, 0]),
  (.i2l, 0, 0, []),
  (.lastore, 0, 0, []),
  (.goto 6, 0, 0, [11]),
  (.astore_n 3, 3, 0, []),
  (.iconst 1, 0, 1, []),
  (.ireturn, 0, 0, []),
  (.iconst 0, 0, 0, []),
  (.ireturn, 0, 0, [])]
def p187 : List Nat := [0, 1, 2, 3, 4, 7, 8, 9, 12, 13, 14, 15, 16]
set_option maxRecDepth 100000 in
theorem ok187 : chk 187 p187 e187 = true := by decide +kernel
/-- PoloSeasonLaw.play(LPoloSeason;II[J)I -/
def e188 : List En := [
  (.aload_n 3, 3, 0, []),
  (.iconst 0, 0, 0, []),
  (.aload_n 0, 0, 0, []),
  (.iload_n 1, 1, 0, []),
  (.iload_n 2, 2, 0, []),
  (.invokevirtual 47, 95, 0, [3, 0]),
  (.i2l, 0, 0, []),
  (.lastore, 0, 0, []),
  (.goto 11, 0, 0, [15]),
  (.astore 4, 4, 0, []),
  (.iconst 1, 0, 1, []),
  (.ireturn, 0, 0, []),
  (.astore 4, 4, 0, []),
  (.iconst 2, 0, 2, []),
  (.ireturn, 0, 0, []),
  (.iconst 0, 0, 0, []),
  (.ireturn, 0, 0, [])]
def p188 : List Nat := [0, 1, 2, 3, 4, 5, 8, 9, 10, 13, 15, 16, 17, 19, 20, 21, 22]
set_option maxRecDepth 100000 in
theorem ok188 : chk 188 p188 e188 = true := by decide +kernel
/-- PoloSeasonLaw.where(LPoloSeason;I[J)I -/
def e189 : List En := [
  (.aload_n 2, 2, 0, []),
  (.iconst 0, 0, 0, []),
  (.aload_n 0, 0, 0, []),
  (.iload_n 1, 1, 0, []),
  (.invokevirtual 50, 96, 0, [2, 0]),
  (.i2l, 0, 0, []),
  (.lastore, 0, 0, []),
  (.goto 6, 0, 0, [11]),
  (.astore_n 3, 3, 0, []),
  (.iconst 1, 0, 1, []),
  (.ireturn, 0, 0, []),
  (.iconst 0, 0, 0, []),
  (.ireturn, 0, 0, [])]
def p189 : List Nat := [0, 1, 2, 3, 4, 7, 8, 9, 12, 13, 14, 15, 16]
set_option maxRecDepth 100000 in
theorem ok189 : chk 189 p189 e189 = true := by decide +kernel
/-- PoloSeasonLaw.row(LPoloSeason;II[J)I -/
def e190 : List En := [
  (.aload_n 3, 3, 0, []),
  (.iconst 0, 0, 0, []),
  (.aload_n 0, 0, 0, []),
  (.iload_n 1, 1, 0, []),
  (.iload_n 2, 2, 0, []),
  (.invokevirtual 53, 97, 0, [3, 0]),
  (.i2l, 0, 0, []),
  (.lastore, 0, 0, []),
  (.goto 7, 0, 0, [12]),
  (.astore 4, 4, 0, []),
  (.iconst 1, 0, 1, []),
  (.ireturn, 0, 0, []),
  (.iconst 0, 0, 0, []),
  (.ireturn, 0, 0, [])]
def p190 : List Nat := [0, 1, 2, 3, 4, 5, 8, 9, 10, 13, 15, 16, 17, 18]
set_option maxRecDepth 100000 in
theorem ok190 : chk 190 p190 e190 = true := by decide +kernel
/-- PoloSeasonLaw.pony(LPoloSeason;I[J)I -/
def e191 : List En := [
  (.aload_n 2, 2, 0, []),
  (.iconst 0, 0, 0, []),
  (.aload_n 0, 0, 0, []),
  (.iload_n 1, 1, 0, []),
  (.invokevirtual 56, 98, 0, [2, 0]),
  (.i2l, 0, 0, []),
  (.lastore, 0, 0, []),
  (.goto 9, 0, 0, [14]),
  (.astore_n 3, 3, 0, []),
  (.iconst 1, 0, 1, []),
  (.ireturn, 0, 0, []),
  (.astore_n 3, 3, 0, []),
  (.iconst 2, 0, 2, []),
  (.ireturn, 0, 0, []),
  (.iconst 0, 0, 0, []),
  (.ireturn, 0, 0, [])]
def p191 : List Nat := [0, 1, 2, 3, 4, 7, 8, 9, 12, 13, 14, 15, 16, 17, 18, 19]
set_option maxRecDepth 100000 in
theorem ok191 : chk 191 p191 e191 = true := by decide +kernel
/-- PoloSeasonLaw.lame(LPoloSeason;II[J)I -/
def e192 : List En := [
  (.aload_n 3, 3, 0, []),
  (.iconst 0, 0, 0, []),
  (.aload_n 0, 0, 0, []),
  (.iload_n 1, 1, 0, []),
  (.iload_n 2, 2, 0, []),
  (.invokevirtual 59, 99, 0, [3, 0]),
  (.ifCond .eq 7, 0, 0, [9]),
  (.lconst 1, 1, 0, []),
  (.goto 4, 0, 0, [10]),
  (.lconst 0, 0, 0, []),
  (.lastore, 0, 0, []),
  (.goto 11, 0, 0, [18]),
  (.astore 4, 4, 0, []),
  (.iconst 1, 0, 1, []),
  (.ireturn, 0, 0, []),
  (.astore 4, 4, 0, []),
  (.iconst 2, 0, 2, []),
  (.ireturn, 0, 0, []),
  (.iconst 0, 0, 0, []),
  (.ireturn, 0, 0, [])]
def p192 : List Nat := [0, 1, 2, 3, 4, 5, 8, 11, 12, 15, 16, 17, 20, 22, 23, 24, 26, 27, 28, 29]
set_option maxRecDepth 100000 in
theorem ok192 : chk 192 p192 e192 = true := by decide +kernel
/-- PoloSeasonLaw.told(LPoloSeason;II[J)I -/
def e193 : List En := [
  (.aload_n 3, 3, 0, []),
  (.iconst 0, 0, 0, []),
  (.aload_n 0, 0, 0, []),
  (.iload_n 1, 1, 0, []),
  (.iload_n 2, 2, 0, []),
  (.invokevirtual 63, 100, 0, [3, 0]),
  (.i2l, 0, 0, []),
  (.lastore, 0, 0, []),
  (.goto 11, 0, 0, [15]),
  (.astore 4, 4, 0, []),
  (.iconst 1, 0, 1, []),
  (.ireturn, 0, 0, []),
  (.astore 4, 4, 0, []),
  (.iconst 2, 0, 2, []),
  (.ireturn, 0, 0, []),
  (.iconst 0, 0, 0, []),
  (.ireturn, 0, 0, [])]
def p193 : List Nat := [0, 1, 2, 3, 4, 5, 8, 9, 10, 13, 15, 16, 17, 19, 20, 21, 22]
set_option maxRecDepth 100000 in
theorem ok193 : chk 193 p193 e193 = true := by decide +kernel
/-- PoloSeasonLaw.mount(LPoloSeason;III[J)I -/
def e194 : List En := [
  (.aload 4, 4, 0, []),
  (.iconst 0, 0, 0, []),
  (.aload_n 0, 0, 0, []),
  (.iload_n 1, 1, 0, []),
  (.iload_n 2, 2, 0, []),
  (.iload_n 3, 3, 0, []),
  (.invokevirtual 66, 101, 0, [4, 0]),
  (.i2l, 0, 0, []),
  (.lastore, 0, 0, []),
  (.goto 11, 0, 0, [16]),
  (.astore 5, 5, 0, []),
  (.iconst 1, 0, 1, []),
  (.ireturn, 0, 0, []),
  (.astore 5, 5, 0, []),
  (.iconst 2, 0, 2, []),
  (.ireturn, 0, 0, []),
  (.iconst 0, 0, 0, []),
  (.ireturn, 0, 0, [])]
def p194 : List Nat := [0, 2, 3, 4, 5, 6, 7, 10, 11, 12, 15, 17, 18, 19, 21, 22, 23, 24]
set_option maxRecDepth 100000 in
theorem ok194 : chk 194 p194 e194 = true := by decide +kernel
/-- PoloSeasonLaw.rest(LPoloSeason;[J)I -/
def e195 : List En := [
  (.aload_n 1, 1, 0, []),
  (.iconst 0, 0, 0, []),
  (.aload_n 0, 0, 0, []),
  (.invokevirtual 70, 103, 0, [1, 0]),
  (.i2l, 0, 0, []),
  (.lastore, 0, 0, []),
  (.goto 6, 0, 0, [10]),
  (.astore_n 2, 2, 0, []),
  (.iconst 1, 0, 1, []),
  (.ireturn, 0, 0, []),
  (.iconst 0, 0, 0, []),
  (.ireturn, 0, 0, [])]
def p195 : List Nat := [0, 1, 2, 3, 6, 7, 8, 11, 12, 13, 14, 15]
set_option maxRecDepth 100000 in
theorem ok195 : chk 195 p195 e195 = true := by decide +kernel
/-- PoloSeasonLaw.ball(LPoloSeason;IIII)I -/
def e196 : List En := [
  (.aload_n 0, 0, 0, []),
  (.iload_n 1, 1, 0, []),
  (.iload_n 2, 2, 0, []),
  (.iload_n 3, 3, 0, []),
  (.iload 4, 4, 0, []),
  (.invokevirtual 73, 104, 0, [5, 0]),
  (.goto 7, 0, 0, [10]),
  (.astore 5, 5, 0, []),
  (.iconst 1, 0, 1, []),
  (.ireturn, 0, 0, []),
  (.iconst 0, 0, 0, []),
  (.ireturn, 0, 0, [])]
def p196 : List Nat := [0, 1, 2, 3, 4, 6, 9, 12, 14, 15, 16, 17]
set_option maxRecDepth 100000 in
theorem ok196 : chk 196 p196 e196 = true := by decide +kernel
/-- PoloSeasonLaw.rider(LPoloSeason;IIIII[J)I -/
def e197 : List En := [
  (.aload 6, 6, 0, []),
  (.iconst 0, 0, 0, []),
  (.aload_n 0, 0, 0, []),
  (.iload_n 1, 1, 0, []),
  (.iload_n 2, 2, 0, []),
  (.iload_n 3, 3, 0, []),
  (.iload 4, 4, 0, []),
  (.iload 5, 5, 0, []),
  (.invokevirtual 77, 105, 0, [6, 0]),
  (.i2l, 0, 0, []),
  (.lastore, 0, 0, []),
  (.goto 11, 0, 0, [18]),
  (.astore 7, 7, 0, []),
  (.iconst 1, 0, 1, []),
  (.ireturn, 0, 0, []),
  (.astore 7, 7, 0, []),
  (.iconst 2, 0, 2, []),
  (.ireturn, 0, 0, []),
  (.iconst 0, 0, 0, []),
  (.ireturn, 0, 0, [])]
def p197 : List Nat := [0, 2, 3, 4, 5, 6, 7, 9, 11, 14, 15, 16, 19, 21, 22, 23, 25, 26, 27, 28]
set_option maxRecDepth 100000 in
theorem ok197 : chk 197 p197 e197 = true := by decide +kernel
end
section
/-- PoloSeasonLaw.law([I)Z -/
def e198 : List En := [
  (.nop, 0, 0, []),
  (.dup, 0, 0, []),
  (.invokespecial 81, 0, 0, []),
  (.astore_n 1, 1, 0, []),
  (.nop, 0, 0, []),
  (.dup, 0, 0, []),
  (.invokespecial 84, 0, 0, []),
  (.astore_n 2, 2, 0, []),
  (.iconst 1, 0, 1, []),
  (.newarray .long, 0, 0, []),
  (.astore_n 3, 3, 0, []),
  (.iconst 0, 0, 0, []),
  (.istore 4, 4, 0, []),
  (.iload 4, 4, 0, []),
  (.aload_n 0, 0, 0, []),
  (.arraylength, 0, 0, []),
  (.bipush 6, 0, 6, []),
  (.isub, 0, 0, []),
  (.if_icmp .gt 1452, 0, 0, [894]),
  (.aload_n 0, 0, 0, []),
  (.iload 4, 4, 0, []),
  (.iaload, 0, 0, []),
  (.bipush 31, 0, 31, []),
  (.iand, 0, 0, []),
  (.tableswitch 1436 0 23 #[112, 168, 236, 328, 384, 432, 488, 513, 557, 613, 669, 737, 793, 861, 917, 992, 1060, 1140, 1153, 1197, 1269, 1373, 1386, 1411], 0, 0, [892, 25, 60, 105, 170, 205, 237, 272, 289, 314, 349, 384, 429, 464, 509, 544, 592, 637, 692, 699, 724, 776, 851, 858, 875]),
  (.aload_n 1, 1, 0, []),
  (.aload_n 0, 0, 0, []),
  (.iload 4, 4, 0, []),
  (.iconst 1, 0, 1, []),
  (.iadd, 0, 0, []),
  (.iaload, 0, 0, []),
  (.aload_n 3, 3, 0, []),
  (.invokestatic 85, 179, 0, [3, 0]),
  (.istore 5, 5, 0, []),
  (.aload_n 2, 2, 0, []),
  (.aload_n 0, 0, 0, []),
  (.iload 4, 4, 0, []),
  (.iconst 1, 0, 1, []),
  (.iadd, 0, 0, []),
  (.iaload, 0, 0, []),
  (.invokevirtual 90, 125, 0, [2, 0]),
  (.istore 6, 6, 0, []),
  (.aload_n 2, 2, 0, []),
  (.invokevirtual 91, 121, 0, [1, 0]),
  (.iload 5, 5, 0, []),
  (.if_icmp .eq 5, 0, 0, [48]),
  (.iconst 0, 0, 0, []),
  (.ireturn, 1, 0, []),
  (.iload 5, 5, 0, []),
  (.ifCond .ne 15, 0, 0, [59]),
  (.aload_n 3, 3, 0, []),
  (.iconst 0, 0, 0, []),
  (.laload, 0, 0, []),
  (.iload 6, 6, 0, []),
  (.i2l, 0, 0, []),
  (.lcmp, 0, 0, []),
  (.ifCond .eq 5, 0, 0, [59]),
  (.iconst 0, 0, 0, []),
  (.ireturn, 1, 0, []),
  (.goto 1271, 0, 0, [892]),
  (.aload_n 1, 1, 0, []),
  (.aload_n 0, 0, 0, []),
  (.iload 4, 4, 0, []),
  (.iconst 1, 0, 1, []),
  (.iadd, 0, 0, []),
  (.iaload, 0, 0, []),
  (.aload_n 0, 0, 0, []),
  (.iload 4, 4, 0, []),
  (.iconst 2, 0, 2, []),
  (.iadd, 0, 0, []),
  (.iaload, 0, 0, []),
  (.aload_n 3, 3, 0, []),
  (.invokestatic 94, 180, 0, [4, 0]),
  (.istore 5, 5, 0, []),
  (.aload_n 2, 2, 0, []),
  (.aload_n 0, 0, 0, []),
  (.iload 4, 4, 0, []),
  (.iconst 1, 0, 1, []),
  (.iadd, 0, 0, []),
  (.iaload, 0, 0, []),
  (.aload_n 0, 0, 0, []),
  (.iload 4, 4, 0, []),
  (.iconst 2, 0, 2, []),
  (.iadd, 0, 0, []),
  (.iaload, 0, 0, []),
  (.invokevirtual 97, 126, 0, [3, 0]),
  (.istore 6, 6, 0, []),
  (.aload_n 2, 2, 0, []),
  (.invokevirtual 91, 121, 0, [1, 0]),
  (.iload 5, 5, 0, []),
  (.if_icmp .eq 5, 0, 0, [93]),
  (.iconst 0, 0, 0, []),
  (.ireturn, 1, 0, []),
  (.iload 5, 5, 0, []),
  (.ifCond .ne 15, 0, 0, [104]),
  (.aload_n 3, 3, 0, []),
  (.iconst 0, 0, 0, []),
  (.laload, 0, 0, []),
  (.iload 6, 6, 0, []),
  (.i2l, 0, 0, []),
  (.lcmp, 0, 0, []),
  (.ifCond .eq 5, 0, 0, [104]),
  (.iconst 0, 0, 0, []),
  (.ireturn, 1, 0, []),
  (.goto 1203, 0, 0, [892]),
  (.aload_n 1, 1, 0, []),
  (.aload_n 0, 0, 0, []),
  (.iload 4, 4, 0, []),
  (.iconst 1, 0, 1, []),
  (.iadd, 0, 0, []),
  (.iaload, 0, 0, []),
  (.aload_n 0, 0, 0, []),
  (.iload 4, 4, 0, []),
  (.iconst 2, 0, 2, []),
  (.iadd, 0, 0, []),
  (.iaload, 0, 0, []),
  (.aload_n 0, 0, 0, []),
  (.iload 4, 4, 0, []),
  (.iconst 3, 0, 3, []),
  (.iadd, 0, 0, []),
  (.iaload, 0, 0, []),
  (.aload_n 0, 0, 0, []),
  (.iload 4, 4, 0, []),
  (.iconst 4, 0, 4, []),
  (.iadd, 0, 0, []),
  (.iaload, 0, 0, []),
  (.aload_n 3, 3, 0, []),
  (.invokestatic 98, 181, 0, [6, 0]),
  (.istore 5, 5, 0, []),
  (.aload_n 2, 2, 0, []),
  (.aload_n 0, 0, 0, []),
  (.iload 4, 4, 0, []),
  (.iconst 1, 0, 1, []),
  (.iadd, 0, 0, []),
  (.iaload, 0, 0, []),
  (.aload_n 0, 0, 0, []),
  (.iload 4, 4, 0, []),
  (.iconst 2, 0, 2, []),
  (.iadd, 0, 0, []),
  (.iaload, 0, 0, []),
  (.aload_n 0, 0, 0, []),
  (.iload 4, 4, 0, []),
  (.iconst 3, 0, 3, []),
  (.iadd, 0, 0, []),
  (.iaload, 0, 0, []),
  (.aload_n 0, 0, 0, []),
  (.iload 4, 4, 0, []),
  (.iconst 4, 0, 4, []),
  (.iadd, 0, 0, []),
  (.iaload, 0, 0, []),
  (.invokevirtual 101, 127, 0, [5, 0]),
  (.istore 6, 6, 0, []),
  (.aload_n 2, 2, 0, []),
  (.invokevirtual 91, 121, 0, [1, 0]),
  (.iload 5, 5, 0, []),
  (.if_icmp .eq 5, 0, 0, [158]),
  (.iconst 0, 0, 0, []),
  (.ireturn, 1, 0, []),
  (.iload 5, 5, 0, []),
  (.ifCond .ne 15, 0, 0, [169]),
  (.aload_n 3, 3, 0, []),
  (.iconst 0, 0, 0, []),
  (.laload, 0, 0, []),
  (.iload 6, 6, 0, []),
  (.i2l, 0, 0, []),
  (.lcmp, 0, 0, []),
  (.ifCond .eq 5, 0, 0, [169]),
  (.iconst 0, 0, 0, []),
  (.ireturn, 1, 0, []),
  (.goto 1111, 0, 0, [892]),
  (.aload_n 1, 1, 0, []),
  (.aload_n 0, 0, 0, []),
  (.iload 4, 4, 0, []),
  (.iconst 1, 0, 1, []),
  (.iadd, 0, 0, []),
  (.iaload, 0, 0, []),
  (.aload_n 3, 3, 0, []),
  (.invokestatic 102, 182, 0, [3, 0]),
  (.istore 5, 5, 0, []),
  (.aload_n 2, 2, 0, []),
  (.aload_n 0, 0, 0, []),
  (.iload 4, 4, 0, []),
  (.iconst 1, 0, 1, []),
  (.iadd, 0, 0, []),
  (.iaload, 0, 0, []),
  (.invokevirtual 104, 130, 0, [2, 0]),
  (.istore 6, 6, 0, []),
  (.aload_n 2, 2, 0, []),
  (.invokevirtual 91, 121, 0, [1, 0]),
  (.iload 5, 5, 0, []),
  (.if_icmp .eq 5, 0, 0, [193]),
  (.iconst 0, 0, 0, []),
  (.ireturn, 1, 0, []),
  (.iload 5, 5, 0, []),
  (.ifCond .ne 15, 0, 0, [204]),
  (.aload_n 3, 3, 0, []),
  (.iconst 0, 0, 0, []),
  (.laload, 0, 0, []),
  (.iload 6, 6, 0, []),
  (.i2l, 0, 0, []),
  (.lcmp, 0, 0, []),
  (.ifCond .eq 5, 0, 0, [204]),
  (.iconst 0, 0, 0, []),
  (.ireturn, 1, 0, []),
  (.goto 1055, 0, 0, [892]),
  (.aload_n 1, 1, 0, []),
  (.aload_n 0, 0, 0, []),
  (.iload 4, 4, 0, []),
  (.iconst 1, 0, 1, []),
  (.iadd, 0, 0, []),
  (.iaload, 0, 0, []),
  (.aload_n 0, 0, 0, []),
  (.iload 4, 4, 0, []),
  (.iconst 2, 0, 2, []),
  (.iadd, 0, 0, []),
  (.iaload, 0, 0, []),
  (.invokestatic 105, 183, 0, [3, 0]),
  (.istore 5, 5, 0, []),
  (.aload_n 2, 2, 0, []),
  (.aload_n 0, 0, 0, []),
  (.iload 4, 4, 0, []),
  (.iconst 1, 0, 1, []),
  (.iadd, 0, 0, []),
  (.iaload, 0, 0, []),
  (.aload_n 0, 0, 0, []),
  (.iload 4, 4, 0, []),
  (.iconst 2, 0, 2, []),
  (.iadd, 0, 0, []),
  (.iaload, 0, 0, []),
  (.invokevirtual 108, 131, 0, [3, 0]),
  (.aload_n 2, 2, 0, []),
  (.invokevirtual 91, 121, 0, [1, 0]),
  (.iload 5, 5, 0, []),
  (.if_icmp .eq 5, 0, 0, [236]),
  (.iconst 0, 0, 0, []),
  (.ireturn, 1, 0, []),
  (.goto 1007, 0, 0, [892]),
  (.aload_n 1, 1, 0, []),
  (.aload_n 0, 0, 0, []),
  (.iload 4, 4, 0, []),
  (.iconst 1, 0, 1, []),
  (.iadd, 0, 0, []),
  (.iaload, 0, 0, []),
  (.aload_n 3, 3, 0, []),
  (.invokestatic 109, 184, 0, [3, 0]),
  (.istore 5, 5, 0, []),
  (.aload_n 2, 2, 0, []),
  (.aload_n 0, 0, 0, []),
  (.iload 4, 4, 0, []),
  (.iconst 1, 0, 1, []),
  (.iadd, 0, 0, []),
  (.iaload, 0, 0, []),
  (.invokevirtual 111, 132, 0, [2, 0]),
  (.istore 6, 6, 0, []),
  (.aload_n 2, 2, 0, []),
  (.invokevirtual 91, 121, 0, [1, 0]),
  (.iload 5, 5, 0, []),
  (.if_icmp .eq 5, 0, 0, [260]),
  (.iconst 0, 0, 0, []),
  (.ireturn, 1, 0, []),
  (.iload 5, 5, 0, []),
  (.ifCond .ne 15, 0, 0, [271]),
  (.aload_n 3, 3, 0, []),
  (.iconst 0, 0, 0, []),
  (.laload, 0, 0, []),
  (.iload 6, 6, 0, []),
  (.i2l, 0, 0, []),
  (.lcmp, 0, 0, []),
  (.ifCond .eq 5, 0, 0, [271]),
  (.iconst 0, 0, 0, []),
  (.ireturn, 1, 0, []),
  (.goto 951, 0, 0, [892]),
  (.aload_n 1, 1, 0, []),
  (.aload_n 0, 0, 0, []),
  (.iload 4, 4, 0, []),
  (.iconst 1, 0, 1, []),
  (.iadd, 0, 0, []),
  (.iaload, 0, 0, []),
  (.invokevirtual 112, 91, 0, [2, 0]),
  (.aload_n 2, 2, 0, []),
  (.aload_n 0, 0, 0, []),
  (.iload 4, 4, 0, []),
  (.iconst 1, 0, 1, []),
  (.iadd, 0, 0, []),
  (.iaload, 0, 0, []),
  (.invokevirtual 115, 133, 0, [2, 0]),
  (.if_icmp .eq 928, 0, 0, [892]),
  (.iconst 0, 0, 0, []),
  (.ireturn, 1, 0, []),
  (.aload_n 1, 1, 0, []),
  (.aload_n 3, 3, 0, []),
  (.invokestatic 116, 185, 0, [2, 0]),
  (.istore 5, 5, 0, []),
  (.aload_n 2, 2, 0, []),
  (.invokevirtual 119, 134, 0, [1, 0]),
  (.istore 6, 6, 0, []),
  (.aload_n 2, 2, 0, []),
  (.invokevirtual 91, 121, 0, [1, 0]),
  (.iload 5, 5, 0, []),
  (.if_icmp .eq 5, 0, 0, [302]),
  (.iconst 0, 0, 0, []),
  (.ireturn, 1, 0, []),
  (.iload 5, 5, 0, []),
  (.ifCond .ne 15, 0, 0, [313]),
  (.aload_n 3, 3, 0, []),
  (.iconst 0, 0, 0, []),
  (.laload, 0, 0, []),
  (.iload 6, 6, 0, []),
  (.i2l, 0, 0, []),
  (.lcmp, 0, 0, []),
  (.ifCond .eq 5, 0, 0, [313]),
  (.iconst 0, 0, 0, []),
  (.ireturn, 1, 0, []),
  (.goto 882, 0, 0, [892]),
  (.aload_n 1, 1, 0, []),
  (.aload_n 0, 0, 0, []),
  (.iload 4, 4, 0, []),
  (.iconst 1, 0, 1, []),
  (.iadd, 0, 0, []),
  (.iaload, 0, 0, []),
  (.aload_n 3, 3, 0, []),
  (.invokestatic 120, 186, 0, [3, 0]),
  (.istore 5, 5, 0, []),
  (.aload_n 2, 2, 0, []),
  (.aload_n 0, 0, 0, []),
  (.iload 4, 4, 0, []),
  (.iconst 1, 0, 1, []),
  (.iadd, 0, 0, []),
  (.iaload, 0, 0, []),
  (.invokevirtual 122, 140, 0, [2, 0]),
  (.istore 6, 6, 0, []),
  (.aload_n 2, 2, 0, []),
  (.invokevirtual 91, 121, 0, [1, 0]),
  (.iload 5, 5, 0, []),
  (.if_icmp .eq 5, 0, 0, [337]),
  (.iconst 0, 0, 0, []),
  (.ireturn, 1, 0, []),
  (.iload 5, 5, 0, []),
  (.ifCond .ne 15, 0, 0, [348]),
  (.aload_n 3, 3, 0, []),
  (.iconst 0, 0, 0, []),
  (.laload, 0, 0, []),
  (.iload 6, 6, 0, []),
  (.i2l, 0, 0, []),
  (.lcmp, 0, 0, []),
  (.ifCond .eq 5, 0, 0, [348]),
  (.iconst 0, 0, 0, []),
  (.ireturn, 1, 0, []),
  (.goto 826, 0, 0, [892]),
  (.aload_n 1, 1, 0, []),
  (.aload_n 0, 0, 0, []),
  (.iload 4, 4, 0, []),
  (.iconst 1, 0, 1, []),
  (.iadd, 0, 0, []),
  (.iaload, 0, 0, []),
  (.aload_n 3, 3, 0, []),
  (.invokestatic 123, 187, 0, [3, 0]),
  (.istore 5, 5, 0, []),
  (.aload_n 2, 2, 0, []),
  (.aload_n 0, 0, 0, []),
  (.iload 4, 4, 0, []),
  (.iconst 1, 0, 1, []),
  (.iadd, 0, 0, []),
  (.iaload, 0, 0, []),
  (.invokevirtual 125, 142, 0, [2, 0]),
  (.istore 6, 6, 0, []),
  (.aload_n 2, 2, 0, []),
  (.invokevirtual 91, 121, 0, [1, 0]),
  (.iload 5, 5, 0, []),
  (.if_icmp .eq 5, 0, 0, [372]),
  (.iconst 0, 0, 0, []),
  (.ireturn, 1, 0, []),
  (.iload 5, 5, 0, []),
  (.ifCond .ne 15, 0, 0, [383]),
  (.aload_n 3, 3, 0, []),
  (.iconst 0, 0, 0, []),
  (.laload, 0, 0, []),
  (.iload 6, 6, 0, []),
  (.i2l, 0, 0, []),
  (.lcmp, 0, 0, []),
  (.ifCond .eq 5, 0, 0, [383]),
  (.iconst 0, 0, 0, []),
  (.ireturn, 1, 0, []),
  (.goto 770, 0, 0, [892]),
  (.aload_n 1, 1, 0, []),
  (.aload_n 0, 0, 0, []),
  (.iload 4, 4, 0, []),
  (.iconst 1, 0, 1, []),
  (.iadd, 0, 0, []),
  (.iaload, 0, 0, []),
  (.aload_n 0, 0, 0, []),
  (.iload 4, 4, 0, []),
  (.iconst 2, 0, 2, []),
  (.iadd, 0, 0, []),
  (.iaload, 0, 0, []),
  (.aload_n 3, 3, 0, []),
  (.invokestatic 126, 188, 0, [4, 0]),
  (.istore 5, 5, 0, []),
  (.aload_n 2, 2, 0, []),
  (.aload_n 0, 0, 0, []),
  (.iload 4, 4, 0, []),
  (.iconst 1, 0, 1, []),
  (.iadd, 0, 0, []),
  (.iaload, 0, 0, []),
  (.aload_n 0, 0, 0, []),
  (.iload 4, 4, 0, []),
  (.iconst 2, 0, 2, []),
  (.iadd, 0, 0, []),
  (.iaload, 0, 0, []),
  (.invokevirtual 128, 143, 0, [3, 0]),
  (.istore 6, 6, 0, []),
  (.aload_n 2, 2, 0, []),
  (.invokevirtual 91, 121, 0, [1, 0]),
  (.iload 5, 5, 0, []),
  (.if_icmp .eq 5, 0, 0, [417]),
  (.iconst 0, 0, 0, []),
  (.ireturn, 1, 0, []),
  (.iload 5, 5, 0, []),
  (.ifCond .ne 15, 0, 0, [428]),
  (.aload_n 3, 3, 0, []),
  (.iconst 0, 0, 0, []),
  (.laload, 0, 0, []),
  (.iload 6, 6, 0, []),
  (.i2l, 0, 0, []),
  (.lcmp, 0, 0, []),
  (.ifCond .eq 5, 0, 0, [428]),
  (.iconst 0, 0, 0, []),
  (.ireturn, 1, 0, []),
  (.goto 702, 0, 0, [892]),
  (.aload_n 1, 1, 0, []),
  (.aload_n 0, 0, 0, []),
  (.iload 4, 4, 0, []),
  (.iconst 1, 0, 1, []),
  (.iadd, 0, 0, []),
  (.iaload, 0, 0, []),
  (.aload_n 3, 3, 0, []),
  (.invokestatic 129, 189, 0, [3, 0]),
  (.istore 5, 5, 0, []),
  (.aload_n 2, 2, 0, []),
  (.aload_n 0, 0, 0, []),
  (.iload 4, 4, 0, []),
  (.iconst 1, 0, 1, []),
  (.iadd, 0, 0, []),
  (.iaload, 0, 0, []),
  (.invokevirtual 131, 144, 0, [2, 0]),
  (.istore 6, 6, 0, []),
  (.aload_n 2, 2, 0, []),
  (.invokevirtual 91, 121, 0, [1, 0]),
  (.iload 5, 5, 0, []),
  (.if_icmp .eq 5, 0, 0, [452]),
  (.iconst 0, 0, 0, []),
  (.ireturn, 1, 0, []),
  (.iload 5, 5, 0, []),
  (.ifCond .ne 15, 0, 0, [463]),
  (.aload_n 3, 3, 0, []),
  (.iconst 0, 0, 0, []),
  (.laload, 0, 0, []),
  (.iload 6, 6, 0, []),
  (.i2l, 0, 0, []),
  (.lcmp, 0, 0, []),
  (.ifCond .eq 5, 0, 0, [463]),
  (.iconst 0, 0, 0, []),
  (.ireturn, 1, 0, []),
  (.goto 646, 0, 0, [892]),
  (.aload_n 1, 1, 0, []),
  (.aload_n 0, 0, 0, []),
  (.iload 4, 4, 0, []),
  (.iconst 1, 0, 1, []),
  (.iadd, 0, 0, []),
  (.iaload, 0, 0, []),
  (.aload_n 0, 0, 0, []),
  (.iload 4, 4, 0, []),
  (.iconst 2, 0, 2, []),
  (.iadd, 0, 0, []),
  (.iaload, 0, 0, []),
  (.aload_n 3, 3, 0, []),
  (.invokestatic 132, 190, 0, [4, 0]),
  (.istore 5, 5, 0, []),
  (.aload_n 2, 2, 0, []),
  (.aload_n 0, 0, 0, []),
  (.iload 4, 4, 0, []),
  (.iconst 1, 0, 1, []),
  (.iadd, 0, 0, []),
  (.iaload, 0, 0, []),
  (.aload_n 0, 0, 0, []),
  (.iload 4, 4, 0, []),
  (.iconst 2, 0, 2, []),
  (.iadd, 0, 0, []),
  (.iaload, 0, 0, []),
  (.invokevirtual 134, 145, 0, [3, 0]),
  (.istore 6, 6, 0, []),
  (.aload_n 2, 2, 0, []),
  (.invokevirtual 91, 121, 0, [1, 0]),
  (.iload 5, 5, 0, []),
  (.if_icmp .eq 5, 0, 0, [497]),
  (.iconst 0, 0, 0, []),
  (.ireturn, 1, 0, []),
  (.iload 5, 5, 0, []),
  (.ifCond .ne 15, 0, 0, [508]),
  (.aload_n 3, 3, 0, []),
  (.iconst 0, 0, 0, []),
  (.laload, 0, 0, []),
  (.iload 6, 6, 0, []),
  (.i2l, 0, 0, []),
  (.lcmp, 0, 0, []),
  (.ifCond .eq 5, 0, 0, [508]),
  (.iconst 0, 0, 0, []),
  (.ireturn, 1, 0, []),
  (.goto 578, 0, 0, [892]),
  (.aload_n 1, 1, 0, []),
  (.aload_n 0, 0, 0, []),
  (.iload 4, 4, 0, []),
  (.iconst 1, 0, 1, []),
  (.iadd, 0, 0, []),
  (.iaload, 0, 0, []),
  (.aload_n 3, 3, 0, []),
  (.invokestatic 135, 191, 0, [3, 0]),
  (.istore 5, 5, 0, []),
  (.aload_n 2, 2, 0, []),
  (.aload_n 0, 0, 0, []),
  (.iload 4, 4, 0, []),
  (.iconst 1, 0, 1, []),
  (.iadd, 0, 0, []),
  (.iaload, 0, 0, []),
  (.invokevirtual 137, 146, 0, [2, 0]),
  (.istore 6, 6, 0, []),
  (.aload_n 2, 2, 0, []),
  (.invokevirtual 91, 121, 0, [1, 0]),
  (.iload 5, 5, 0, []),
  (.if_icmp .eq 5, 0, 0, [532]),
  (.iconst 0, 0, 0, []),
  (.ireturn, 1, 0, []),
  (.iload 5, 5, 0, []),
  (.ifCond .ne 15, 0, 0, [543]),
  (.aload_n 3, 3, 0, []),
  (.iconst 0, 0, 0, []),
  (.laload, 0, 0, []),
  (.iload 6, 6, 0, []),
  (.i2l, 0, 0, []),
  (.lcmp, 0, 0, []),
  (.ifCond .eq 5, 0, 0, [543]),
  (.iconst 0, 0, 0, []),
  (.ireturn, 1, 0, []),
  (.goto 522, 0, 0, [892]),
  (.aload_n 1, 1, 0, []),
  (.aload_n 0, 0, 0, []),
  (.iload 4, 4, 0, []),
  (.iconst 1, 0, 1, []),
  (.iadd, 0, 0, []),
  (.iaload, 0, 0, []),
  (.aload_n 0, 0, 0, []),
  (.iload 4, 4, 0, []),
  (.iconst 2, 0, 2, []),
  (.iadd, 0, 0, []),
  (.iaload, 0, 0, []),
  (.aload_n 3, 3, 0, []),
  (.invokestatic 138, 192, 0, [4, 0]),
  (.istore 5, 5, 0, []),
  (.aload_n 2, 2, 0, []),
  (.aload_n 0, 0, 0, []),
  (.iload 4, 4, 0, []),
  (.iconst 1, 0, 1, []),
  (.iadd, 0, 0, []),
  (.iaload, 0, 0, []),
  (.aload_n 0, 0, 0, []),
  (.iload 4, 4, 0, []),
  (.iconst 2, 0, 2, []),
  (.iadd, 0, 0, []),
  (.iaload, 0, 0, []),
  (.invokevirtual 140, 148, 0, [3, 0]),
  (.istore 6, 6, 0, []),
  (.aload_n 2, 2, 0, []),
  (.invokevirtual 91, 121, 0, [1, 0]),
  (.iload 5, 5, 0, []),
  (.if_icmp .eq 5, 0, 0, [577]),
  (.iconst 0, 0, 0, []),
  (.ireturn, 1, 0, []),
  (.iload 5, 5, 0, []),
  (.ifCond .ne 22, 0, 0, [591]),
  (.aload_n 3, 3, 0, []),
  (.iconst 0, 0, 0, []),
  (.laload, 0, 0, []),
  (.iload 6, 6, 0, []),
  (.ifCond .eq 7, 0, 0, [586]),
  (.lconst 1, 1, 0, []),
  (.goto 4, 0, 0, [587]),
  (.lconst 0, 0, 0, []),
  (.lcmp, 0, 0, []),
  (.ifCond .eq 5, 0, 0, [591]),
  (.iconst 0, 0, 0, []),
  (.ireturn, 1, 0, []),
  (.goto 447, 0, 0, [892]),
  (.aload_n 1, 1, 0, []),
  (.aload_n 0, 0, 0, []),
  (.iload 4, 4, 0, []),
  (.iconst 1, 0, 1, []),
  (.iadd, 0, 0, []),
  (.iaload, 0, 0, []),
  (.aload_n 0, 0, 0, []),
  (.iload 4, 4, 0, []),
  (.iconst 2, 0, 2, []),
  (.iadd, 0, 0, []),
  (.iaload, 0, 0, []),
  (.aload_n 3, 3, 0, []),
  (.invokestatic 141, 193, 0, [4, 0]),
  (.istore 5, 5, 0, []),
  (.aload_n 2, 2, 0, []),
  (.aload_n 0, 0, 0, []),
  (.iload 4, 4, 0, []),
  (.iconst 1, 0, 1, []),
  (.iadd, 0, 0, []),
  (.iaload, 0, 0, []),
  (.aload_n 0, 0, 0, []),
  (.iload 4, 4, 0, []),
  (.iconst 2, 0, 2, []),
  (.iadd, 0, 0, []),
  (.iaload, 0, 0, []),
  (.invokevirtual 143, 149, 0, [3, 0]),
  (.istore 6, 6, 0, []),
  (.aload_n 2, 2, 0, []),
  (.invokevirtual 91, 121, 0, [1, 0]),
  (.iload 5, 5, 0, []),
  (.if_icmp .eq 5, 0, 0, [625]),
  (.iconst 0, 0, 0, []),
  (.ireturn, 1, 0, []),
  (.iload 5, 5, 0, []),
  (.ifCond .ne 15, 0, 0, [636]),
  (.aload_n 3, 3, 0, []),
  (.iconst 0, 0, 0, []),
  (.laload, 0, 0, []),
  (.iload 6, 6, 0, []),
  (.i2l, 0, 0, []),
  (.lcmp, 0, 0, []),
  (.ifCond .eq 5, 0, 0, [636]),
  (.iconst 0, 0, 0, []),
  (.ireturn, 1, 0, []),
  (.goto 379, 0, 0, [892]),
  (.aload_n 1, 1, 0, []),
  (.aload_n 0, 0, 0, []),
  (.iload 4, 4, 0, []),
  (.iconst 1, 0, 1, []),
  (.iadd, 0, 0, []),
  (.iaload, 0, 0, []),
  (.aload_n 0, 0, 0, []),
  (.iload 4, 4, 0, []),
  (.iconst 2, 0, 2, []),
  (.iadd, 0, 0, []),
  (.iaload, 0, 0, []),
  (.aload_n 0, 0, 0, []),
  (.iload 4, 4, 0, []),
  (.iconst 3, 0, 3, []),
  (.iadd, 0, 0, []),
  (.iaload, 0, 0, []),
  (.aload_n 3, 3, 0, []),
  (.invokestatic 144, 194, 0, [5, 0]),
  (.istore 5, 5, 0, []),
  (.aload_n 2, 2, 0, []),
  (.aload_n 0, 0, 0, []),
  (.iload 4, 4, 0, []),
  (.iconst 1, 0, 1, []),
  (.iadd, 0, 0, []),
  (.iaload, 0, 0, []),
  (.aload_n 0, 0, 0, []),
  (.iload 4, 4, 0, []),
  (.iconst 2, 0, 2, []),
  (.iadd, 0, 0, []),
  (.iaload, 0, 0, []),
  (.aload_n 0, 0, 0, []),
  (.iload 4, 4, 0, []),
  (.iconst 3, 0, 3, []),
  (.iadd, 0, 0, []),
  (.iaload, 0, 0, []),
  (.invokevirtual 147, 160, 0, [4, 0]),
  (.istore 6, 6, 0, []),
  (.aload_n 2, 2, 0, []),
  (.invokevirtual 91, 121, 0, [1, 0]),
  (.iload 5, 5, 0, []),
  (.if_icmp .eq 5, 0, 0, [680]),
  (.iconst 0, 0, 0, []),
  (.ireturn, 1, 0, []),
  (.iload 5, 5, 0, []),
  (.ifCond .ne 15, 0, 0, [691]),
  (.aload_n 3, 3, 0, []),
  (.iconst 0, 0, 0, []),
  (.laload, 0, 0, []),
  (.iload 6, 6, 0, []),
  (.i2l, 0, 0, []),
  (.lcmp, 0, 0, []),
  (.ifCond .eq 5, 0, 0, [691]),
  (.iconst 0, 0, 0, []),
  (.ireturn, 1, 0, []),
  (.goto 299, 0, 0, [892]),
  (.aload_n 1, 1, 0, []),
  (.invokevirtual 148, 102, 0, [1, 0]),
  (.aload_n 2, 2, 0, []),
  (.invokevirtual 151, 161, 0, [1, 0]),
  (.if_icmp .eq 288, 0, 0, [892]),
  (.iconst 0, 0, 0, []),
  (.ireturn, 1, 0, []),
  (.aload_n 1, 1, 0, []),
  (.aload_n 3, 3, 0, []),
  (.invokestatic 152, 195, 0, [2, 0]),
  (.istore 5, 5, 0, []),
  (.aload_n 2, 2, 0, []),
  (.invokevirtual 154, 150, 0, [1, 0]),
  (.istore 6, 6, 0, []),
  (.aload_n 2, 2, 0, []),
  (.invokevirtual 91, 121, 0, [1, 0]),
  (.iload 5, 5, 0, []),
  (.if_icmp .eq 5, 0, 0, [712]),
  (.iconst 0, 0, 0, []),
  (.ireturn, 1, 0, []),
  (.iload 5, 5, 0, []),
  (.ifCond .ne 15, 0, 0, [723]),
  (.aload_n 3, 3, 0, []),
  (.iconst 0, 0, 0, []),
  (.laload, 0, 0, []),
  (.iload 6, 6, 0, []),
  (.i2l, 0, 0, []),
  (.lcmp, 0, 0, []),
  (.ifCond .eq 5, 0, 0, [723]),
  (.iconst 0, 0, 0, []),
  (.ireturn, 1, 0, []),
  (.goto 242, 0, 0, [892]),
  (.aload_n 1, 1, 0, []),
  (.aload_n 0, 0, 0, []),
  (.iload 4, 4, 0, []),
  (.iconst 1, 0, 1, []),
  (.iadd, 0, 0, []),
  (.iaload, 0, 0, []),
  (.aload_n 0, 0, 0, []),
  (.iload 4, 4, 0, []),
  (.iconst 2, 0, 2, []),
  (.iadd, 0, 0, []),
  (.iaload, 0, 0, []),
  (.aload_n 0, 0, 0, []),
  (.iload 4, 4, 0, []),
  (.iconst 3, 0, 3, []),
  (.iadd, 0, 0, []),
  (.iaload, 0, 0, []),
  (.aload_n 0, 0, 0, []),
  (.iload 4, 4, 0, []),
  (.iconst 4, 0, 4, []),
  (.iadd, 0, 0, []),
  (.iaload, 0, 0, []),
  (.invokestatic 155, 196, 0, [5, 0]),
  (.istore 5, 5, 0, []),
  (.aload_n 2, 2, 0, []),
  (.aload_n 0, 0, 0, []),
  (.iload 4, 4, 0, []),
  (.iconst 1, 0, 1, []),
  (.iadd, 0, 0, []),
  (.iaload, 0, 0, []),
  (.aload_n 0, 0, 0, []),
  (.iload 4, 4, 0, []),
  (.iconst 2, 0, 2, []),
  (.iadd, 0, 0, []),
  (.iaload, 0, 0, []),
  (.aload_n 0, 0, 0, []),
  (.iload 4, 4, 0, []),
  (.iconst 3, 0, 3, []),
  (.iadd, 0, 0, []),
  (.iaload, 0, 0, []),
  (.aload_n 0, 0, 0, []),
  (.iload 4, 4, 0, []),
  (.iconst 4, 0, 4, []),
  (.iadd, 0, 0, []),
  (.iaload, 0, 0, []),
  (.invokevirtual 158, 164, 0, [5, 0]),
  (.aload_n 2, 2, 0, []),
  (.invokevirtual 91, 121, 0, [1, 0]),
  (.iload 5, 5, 0, []),
  (.if_icmp .eq 5, 0, 0, [775]),
  (.iconst 0, 0, 0, []),
  (.ireturn, 1, 0, []),
  (.goto 170, 0, 0, [892]),
  (.aload_n 1, 1, 0, []),
  (.aload_n 0, 0, 0, []),
  (.iload 4, 4, 0, []),
  (.iconst 1, 0, 1, []),
  (.iadd, 0, 0, []),
  (.iaload, 0, 0, []),
  (.aload_n 0, 0, 0, []),
  (.iload 4, 4, 0, []),
  (.iconst 2, 0, 2, []),
  (.iadd, 0, 0, []),
  (.iaload, 0, 0, []),
  (.aload_n 0, 0, 0, []),
  (.iload 4, 4, 0, []),
  (.iconst 3, 0, 3, []),
  (.iadd, 0, 0, []),
  (.iaload, 0, 0, []),
  (.aload_n 0, 0, 0, []),
  (.iload 4, 4, 0, []),
  (.iconst 4, 0, 4, []),
  (.iadd, 0, 0, []),
  (.iaload, 0, 0, []),
  (.aload_n 0, 0, 0, []),
  (.iload 4, 4, 0, []),
  (.iconst 5, 0, 5, []),
  (.iadd, 0, 0, []),
  (.iaload, 0, 0, []),
  (.aload_n 3, 3, 0, []),
  (.invokestatic 159, 197, 0, [7, 0]),
  (.istore 5, 5, 0, []),
  (.aload_n 2, 2, 0, []),
  (.aload_n 0, 0, 0, []),
  (.iload 4, 4, 0, []),
  (.iconst 1, 0, 1, []),
  (.iadd, 0, 0, []),
  (.iaload, 0, 0, []),
  (.aload_n 0, 0, 0, []),
  (.iload 4, 4, 0, []),
  (.iconst 2, 0, 2, []),
  (.iadd, 0, 0, []),
  (.iaload, 0, 0, []),
  (.aload_n 0, 0, 0, []),
  (.iload 4, 4, 0, []),
  (.iconst 3, 0, 3, []),
  (.iadd, 0, 0, []),
  (.iaload, 0, 0, []),
  (.aload_n 0, 0, 0, []),
  (.iload 4, 4, 0, []),
  (.iconst 4, 0, 4, []),
  (.iadd, 0, 0, []),
  (.iaload, 0, 0, []),
  (.aload_n 0, 0, 0, []),
  (.iload 4, 4, 0, []),
  (.iconst 5, 0, 5, []),
  (.iadd, 0, 0, []),
  (.iaload, 0, 0, []),
  (.invokevirtual 162, 165, 0, [6, 0]),
  (.istore 6, 6, 0, []),
  (.aload_n 2, 2, 0, []),
  (.invokevirtual 91, 121, 0, [1, 0]),
  (.iload 5, 5, 0, []),
  (.if_icmp .eq 5, 0, 0, [839]),
  (.iconst 0, 0, 0, []),
  (.ireturn, 1, 0, []),
  (.iload 5, 5, 0, []),
  (.ifCond .ne 15, 0, 0, [850]),
  (.aload_n 3, 3, 0, []),
  (.iconst 0, 0, 0, []),
  (.laload, 0, 0, []),
  (.iload 6, 6, 0, []),
  (.i2l, 0, 0, []),
  (.lcmp, 0, 0, []),
  (.ifCond .eq 5, 0, 0, [850]),
  (.iconst 0, 0, 0, []),
  (.ireturn, 1, 0, []),
  (.goto 66, 0, 0, [892]),
  (.aload_n 1, 1, 0, []),
  (.invokevirtual 163, 106, 0, [1, 0]),
  (.aload_n 2, 2, 0, []),
  (.invokevirtual 166, 171, 0, [1, 0]),
  (.if_icmp .eq 55, 0, 0, [892]),
  (.iconst 0, 0, 0, []),
  (.ireturn, 1, 0, []),
  (.aload_n 1, 1, 0, []),
  (.aload_n 0, 0, 0, []),
  (.iload 4, 4, 0, []),
  (.iconst 1, 0, 1, []),
  (.iadd, 0, 0, []),
  (.iaload, 0, 0, []),
  (.invokevirtual 167, 107, 0, [2, 0]),
  (.aload_n 2, 2, 0, []),
  (.aload_n 0, 0, 0, []),
  (.iload 4, 4, 0, []),
  (.iconst 1, 0, 1, []),
  (.iadd, 0, 0, []),
  (.iaload, 0, 0, []),
  (.invokevirtual 170, 175, 0, [2, 0]),
  (.if_icmp .eq 30, 0, 0, [892]),
  (.iconst 0, 0, 0, []),
  (.ireturn, 1, 0, []),
  (.aload_n 1, 1, 0, []),
  (.aload_n 0, 0, 0, []),
  (.iload 4, 4, 0, []),
  (.iconst 1, 0, 1, []),
  (.iadd, 0, 0, []),
  (.iaload, 0, 0, []),
  (.invokevirtual 171, 108, 0, [2, 0]),
  (.aload_n 2, 2, 0, []),
  (.aload_n 0, 0, 0, []),
  (.iload 4, 4, 0, []),
  (.iconst 1, 0, 1, []),
  (.iadd, 0, 0, []),
  (.iaload, 0, 0, []),
  (.invokevirtual 174, 176, 0, [2, 0]),
  (.if_icmp .eq 5, 0, 0, [892]),
  (.iconst 0, 0, 0, []),
  (.ireturn, 1, 0, []),
  (.iinc 4 6, 4, 6, []),
  (.goto (-1456), 0, 0, [13]),
  (.iconst 1, 0, 1, []),
  (.ireturn, 1, 0, [])]
def p198 : List Nat := [0, 3, 4, 7, 8, 11, 12, 15, 16, 17, 19, 20, 21, 23, 25, 26, 27, 29, 30, 33, 34, 36, 37, 39, 40, 152, 153, 154, 156, 157, 158, 159, 160, 163, 165, 166, 167, 169, 170, 171, 172, 175, 177, 178, 181, 183, 186, 187, 188, 190, 193, 194, 195, 196, 198, 199, 200, 203, 204, 205, 208, 209, 210, 212, 213, 214, 215, 216, 218, 219, 220, 221, 222, 225, 227, 228, 229, 231, 232, 233, 234, 235, 237, 238, 239, 240, 243, 245, 246, 249, 251, 254, 255, 256, 258, 261, 262, 263, 264, 266, 267, 268, 271, 272, 273, 276, 277, 278, 280, 281, 282, 283, 284, 286, 287, 288, 289, 290, 292, 293, 294, 295, 296, 298, 299, 300, 301, 302, 305, 307, 308, 309, 311, 312, 313, 314, 315, 317, 318, 319, 320, 321, 323, 324, 325, 326, 327, 329, 330, 331, 332, 335, 337, 338, 341, 343, 346, 347, 348, 350, 353, 354, 355, 356, 358, 359, 360, 363, 364, 365, 368, 369, 370, 372, 373, 374, 375, 376, 379, 381, 382, 383, 385, 386, 387, 388, 391, 393, 394, 397, 399, 402, 403, 404, 406, 409, 410, 411, 412, 414, 415, 416, 419, 420, 421, 424, 425, 426, 428, 429, 430, 431, 432, 434, 435, 436, 437, 440, 442, 443, 444, 446, 447, 448, 449, 450, 452, 453, 454, 455, 458, 459, 462, 464, 467, 468, 469, 472, 473, 474, 476, 477, 478, 479, 480, 483, 485, 486, 487, 489, 490, 491, 492, 495, 497, 498, 501, 503, 506, 507, 508, 510, 513, 514, 515, 516, 518, 519, 520, 523, 524, 525, 528, 529, 530, 532, 533, 534, 535, 538, 539, 540, 542, 543, 544, 545, 548, 551, 552, 553, 554, 555, 558, 560, 561, 564, 566, 567, 570, 572, 575, 576, 577, 579, 582, 583, 584, 585, 587, 588, 589, 592, 593, 594, 597, 598, 599, 601, 602, 603, 604, 605, 608, 610, 611, 612, 614, 615, 616, 617, 620, 622, 623, 626, 628, 631, 632, 633, 635, 638, 639, 640, 641, 643, 644, 645, 648, 649, 650, 653, 654, 655, 657, 658, 659, 660, 661, 664, 666, 667, 668, 670, 671, 672, 673, 676, 678, 679, 682, 684, 687, 688, 689, 691, 694, 695, 696, 697, 699, 700, 701, 704, 705, 706, 709, 710, 711, 713, 714, 715, 716, 717, 719, 720, 721, 722, 723, 726, 728, 729, 730, 732, 733, 734, 735, 736, 738, 739, 740, 741, 744, 746, 747, 750, 752, 755, 756, 757, 759, 762, 763, 764, 765, 767, 768, 769, 772, 773, 774, 777, 778, 779, 781, 782, 783, 784, 785, 788, 790, 791, 792, 794, 795, 796, 797, 800, 802, 803, 806, 808, 811, 812, 813, 815, 818, 819, 820, 821, 823, 824, 825, 828, 829, 830, 833, 834, 835, 837, 838, 839, 840, 841, 843, 844, 845, 846, 847, 850, 852, 853, 854, 856, 857, 858, 859, 860, 862, 863, 864, 865, 868, 870, 871, 874, 876, 879, 880, 881, 883, 886, 887, 888, 889, 891, 892, 893, 896, 897, 898, 901, 902, 903, 905, 906, 907, 908, 909, 912, 914, 915, 916, 918, 919, 920, 921, 924, 926, 927, 930, 932, 935, 936, 937, 939, 942, 943, 944, 945, 947, 948, 949, 952, 953, 954, 957, 958, 959, 961, 962, 963, 964, 965, 967, 968, 969, 970, 971, 974, 976, 977, 978, 980, 981, 982, 983, 984, 986, 987, 988, 989, 992, 994, 995, 998, 1000, 1003, 1004, 1005, 1007, 1010, 1011, 1012, 1013, 1015, 1018, 1019, 1022, 1023, 1024, 1027, 1028, 1029, 1032, 1033, 1034, 1036, 1037, 1038, 1039, 1040, 1042, 1043, 1044, 1045, 1046, 1049, 1051, 1052, 1053, 1055, 1056, 1057, 1058, 1059, 1061, 1062, 1063, 1064, 1067, 1069, 1070, 1073, 1075, 1078, 1079, 1080, 1082, 1085, 1086, 1087, 1088, 1090, 1091, 1092, 1095, 1096, 1097, 1100, 1101, 1102, 1104, 1105, 1106, 1107, 1108, 1110, 1111, 1112, 1113, 1114, 1116, 1117, 1118, 1119, 1120, 1123, 1125, 1126, 1127, 1129, 1130, 1131, 1132, 1133, 1135, 1136, 1137, 1138, 1139, 1141, 1142, 1143, 1144, 1147, 1149, 1150, 1153, 1155, 1158, 1159, 1160, 1162, 1165, 1166, 1167, 1168, 1170, 1171, 1172, 1175, 1176, 1177, 1180, 1181, 1184, 1185, 1188, 1191, 1192, 1193, 1194, 1195, 1198, 1200, 1201, 1204, 1206, 1207, 1210, 1212, 1215, 1216, 1217, 1219, 1222, 1223, 1224, 1225, 1227, 1228, 1229, 1232, 1233, 1234, 1237, 1238, 1239, 1241, 1242, 1243, 1244, 1245, 1247, 1248, 1249, 1250, 1251, 1253, 1254, 1255, 1256, 1257, 1259, 1260, 1261, 1262, 1265, 1267, 1268, 1269, 1271, 1272, 1273, 1274, 1275, 1277, 1278, 1279, 1280, 1281, 1283, 1284, 1285, 1286, 1287, 1289, 1290, 1291, 1292, 1295, 1296, 1299, 1301, 1304, 1305, 1306, 1309, 1310, 1311, 1313, 1314, 1315, 1316, 1317, 1319, 1320, 1321, 1322, 1323, 1325, 1326, 1327, 1328, 1329, 1331, 1332, 1333, 1334, 1335, 1337, 1338, 1339, 1340, 1341, 1344, 1346, 1347, 1348, 1350, 1351, 1352, 1353, 1354, 1356, 1357, 1358, 1359, 1360, 1362, 1363, 1364, 1365, 1366, 1368, 1369, 1370, 1371, 1372, 1374, 1375, 1376, 1377, 1380, 1382, 1383, 1386, 1388, 1391, 1392, 1393, 1395, 1398, 1399, 1400, 1401, 1403, 1404, 1405, 1408, 1409, 1410, 1413, 1414, 1417, 1418, 1421, 1424, 1425, 1426, 1427, 1428, 1430, 1431, 1432, 1433, 1436, 1437, 1438, 1440, 1441, 1442, 1443, 1446, 1449, 1450, 1451, 1452, 1453, 1455, 1456, 1457, 1458, 1461, 1462, 1463, 1465, 1466, 1467, 1468, 1471, 1474, 1475, 1476, 1479, 1482, 1483]
set_option maxRecDepth 100000 in
theorem ok198_0 : (List.range 40).all (fun j => Nat.ble 896 (0 + j) || okE 198 p198 (0 + j) (e198.getD (0 + j) (.nop, 0, 0, []))) = true := by decide +kernel
set_option maxRecDepth 100000 in
theorem ok198_1 : (List.range 40).all (fun j => Nat.ble 896 (40 + j) || okE 198 p198 (40 + j) (e198.getD (40 + j) (.nop, 0, 0, []))) = true := by decide +kernel
set_option maxRecDepth 100000 in
theorem ok198_2 : (List.range 40).all (fun j => Nat.ble 896 (80 + j) || okE 198 p198 (80 + j) (e198.getD (80 + j) (.nop, 0, 0, []))) = true := by decide +kernel
set_option maxRecDepth 100000 in
theorem ok198_3 : (List.range 40).all (fun j => Nat.ble 896 (120 + j) || okE 198 p198 (120 + j) (e198.getD (120 + j) (.nop, 0, 0, []))) = true := by decide +kernel
set_option maxRecDepth 100000 in
theorem ok198_4 : (List.range 40).all (fun j => Nat.ble 896 (160 + j) || okE 198 p198 (160 + j) (e198.getD (160 + j) (.nop, 0, 0, []))) = true := by decide +kernel
set_option maxRecDepth 100000 in
theorem ok198_5 : (List.range 40).all (fun j => Nat.ble 896 (200 + j) || okE 198 p198 (200 + j) (e198.getD (200 + j) (.nop, 0, 0, []))) = true := by decide +kernel
set_option maxRecDepth 100000 in
theorem ok198_6 : (List.range 40).all (fun j => Nat.ble 896 (240 + j) || okE 198 p198 (240 + j) (e198.getD (240 + j) (.nop, 0, 0, []))) = true := by decide +kernel
set_option maxRecDepth 100000 in
theorem ok198_7 : (List.range 40).all (fun j => Nat.ble 896 (280 + j) || okE 198 p198 (280 + j) (e198.getD (280 + j) (.nop, 0, 0, []))) = true := by decide +kernel
set_option maxRecDepth 100000 in
theorem ok198_8 : (List.range 40).all (fun j => Nat.ble 896 (320 + j) || okE 198 p198 (320 + j) (e198.getD (320 + j) (.nop, 0, 0, []))) = true := by decide +kernel
set_option maxRecDepth 100000 in
theorem ok198_9 : (List.range 40).all (fun j => Nat.ble 896 (360 + j) || okE 198 p198 (360 + j) (e198.getD (360 + j) (.nop, 0, 0, []))) = true := by decide +kernel
set_option maxRecDepth 100000 in
theorem ok198_10 : (List.range 40).all (fun j => Nat.ble 896 (400 + j) || okE 198 p198 (400 + j) (e198.getD (400 + j) (.nop, 0, 0, []))) = true := by decide +kernel
set_option maxRecDepth 100000 in
theorem ok198_11 : (List.range 40).all (fun j => Nat.ble 896 (440 + j) || okE 198 p198 (440 + j) (e198.getD (440 + j) (.nop, 0, 0, []))) = true := by decide +kernel
set_option maxRecDepth 100000 in
theorem ok198_12 : (List.range 40).all (fun j => Nat.ble 896 (480 + j) || okE 198 p198 (480 + j) (e198.getD (480 + j) (.nop, 0, 0, []))) = true := by decide +kernel
set_option maxRecDepth 100000 in
theorem ok198_13 : (List.range 40).all (fun j => Nat.ble 896 (520 + j) || okE 198 p198 (520 + j) (e198.getD (520 + j) (.nop, 0, 0, []))) = true := by decide +kernel
set_option maxRecDepth 100000 in
theorem ok198_14 : (List.range 40).all (fun j => Nat.ble 896 (560 + j) || okE 198 p198 (560 + j) (e198.getD (560 + j) (.nop, 0, 0, []))) = true := by decide +kernel
set_option maxRecDepth 100000 in
theorem ok198_15 : (List.range 40).all (fun j => Nat.ble 896 (600 + j) || okE 198 p198 (600 + j) (e198.getD (600 + j) (.nop, 0, 0, []))) = true := by decide +kernel
set_option maxRecDepth 100000 in
theorem ok198_16 : (List.range 40).all (fun j => Nat.ble 896 (640 + j) || okE 198 p198 (640 + j) (e198.getD (640 + j) (.nop, 0, 0, []))) = true := by decide +kernel
set_option maxRecDepth 100000 in
theorem ok198_17 : (List.range 40).all (fun j => Nat.ble 896 (680 + j) || okE 198 p198 (680 + j) (e198.getD (680 + j) (.nop, 0, 0, []))) = true := by decide +kernel
set_option maxRecDepth 100000 in
theorem ok198_18 : (List.range 40).all (fun j => Nat.ble 896 (720 + j) || okE 198 p198 (720 + j) (e198.getD (720 + j) (.nop, 0, 0, []))) = true := by decide +kernel
set_option maxRecDepth 100000 in
theorem ok198_19 : (List.range 40).all (fun j => Nat.ble 896 (760 + j) || okE 198 p198 (760 + j) (e198.getD (760 + j) (.nop, 0, 0, []))) = true := by decide +kernel
set_option maxRecDepth 100000 in
theorem ok198_20 : (List.range 40).all (fun j => Nat.ble 896 (800 + j) || okE 198 p198 (800 + j) (e198.getD (800 + j) (.nop, 0, 0, []))) = true := by decide +kernel
set_option maxRecDepth 100000 in
theorem ok198_21 : (List.range 40).all (fun j => Nat.ble 896 (840 + j) || okE 198 p198 (840 + j) (e198.getD (840 + j) (.nop, 0, 0, []))) = true := by decide +kernel
set_option maxRecDepth 100000 in
theorem ok198_22 : (List.range 40).all (fun j => Nat.ble 896 (880 + j) || okE 198 p198 (880 + j) (e198.getD (880 + j) (.nop, 0, 0, []))) = true := by decide +kernel
set_option maxRecDepth 100000 in
theorem ok198 : chk 198 p198 e198 = true := by
  refine List.all_eq_true.mpr (fun j hj => ?_)
  have hj : j < 896 := List.mem_range.mp hj
  have key : ∀ q, (List.range 40).all (fun j => Nat.ble 896 (40 * q + j) || okE 198 p198 (40 * q + j) (e198.getD (40 * q + j) (.nop, 0, 0, []))) = true → j / 40 = q → okE 198 p198 j (e198.getD j (.nop, 0, 0, [])) = true := by
    intro q h e
    have h1 := List.all_eq_true.mp h (j % 40) (List.mem_range.mpr (Nat.mod_lt _ (by decide)))
    rw [show 40 * q + j % 40 = j by omega, Bool.or_eq_true] at h1
    rcases h1 with h2 | h2
    · have := Nat.le_of_ble_eq_true h2; omega
    · exact h2
  have hq : j / 40 < 23 := by omega
  generalize hqe : j / 40 = q at hq
  match q, hq with
  | 0, _ => exact key 0 ok198_0 hqe
  | 1, _ => exact key 1 ok198_1 hqe
  | 2, _ => exact key 2 ok198_2 hqe
  | 3, _ => exact key 3 ok198_3 hqe
  | 4, _ => exact key 4 ok198_4 hqe
  | 5, _ => exact key 5 ok198_5 hqe
  | 6, _ => exact key 6 ok198_6 hqe
  | 7, _ => exact key 7 ok198_7 hqe
  | 8, _ => exact key 8 ok198_8 hqe
  | 9, _ => exact key 9 ok198_9 hqe
  | 10, _ => exact key 10 ok198_10 hqe
  | 11, _ => exact key 11 ok198_11 hqe
  | 12, _ => exact key 12 ok198_12 hqe
  | 13, _ => exact key 13 ok198_13 hqe
  | 14, _ => exact key 14 ok198_14 hqe
  | 15, _ => exact key 15 ok198_15 hqe
  | 16, _ => exact key 16 ok198_16 hqe
  | 17, _ => exact key 17 ok198_17 hqe
  | 18, _ => exact key 18 ok198_18 hqe
  | 19, _ => exact key 19 ok198_19 hqe
  | 20, _ => exact key 20 ok198_20 hqe
  | 21, _ => exact key 21 ok198_21 hqe
  | 22, _ => exact key 22 ok198_22 hqe
  | q + 23, h => exact absurd h (by omega)
end
section
/-! THE LOGIC, PART 7: a method that catches (the law's wrappers). A handler's row links to a class; the search passes rows of other classes. -/
section HND
variable {E : CtlPost} {e : Env} {d : Bool} {acts : List Action} {s : State} {f : JFrame} {a : Addr}
/-- one row of the table, its class by the link: it takes the thrown thing, or the search goes on -/
theorem hnd_row {Q : Handler → Pre} {x : ExceptionTableEntry} {t : List ExceptionTableEntry} {c : ClassId} {cell : Cell} (hx : covers x f.pc = true) (h0 : x.catchType ≠ 0)
    (hl : s.vm.ClassLinks e.platform f.method.cls x.catchType c) (hcell : s.heap[a]? = some cell) (hobj : ∀ k, cell.vm ≠ .statics k)
    (hk : ∃ k, s.vm.classes[cell.cls]? = some k) (hc : ∃ k, s.vm.classes[c]? = some k) :
    wp (findHandler.go f a (x :: t)) Q E e d acts s ↔ (if s.vm.assignable cell.cls c = true then Q (.found x.handlerPc) d acts (s.setVm (s.vm.noted f.method.cls x.catchType (.cls c))) else wp (findHandler.go f a t) Q E e d acts (s.setVm (s.vm.noted f.method.cls x.catchType (.cls c)))) := by
  simp only [covers] at hx
  obtain ⟨ha, ht⟩ := (resolveClass_links e.toSetting hl).op (op := VmOp.resolveClass f.method.cls x.catchType) rfl
  have hal : s.vm.Alike (s.vm.noted f.method.cls x.catchType (.cls c)) := (Vm.Alike.refl s.vm).noted _ _ _
  obtain ⟨k1, hk1⟩ := hk
  obtain ⟨k2, hk2⟩ := hc
  obtain ⟨k1', hk1', -⟩ := hal.2.2 _ _ hk1
  obtain ⟨k2', hk2', -⟩ := hal.2.2 _ _ hk2
  have hsame : (s.vm.noted f.method.cls x.catchType (.cls c)).assignable cell.cls c = s.vm.assignable cell.cls c := hal.assignable _ _
  cases hfit : s.vm.assignable cell.cls c <;> rw [hfit] at hsame <;> simp [findHandler.go, hx, h0, ha, ht, hcell, hobj, hk1', hk2', hsame, VmOp.dirties, VmOp.acts]
/-- the search: rows that cover and pass, then one that covers and takes -/
theorem hnd_find {s₀ : State} {cell : Cell} (hobj : ∀ k, cell.vm ≠ .statics k) (hk0 : ∃ k, s₀.vm.classes[cell.cls]? = some k) {x : ExceptionTableEntry} {rest : List ExceptionTableEntry} :
    ∀ (pre : List ExceptionTableEntry) (S : State), s₀.WarmedH S.vm → S.heap[a]? = some cell →
      (∀ y ∈ pre, covers y f.pc = true ∧ y.catchType ≠ 0 ∧ ∃ c, s₀.vm.ClassLinks e.platform f.method.cls y.catchType c ∧ s₀.vm.assignable cell.cls c = false) →
      (covers x f.pc = true ∧ x.catchType ≠ 0 ∧ ∃ c, s₀.vm.ClassLinks e.platform f.method.cls x.catchType c ∧ s₀.vm.assignable cell.cls c = true) →
      ∃ vm', s₀.WarmedH vm' ∧ ∀ (Q : Handler → Pre) (E : CtlPost) (d : Bool) (acts : List Action), wp (findHandler.go f a (pre ++ x :: rest)) Q E e d acts S ↔ Q (.found x.handlerPc) d acts (S.setVm vm') := by
  obtain ⟨k0, hk0⟩ := hk0
  intro pre
  induction pre with
  | nil =>
    intro S hW hcell _ ⟨h1, h2, c, hl, hfit⟩
    obtain ⟨dk, _, _, kt, hd, _, _, _, _, hkt, _, hopen⟩ := hl.here
    obtain ⟨k0', hk0', -⟩ := hW.alike.2.2 _ _ hk0
    obtain ⟨kt', hkt', -⟩ := hW.alike.2.2 _ _ hkt
    refine ⟨_, hW.noted hd hopen (State.rightAt_cls hl), fun Q E d acts => ?_⟩
    rw [List.nil_append, hnd_row h1 h2 (hW.classLinks hl) hcell hobj ⟨k0', hk0'⟩ ⟨kt', hkt'⟩, hW.alike.assignable, hfit, if_pos rfl]
  | cons y ys ih =>
    intro S hW hcell hp hx
    obtain ⟨h1, h2, c, hl, hno⟩ := hp y List.mem_cons_self
    obtain ⟨dk, _, _, kt, hd, _, _, _, _, hkt, _, hopen⟩ := hl.here
    obtain ⟨k0', hk0', -⟩ := hW.alike.2.2 _ _ hk0
    obtain ⟨kt', hkt', -⟩ := hW.alike.2.2 _ _ hkt
    obtain ⟨vm', hW', hq⟩ := ih (S.setVm (S.vm.noted f.method.cls y.catchType (.cls c))) (hW.noted hd hopen (State.rightAt_cls hl)) hcell (fun z hz => hp z (List.mem_cons_of_mem _ hz)) hx
    refine ⟨vm', hW', fun Q E d acts => ?_⟩
    rw [List.cons_append, hnd_row h1 h2 (hW.classLinks hl) hcell hobj ⟨k0', hk0'⟩ ⟨kt', hkt'⟩, hW.alike.assignable, hno, if_neg (by decide)]
    exact hq Q E d acts
theorem hnd_step {r : List Frame} {pc : Nat} {vm' : Vm} (hf : ∀ (Q : Handler → Pre) (E : CtlPost) (d : Bool) (acts : List Action), wp (findHandler f a) Q E e d acts s ↔ Q (.found pc) d acts (s.setVm vm')) :
    (stepThrowing e s a (.java f :: r)).Is ((s.setVm vm').setFrames (.java { f with pc := pc, stack := [.ref a] } :: r)) [] := by
  simp only [stepThrowing, searchFrame, vmDo]
  generalize hr : Sem.go _ e false [] s = res
  obtain ⟨as, rfl, ha⟩ := Sem.eq_ok_of hr (a := Handler.found pc) (s' := s.setVm vm') (acts' := []) (by simp [hf _ _ _ _])
  exact ⟨rfl, ha⟩
theorem hnd_steps {tb : Tables} {target : State} {g : JFrame} {c : Code} {below : List Frame} (h : At s g.method c below) {pc : Nat} {vm' : Vm}
    (hf : ∀ (Q : Handler → Pre) (E : CtlPost) (d : Bool) (acts : List Action), wp (findHandler g a) Q E e d acts ((s.setTop g).pushFrame (.throwing a)) ↔ Q (.found pc) d acts (((s.setTop g).pushFrame (.throwing a)).setVm vm'))
    (hrest : Steps tb e below ((s.setVm vm').setTop { g with pc := pc, stack := [.ref a] }) target) : Steps tb e below ((s.setTop g).pushFrame (.throwing a)) target := by
  obtain ⟨hgo, hw⟩ := h.throwing a
  refine Steps.head hgo hw ?_
  rw [stepThread_throwing (frames_entered h.top _), (hnd_step (s := (s.setTop g).pushFrame (.throwing a)) hf).1]
  obtain ⟨g₀, hg⟩ := Option.isSome_iff_exists.mp h.top
  obtain ⟨r, hr⟩ := State.topJava?_eq_some.mp hg
  have hr' : (s.setVm vm').frames = .java g₀ :: r := hr
  have key : ∀ (u : State) (F F' : List Frame), ((u.setFrames F).setVm vm').setFrames F' = (u.setVm vm').setFrames F' := by
    intro u F F'
    rw [show (u.setFrames F).setVm vm' = (u.setVm vm').setFrames F from rfl, State.setFrames_setFrames]
  rw [State.setTop_of_frames _ hr'] at hrest
  rw [hr, List.tail_cons, State.pushFrame, key, State.setTop_of_frames _ hr, key]
  exact hrest
end HND
/-- the names of the catch types in the law's class -/
def CKL : List (Nat × String) := [(13, "java/lang/IllegalArgumentException"), (15, "java/lang/IllegalStateException"), (21, "java/lang/IndexOutOfBoundsException")]
theorem ckl_w : ∀ q ∈ CKL, Cond.classLink RL q.1 q.2 ∈ lw_tbl := by decide +kernel
theorem ckl_ex : ∀ q ∈ CKL, q.2 ∈ EX ∧ q.1 ≠ 0 := by decide +kernel
def ckn (i : Nat) : String := match i with
  | 13 => "java/lang/IllegalArgumentException"
  | 15 => "java/lang/IllegalStateException"
  | 21 => "java/lang/IndexOutOfBoundsException"
  | _ => ""
/-- the rows all cover pc, all name known classes -/
def hhOk (hh : List (Nat × Nat × Nat × Nat)) (pc : Nat) : Bool := hh.all (fun q => decide (q.1 ≤ pc) && decide (pc < q.2.1) && decide ((q.2.2.2, ckn q.2.2.2) ∈ CKL))
/-- the handler's pc for a thrown class -/
def catI : List (Nat × Nat × Nat × Nat) → String → Option Nat
  | [], _ => none
  | q :: r, E => if ckn q.2.2.2 = E then some q.2.2.1 else catI r E
theorem catI_split : ∀ {hh : List (Nat × Nat × Nat × Nat)} {E : String} {hp : Nat}, catI hh E = some hp → ∃ pre q suf, hh = pre ++ q :: suf ∧ (∀ y ∈ pre, ckn y.2.2.2 ≠ E) ∧ ckn q.2.2.2 = E ∧ q.2.2.1 = hp := by
  intro hh
  induction hh with
  | nil => intro E hp h; cases h
  | cons q r ih =>
    intro E hp h
    unfold catI at h
    split at h
    · rename_i he
      exact ⟨[], q, r, rfl, (fun y hy => by cases hy), he, Option.some.inj h⟩
    · rename_i he
      obtain ⟨pre, q', suf, e1, e2, e3, e4⟩ := ih h
      refine ⟨q :: pre, q', suf, by rw [e1]; rfl, fun y hy => ?_, e3, e4⟩
      rcases List.mem_cons.mp hy with rfl | hy
      · exact he
      · exact e2 y hy
section CAT
variable {p : Program} {l : Launch} {e : Env} {R : Room} {s : State} {m : MethodId} {args : Array Value} {below : List Frame} {meth : Method} {c : Code} {Q : State → Prop}
theorem cat_W {θ : Th} {A : Nat → Prop} {H : Heap} {locs : List Loc} {cells slots : Nat} {E : String} {ce : Cell} {q9 : Addr} {pc hp : Nat} {la : Array Slot} {st : List Value} {hh : List (Nat × Nat × Nat × Nat)}
    (hown : s.vm.findClass RL = some m.cls) (hts : ∀ w ∈ GW, w.before args s = true) (hst : StU θ A s s.heap) (htab : c.exceptionTable.toList = tableOf hh) (hok : hhOk hh pc = true) (hc : catI hh E = some hp) (hE : E ∈ EX)
    (hcell : H[q9]? = some ce) (hv : ce.vm = .none) (hcl : s.vm.findClass E = some ce.cls) (kk : W p l e R s m args below meth c H locs cells slots Q (F0 m hp la [.ref q9])) :
    vx_W p l e R s m args below meth c H locs cells slots Q (F0 m pc la st) q9 := by
  intro T hT X
  have hpl : e.platform.magicAccessors = ({} : Platform).magicAccessors := by rw [X.admits.platform]
  obtain ⟨pre, q, suf, e1, e2, e3, e4⟩ := catI_split hc
  have hall : ∀ y ∈ hh, covers ⟨y.1, y.2.1, y.2.2.1, y.2.2.2⟩ pc = true ∧ (y.2.2.2, ckn y.2.2.2) ∈ CKL := by
    intro y hy
    have := List.all_eq_true.mp hok y hy
    simp only [Bool.and_eq_true, decide_eq_true_eq] at this
    exact ⟨by simp only [covers, Bool.and_eq_true, decide_eq_true_eq]; exact this.1, this.2⟩
  have hlinks : ∀ y ∈ hh, y.2.2.2 ≠ 0 ∧ ∃ cy, s.vm.findClass (ckn y.2.2.2) = some cy ∧ s.vm.ClassLinks e.platform m.cls y.2.2.2 cy := by
    intro y hy
    obtain ⟨h1, h2⟩ := hall y hy
    refine ⟨(ckl_ex _ h2).2, ?_⟩
    exact Cond.classLink_spec hown (hts _ (List.mem_filter.mpr ⟨ckl_w _ h2, rfl⟩)) e.platform hpl
  obtain ⟨kE, hkE, -⟩ := Vm.findClass_spec hcl
  have hobj : ∀ k, ce.vm ≠ .statics k := by rw [hv]; intro k hk; cases hk
  have hfind := hnd_find (e := e) (f := F0 m pc la st) (a := q9) (s₀ := s) hobj ⟨kE, hkE⟩ (x := ⟨q.1, q.2.1, q.2.2.1, q.2.2.2⟩) (rest := tableOf suf) (tableOf pre) ((T.setTop (F0 m pc la st)).pushFrame (.throwing q9)) X.warmed (by show T.heap[q9]? = some ce; rw [hT]; exact hcell)
    (fun y hy => by
      obtain ⟨y0, hy0, rfl⟩ := List.mem_map.mp hy
      have hm : y0 ∈ hh := by rw [e1]; exact List.mem_append_left _ hy0
      obtain ⟨h0, cy, h1, h2⟩ := hlinks y0 hm
      refine ⟨(hall y0 hm).1, h0, cy, h2, ?_⟩
      obtain ⟨a8, b8, w1, w2, w3⟩ := hst.2.2.2.2.2 E hE _ (ckl_ex _ (hall y0 hm).2).1 (fun q => e2 y0 hy0 q.symm)
      cases Option.some.inj (w1.symm.trans hcl)
      cases Option.some.inj (w2.symm.trans h1)
      exact w3)
    (by
      have hm : q ∈ hh := by rw [e1]; exact List.mem_append_right _ List.mem_cons_self
      obtain ⟨h0, cy, h1, h2⟩ := hlinks q hm
      refine ⟨(hall q hm).1, h0, cy, h2, ?_⟩
      have hb : Cond.castable E E ∈ BW := List.mem_append_left _ (List.mem_map.mpr ⟨E, hE, rfl⟩)
      obtain ⟨c3, c4, w1, w2, w3⟩ := Cond.castable_spec (va_Nw.use (A := args) rfl (hst.2.2.2.2.1 _ hb))
      cases Option.some.inj (w1.symm.trans hcl)
      rw [e3] at h1
      cases Option.some.inj (w2.symm.trans h1)
      exact w3)
  obtain ⟨vm', hW', hq⟩ := hfind
  have hsplit : c.exceptionTable.toList = tableOf pre ++ ⟨q.1, q.2.1, q.2.2.1, q.2.2.2⟩ :: tableOf suf := by rw [htab, e1]; simp [tableOf]
  have hf : ∀ (Q : Handler → Pre) (E : CtlPost) (d : Bool) (acts : List Action), wp (findHandler (F0 m pc la st) q9) Q E e d acts ((T.setTop (F0 m pc la st)).pushFrame (.throwing q9)) ↔ Q (.found hp) d acts (((T.setTop (F0 m pc la st)).pushFrame (.throwing q9)).setVm vm') := by
    intro Q E d acts
    rw [Jvm.W.findHandler_eq (meth := meth) (code := c) X.method' X.code, hsplit, ← e4]
    exact hq Q E d acts
  obtain ⟨t, a1, b1⟩ := kk (T.setVm vm') hT (X.noted hW')
  exact ⟨t, hnd_steps (g := F0 m pc la st) X.here hf a1, b1⟩
end CAT

def isAst : Instr → Nat → Bool
  | .astore_n x, a => decide (x.val = a)
  | .astore x, a => decide (x = a)
  | _, _ => false
/-- where a thrown class goes: to the handler, whose first instruction puts the thing away -/
def catG (G : GG) (ps : List Nat) (em : List En) (hh : List (Nat × Nat × Nat × Nat)) (E : String) (ls : Lv) (M : Mem) (o : Ou) (k : Nat) : Prop :=
  ∃ (jh al : Nat) (i : Instr) (v : Int32) (ts : List Nat), catI hh E = some (ps.getD jh 0) ∧ E ∈ EX ∧ em[jh]? = some (i, al, v, ts) ∧ isAst i al = true ∧ al < ls.length ∧ G (jh + 1) (setv ls al none) [] M o k
def BodyC (l : Launch) (d K : Nat) (ps : List Nat) (em : List En) (hh : List (Nat × Nat × Nat × Nat)) (post : Option Value → Mem → Ou → Prop) (G : GG) : Prop :=
  ∀ j ls st M o k, exec G (fun v M o k => post v M o ∧ k ≤ K) (fun _ _ _ _ => False) (fun E ls M o k => catG G ps em hh E ls M o k) (ClA l d K) (0, fun _ => 0) (em.drop j) ls st M o k → G j ls st M o k
theorem setv_len : ∀ {ls : Lv} {a : Nat} {v : Option Value}, (setv ls a v).length = ls.length := by
  intro ls
  induction ls with
  | nil => intro a v; cases a <;> rfl
  | cons x t ih => intro a v; cases a with
    | zero => rfl
    | succ a => simp [setv, ih]
/-- no call of the body lies outside the rows -/
def invOk (ps : List Nat) (em : List En) (hh : List (Nat × Nat × Nat × Nat)) : Bool := (List.range em.length).all (fun j => match em.getD j (.nop, 0, 0, []) with
  | (.invokevirtual _, _, _, _) => hhOk hh (ps.getD j 0)
  | (.invokestatic _, _, _, _) => hhOk hh (ps.getD j 0)
  | _ => true)
section CTC
variable {l : Launch} {mi d K : Nat} {ps : List Nat} {post : Option Value → Mem → Ou → Prop}
theorem ct_catch {as : List Value} {M : Mem} {o : Ou} {em : List En} {hh : List (Nat × Nat × Nat × Nat)} (hem : chk mi ps em = true) (hmi : mi < NMT) (hkd : kdT mi ≠ 0) (hhe : hhT mi = some hh) (how : owT mi = 9) (hp0 : ps.getD 0 0 = 0) (hinv : invOk ps em hh = true) (hd : 8 ≤ d) (hcat : catS as ≤ mlT mi)
    (body : ∀ G : GG, BodyC l d K ps em hh post G → G 0 (entL as (mlT mi)) [] M o 0) : Ct l d K mi as M o post (fun _ _ _ => False) := by
  intro θ sz
  obtain ⟨hpn, hcn, -⟩ := nm_at hmi hkd
  have hce : wCode mi = Cond.codeWith (yT mi) (bT mi) (mlT mi) (rtT mi) hh := by unfold wCode; rw [hhe]
  refine vx_ofWH (cc := bT mi) (maxL := mlT mi) (ret := rtT mi) (hh := hh) (ws' := GW) hpn (by unfold wsOf; rw [hce]) ?_
  intro p e s m args below meth c s₁ B hml hv
  obtain ⟨rfl, rfl, hP, hap, hst⟩ := hv
  have hts := atoms_spec (ws := wsOf mi) B.pre
  have hown : s.vm.findClass (yT mi).cls = some m.cls := findClass_of_methodNamed B.named
  rw [hcn] at hown
  have hA : Am p s m (as.map (cv θ)).toArray c θ (Aset θ s.heap.size) mi (0, fun _ => 0) := ⟨B.exec, B.bytes, hml, hown, fun w hw => hts w (List.mem_cons_of_mem _ hw), hst.1, ⟨hap.1, fun i hi => Or.inl ⟨i, hi, rfl⟩⟩, Or.inl rfl⟩
  have hA2 : Am2 l (rmOf d K) s θ (Aset θ s.heap.size) 0 0 d K := ⟨hst, fun q hq => Or.inr hq, Nat.le_refl _, Nat.le_refl _, by show 0 + K ≤ K; omega, by show 0 + 6 * K ≤ 6 * K; omega⟩
  have htab : c.exceptionTable.toList = tableOf hh := by
    have h1 := hts _ (show wCode mi ∈ wsOf mi from List.mem_cons_self)
    rw [hce] at h1
    exact vx_table (x := yT mi) B h1
  have hX := exec_sound (e := e) (below := below) (meth := meth) (em := em) (ps := ps) (tho := fun _ _ _ _ => False) (thr := fun E ls M o k => catG (GA p l e (rmOf d K) s m (as.map (cv θ)).toArray below meth c (vx_MQ below (Qof θ s.heap.size post) (Xof θ s.heap.size (fun _ _ _ => False)) (as.map (cv θ)).toArray s K (6 * K) (Aset θ s.heap.size)) θ (Aset θ s.heap.size) mi ps 0 0) ps em hh E ls M o k) hA hA2 (by omega) (ret_ok (post := post) (px := fun _ _ _ => False) (d := d) (K := K) hA B.returns B.notSynchronized) (fun _ _ _ _ _ _ _ h => h.elim) (fun j n a v ts hj => by
    intro E ls M o k h ce q9 H locs la st hP hS hl e1 e2 e3
    obtain ⟨jh, al, i, v', ts', c1, c2, c3, c4, c5, c6⟩ := h
    have hok : hhOk hh (ps.getD j 0) = true := by
      have hjl : j < em.length := by rcases hj with q | q <;> exact (List.getElem?_eq_some_iff.mp q).1
      have h1 := List.all_eq_true.mp hinv j (List.mem_range.mpr hjl)
      rw [List.getD_eq_getElem?_getD] at h1
      rcases hj with q | q <;> (rw [q] at h1; exact h1)
    obtain ⟨hx, hb, -⟩ := id hA
    refine cat_W (by rw [how] at hown; exact hown) (fun w hw => hts w (List.mem_cons_of_mem _ hw)) hst htab hok c1 c2 e1 e2 e3 ?_
    have hke := chk_e hem jh _ c3
    obtain ⟨hlen, lv, hv, hm⟩ := id hl
    have fin : ∀ la' : Array Slot, lv_has la' (mlT mi) ((al, Value.ref q9) :: lv.filter (fun q => !(q.1 == al) && !(q.1 + 1 == al && q.2.category == 2))) → lh θ la' (mlT mi) (setv ls al none) := by
      intro la' hl'
      refine ⟨setv_len.trans hlen, _, hl', fun i u hu => ?_⟩
      rcases setv_at hu with ⟨q1, q2⟩ | ⟨q1, q2, q3⟩
      · cases q2
      · refine List.mem_cons_of_mem _ (List.mem_filter.mpr ⟨hm _ _ q2, ?_⟩)
        have hc : (cv θ u).category = u.category := by cases u <;> rfl
        simp only [hc, Bool.and_eq_true, Bool.not_eq_true', beq_eq_false_iff_ne, ne_eq, Bool.and_eq_false_imp, beq_iff_eq]
        exact ⟨q1, fun z1 z2 => q3 ⟨z1, z2⟩⟩
    cases i
    all_goals first | (exact absurd (show false = true from c4) (by decide)) | skip
    case astore x =>
      simp only [isAst, decide_eq_true_eq] at c4
      subst c4
      simp only [okE, Bool.and_eq_true] at hke
      obtain ⟨⟨hd1, hn1⟩, he⟩ := hke
      exact lv_astore hx hb (of_decide_eq_true hd1) hv (by omega) rfl (fun ls' hl' => by
        have w := c6 H locs ls' hP hS (fin ls' hl')
        rw [of_decide_eq_true hn1] at w
        exact w)
    case astore_n x =>
      simp only [isAst, decide_eq_true_eq] at c4
      simp only [okE, Bool.and_eq_true] at hke
      obtain ⟨⟨hd1, hn1⟩, he⟩ := hke
      exact lv_astore_n hx hb (of_decide_eq_true hd1) (of_decide_eq_true he) hv (by omega) rfl (fun ls' hl' => by
        have w := c6 H locs ls' hP hS (fin ls' hl')
        rw [of_decide_eq_true hn1] at w
        exact w)) hem
  have := body _ (fun j ls st M o k h => hX _ j rfl ls st M o k h) s.heap [] _ hP va_S.rf (ent_lh hcat)
  rw [hp0] at this
  rw [lg_entry_eq]
  exact this
end CTC
end
section
/-! THE CLAIM OUT OF ONE WALK OF THE LAW'S BODY. Your part is whole_start (and what it stands on); all else here is the same for every law, but numbers. -/
def R_law : String := "PoloSeasonLaw"
def lw_P (b : Addr) (xs : List Int32) (args : Array Value) (s : State) : Prop := args = #[.ref b] ∧ s.IntsAt b xs ∧ xs.length ≤ 3072 ∧ (Jvm.Cond.and given_1 narrow_1).before args s = true
def lw_Q (_ : Array Value) (s : State) (o : Outcome) (t : State) : Prop := o = .returned (some (.int 1)) ∧ Framed s o t [] 601024 7293034
def lw_Z (below : List Frame) (a : Array Value) (s : State) : State → Prop := fun t => ∃ o, t.status = .running ∧ Ended t below o ∧ lw_Q a s o t
/-- the law's own end, with 1 on the stack, nothing written that was there before, its room as the claim has it -/
theorem lw_ret {p : Program} {l : Launch} {e : Env} {s : State} {m : MethodId} {below : List Frame} {meth : Method} {c : Code} {b : Nat} (hx : p.tables.exec = Jvm.exec) (hb : c.code = code) (hr : meth.sig.returnType = ret) (hlocks : meth.locks = false) {pc : Nat} {H : Heap} {ls : Array Slot} (hdg : decode code pc = .ok (.ireturn, 1)) : W p l e room_1 s m #[Value.ref b] below meth c H [] 601024 7293034 (lw_Z below #[Value.ref b] s) (F0 m pc ls [.int 1]) := by
  intro T hT X
  obtain ⟨fs, hret, hrun, hended, hW, hframe⟩ := X.leave (v := some (.int 1)) (hlocks := hlocks) (fun h => by rw [hr] at h; cases h)
  have hmeth' : T.vm.method? m = some meth := X.method'
  refine ⟨T.setFrames fs, ?_, .returned (some (.int 1)), hrun, hended, rfl, ⟨_, rfl⟩, hW, hframe⟩
  jvm_step X.here [X.here.top, hx, hb, hdg, hmeth', hr, ret, narrow_b1]
  (try refine ⟨rfl, ?_⟩); (try refine ⟨rfl, ?_⟩)
  first | (intro acts; rw [hret _ acts rfl rfl rfl]) | rw [hret _ _ rfl rfl rfl]
  exact Steps.refl _
/-- what holds at the law's entry: the machine, the code, the tables' words (any of lw_tbl by 'hts w (by decide +kernel)'), the script of L ints xs at the cell b, what the Statement gives of the start (any of its parts by flat_of_before) -/
def lw_At (p : Program) (s : State) (m : MethodId) (meth : Method) (c : Code) (b L : Nat) (xs : Nat → Int32) : Prop :=
  p.tables.exec = Jvm.exec ∧ c.code = code ∧ meth.sig.returnType = ret ∧ c.maxLocals = 7 ∧ s.vm.findClass R_law = some m.cls ∧ (∀ w ∈ lw_tbl, w.before #[Value.ref b] s = true) ∧ va_X b L xs s s.heap ∧ b < s.heap.size ∧ meth.locks = false ∧ (Jvm.Cond.and given_1 narrow_1).before #[Value.ref b] s = true
end
section
/-! THE LOGIC, PART 8: the law's own body, from its loop on. -/
abbrev ALaw (s : State) : Nat → Prop := fun q => s.heap.size ≤ q
def BodyL (l : Launch) (d K L : Nat) (xs : Nat → Int32) (G : GG) : Prop :=
  ∀ j ls st M o k, exec G (fun v _ _ k => v = some (.int 1) ∧ k ≤ K) (fun _ _ _ _ => False) (fun _ _ _ _ _ => False) (ClA l d K) (L + 1, xs) (e198.drop j) ls st M o k → G j ls st M o k
theorem law_rule {p : Program} {e : Env} {s : State} {m : MethodId} {below : List Frame} {meth : Method} {c : Code} {l : Launch} {b L c0 s0 d K : Nat} {xs : Nat → Int32} (C0 : lw_At p s m meth c b L xs) {θ : Th} (hb0 : θ.1 SCR = b) (hap : apart θ (ALaw s)) (hst : StU θ (ALaw s) s s.heap)
    (hd : 8 ≤ d) (hd2 : d ≤ 1000) (hc : c0 + K ≤ 601024) (hs : s0 + 6 * K ≤ 7293034) {j0 : Nat} {ls0 : Lv} {M0 : Mem} {o0 : Ou} (body : ∀ G : GG, BodyL l d K L xs G → G j0 ls0 [] M0 o0 0)
    {H : Heap} {locs : List Loc} {la : Array Slot} (hP : va_P θ.2.1 vwCl (wcs θ M0 o0) H) (hS : va_S (ALaw s) s.heap H locs) (hl : lh θ la 7 ls0) :
    W p l e room_1 s m #[Value.ref b] below meth c H locs c0 s0 (lw_Z below #[Value.ref b] s) (F0 m (p198.getD j0 0) la []) := by
  obtain ⟨hx, hb, hr, hml, hown, hts, hX, hbl, hlocks, hgv⟩ := id C0
  have hA : Am p s m #[Value.ref b] c θ (ALaw s) 198 (L + 1, xs) := ⟨hx, hb, hml, hown, fun w hw => hts w (List.mem_filter.mp hw).1, hst.1, hap, Or.inr ⟨L, rfl, by rw [hb0]; exact hX, by rw [hb0]; exact hbl, by rw [hb0]; exact Nat.not_le.mpr hbl⟩⟩
  have hA2 : Am2 l room_1 s θ (ALaw s) c0 s0 d K := ⟨hst, fun q hq => hq, by show d ≤ 2048; omega, by show 60 * d ≤ 84000; omega, hc, hs⟩
  have hR : RetOk p l e room_1 s m #[Value.ref b] below meth c (lw_Z below #[Value.ref b] s) θ (ALaw s) 198 c0 s0 (fun v _ _ k => v = some (.int 1) ∧ k ≤ K) := by
    refine ⟨fun x M o k h hrt H locs la pc hP hS hdg => ?_, fun x M o k h hrt => ?_, fun M o k h hrt => ?_⟩
    · cases h.1
      refine va_forget (fun q hq => hS.2.2 q hq) ?_
      refine W.widen (k := 601024) (n := 7293034) (by omega) (by omega) ?_
      exact lw_ret hx hb hr hlocks hdg
    · cases h.1
    · cases h.1
  have hX := exec_sound (e := e) (below := below) (meth := meth) (em := e198) (ps := p198) (tho := fun _ _ _ _ => False) (thr := fun _ _ _ _ _ => False) hA hA2 (by omega) hR (fun _ _ _ _ _ _ _ h => h.elim) (fun j n a v ts _ => fun _ _ _ _ _ h => h.elim) ok198
  have := body _ (fun j ls st M o k h => hX _ j rfl ls st M o k h) H locs la hP hS hl
  exact this
theorem law_flat : (∀ t, t < NTL → Cond.exactly (.string RX7 (TL t).2.2.1) "java/lang/String" ∈ flatC (Jvm.Cond.and given_1 narrow_1)) := by decide +kernel
theorem law_flat2 : Cond.isRef (.static Bundle.tN "UNASSIGNED_STACK" Bundle.steD) ∈ flatC (Jvm.Cond.and given_1 narrow_1) ∧ Cond.isRef (.static Bundle.tN "SUPPRESSED_SENTINEL" Bundle.listD) ∈ flatC (Jvm.Cond.and given_1 narrow_1) := by decide +kernel
theorem law_flat3 : ∀ E ∈ EX, ∀ F ∈ EX, E ≠ F → Cond.not (.castable E F) ∈ flatC (Jvm.Cond.and given_1 narrow_1) := by decide +kernel
theorem law_tb1 : ∀ t, t < NTL → Cond.stringRef RX7 (TL t).2.2.1 (TL t).2.2.2.2.1 ∈ lw_tbl := by decide +kernel
theorem law_tb2 : ∀ w ∈ BW, w ∈ lw_tbl := by decide +kernel
theorem law_tb3 : Cond.laysStatic Bundle.tN "UNASSIGNED_STACK" Bundle.steD ∈ lw_tbl ∧ Cond.laysStatic Bundle.tN "SUPPRESSED_SENTINEL" Bundle.listD ∈ lw_tbl ∧ Cond.initialized Bundle.tN ∈ lw_tbl := by decide +kernel
/-- what the Statement's start gives of statics, texts and classes -/
theorem law_start {p : Program} {s : State} {m : MethodId} {meth : Method} {c : Code} {b L : Nat} {xs : Nat → Int32} (C0 : lw_At p s m meth c b L xs) :
    ∃ sa : Nat → Nat, ∀ (ad : Nat → Nat) (D : va_G) (cs : ClassId × ClassId × ClassId), va_K D vwCl (tysOf (ad, D, cs, sa)) s → StU (ad, D, cs, sa) (ALaw s) s s.heap := by
  obtain ⟨hx, hb, hr, hml, hown, hts, hX, hbl, hlocks, hgv⟩ := id C0
  have hf := flat_of_before _ hgv
  have hex : ∀ t, ∃ a, t < NTL → (Term.string RX7 (TL t).2.2.1).eval #[Value.ref b] s none [] s = some (.ref a) := by
    intro t
    by_cases ht : t < NTL
    · obtain ⟨a, c, cell, k, q1, -⟩ := Cond.exactly_spec (hf _ (law_flat t ht))
      exact ⟨a, fun _ => q1⟩
    · exact ⟨0, fun h => absurd h ht⟩
  refine ⟨fun t => Classical.choose (hex t), fun ad D cs hK => ⟨hK, ?_, ?_, fun t ht => ?_, fun w hw => ?_, fun E hE F hF hn => ?_⟩⟩
  · exact vx_Zqof (hts _ law_tb3.1) (hts _ law_tb3.2.2) (hf _ law_flat2.1) (fun a ha => Nat.not_le.mpr ha)
  · exact vx_Zqof (hts _ law_tb3.2.1) (hts _ law_tb3.2.2) (hf _ law_flat2.2) (fun a ha => Nat.not_le.mpr ha)
  · exact vk_R.of (hts _ (law_tb1 t ht)) (Classical.choose_spec (hex t) ht)
  · exact va_tabs (BW_tab w hw) rfl (hts _ (law_tb2 w hw))
  · exact va_Nc.of (hf _ (law_flat3 E hE F hF hn))
end
section
set_option maxRecDepth 100000 in
theorem cwi_0 : wCode 0 ∈ GW := gw_of (p := 226) rfl rfl
set_option maxRecDepth 100000 in
theorem cwi_16 : wCode 16 ∈ GW := gw_of (p := 104) rfl rfl
set_option maxRecDepth 100000 in
theorem cwi_21 : wCode 21 ∈ GW := gw_of (p := 192) rfl rfl
set_option maxRecDepth 100000 in
theorem cwi_32 : wCode 32 ∈ GW := gw_of (p := 80) rfl rfl
set_option maxRecDepth 100000 in
theorem cwi_44 : wCode 44 ∈ GW := gw_of (p := 123) rfl rfl
set_option maxRecDepth 100000 in
theorem cwi_52 : wCode 52 ∈ GW := gw_of (p := 167) rfl rfl
set_option maxRecDepth 100000 in
theorem cwi_66 : wCode 66 ∈ GW := gw_of (p := 117) rfl rfl
set_option maxRecDepth 100000 in
theorem cwi_84 : wCode 84 ∈ GW := gw_of (p := 72) rfl rfl
set_option maxRecDepth 100000 in
theorem cwi_120 : wCode 120 ∈ GW := gw_of (p := 921) rfl rfl
theorem goodIn_ws {a b : Nat} (h : wCode b ∈ GW) : GoodIn (wsOf a) (wsOf b) := fun w hw => (List.mem_cons.mp hw).elim (fun q => ⟨List.mem_cons_of_mem _ (q ▸ h), GW_good _ (q ▸ h)⟩) (fun q => ⟨List.mem_cons_of_mem _ q, GW_good _ q⟩)
theorem goodIn_tbl {b : Nat} (h : wCode b ∈ GW) : GoodIn lw_tbl (wsOf b) := fun w hw => (List.mem_cons.mp hw).elim (fun q => ⟨(List.mem_filter.mp (q ▸ h)).1, GW_good _ (q ▸ h)⟩) (fun q => ⟨(List.mem_filter.mp q).1, GW_good _ q⟩)
def kb_pre (dC : Nat → ClassId) (dI : Nat → Nat → Nat) (cI cZ cJ : ClassId) (w : Nat × va_E) (sz : Nat) (U : State) : Prop := U.heap.size = sz ∧ va_P (dC, dI) vwCl [w] U.heap ∧ va_K (dC, dI) vwCl [(cI, .int), (cZ, .boolean), (cJ, .long)] U ∧ va_D (fun _ => True) [w]
theorem kb_blind {dC : Nat → ClassId} {dI : Nat → Nat → Nat} {cI cZ cJ : ClassId} {w : Nat × va_E} {sz : Nat} {as : List Value} : FrameBlind (va_Pc as (kb_pre dC dI cI cZ cJ w sz)) := by
  intro a U g mk q
  obtain ⟨q0, q1, qP, qK, qD⟩ := q
  exact ⟨q0, q1, qP, va_K.moved (u := U) (U := U.calling g mk a) (Vm.Alike.refl U.vm) qK, qD⟩
set_option maxRecDepth 100000 in
theorem cwd_0 : (Cond.methodLink RX0 3 objectInit) ∈ GW := gw_of (p := 227) (by decide +kernel) rfl
set_option maxRecDepth 100000 in
theorem cwd_1 : (Cond.instanceMethod objectInit) ∈ GW := gw_of (p := 74) (by decide +kernel) rfl
set_option maxRecDepth 100000 in
theorem cwd_2 : (Cond.code objectInit ⟨#[0xb1]⟩ 1 none) ∈ GW := gw_of (p := 75) (by decide +kernel) rfl
set_option maxRecDepth 100000 in
theorem cwd_3 : (Cond.arrayClass .int) ∈ GW := gw_of (p := 98) (by decide +kernel) rfl
set_option maxHeartbeats 4000000 in
set_option maxRecDepth 100000 in
/-- PoloSeason$Line(): the world that it makes -/
theorem k_X0 (l : Launch) (dC : Nat → ClassId) (dI : Nat → Nat → Nat) (cI cZ cJ : ClassId) (h0 sz : Nat) : Met l yX0_init (wsOf 0) ({ frames := 1, cells := 5, slots := 40, locals := 12 }) (va_Pc [.ref h0] (kb_pre dC dI cI cZ cJ (h0, .inr (0, [.null, .null, .null, .null, .null, .int 0, .int 0, .int 0, .int 0, .int 0, .int 0])) sz)) (va_Qv (fun _ : Unit => True) (fun _ t => ∃ q7 q15 q23 q31 q39 : Nat, va_P (dC, dI) vwCl [(h0, .inr (0, [.ref q7, .ref q15, .ref q23, .ref q31, .ref q39, .int 0, .int 0, .int 0, .int 0, .int 0, .int 0])), (q7, .inl (cI, 8, .inl (fun _ => 0))), (q15, .inl (cI, 8, .inl (fun _ => 0))), (q23, .inl (cI, 8, .inl (fun _ => 0))), (q31, .inl (cI, 8, .inl (fun _ => 0))), (q39, .inl (cI, 8, .inl (fun _ => 0)))] t.heap ∧ va_D (va_A [(h0, .inr (0, [.null, .null, .null, .null, .null, .int 0, .int 0, .int 0, .int 0, .int 0, .int 0]))] sz) [(h0, .inr (0, [.ref q7, .ref q15, .ref q23, .ref q31, .ref q39, .int 0, .int 0, .int 0, .int 0, .int 0, .int 0])), (q7, .inl (cI, 8, .inl (fun _ => 0))), (q15, .inl (cI, 8, .inl (fun _ => 0))), (q23, .inl (cI, 8, .inl (fun _ => 0))), (q31, .inl (cI, 8, .inl (fun _ => 0))), (q39, .inl (cI, 8, .inl (fun _ => 0)))]) (va_A [(h0, .inr (0, [.null, .null, .null, .null, .null, .int 0, .int 0, .int 0, .int 0, .int 0, .int 0]))] sz)) 5 40 (va_A [(h0, .inr (0, [.null, .null, .null, .null, .null, .int 0, .int 0, .int 0, .int 0, .int 0, .int 0]))] sz) := by
  refine Met.ofW (cc := cX0_init) (maxL := 1) (ret := none) (by decide) rfl ?_
  intro p e s m args below meth c s₁ B hml hv
  obtain ⟨rfl, hsz, hP, hK, hD0⟩ := hv
  have hx := B.exec
  have hb := B.bytes
  have hr := B.returns
  have hts := atoms_spec (ws := wsOf 0) B.pre
  have hown : s.vm.findClass RX0 = some m.cls := findClass_of_methodNamed B.named
  have hlocks := B.notSynchronized
  have hin : meth.name = "<init>" := (name_of_methodNamed B.named B.method).1
  subst hsz
  have hD := hD0.self (sz := s.heap.size)
  generalize hAe : va_A [(h0, .inr (0, [.null, .null, .null, .null, .null, .int 0, .int 0, .int 0, .int 0, .int 0, .int 0]))] s.heap.size = A at hD ⊢
  have hA : ∀ q : Nat, s.heap.size ≤ q → A q := fun q h => by rw [← hAe]; exact Or.inr h
  have hS : va_S A s.heap s.heap [] := va_S.rf
  have hP : va_P (dC, dI) vwCl [(h0, .inr (0, [.null, .null, .null, .null, .null, .int 0, .int 0, .int 0, .int 0, .int 0, .int 0]))] s.heap := hP
  have hl := lv_entry ([.ref h0]) (n := 1) (Nat.le_of_ble_eq_true rfl)
  rw [lg_entry_eq]
  generalize (lg_sl ([.ref h0]) ++ List.replicate (1 - (lg_sl ([.ref h0])).length) Slot.unset).toArray = ls at hl ⊢
  have hl : lv_has ls 1 [(0, .ref h0)] := hl
  refine lv_aload_n hx hb (by decide +kernel : decode cX0_init 0 = .ok (.aload_n 0, 1)) rfl (lv_at hl 0 rfl) ?_
  refine W.objInit hx hb hown (hts (Cond.methodLink RX0 3 objectInit) (List.mem_cons_of_mem _ cwd_0)) (hts (Cond.instanceMethod objectInit) (List.mem_cons_of_mem _ cwd_1)) (hts (Cond.code objectInit ⟨#[0xb1]⟩ 1 none) (List.mem_cons_of_mem _ cwd_2)) rfl (by rw [hml]; exact hl.1) rfl (by decide +kernel : decode cX0_init 1 = .ok (.invokespecial 3, 3)) (Nat.le_of_ble_eq_true rfl) (Nat.le_of_ble_eq_true rfl) ?_
  refine W.eq (g2 := F0 m 4 ls []) rfl ?_
  refine lv_aload_n hx hb (by decide +kernel : decode cX0_init 4 = .ok (.aload_n 0, 1)) rfl (lv_at hl 0 rfl) ?_
  refine lv_bipush (v := 8) hx hb (by decide +kernel : decode cX0_init 5 = .ok (.bipush 8, 2)) (by decide) ?_
  refine va_newa (atype := .int) (ty := .int) (a0 := (8, .inl (fun _ => 0))) (N' := 8) hx hb (hts (Cond.arrayClass .int) (List.mem_cons_of_mem _ cwd_3)) rfl hK hP hD hS hA (fun _ => rfl) (by decide) (by decide) (by decide) (show 0 + 1 ≤ 5 by decide) (show 0 + 8 ≤ 40 by decide) (by decide +kernel : decode cX0_init 7 = .ok (.newarray .int, 2)) (fun q7 cA H hK hP hD hS => ?_)
  cases Option.some.inj ((hK.2 3 _ rfl).2.symm.trans (hK.2 0 _ rfl).2)
  replace hK := hK.sub (tys' := [(cI, .int), (cZ, .boolean), (cJ, .long)]) [0, 1, 2] rfl
  have hP : va_P (dC, dI) vwCl [(h0, .inr (0, [.null, .null, .null, .null, .null, .int 0, .int 0, .int 0, .int 0, .int 0, .int 0])), (q7, .inl (cI, 8, .inl (fun _ => 0)))] H := hP
  have hD : va_D A [(h0, .inr (0, [.null, .null, .null, .null, .null, .int 0, .int 0, .int 0, .int 0, .int 0, .int 0])), (q7, .inl (cI, 8, .inl (fun _ => 0)))] := hD
  refine W.widen (k := 1) (n := 8) (by omega) (by omega) ?_
  refine va_putF (D := (dC, dI)) (ci := 0) (v := .ref q7) (ty := .array .int) (C := RX0) (T := TX0) (N := 11) hx hb hts (fun w h => List.mem_cons_of_mem _ (UW_ok 0 (by decide) w h)) tyX0 tyX0_ok nmX0 hown hK hP hD hS 0 rfl rfl 0 (by decide) (hts (.fieldLink RX0 9 "PoloSeason$Line" "sides" "[I") (List.mem_cons_of_mem _ (FL_ok (0, 9, 0, 0) (by decide)))) (fun _ h9 => h9) rfl hin rfl (by decide +kernel) rfl rfl (Nat.le_of_ble_eq_true rfl) (by decide +kernel : decode cX0_init 9 = .ok (.putfield 9, 3)) (fun H locs hP hD hS => ?_)
  have hP : va_P (dC, dI) vwCl [(h0, .inr (0, [.ref q7, .null, .null, .null, .null, .int 0, .int 0, .int 0, .int 0, .int 0, .int 0])), (q7, .inl (cI, 8, .inl (fun _ => 0)))] H := hP
  have hD : va_D A [(h0, .inr (0, [.ref q7, .null, .null, .null, .null, .int 0, .int 0, .int 0, .int 0, .int 0, .int 0])), (q7, .inl (cI, 8, .inl (fun _ => 0)))] := hD
  refine lv_aload_n hx hb (by decide +kernel : decode cX0_init 12 = .ok (.aload_n 0, 1)) rfl (lv_at hl 0 rfl) ?_
  refine lv_bipush (v := 8) hx hb (by decide +kernel : decode cX0_init 13 = .ok (.bipush 8, 2)) (by decide) ?_
  refine va_newa (atype := .int) (ty := .int) (a0 := (8, .inl (fun _ => 0))) (N' := 8) hx hb (hts (Cond.arrayClass .int) (List.mem_cons_of_mem _ cwd_3)) rfl hK hP hD hS hA (fun _ => rfl) (by decide) (by decide) (by decide) (show 1 + 1 ≤ 5 by decide) (show 8 + 8 ≤ 40 by decide) (by decide +kernel : decode cX0_init 15 = .ok (.newarray .int, 2)) (fun q15 cA H hK hP hD hS => ?_)
  cases Option.some.inj ((hK.2 3 _ rfl).2.symm.trans (hK.2 0 _ rfl).2)
  replace hK := hK.sub (tys' := [(cI, .int), (cZ, .boolean), (cJ, .long)]) [0, 1, 2] rfl
  have hP : va_P (dC, dI) vwCl [(h0, .inr (0, [.ref q7, .null, .null, .null, .null, .int 0, .int 0, .int 0, .int 0, .int 0, .int 0])), (q7, .inl (cI, 8, .inl (fun _ => 0))), (q15, .inl (cI, 8, .inl (fun _ => 0)))] H := hP
  have hD : va_D A [(h0, .inr (0, [.ref q7, .null, .null, .null, .null, .int 0, .int 0, .int 0, .int 0, .int 0, .int 0])), (q7, .inl (cI, 8, .inl (fun _ => 0))), (q15, .inl (cI, 8, .inl (fun _ => 0)))] := hD
  refine W.widen (k := 2) (n := 16) (by omega) (by omega) ?_
  refine va_putF (D := (dC, dI)) (ci := 0) (v := .ref q15) (ty := .array .int) (C := RX0) (T := TX0) (N := 11) hx hb hts (fun w h => List.mem_cons_of_mem _ (UW_ok 0 (by decide) w h)) tyX0 tyX0_ok nmX0 hown hK hP hD hS 0 rfl rfl 1 (by decide) (hts (.fieldLink RX0 15 "PoloSeason$Line" "xs" "[I") (List.mem_cons_of_mem _ (FL_ok (0, 15, 0, 1) (by decide)))) (fun _ h9 => h9) rfl hin rfl (by decide +kernel) rfl rfl (Nat.le_of_ble_eq_true rfl) (by decide +kernel : decode cX0_init 17 = .ok (.putfield 15, 3)) (fun H locs hP hD hS => ?_)
  have hP : va_P (dC, dI) vwCl [(h0, .inr (0, [.ref q7, .ref q15, .null, .null, .null, .int 0, .int 0, .int 0, .int 0, .int 0, .int 0])), (q7, .inl (cI, 8, .inl (fun _ => 0))), (q15, .inl (cI, 8, .inl (fun _ => 0)))] H := hP
  have hD : va_D A [(h0, .inr (0, [.ref q7, .ref q15, .null, .null, .null, .int 0, .int 0, .int 0, .int 0, .int 0, .int 0])), (q7, .inl (cI, 8, .inl (fun _ => 0))), (q15, .inl (cI, 8, .inl (fun _ => 0)))] := hD
  refine lv_aload_n hx hb (by decide +kernel : decode cX0_init 20 = .ok (.aload_n 0, 1)) rfl (lv_at hl 0 rfl) ?_
  refine lv_bipush (v := 8) hx hb (by decide +kernel : decode cX0_init 21 = .ok (.bipush 8, 2)) (by decide) ?_
  refine va_newa (atype := .int) (ty := .int) (a0 := (8, .inl (fun _ => 0))) (N' := 8) hx hb (hts (Cond.arrayClass .int) (List.mem_cons_of_mem _ cwd_3)) rfl hK hP hD hS hA (fun _ => rfl) (by decide) (by decide) (by decide) (show 2 + 1 ≤ 5 by decide) (show 16 + 8 ≤ 40 by decide) (by decide +kernel : decode cX0_init 23 = .ok (.newarray .int, 2)) (fun q23 cA H hK hP hD hS => ?_)
  cases Option.some.inj ((hK.2 3 _ rfl).2.symm.trans (hK.2 0 _ rfl).2)
  replace hK := hK.sub (tys' := [(cI, .int), (cZ, .boolean), (cJ, .long)]) [0, 1, 2] rfl
  have hP : va_P (dC, dI) vwCl [(h0, .inr (0, [.ref q7, .ref q15, .null, .null, .null, .int 0, .int 0, .int 0, .int 0, .int 0, .int 0])), (q7, .inl (cI, 8, .inl (fun _ => 0))), (q15, .inl (cI, 8, .inl (fun _ => 0))), (q23, .inl (cI, 8, .inl (fun _ => 0)))] H := hP
  have hD : va_D A [(h0, .inr (0, [.ref q7, .ref q15, .null, .null, .null, .int 0, .int 0, .int 0, .int 0, .int 0, .int 0])), (q7, .inl (cI, 8, .inl (fun _ => 0))), (q15, .inl (cI, 8, .inl (fun _ => 0))), (q23, .inl (cI, 8, .inl (fun _ => 0)))] := hD
  refine W.widen (k := 3) (n := 24) (by omega) (by omega) ?_
  refine va_putF (D := (dC, dI)) (ci := 0) (v := .ref q23) (ty := .array .int) (C := RX0) (T := TX0) (N := 11) hx hb hts (fun w h => List.mem_cons_of_mem _ (UW_ok 0 (by decide) w h)) tyX0 tyX0_ok nmX0 hown hK hP hD hS 0 rfl rfl 2 (by decide) (hts (.fieldLink RX0 18 "PoloSeason$Line" "ys" "[I") (List.mem_cons_of_mem _ (FL_ok (0, 18, 0, 2) (by decide)))) (fun _ h9 => h9) rfl hin rfl (by decide +kernel) rfl rfl (Nat.le_of_ble_eq_true rfl) (by decide +kernel : decode cX0_init 25 = .ok (.putfield 18, 3)) (fun H locs hP hD hS => ?_)
  have hP : va_P (dC, dI) vwCl [(h0, .inr (0, [.ref q7, .ref q15, .ref q23, .null, .null, .int 0, .int 0, .int 0, .int 0, .int 0, .int 0])), (q7, .inl (cI, 8, .inl (fun _ => 0))), (q15, .inl (cI, 8, .inl (fun _ => 0))), (q23, .inl (cI, 8, .inl (fun _ => 0)))] H := hP
  have hD : va_D A [(h0, .inr (0, [.ref q7, .ref q15, .ref q23, .null, .null, .int 0, .int 0, .int 0, .int 0, .int 0, .int 0])), (q7, .inl (cI, 8, .inl (fun _ => 0))), (q15, .inl (cI, 8, .inl (fun _ => 0))), (q23, .inl (cI, 8, .inl (fun _ => 0)))] := hD
  refine lv_aload_n hx hb (by decide +kernel : decode cX0_init 28 = .ok (.aload_n 0, 1)) rfl (lv_at hl 0 rfl) ?_
  refine lv_bipush (v := 8) hx hb (by decide +kernel : decode cX0_init 29 = .ok (.bipush 8, 2)) (by decide) ?_
  refine va_newa (atype := .int) (ty := .int) (a0 := (8, .inl (fun _ => 0))) (N' := 8) hx hb (hts (Cond.arrayClass .int) (List.mem_cons_of_mem _ cwd_3)) rfl hK hP hD hS hA (fun _ => rfl) (by decide) (by decide) (by decide) (show 3 + 1 ≤ 5 by decide) (show 24 + 8 ≤ 40 by decide) (by decide +kernel : decode cX0_init 31 = .ok (.newarray .int, 2)) (fun q31 cA H hK hP hD hS => ?_)
  cases Option.some.inj ((hK.2 3 _ rfl).2.symm.trans (hK.2 0 _ rfl).2)
  replace hK := hK.sub (tys' := [(cI, .int), (cZ, .boolean), (cJ, .long)]) [0, 1, 2] rfl
  have hP : va_P (dC, dI) vwCl [(h0, .inr (0, [.ref q7, .ref q15, .ref q23, .null, .null, .int 0, .int 0, .int 0, .int 0, .int 0, .int 0])), (q7, .inl (cI, 8, .inl (fun _ => 0))), (q15, .inl (cI, 8, .inl (fun _ => 0))), (q23, .inl (cI, 8, .inl (fun _ => 0))), (q31, .inl (cI, 8, .inl (fun _ => 0)))] H := hP
  have hD : va_D A [(h0, .inr (0, [.ref q7, .ref q15, .ref q23, .null, .null, .int 0, .int 0, .int 0, .int 0, .int 0, .int 0])), (q7, .inl (cI, 8, .inl (fun _ => 0))), (q15, .inl (cI, 8, .inl (fun _ => 0))), (q23, .inl (cI, 8, .inl (fun _ => 0))), (q31, .inl (cI, 8, .inl (fun _ => 0)))] := hD
  refine W.widen (k := 4) (n := 32) (by omega) (by omega) ?_
  refine va_putF (D := (dC, dI)) (ci := 0) (v := .ref q31) (ty := .array .int) (C := RX0) (T := TX0) (N := 11) hx hb hts (fun w h => List.mem_cons_of_mem _ (UW_ok 0 (by decide) w h)) tyX0 tyX0_ok nmX0 hown hK hP hD hS 0 rfl rfl 3 (by decide) (hts (.fieldLink RX0 21 "PoloSeason$Line" "dxs" "[I") (List.mem_cons_of_mem _ (FL_ok (0, 21, 0, 3) (by decide)))) (fun _ h9 => h9) rfl hin rfl (by decide +kernel) rfl rfl (Nat.le_of_ble_eq_true rfl) (by decide +kernel : decode cX0_init 33 = .ok (.putfield 21, 3)) (fun H locs hP hD hS => ?_)
  have hP : va_P (dC, dI) vwCl [(h0, .inr (0, [.ref q7, .ref q15, .ref q23, .ref q31, .null, .int 0, .int 0, .int 0, .int 0, .int 0, .int 0])), (q7, .inl (cI, 8, .inl (fun _ => 0))), (q15, .inl (cI, 8, .inl (fun _ => 0))), (q23, .inl (cI, 8, .inl (fun _ => 0))), (q31, .inl (cI, 8, .inl (fun _ => 0)))] H := hP
  have hD : va_D A [(h0, .inr (0, [.ref q7, .ref q15, .ref q23, .ref q31, .null, .int 0, .int 0, .int 0, .int 0, .int 0, .int 0])), (q7, .inl (cI, 8, .inl (fun _ => 0))), (q15, .inl (cI, 8, .inl (fun _ => 0))), (q23, .inl (cI, 8, .inl (fun _ => 0))), (q31, .inl (cI, 8, .inl (fun _ => 0)))] := hD
  refine lv_aload_n hx hb (by decide +kernel : decode cX0_init 36 = .ok (.aload_n 0, 1)) rfl (lv_at hl 0 rfl) ?_
  refine lv_bipush (v := 8) hx hb (by decide +kernel : decode cX0_init 37 = .ok (.bipush 8, 2)) (by decide) ?_
  refine va_newa (atype := .int) (ty := .int) (a0 := (8, .inl (fun _ => 0))) (N' := 8) hx hb (hts (Cond.arrayClass .int) (List.mem_cons_of_mem _ cwd_3)) rfl hK hP hD hS hA (fun _ => rfl) (by decide) (by decide) (by decide) (show 4 + 1 ≤ 5 by decide) (show 32 + 8 ≤ 40 by decide) (by decide +kernel : decode cX0_init 39 = .ok (.newarray .int, 2)) (fun q39 cA H hK hP hD hS => ?_)
  cases Option.some.inj ((hK.2 3 _ rfl).2.symm.trans (hK.2 0 _ rfl).2)
  replace hK := hK.sub (tys' := [(cI, .int), (cZ, .boolean), (cJ, .long)]) [0, 1, 2] rfl
  have hP : va_P (dC, dI) vwCl [(h0, .inr (0, [.ref q7, .ref q15, .ref q23, .ref q31, .null, .int 0, .int 0, .int 0, .int 0, .int 0, .int 0])), (q7, .inl (cI, 8, .inl (fun _ => 0))), (q15, .inl (cI, 8, .inl (fun _ => 0))), (q23, .inl (cI, 8, .inl (fun _ => 0))), (q31, .inl (cI, 8, .inl (fun _ => 0))), (q39, .inl (cI, 8, .inl (fun _ => 0)))] H := hP
  have hD : va_D A [(h0, .inr (0, [.ref q7, .ref q15, .ref q23, .ref q31, .null, .int 0, .int 0, .int 0, .int 0, .int 0, .int 0])), (q7, .inl (cI, 8, .inl (fun _ => 0))), (q15, .inl (cI, 8, .inl (fun _ => 0))), (q23, .inl (cI, 8, .inl (fun _ => 0))), (q31, .inl (cI, 8, .inl (fun _ => 0))), (q39, .inl (cI, 8, .inl (fun _ => 0)))] := hD
  refine W.widen (k := 5) (n := 40) (by omega) (by omega) ?_
  refine va_putF (D := (dC, dI)) (ci := 0) (v := .ref q39) (ty := .array .int) (C := RX0) (T := TX0) (N := 11) hx hb hts (fun w h => List.mem_cons_of_mem _ (UW_ok 0 (by decide) w h)) tyX0 tyX0_ok nmX0 hown hK hP hD hS 0 rfl rfl 4 (by decide) (hts (.fieldLink RX0 24 "PoloSeason$Line" "dys" "[I") (List.mem_cons_of_mem _ (FL_ok (0, 24, 0, 4) (by decide)))) (fun _ h9 => h9) rfl hin rfl (by decide +kernel) rfl rfl (Nat.le_of_ble_eq_true rfl) (by decide +kernel : decode cX0_init 41 = .ok (.putfield 24, 3)) (fun H locs hP hD hS => ?_)
  have hP : va_P (dC, dI) vwCl [(h0, .inr (0, [.ref q7, .ref q15, .ref q23, .ref q31, .ref q39, .int 0, .int 0, .int 0, .int 0, .int 0, .int 0])), (q7, .inl (cI, 8, .inl (fun _ => 0))), (q15, .inl (cI, 8, .inl (fun _ => 0))), (q23, .inl (cI, 8, .inl (fun _ => 0))), (q31, .inl (cI, 8, .inl (fun _ => 0))), (q39, .inl (cI, 8, .inl (fun _ => 0)))] H := hP
  have hD : va_D A [(h0, .inr (0, [.ref q7, .ref q15, .ref q23, .ref q31, .ref q39, .int 0, .int 0, .int 0, .int 0, .int 0, .int 0])), (q7, .inl (cI, 8, .inl (fun _ => 0))), (q15, .inl (cI, 8, .inl (fun _ => 0))), (q23, .inl (cI, 8, .inl (fun _ => 0))), (q31, .inl (cI, 8, .inl (fun _ => 0))), (q39, .inl (cI, 8, .inl (fun _ => 0)))] := hD
  refine lv_aload_n hx hb (by decide +kernel : decode cX0_init 44 = .ok (.aload_n 0, 1)) rfl (lv_at hl 0 rfl) ?_
  refine lv_iconst (v := 0) hx hb (by decide +kernel : decode cX0_init 45 = .ok (.iconst 0, 1)) (by decide) ?_
  refine va_put (D := (dC, dI)) (ci := 0) (v := .int 0) (ty := .int) (C := RX0) (T := TX0) (N := 11) hx hb hts (fun w h => List.mem_cons_of_mem _ (UW_ok 0 (by decide) w h)) tyX0 tyX0_ok nmX0 hown hK hP hD hS 0 rfl rfl 5 (by decide) (hts (.fieldLink RX0 27 "PoloSeason$Line" "riderCount" "I") (List.mem_cons_of_mem _ (FL_ok (0, 27, 0, 5) (by decide)))) (fun _ h9 => h9) rfl (by decide +kernel) rfl rfl (Nat.le_of_ble_eq_true rfl) (by decide +kernel : decode cX0_init 46 = .ok (.putfield 27, 3)) (fun H locs hP hD hS => ?_)
  have hP : va_P (dC, dI) vwCl [(h0, .inr (0, [.ref q7, .ref q15, .ref q23, .ref q31, .ref q39, .int 0, .int 0, .int 0, .int 0, .int 0, .int 0])), (q7, .inl (cI, 8, .inl (fun _ => 0))), (q15, .inl (cI, 8, .inl (fun _ => 0))), (q23, .inl (cI, 8, .inl (fun _ => 0))), (q31, .inl (cI, 8, .inl (fun _ => 0))), (q39, .inl (cI, 8, .inl (fun _ => 0)))] H := hP
  have hD : va_D A [(h0, .inr (0, [.ref q7, .ref q15, .ref q23, .ref q31, .ref q39, .int 0, .int 0, .int 0, .int 0, .int 0, .int 0])), (q7, .inl (cI, 8, .inl (fun _ => 0))), (q15, .inl (cI, 8, .inl (fun _ => 0))), (q23, .inl (cI, 8, .inl (fun _ => 0))), (q31, .inl (cI, 8, .inl (fun _ => 0))), (q39, .inl (cI, 8, .inl (fun _ => 0)))] := hD
  refine lv_aload_n hx hb (by decide +kernel : decode cX0_init 49 = .ok (.aload_n 0, 1)) rfl (lv_at hl 0 rfl) ?_
  refine lv_iconst (v := 0) hx hb (by decide +kernel : decode cX0_init 50 = .ok (.iconst 0, 1)) (by decide) ?_
  refine va_put (D := (dC, dI)) (ci := 0) (v := .int 0) (ty := .boolean) (C := RX0) (T := TX0) (N := 11) hx hb hts (fun w h => List.mem_cons_of_mem _ (UW_ok 0 (by decide) w h)) tyX0 tyX0_ok nmX0 hown hK hP hD hS 0 rfl rfl 6 (by decide) (hts (.fieldLink RX0 31 "PoloSeason$Line" "ballLies" "Z") (List.mem_cons_of_mem _ (FL_ok (0, 31, 0, 6) (by decide)))) (fun _ h9 => h9) rfl (by decide +kernel) rfl rfl (Nat.le_of_ble_eq_true rfl) (by decide +kernel : decode cX0_init 51 = .ok (.putfield 31, 3)) (fun H locs hP hD hS => ?_)
  have hP : va_P (dC, dI) vwCl [(h0, .inr (0, [.ref q7, .ref q15, .ref q23, .ref q31, .ref q39, .int 0, .int 0, .int 0, .int 0, .int 0, .int 0])), (q7, .inl (cI, 8, .inl (fun _ => 0))), (q15, .inl (cI, 8, .inl (fun _ => 0))), (q23, .inl (cI, 8, .inl (fun _ => 0))), (q31, .inl (cI, 8, .inl (fun _ => 0))), (q39, .inl (cI, 8, .inl (fun _ => 0)))] H := hP
  have hD : va_D A [(h0, .inr (0, [.ref q7, .ref q15, .ref q23, .ref q31, .ref q39, .int 0, .int 0, .int 0, .int 0, .int 0, .int 0])), (q7, .inl (cI, 8, .inl (fun _ => 0))), (q15, .inl (cI, 8, .inl (fun _ => 0))), (q23, .inl (cI, 8, .inl (fun _ => 0))), (q31, .inl (cI, 8, .inl (fun _ => 0))), (q39, .inl (cI, 8, .inl (fun _ => 0)))] := hD
  refine lv_aload_n hx hb (by decide +kernel : decode cX0_init 54 = .ok (.aload_n 0, 1)) rfl (lv_at hl 0 rfl) ?_
  refine lv_iconst (v := 0) hx hb (by decide +kernel : decode cX0_init 55 = .ok (.iconst 0, 1)) (by decide) ?_
  refine va_put (D := (dC, dI)) (ci := 0) (v := .int 0) (ty := .int) (C := RX0) (T := TX0) (N := 11) hx hb hts (fun w h => List.mem_cons_of_mem _ (UW_ok 0 (by decide) w h)) tyX0 tyX0_ok nmX0 hown hK hP hD hS 0 rfl rfl 7 (by decide) (hts (.fieldLink RX0 35 "PoloSeason$Line" "ballX" "I") (List.mem_cons_of_mem _ (FL_ok (0, 35, 0, 7) (by decide)))) (fun _ h9 => h9) rfl (by decide +kernel) rfl rfl (Nat.le_of_ble_eq_true rfl) (by decide +kernel : decode cX0_init 56 = .ok (.putfield 35, 3)) (fun H locs hP hD hS => ?_)
  have hP : va_P (dC, dI) vwCl [(h0, .inr (0, [.ref q7, .ref q15, .ref q23, .ref q31, .ref q39, .int 0, .int 0, .int 0, .int 0, .int 0, .int 0])), (q7, .inl (cI, 8, .inl (fun _ => 0))), (q15, .inl (cI, 8, .inl (fun _ => 0))), (q23, .inl (cI, 8, .inl (fun _ => 0))), (q31, .inl (cI, 8, .inl (fun _ => 0))), (q39, .inl (cI, 8, .inl (fun _ => 0)))] H := hP
  have hD : va_D A [(h0, .inr (0, [.ref q7, .ref q15, .ref q23, .ref q31, .ref q39, .int 0, .int 0, .int 0, .int 0, .int 0, .int 0])), (q7, .inl (cI, 8, .inl (fun _ => 0))), (q15, .inl (cI, 8, .inl (fun _ => 0))), (q23, .inl (cI, 8, .inl (fun _ => 0))), (q31, .inl (cI, 8, .inl (fun _ => 0))), (q39, .inl (cI, 8, .inl (fun _ => 0)))] := hD
  refine lv_aload_n hx hb (by decide +kernel : decode cX0_init 59 = .ok (.aload_n 0, 1)) rfl (lv_at hl 0 rfl) ?_
  refine lv_iconst (v := 0) hx hb (by decide +kernel : decode cX0_init 60 = .ok (.iconst 0, 1)) (by decide) ?_
  refine va_put (D := (dC, dI)) (ci := 0) (v := .int 0) (ty := .int) (C := RX0) (T := TX0) (N := 11) hx hb hts (fun w h => List.mem_cons_of_mem _ (UW_ok 0 (by decide) w h)) tyX0 tyX0_ok nmX0 hown hK hP hD hS 0 rfl rfl 8 (by decide) (hts (.fieldLink RX0 38 "PoloSeason$Line" "ballY" "I") (List.mem_cons_of_mem _ (FL_ok (0, 38, 0, 8) (by decide)))) (fun _ h9 => h9) rfl (by decide +kernel) rfl rfl (Nat.le_of_ble_eq_true rfl) (by decide +kernel : decode cX0_init 61 = .ok (.putfield 38, 3)) (fun H locs hP hD hS => ?_)
  have hP : va_P (dC, dI) vwCl [(h0, .inr (0, [.ref q7, .ref q15, .ref q23, .ref q31, .ref q39, .int 0, .int 0, .int 0, .int 0, .int 0, .int 0])), (q7, .inl (cI, 8, .inl (fun _ => 0))), (q15, .inl (cI, 8, .inl (fun _ => 0))), (q23, .inl (cI, 8, .inl (fun _ => 0))), (q31, .inl (cI, 8, .inl (fun _ => 0))), (q39, .inl (cI, 8, .inl (fun _ => 0)))] H := hP
  have hD : va_D A [(h0, .inr (0, [.ref q7, .ref q15, .ref q23, .ref q31, .ref q39, .int 0, .int 0, .int 0, .int 0, .int 0, .int 0])), (q7, .inl (cI, 8, .inl (fun _ => 0))), (q15, .inl (cI, 8, .inl (fun _ => 0))), (q23, .inl (cI, 8, .inl (fun _ => 0))), (q31, .inl (cI, 8, .inl (fun _ => 0))), (q39, .inl (cI, 8, .inl (fun _ => 0)))] := hD
  refine lv_aload_n hx hb (by decide +kernel : decode cX0_init 64 = .ok (.aload_n 0, 1)) rfl (lv_at hl 0 rfl) ?_
  refine lv_iconst (v := 0) hx hb (by decide +kernel : decode cX0_init 65 = .ok (.iconst 0, 1)) (by decide) ?_
  refine va_put (D := (dC, dI)) (ci := 0) (v := .int 0) (ty := .int) (C := RX0) (T := TX0) (N := 11) hx hb hts (fun w h => List.mem_cons_of_mem _ (UW_ok 0 (by decide) w h)) tyX0 tyX0_ok nmX0 hown hK hP hD hS 0 rfl rfl 9 (by decide) (hts (.fieldLink RX0 41 "PoloSeason$Line" "ballDx" "I") (List.mem_cons_of_mem _ (FL_ok (0, 41, 0, 9) (by decide)))) (fun _ h9 => h9) rfl (by decide +kernel) rfl rfl (Nat.le_of_ble_eq_true rfl) (by decide +kernel : decode cX0_init 66 = .ok (.putfield 41, 3)) (fun H locs hP hD hS => ?_)
  have hP : va_P (dC, dI) vwCl [(h0, .inr (0, [.ref q7, .ref q15, .ref q23, .ref q31, .ref q39, .int 0, .int 0, .int 0, .int 0, .int 0, .int 0])), (q7, .inl (cI, 8, .inl (fun _ => 0))), (q15, .inl (cI, 8, .inl (fun _ => 0))), (q23, .inl (cI, 8, .inl (fun _ => 0))), (q31, .inl (cI, 8, .inl (fun _ => 0))), (q39, .inl (cI, 8, .inl (fun _ => 0)))] H := hP
  have hD : va_D A [(h0, .inr (0, [.ref q7, .ref q15, .ref q23, .ref q31, .ref q39, .int 0, .int 0, .int 0, .int 0, .int 0, .int 0])), (q7, .inl (cI, 8, .inl (fun _ => 0))), (q15, .inl (cI, 8, .inl (fun _ => 0))), (q23, .inl (cI, 8, .inl (fun _ => 0))), (q31, .inl (cI, 8, .inl (fun _ => 0))), (q39, .inl (cI, 8, .inl (fun _ => 0)))] := hD
  refine lv_aload_n hx hb (by decide +kernel : decode cX0_init 69 = .ok (.aload_n 0, 1)) rfl (lv_at hl 0 rfl) ?_
  refine lv_iconst (v := 0) hx hb (by decide +kernel : decode cX0_init 70 = .ok (.iconst 0, 1)) (by decide) ?_
  refine va_put (D := (dC, dI)) (ci := 0) (v := .int 0) (ty := .int) (C := RX0) (T := TX0) (N := 11) hx hb hts (fun w h => List.mem_cons_of_mem _ (UW_ok 0 (by decide) w h)) tyX0 tyX0_ok nmX0 hown hK hP hD hS 0 rfl rfl 10 (by decide) (hts (.fieldLink RX0 44 "PoloSeason$Line" "ballDy" "I") (List.mem_cons_of_mem _ (FL_ok (0, 44, 0, 10) (by decide)))) (fun _ h9 => h9) rfl (by decide +kernel) rfl rfl (Nat.le_of_ble_eq_true rfl) (by decide +kernel : decode cX0_init 71 = .ok (.putfield 44, 3)) (fun H locs hP hD hS => ?_)
  have hP : va_P (dC, dI) vwCl [(h0, .inr (0, [.ref q7, .ref q15, .ref q23, .ref q31, .ref q39, .int 0, .int 0, .int 0, .int 0, .int 0, .int 0])), (q7, .inl (cI, 8, .inl (fun _ => 0))), (q15, .inl (cI, 8, .inl (fun _ => 0))), (q23, .inl (cI, 8, .inl (fun _ => 0))), (q31, .inl (cI, 8, .inl (fun _ => 0))), (q39, .inl (cI, 8, .inl (fun _ => 0)))] H := hP
  have hD : va_D A [(h0, .inr (0, [.ref q7, .ref q15, .ref q23, .ref q31, .ref q39, .int 0, .int 0, .int 0, .int 0, .int 0, .int 0])), (q7, .inl (cI, 8, .inl (fun _ => 0))), (q15, .inl (cI, 8, .inl (fun _ => 0))), (q23, .inl (cI, 8, .inl (fun _ => 0))), (q31, .inl (cI, 8, .inl (fun _ => 0))), (q39, .inl (cI, 8, .inl (fun _ => 0)))] := hD
  have hP9 := hP.sub (ws' := [(h0, .inr (0, [.ref q7, .ref q15, .ref q23, .ref q31, .ref q39, .int 0, .int 0, .int 0, .int 0, .int 0, .int 0])), (q7, .inl (cI, 8, .inl (fun _ => 0))), (q15, .inl (cI, 8, .inl (fun _ => 0))), (q23, .inl (cI, 8, .inl (fun _ => 0))), (q31, .inl (cI, 8, .inl (fun _ => 0))), (q39, .inl (cI, 8, .inl (fun _ => 0)))]) [0, 1, 2, 3, 4, 5] rfl
  have hD9 := hD.sub (ws' := [(h0, .inr (0, [.ref q7, .ref q15, .ref q23, .ref q31, .ref q39, .int 0, .int 0, .int 0, .int 0, .int 0, .int 0])), (q7, .inl (cI, 8, .inl (fun _ => 0))), (q15, .inl (cI, 8, .inl (fun _ => 0))), (q23, .inl (cI, 8, .inl (fun _ => 0))), (q31, .inl (cI, 8, .inl (fun _ => 0))), (q39, .inl (cI, 8, .inl (fun _ => 0)))]) [0, 1, 2, 3, 4, 5] (by decide) rfl
  refine W.widen (k := 5) (n := 40) (by decide) (by decide) ?_
  exact W.vret hx hb hr (fun t ht hW => ⟨⟨(), rfl, trivial, q7, q15, q23, q31, q39, by rw [ht]; exact hP9, hD9⟩, hS.F ht⟩) hS.2.2 (by decide +kernel : decode cX0_init 74 = .ok (.return_, 1))
set_option maxRecDepth 100000 in
theorem cwd_4 : (Cond.methodLink RX1 3 objectInit) ∈ GW := gw_of (p := 105) (by decide +kernel) rfl
set_option maxHeartbeats 4000000 in
set_option maxRecDepth 100000 in
/-- PoloSeason$Noise(): the world that it makes -/
theorem k_X1 (l : Launch) (dC : Nat → ClassId) (dI : Nat → Nat → Nat) (cI cZ cJ : ClassId) (h0 sz : Nat) : Met l yX1_init (wsOf 16) ({ frames := 1, cells := 1, slots := 20, locals := 12 }) (va_Pc [.ref h0] (kb_pre dC dI cI cZ cJ (h0, .inr (1, [.null, .int 0])) sz)) (va_Qv (fun _ : Unit => True) (fun _ t => ∃ q7 : Nat, va_P (dC, dI) vwCl [(h0, .inr (1, [.ref q7, .int 0])), (q7, .inl (cI, 20, .inl (fun _ => 0)))] t.heap ∧ va_D (va_A [(h0, .inr (1, [.null, .int 0]))] sz) [(h0, .inr (1, [.ref q7, .int 0])), (q7, .inl (cI, 20, .inl (fun _ => 0)))]) (va_A [(h0, .inr (1, [.null, .int 0]))] sz)) 1 20 (va_A [(h0, .inr (1, [.null, .int 0]))] sz) := by
  refine Met.ofW (cc := cX1_init) (maxL := 1) (ret := none) (by decide) rfl ?_
  intro p e s m args below meth c s₁ B hml hv
  obtain ⟨rfl, hsz, hP, hK, hD0⟩ := hv
  have hx := B.exec
  have hb := B.bytes
  have hr := B.returns
  have hts := atoms_spec (ws := wsOf 16) B.pre
  have hown : s.vm.findClass RX1 = some m.cls := findClass_of_methodNamed B.named
  have hlocks := B.notSynchronized
  have hin : meth.name = "<init>" := (name_of_methodNamed B.named B.method).1
  subst hsz
  have hD := hD0.self (sz := s.heap.size)
  generalize hAe : va_A [(h0, .inr (1, [.null, .int 0]))] s.heap.size = A at hD ⊢
  have hA : ∀ q : Nat, s.heap.size ≤ q → A q := fun q h => by rw [← hAe]; exact Or.inr h
  have hS : va_S A s.heap s.heap [] := va_S.rf
  have hP : va_P (dC, dI) vwCl [(h0, .inr (1, [.null, .int 0]))] s.heap := hP
  have hl := lv_entry ([.ref h0]) (n := 1) (Nat.le_of_ble_eq_true rfl)
  rw [lg_entry_eq]
  generalize (lg_sl ([.ref h0]) ++ List.replicate (1 - (lg_sl ([.ref h0])).length) Slot.unset).toArray = ls at hl ⊢
  have hl : lv_has ls 1 [(0, .ref h0)] := hl
  refine lv_aload_n hx hb (by decide +kernel : decode cX1_init 0 = .ok (.aload_n 0, 1)) rfl (lv_at hl 0 rfl) ?_
  refine W.objInit hx hb hown (hts (Cond.methodLink RX1 3 objectInit) (List.mem_cons_of_mem _ cwd_4)) (hts (Cond.instanceMethod objectInit) (List.mem_cons_of_mem _ cwd_1)) (hts (Cond.code objectInit ⟨#[0xb1]⟩ 1 none) (List.mem_cons_of_mem _ cwd_2)) rfl (by rw [hml]; exact hl.1) rfl (by decide +kernel : decode cX1_init 1 = .ok (.invokespecial 3, 3)) (Nat.le_of_ble_eq_true rfl) (Nat.le_of_ble_eq_true rfl) ?_
  refine W.eq (g2 := F0 m 4 ls []) rfl ?_
  refine lv_aload_n hx hb (by decide +kernel : decode cX1_init 4 = .ok (.aload_n 0, 1)) rfl (lv_at hl 0 rfl) ?_
  refine lv_bipush (v := 20) hx hb (by decide +kernel : decode cX1_init 5 = .ok (.bipush 20, 2)) (by decide) ?_
  refine va_newa (atype := .int) (ty := .int) (a0 := (20, .inl (fun _ => 0))) (N' := 20) hx hb (hts (Cond.arrayClass .int) (List.mem_cons_of_mem _ cwd_3)) rfl hK hP hD hS hA (fun _ => rfl) (by decide) (by decide) (by decide) (show 0 + 1 ≤ 1 by decide) (show 0 + 20 ≤ 20 by decide) (by decide +kernel : decode cX1_init 7 = .ok (.newarray .int, 2)) (fun q7 cA H hK hP hD hS => ?_)
  cases Option.some.inj ((hK.2 3 _ rfl).2.symm.trans (hK.2 0 _ rfl).2)
  replace hK := hK.sub (tys' := [(cI, .int), (cZ, .boolean), (cJ, .long)]) [0, 1, 2] rfl
  have hP : va_P (dC, dI) vwCl [(h0, .inr (1, [.null, .int 0])), (q7, .inl (cI, 20, .inl (fun _ => 0)))] H := hP
  have hD : va_D A [(h0, .inr (1, [.null, .int 0])), (q7, .inl (cI, 20, .inl (fun _ => 0)))] := hD
  refine W.widen (k := 1) (n := 20) (by omega) (by omega) ?_
  refine va_putF (D := (dC, dI)) (ci := 1) (v := .ref q7) (ty := .array .int) (C := RX1) (T := TX1) (N := 2) hx hb hts (fun w h => List.mem_cons_of_mem _ (UW_ok 1 (by decide) w h)) tyX1 tyX1_ok nmX1 hown hK hP hD hS 0 rfl rfl 0 (by decide) (hts (.fieldLink RX1 9 "PoloSeason$Noise" "values" "[I") (List.mem_cons_of_mem _ (FL_ok (1, 9, 1, 0) (by decide)))) (fun _ h9 => h9) rfl hin rfl (by decide +kernel) rfl rfl (Nat.le_of_ble_eq_true rfl) (by decide +kernel : decode cX1_init 9 = .ok (.putfield 9, 3)) (fun H locs hP hD hS => ?_)
  have hP : va_P (dC, dI) vwCl [(h0, .inr (1, [.ref q7, .int 0])), (q7, .inl (cI, 20, .inl (fun _ => 0)))] H := hP
  have hD : va_D A [(h0, .inr (1, [.ref q7, .int 0])), (q7, .inl (cI, 20, .inl (fun _ => 0)))] := hD
  refine lv_aload_n hx hb (by decide +kernel : decode cX1_init 12 = .ok (.aload_n 0, 1)) rfl (lv_at hl 0 rfl) ?_
  refine lv_iconst (v := 0) hx hb (by decide +kernel : decode cX1_init 13 = .ok (.iconst 0, 1)) (by decide) ?_
  refine va_put (D := (dC, dI)) (ci := 1) (v := .int 0) (ty := .int) (C := RX1) (T := TX1) (N := 2) hx hb hts (fun w h => List.mem_cons_of_mem _ (UW_ok 1 (by decide) w h)) tyX1 tyX1_ok nmX1 hown hK hP hD hS 0 rfl rfl 1 (by decide) (hts (.fieldLink RX1 15 "PoloSeason$Noise" "filled" "I") (List.mem_cons_of_mem _ (FL_ok (1, 15, 1, 1) (by decide)))) (fun _ h9 => h9) rfl (by decide +kernel) rfl rfl (Nat.le_of_ble_eq_true rfl) (by decide +kernel : decode cX1_init 14 = .ok (.putfield 15, 3)) (fun H locs hP hD hS => ?_)
  have hP : va_P (dC, dI) vwCl [(h0, .inr (1, [.ref q7, .int 0])), (q7, .inl (cI, 20, .inl (fun _ => 0)))] H := hP
  have hD : va_D A [(h0, .inr (1, [.ref q7, .int 0])), (q7, .inl (cI, 20, .inl (fun _ => 0)))] := hD
  have hP9 := hP.sub (ws' := [(h0, .inr (1, [.ref q7, .int 0])), (q7, .inl (cI, 20, .inl (fun _ => 0)))]) [0, 1] rfl
  have hD9 := hD.sub (ws' := [(h0, .inr (1, [.ref q7, .int 0])), (q7, .inl (cI, 20, .inl (fun _ => 0)))]) [0, 1] (by decide) rfl
  refine W.widen (k := 1) (n := 20) (by decide) (by decide) ?_
  exact W.vret hx hb hr (fun t ht hW => ⟨⟨(), rfl, trivial, q7, by rw [ht]; exact hP9, hD9⟩, hS.F ht⟩) hS.2.2 (by decide +kernel : decode cX1_init 17 = .ok (.return_, 1))
set_option maxRecDepth 100000 in
theorem cwd_5 : (Cond.methodLink RX2 3 objectInit) ∈ GW := gw_of (p := 193) (by decide +kernel) rfl
set_option maxRecDepth 100000 in
theorem cwd_6 : (Cond.arrayClass .boolean) ∈ GW := gw_of (p := 99) (by decide +kernel) rfl
set_option maxHeartbeats 4000000 in
set_option maxRecDepth 100000 in
/-- PoloSeason$Planner(): the world that it makes -/
theorem k_X2 (l : Launch) (dC : Nat → ClassId) (dI : Nat → Nat → Nat) (cI cZ cJ : ClassId) (h0 sz : Nat) : Met l yX2_init (wsOf 21) ({ frames := 1, cells := 6, slots := 46, locals := 12 }) (va_Pc [.ref h0] (kb_pre dC dI cI cZ cJ (h0, .inr (2, [.null, .null, .null, .null, .null, .null, .int 0, .int 0, .int 0])) sz)) (va_Qv (fun _ : Unit => True) (fun _ t => ∃ q7 q15 q23 q31 q39 q47 : Nat, va_P (dC, dI) vwCl [(h0, .inr (2, [.ref q7, .ref q15, .ref q23, .ref q31, .ref q39, .ref q47, .int 0, .int 0, .int 0])), (q7, .inl (cI, 8, .inl (fun _ => 0))), (q15, .inl (cI, 8, .inl (fun _ => 0))), (q23, .inl (cI, 8, .inl (fun _ => 0))), (q31, .inl (cI, 8, .inl (fun _ => 0))), (q39, .inl (cZ, 8, .inl (fun _ => 0))), (q47, .inl (cI, 6, .inl (fun _ => 0)))] t.heap ∧ va_D (va_A [(h0, .inr (2, [.null, .null, .null, .null, .null, .null, .int 0, .int 0, .int 0]))] sz) [(h0, .inr (2, [.ref q7, .ref q15, .ref q23, .ref q31, .ref q39, .ref q47, .int 0, .int 0, .int 0])), (q7, .inl (cI, 8, .inl (fun _ => 0))), (q15, .inl (cI, 8, .inl (fun _ => 0))), (q23, .inl (cI, 8, .inl (fun _ => 0))), (q31, .inl (cI, 8, .inl (fun _ => 0))), (q39, .inl (cZ, 8, .inl (fun _ => 0))), (q47, .inl (cI, 6, .inl (fun _ => 0)))]) (va_A [(h0, .inr (2, [.null, .null, .null, .null, .null, .null, .int 0, .int 0, .int 0]))] sz)) 6 46 (va_A [(h0, .inr (2, [.null, .null, .null, .null, .null, .null, .int 0, .int 0, .int 0]))] sz) := by
  refine Met.ofW (cc := cX2_init) (maxL := 1) (ret := none) (by decide) rfl ?_
  intro p e s m args below meth c s₁ B hml hv
  obtain ⟨rfl, hsz, hP, hK, hD0⟩ := hv
  have hx := B.exec
  have hb := B.bytes
  have hr := B.returns
  have hts := atoms_spec (ws := wsOf 21) B.pre
  have hown : s.vm.findClass RX2 = some m.cls := findClass_of_methodNamed B.named
  have hlocks := B.notSynchronized
  have hin : meth.name = "<init>" := (name_of_methodNamed B.named B.method).1
  subst hsz
  have hD := hD0.self (sz := s.heap.size)
  generalize hAe : va_A [(h0, .inr (2, [.null, .null, .null, .null, .null, .null, .int 0, .int 0, .int 0]))] s.heap.size = A at hD ⊢
  have hA : ∀ q : Nat, s.heap.size ≤ q → A q := fun q h => by rw [← hAe]; exact Or.inr h
  have hS : va_S A s.heap s.heap [] := va_S.rf
  have hP : va_P (dC, dI) vwCl [(h0, .inr (2, [.null, .null, .null, .null, .null, .null, .int 0, .int 0, .int 0]))] s.heap := hP
  have hl := lv_entry ([.ref h0]) (n := 1) (Nat.le_of_ble_eq_true rfl)
  rw [lg_entry_eq]
  generalize (lg_sl ([.ref h0]) ++ List.replicate (1 - (lg_sl ([.ref h0])).length) Slot.unset).toArray = ls at hl ⊢
  have hl : lv_has ls 1 [(0, .ref h0)] := hl
  refine lv_aload_n hx hb (by decide +kernel : decode cX2_init 0 = .ok (.aload_n 0, 1)) rfl (lv_at hl 0 rfl) ?_
  refine W.objInit hx hb hown (hts (Cond.methodLink RX2 3 objectInit) (List.mem_cons_of_mem _ cwd_5)) (hts (Cond.instanceMethod objectInit) (List.mem_cons_of_mem _ cwd_1)) (hts (Cond.code objectInit ⟨#[0xb1]⟩ 1 none) (List.mem_cons_of_mem _ cwd_2)) rfl (by rw [hml]; exact hl.1) rfl (by decide +kernel : decode cX2_init 1 = .ok (.invokespecial 3, 3)) (Nat.le_of_ble_eq_true rfl) (Nat.le_of_ble_eq_true rfl) ?_
  refine W.eq (g2 := F0 m 4 ls []) rfl ?_
  refine lv_aload_n hx hb (by decide +kernel : decode cX2_init 4 = .ok (.aload_n 0, 1)) rfl (lv_at hl 0 rfl) ?_
  refine lv_bipush (v := 8) hx hb (by decide +kernel : decode cX2_init 5 = .ok (.bipush 8, 2)) (by decide) ?_
  refine va_newa (atype := .int) (ty := .int) (a0 := (8, .inl (fun _ => 0))) (N' := 8) hx hb (hts (Cond.arrayClass .int) (List.mem_cons_of_mem _ cwd_3)) rfl hK hP hD hS hA (fun _ => rfl) (by decide) (by decide) (by decide) (show 0 + 1 ≤ 6 by decide) (show 0 + 8 ≤ 46 by decide) (by decide +kernel : decode cX2_init 7 = .ok (.newarray .int, 2)) (fun q7 cA H hK hP hD hS => ?_)
  cases Option.some.inj ((hK.2 3 _ rfl).2.symm.trans (hK.2 0 _ rfl).2)
  replace hK := hK.sub (tys' := [(cI, .int), (cZ, .boolean), (cJ, .long)]) [0, 1, 2] rfl
  have hP : va_P (dC, dI) vwCl [(h0, .inr (2, [.null, .null, .null, .null, .null, .null, .int 0, .int 0, .int 0])), (q7, .inl (cI, 8, .inl (fun _ => 0)))] H := hP
  have hD : va_D A [(h0, .inr (2, [.null, .null, .null, .null, .null, .null, .int 0, .int 0, .int 0])), (q7, .inl (cI, 8, .inl (fun _ => 0)))] := hD
  refine W.widen (k := 1) (n := 8) (by omega) (by omega) ?_
  refine va_putF (D := (dC, dI)) (ci := 2) (v := .ref q7) (ty := .array .int) (C := RX2) (T := TX2) (N := 9) hx hb hts (fun w h => List.mem_cons_of_mem _ (UW_ok 2 (by decide) w h)) tyX2 tyX2_ok nmX2 hown hK hP hD hS 0 rfl rfl 0 (by decide) (hts (.fieldLink RX2 9 "PoloSeason$Planner" "ponies" "[I") (List.mem_cons_of_mem _ (FL_ok (2, 9, 2, 0) (by decide)))) (fun _ h9 => h9) rfl hin rfl (by decide +kernel) rfl rfl (Nat.le_of_ble_eq_true rfl) (by decide +kernel : decode cX2_init 9 = .ok (.putfield 9, 3)) (fun H locs hP hD hS => ?_)
  have hP : va_P (dC, dI) vwCl [(h0, .inr (2, [.ref q7, .null, .null, .null, .null, .null, .int 0, .int 0, .int 0])), (q7, .inl (cI, 8, .inl (fun _ => 0)))] H := hP
  have hD : va_D A [(h0, .inr (2, [.ref q7, .null, .null, .null, .null, .null, .int 0, .int 0, .int 0])), (q7, .inl (cI, 8, .inl (fun _ => 0)))] := hD
  refine lv_aload_n hx hb (by decide +kernel : decode cX2_init 12 = .ok (.aload_n 0, 1)) rfl (lv_at hl 0 rfl) ?_
  refine lv_bipush (v := 8) hx hb (by decide +kernel : decode cX2_init 13 = .ok (.bipush 8, 2)) (by decide) ?_
  refine va_newa (atype := .int) (ty := .int) (a0 := (8, .inl (fun _ => 0))) (N' := 8) hx hb (hts (Cond.arrayClass .int) (List.mem_cons_of_mem _ cwd_3)) rfl hK hP hD hS hA (fun _ => rfl) (by decide) (by decide) (by decide) (show 1 + 1 ≤ 6 by decide) (show 8 + 8 ≤ 46 by decide) (by decide +kernel : decode cX2_init 15 = .ok (.newarray .int, 2)) (fun q15 cA H hK hP hD hS => ?_)
  cases Option.some.inj ((hK.2 3 _ rfl).2.symm.trans (hK.2 0 _ rfl).2)
  replace hK := hK.sub (tys' := [(cI, .int), (cZ, .boolean), (cJ, .long)]) [0, 1, 2] rfl
  have hP : va_P (dC, dI) vwCl [(h0, .inr (2, [.ref q7, .null, .null, .null, .null, .null, .int 0, .int 0, .int 0])), (q7, .inl (cI, 8, .inl (fun _ => 0))), (q15, .inl (cI, 8, .inl (fun _ => 0)))] H := hP
  have hD : va_D A [(h0, .inr (2, [.ref q7, .null, .null, .null, .null, .null, .int 0, .int 0, .int 0])), (q7, .inl (cI, 8, .inl (fun _ => 0))), (q15, .inl (cI, 8, .inl (fun _ => 0)))] := hD
  refine W.widen (k := 2) (n := 16) (by omega) (by omega) ?_
  refine va_putF (D := (dC, dI)) (ci := 2) (v := .ref q15) (ty := .array .int) (C := RX2) (T := TX2) (N := 9) hx hb hts (fun w h => List.mem_cons_of_mem _ (UW_ok 2 (by decide) w h)) tyX2 tyX2_ok nmX2 hown hK hP hD hS 0 rfl rfl 1 (by decide) (hts (.fieldLink RX2 15 "PoloSeason$Planner" "levels" "[I") (List.mem_cons_of_mem _ (FL_ok (2, 15, 2, 1) (by decide)))) (fun _ h9 => h9) rfl hin rfl (by decide +kernel) rfl rfl (Nat.le_of_ble_eq_true rfl) (by decide +kernel : decode cX2_init 17 = .ok (.putfield 15, 3)) (fun H locs hP hD hS => ?_)
  have hP : va_P (dC, dI) vwCl [(h0, .inr (2, [.ref q7, .ref q15, .null, .null, .null, .null, .int 0, .int 0, .int 0])), (q7, .inl (cI, 8, .inl (fun _ => 0))), (q15, .inl (cI, 8, .inl (fun _ => 0)))] H := hP
  have hD : va_D A [(h0, .inr (2, [.ref q7, .ref q15, .null, .null, .null, .null, .int 0, .int 0, .int 0])), (q7, .inl (cI, 8, .inl (fun _ => 0))), (q15, .inl (cI, 8, .inl (fun _ => 0)))] := hD
  refine lv_aload_n hx hb (by decide +kernel : decode cX2_init 20 = .ok (.aload_n 0, 1)) rfl (lv_at hl 0 rfl) ?_
  refine lv_bipush (v := 8) hx hb (by decide +kernel : decode cX2_init 21 = .ok (.bipush 8, 2)) (by decide) ?_
  refine va_newa (atype := .int) (ty := .int) (a0 := (8, .inl (fun _ => 0))) (N' := 8) hx hb (hts (Cond.arrayClass .int) (List.mem_cons_of_mem _ cwd_3)) rfl hK hP hD hS hA (fun _ => rfl) (by decide) (by decide) (by decide) (show 2 + 1 ≤ 6 by decide) (show 16 + 8 ≤ 46 by decide) (by decide +kernel : decode cX2_init 23 = .ok (.newarray .int, 2)) (fun q23 cA H hK hP hD hS => ?_)
  cases Option.some.inj ((hK.2 3 _ rfl).2.symm.trans (hK.2 0 _ rfl).2)
  replace hK := hK.sub (tys' := [(cI, .int), (cZ, .boolean), (cJ, .long)]) [0, 1, 2] rfl
  have hP : va_P (dC, dI) vwCl [(h0, .inr (2, [.ref q7, .ref q15, .null, .null, .null, .null, .int 0, .int 0, .int 0])), (q7, .inl (cI, 8, .inl (fun _ => 0))), (q15, .inl (cI, 8, .inl (fun _ => 0))), (q23, .inl (cI, 8, .inl (fun _ => 0)))] H := hP
  have hD : va_D A [(h0, .inr (2, [.ref q7, .ref q15, .null, .null, .null, .null, .int 0, .int 0, .int 0])), (q7, .inl (cI, 8, .inl (fun _ => 0))), (q15, .inl (cI, 8, .inl (fun _ => 0))), (q23, .inl (cI, 8, .inl (fun _ => 0)))] := hD
  refine W.widen (k := 3) (n := 24) (by omega) (by omega) ?_
  refine va_putF (D := (dC, dI)) (ci := 2) (v := .ref q23) (ty := .array .int) (C := RX2) (T := TX2) (N := 9) hx hb hts (fun w h => List.mem_cons_of_mem _ (UW_ok 2 (by decide) w h)) tyX2 tyX2_ok nmX2 hown hK hP hD hS 0 rfl rfl 2 (by decide) (hts (.fieldLink RX2 18 "PoloSeason$Planner" "capacity" "[I") (List.mem_cons_of_mem _ (FL_ok (2, 18, 2, 2) (by decide)))) (fun _ h9 => h9) rfl hin rfl (by decide +kernel) rfl rfl (Nat.le_of_ble_eq_true rfl) (by decide +kernel : decode cX2_init 25 = .ok (.putfield 18, 3)) (fun H locs hP hD hS => ?_)
  have hP : va_P (dC, dI) vwCl [(h0, .inr (2, [.ref q7, .ref q15, .ref q23, .null, .null, .null, .int 0, .int 0, .int 0])), (q7, .inl (cI, 8, .inl (fun _ => 0))), (q15, .inl (cI, 8, .inl (fun _ => 0))), (q23, .inl (cI, 8, .inl (fun _ => 0)))] H := hP
  have hD : va_D A [(h0, .inr (2, [.ref q7, .ref q15, .ref q23, .null, .null, .null, .int 0, .int 0, .int 0])), (q7, .inl (cI, 8, .inl (fun _ => 0))), (q15, .inl (cI, 8, .inl (fun _ => 0))), (q23, .inl (cI, 8, .inl (fun _ => 0)))] := hD
  refine lv_aload_n hx hb (by decide +kernel : decode cX2_init 28 = .ok (.aload_n 0, 1)) rfl (lv_at hl 0 rfl) ?_
  refine lv_bipush (v := 8) hx hb (by decide +kernel : decode cX2_init 29 = .ok (.bipush 8, 2)) (by decide) ?_
  refine va_newa (atype := .int) (ty := .int) (a0 := (8, .inl (fun _ => 0))) (N' := 8) hx hb (hts (Cond.arrayClass .int) (List.mem_cons_of_mem _ cwd_3)) rfl hK hP hD hS hA (fun _ => rfl) (by decide) (by decide) (by decide) (show 3 + 1 ≤ 6 by decide) (show 24 + 8 ≤ 46 by decide) (by decide +kernel : decode cX2_init 31 = .ok (.newarray .int, 2)) (fun q31 cA H hK hP hD hS => ?_)
  cases Option.some.inj ((hK.2 3 _ rfl).2.symm.trans (hK.2 0 _ rfl).2)
  replace hK := hK.sub (tys' := [(cI, .int), (cZ, .boolean), (cJ, .long)]) [0, 1, 2] rfl
  have hP : va_P (dC, dI) vwCl [(h0, .inr (2, [.ref q7, .ref q15, .ref q23, .null, .null, .null, .int 0, .int 0, .int 0])), (q7, .inl (cI, 8, .inl (fun _ => 0))), (q15, .inl (cI, 8, .inl (fun _ => 0))), (q23, .inl (cI, 8, .inl (fun _ => 0))), (q31, .inl (cI, 8, .inl (fun _ => 0)))] H := hP
  have hD : va_D A [(h0, .inr (2, [.ref q7, .ref q15, .ref q23, .null, .null, .null, .int 0, .int 0, .int 0])), (q7, .inl (cI, 8, .inl (fun _ => 0))), (q15, .inl (cI, 8, .inl (fun _ => 0))), (q23, .inl (cI, 8, .inl (fun _ => 0))), (q31, .inl (cI, 8, .inl (fun _ => 0)))] := hD
  refine W.widen (k := 4) (n := 32) (by omega) (by omega) ?_
  refine va_putF (D := (dC, dI)) (ci := 2) (v := .ref q31) (ty := .array .int) (C := RX2) (T := TX2) (N := 9) hx hb hts (fun w h => List.mem_cons_of_mem _ (UW_ok 2 (by decide) w h)) tyX2 tyX2_ok nmX2 hown hK hP hD hS 0 rfl rfl 3 (by decide) (hts (.fieldLink RX2 21 "PoloSeason$Planner" "due" "[I") (List.mem_cons_of_mem _ (FL_ok (2, 21, 2, 3) (by decide)))) (fun _ h9 => h9) rfl hin rfl (by decide +kernel) rfl rfl (Nat.le_of_ble_eq_true rfl) (by decide +kernel : decode cX2_init 33 = .ok (.putfield 21, 3)) (fun H locs hP hD hS => ?_)
  have hP : va_P (dC, dI) vwCl [(h0, .inr (2, [.ref q7, .ref q15, .ref q23, .ref q31, .null, .null, .int 0, .int 0, .int 0])), (q7, .inl (cI, 8, .inl (fun _ => 0))), (q15, .inl (cI, 8, .inl (fun _ => 0))), (q23, .inl (cI, 8, .inl (fun _ => 0))), (q31, .inl (cI, 8, .inl (fun _ => 0)))] H := hP
  have hD : va_D A [(h0, .inr (2, [.ref q7, .ref q15, .ref q23, .ref q31, .null, .null, .int 0, .int 0, .int 0])), (q7, .inl (cI, 8, .inl (fun _ => 0))), (q15, .inl (cI, 8, .inl (fun _ => 0))), (q23, .inl (cI, 8, .inl (fun _ => 0))), (q31, .inl (cI, 8, .inl (fun _ => 0)))] := hD
  refine lv_aload_n hx hb (by decide +kernel : decode cX2_init 36 = .ok (.aload_n 0, 1)) rfl (lv_at hl 0 rfl) ?_
  refine lv_bipush (v := 8) hx hb (by decide +kernel : decode cX2_init 37 = .ok (.bipush 8, 2)) (by decide) ?_
  refine va_newa (atype := .boolean) (ty := .boolean) (a0 := (8, .inl (fun _ => 0))) (N' := 8) hx hb (hts (Cond.arrayClass .boolean) (List.mem_cons_of_mem _ cwd_6)) rfl hK hP hD hS hA (fun _ => rfl) (by decide) (by decide) (by decide) (show 4 + 1 ≤ 6 by decide) (show 32 + 8 ≤ 46 by decide) (by decide +kernel : decode cX2_init 39 = .ok (.newarray .boolean, 2)) (fun q39 cA H hK hP hD hS => ?_)
  cases Option.some.inj ((hK.2 3 _ rfl).2.symm.trans (hK.2 1 _ rfl).2)
  replace hK := hK.sub (tys' := [(cI, .int), (cZ, .boolean), (cJ, .long)]) [0, 1, 2] rfl
  have hP : va_P (dC, dI) vwCl [(h0, .inr (2, [.ref q7, .ref q15, .ref q23, .ref q31, .null, .null, .int 0, .int 0, .int 0])), (q7, .inl (cI, 8, .inl (fun _ => 0))), (q15, .inl (cI, 8, .inl (fun _ => 0))), (q23, .inl (cI, 8, .inl (fun _ => 0))), (q31, .inl (cI, 8, .inl (fun _ => 0))), (q39, .inl (cZ, 8, .inl (fun _ => 0)))] H := hP
  have hD : va_D A [(h0, .inr (2, [.ref q7, .ref q15, .ref q23, .ref q31, .null, .null, .int 0, .int 0, .int 0])), (q7, .inl (cI, 8, .inl (fun _ => 0))), (q15, .inl (cI, 8, .inl (fun _ => 0))), (q23, .inl (cI, 8, .inl (fun _ => 0))), (q31, .inl (cI, 8, .inl (fun _ => 0))), (q39, .inl (cZ, 8, .inl (fun _ => 0)))] := hD
  refine W.widen (k := 5) (n := 40) (by omega) (by omega) ?_
  refine va_putF (D := (dC, dI)) (ci := 2) (v := .ref q39) (ty := .array .boolean) (C := RX2) (T := TX2) (N := 9) hx hb hts (fun w h => List.mem_cons_of_mem _ (UW_ok 2 (by decide) w h)) tyX2 tyX2_ok nmX2 hown hK hP hD hS 0 rfl rfl 4 (by decide) (hts (.fieldLink RX2 24 "PoloSeason$Planner" "spare" "[Z") (List.mem_cons_of_mem _ (FL_ok (2, 24, 2, 4) (by decide)))) (fun _ h9 => h9) rfl hin rfl (by decide +kernel) rfl rfl (Nat.le_of_ble_eq_true rfl) (by decide +kernel : decode cX2_init 41 = .ok (.putfield 24, 3)) (fun H locs hP hD hS => ?_)
  have hP : va_P (dC, dI) vwCl [(h0, .inr (2, [.ref q7, .ref q15, .ref q23, .ref q31, .ref q39, .null, .int 0, .int 0, .int 0])), (q7, .inl (cI, 8, .inl (fun _ => 0))), (q15, .inl (cI, 8, .inl (fun _ => 0))), (q23, .inl (cI, 8, .inl (fun _ => 0))), (q31, .inl (cI, 8, .inl (fun _ => 0))), (q39, .inl (cZ, 8, .inl (fun _ => 0)))] H := hP
  have hD : va_D A [(h0, .inr (2, [.ref q7, .ref q15, .ref q23, .ref q31, .ref q39, .null, .int 0, .int 0, .int 0])), (q7, .inl (cI, 8, .inl (fun _ => 0))), (q15, .inl (cI, 8, .inl (fun _ => 0))), (q23, .inl (cI, 8, .inl (fun _ => 0))), (q31, .inl (cI, 8, .inl (fun _ => 0))), (q39, .inl (cZ, 8, .inl (fun _ => 0)))] := hD
  refine lv_aload_n hx hb (by decide +kernel : decode cX2_init 44 = .ok (.aload_n 0, 1)) rfl (lv_at hl 0 rfl) ?_
  refine lv_bipush (v := 6) hx hb (by decide +kernel : decode cX2_init 45 = .ok (.bipush 6, 2)) (by decide) ?_
  refine va_newa (atype := .int) (ty := .int) (a0 := (6, .inl (fun _ => 0))) (N' := 6) hx hb (hts (Cond.arrayClass .int) (List.mem_cons_of_mem _ cwd_3)) rfl hK hP hD hS hA (fun _ => rfl) (by decide) (by decide) (by decide) (show 5 + 1 ≤ 6 by decide) (show 40 + 6 ≤ 46 by decide) (by decide +kernel : decode cX2_init 47 = .ok (.newarray .int, 2)) (fun q47 cA H hK hP hD hS => ?_)
  cases Option.some.inj ((hK.2 3 _ rfl).2.symm.trans (hK.2 0 _ rfl).2)
  replace hK := hK.sub (tys' := [(cI, .int), (cZ, .boolean), (cJ, .long)]) [0, 1, 2] rfl
  have hP : va_P (dC, dI) vwCl [(h0, .inr (2, [.ref q7, .ref q15, .ref q23, .ref q31, .ref q39, .null, .int 0, .int 0, .int 0])), (q7, .inl (cI, 8, .inl (fun _ => 0))), (q15, .inl (cI, 8, .inl (fun _ => 0))), (q23, .inl (cI, 8, .inl (fun _ => 0))), (q31, .inl (cI, 8, .inl (fun _ => 0))), (q39, .inl (cZ, 8, .inl (fun _ => 0))), (q47, .inl (cI, 6, .inl (fun _ => 0)))] H := hP
  have hD : va_D A [(h0, .inr (2, [.ref q7, .ref q15, .ref q23, .ref q31, .ref q39, .null, .int 0, .int 0, .int 0])), (q7, .inl (cI, 8, .inl (fun _ => 0))), (q15, .inl (cI, 8, .inl (fun _ => 0))), (q23, .inl (cI, 8, .inl (fun _ => 0))), (q31, .inl (cI, 8, .inl (fun _ => 0))), (q39, .inl (cZ, 8, .inl (fun _ => 0))), (q47, .inl (cI, 6, .inl (fun _ => 0)))] := hD
  refine W.widen (k := 6) (n := 46) (by omega) (by omega) ?_
  refine va_putF (D := (dC, dI)) (ci := 2) (v := .ref q47) (ty := .array .int) (C := RX2) (T := TX2) (N := 9) hx hb hts (fun w h => List.mem_cons_of_mem _ (UW_ok 2 (by decide) w h)) tyX2 tyX2_ok nmX2 hown hK hP hD hS 0 rfl rfl 5 (by decide) (hts (.fieldLink RX2 28 "PoloSeason$Planner" "way" "[I") (List.mem_cons_of_mem _ (FL_ok (2, 28, 2, 5) (by decide)))) (fun _ h9 => h9) rfl hin rfl (by decide +kernel) rfl rfl (Nat.le_of_ble_eq_true rfl) (by decide +kernel : decode cX2_init 49 = .ok (.putfield 28, 3)) (fun H locs hP hD hS => ?_)
  have hP : va_P (dC, dI) vwCl [(h0, .inr (2, [.ref q7, .ref q15, .ref q23, .ref q31, .ref q39, .ref q47, .int 0, .int 0, .int 0])), (q7, .inl (cI, 8, .inl (fun _ => 0))), (q15, .inl (cI, 8, .inl (fun _ => 0))), (q23, .inl (cI, 8, .inl (fun _ => 0))), (q31, .inl (cI, 8, .inl (fun _ => 0))), (q39, .inl (cZ, 8, .inl (fun _ => 0))), (q47, .inl (cI, 6, .inl (fun _ => 0)))] H := hP
  have hD : va_D A [(h0, .inr (2, [.ref q7, .ref q15, .ref q23, .ref q31, .ref q39, .ref q47, .int 0, .int 0, .int 0])), (q7, .inl (cI, 8, .inl (fun _ => 0))), (q15, .inl (cI, 8, .inl (fun _ => 0))), (q23, .inl (cI, 8, .inl (fun _ => 0))), (q31, .inl (cI, 8, .inl (fun _ => 0))), (q39, .inl (cZ, 8, .inl (fun _ => 0))), (q47, .inl (cI, 6, .inl (fun _ => 0)))] := hD
  refine lv_aload_n hx hb (by decide +kernel : decode cX2_init 52 = .ok (.aload_n 0, 1)) rfl (lv_at hl 0 rfl) ?_
  refine lv_iconst (v := 0) hx hb (by decide +kernel : decode cX2_init 53 = .ok (.iconst 0, 1)) (by decide) ?_
  refine va_put (D := (dC, dI)) (ci := 2) (v := .int 0) (ty := .int) (C := RX2) (T := TX2) (N := 9) hx hb hts (fun w h => List.mem_cons_of_mem _ (UW_ok 2 (by decide) w h)) tyX2 tyX2_ok nmX2 hown hK hP hD hS 0 rfl rfl 6 (by decide) (hts (.fieldLink RX2 31 "PoloSeason$Planner" "ponyCount" "I") (List.mem_cons_of_mem _ (FL_ok (2, 31, 2, 6) (by decide)))) (fun _ h9 => h9) rfl (by decide +kernel) rfl rfl (Nat.le_of_ble_eq_true rfl) (by decide +kernel : decode cX2_init 54 = .ok (.putfield 31, 3)) (fun H locs hP hD hS => ?_)
  have hP : va_P (dC, dI) vwCl [(h0, .inr (2, [.ref q7, .ref q15, .ref q23, .ref q31, .ref q39, .ref q47, .int 0, .int 0, .int 0])), (q7, .inl (cI, 8, .inl (fun _ => 0))), (q15, .inl (cI, 8, .inl (fun _ => 0))), (q23, .inl (cI, 8, .inl (fun _ => 0))), (q31, .inl (cI, 8, .inl (fun _ => 0))), (q39, .inl (cZ, 8, .inl (fun _ => 0))), (q47, .inl (cI, 6, .inl (fun _ => 0)))] H := hP
  have hD : va_D A [(h0, .inr (2, [.ref q7, .ref q15, .ref q23, .ref q31, .ref q39, .ref q47, .int 0, .int 0, .int 0])), (q7, .inl (cI, 8, .inl (fun _ => 0))), (q15, .inl (cI, 8, .inl (fun _ => 0))), (q23, .inl (cI, 8, .inl (fun _ => 0))), (q31, .inl (cI, 8, .inl (fun _ => 0))), (q39, .inl (cZ, 8, .inl (fun _ => 0))), (q47, .inl (cI, 6, .inl (fun _ => 0)))] := hD
  refine lv_aload_n hx hb (by decide +kernel : decode cX2_init 57 = .ok (.aload_n 0, 1)) rfl (lv_at hl 0 rfl) ?_
  refine lv_iconst (v := 0) hx hb (by decide +kernel : decode cX2_init 58 = .ok (.iconst 0, 1)) (by decide) ?_
  refine va_put (D := (dC, dI)) (ci := 2) (v := .int 0) (ty := .int) (C := RX2) (T := TX2) (N := 9) hx hb hts (fun w h => List.mem_cons_of_mem _ (UW_ok 2 (by decide) w h)) tyX2 tyX2_ok nmX2 hown hK hP hD hS 0 rfl rfl 7 (by decide) (hts (.fieldLink RX2 35 "PoloSeason$Planner" "threshold" "I") (List.mem_cons_of_mem _ (FL_ok (2, 35, 2, 7) (by decide)))) (fun _ h9 => h9) rfl (by decide +kernel) rfl rfl (Nat.le_of_ble_eq_true rfl) (by decide +kernel : decode cX2_init 59 = .ok (.putfield 35, 3)) (fun H locs hP hD hS => ?_)
  have hP : va_P (dC, dI) vwCl [(h0, .inr (2, [.ref q7, .ref q15, .ref q23, .ref q31, .ref q39, .ref q47, .int 0, .int 0, .int 0])), (q7, .inl (cI, 8, .inl (fun _ => 0))), (q15, .inl (cI, 8, .inl (fun _ => 0))), (q23, .inl (cI, 8, .inl (fun _ => 0))), (q31, .inl (cI, 8, .inl (fun _ => 0))), (q39, .inl (cZ, 8, .inl (fun _ => 0))), (q47, .inl (cI, 6, .inl (fun _ => 0)))] H := hP
  have hD : va_D A [(h0, .inr (2, [.ref q7, .ref q15, .ref q23, .ref q31, .ref q39, .ref q47, .int 0, .int 0, .int 0])), (q7, .inl (cI, 8, .inl (fun _ => 0))), (q15, .inl (cI, 8, .inl (fun _ => 0))), (q23, .inl (cI, 8, .inl (fun _ => 0))), (q31, .inl (cI, 8, .inl (fun _ => 0))), (q39, .inl (cZ, 8, .inl (fun _ => 0))), (q47, .inl (cI, 6, .inl (fun _ => 0)))] := hD
  refine lv_aload_n hx hb (by decide +kernel : decode cX2_init 62 = .ok (.aload_n 0, 1)) rfl (lv_at hl 0 rfl) ?_
  refine lv_iconst (v := 0) hx hb (by decide +kernel : decode cX2_init 63 = .ok (.iconst 0, 1)) (by decide) ?_
  refine va_put (D := (dC, dI)) (ci := 2) (v := .int 0) (ty := .int) (C := RX2) (T := TX2) (N := 9) hx hb hts (fun w h => List.mem_cons_of_mem _ (UW_ok 2 (by decide) w h)) tyX2 tyX2_ok nmX2 hown hK hP hD hS 0 rfl rfl 8 (by decide) (hts (.fieldLink RX2 38 "PoloSeason$Planner" "spareDue" "I") (List.mem_cons_of_mem _ (FL_ok (2, 38, 2, 8) (by decide)))) (fun _ h9 => h9) rfl (by decide +kernel) rfl rfl (Nat.le_of_ble_eq_true rfl) (by decide +kernel : decode cX2_init 64 = .ok (.putfield 38, 3)) (fun H locs hP hD hS => ?_)
  have hP : va_P (dC, dI) vwCl [(h0, .inr (2, [.ref q7, .ref q15, .ref q23, .ref q31, .ref q39, .ref q47, .int 0, .int 0, .int 0])), (q7, .inl (cI, 8, .inl (fun _ => 0))), (q15, .inl (cI, 8, .inl (fun _ => 0))), (q23, .inl (cI, 8, .inl (fun _ => 0))), (q31, .inl (cI, 8, .inl (fun _ => 0))), (q39, .inl (cZ, 8, .inl (fun _ => 0))), (q47, .inl (cI, 6, .inl (fun _ => 0)))] H := hP
  have hD : va_D A [(h0, .inr (2, [.ref q7, .ref q15, .ref q23, .ref q31, .ref q39, .ref q47, .int 0, .int 0, .int 0])), (q7, .inl (cI, 8, .inl (fun _ => 0))), (q15, .inl (cI, 8, .inl (fun _ => 0))), (q23, .inl (cI, 8, .inl (fun _ => 0))), (q31, .inl (cI, 8, .inl (fun _ => 0))), (q39, .inl (cZ, 8, .inl (fun _ => 0))), (q47, .inl (cI, 6, .inl (fun _ => 0)))] := hD
  have hP9 := hP.sub (ws' := [(h0, .inr (2, [.ref q7, .ref q15, .ref q23, .ref q31, .ref q39, .ref q47, .int 0, .int 0, .int 0])), (q7, .inl (cI, 8, .inl (fun _ => 0))), (q15, .inl (cI, 8, .inl (fun _ => 0))), (q23, .inl (cI, 8, .inl (fun _ => 0))), (q31, .inl (cI, 8, .inl (fun _ => 0))), (q39, .inl (cZ, 8, .inl (fun _ => 0))), (q47, .inl (cI, 6, .inl (fun _ => 0)))]) [0, 1, 2, 3, 4, 5, 6] rfl
  have hD9 := hD.sub (ws' := [(h0, .inr (2, [.ref q7, .ref q15, .ref q23, .ref q31, .ref q39, .ref q47, .int 0, .int 0, .int 0])), (q7, .inl (cI, 8, .inl (fun _ => 0))), (q15, .inl (cI, 8, .inl (fun _ => 0))), (q23, .inl (cI, 8, .inl (fun _ => 0))), (q31, .inl (cI, 8, .inl (fun _ => 0))), (q39, .inl (cZ, 8, .inl (fun _ => 0))), (q47, .inl (cI, 6, .inl (fun _ => 0)))]) [0, 1, 2, 3, 4, 5, 6] (by decide) rfl
  refine W.widen (k := 6) (n := 46) (by decide) (by decide) ?_
  exact W.vret hx hb hr (fun t ht hW => ⟨⟨(), rfl, trivial, q7, q15, q23, q31, q39, q47, by rw [ht]; exact hP9, hD9⟩, hS.F ht⟩) hS.2.2 (by decide +kernel : decode cX2_init 67 = .ok (.return_, 1))
set_option maxRecDepth 100000 in
theorem cwd_7 : (Cond.methodLink RX3 3 objectInit) ∈ GW := gw_of (p := 81) (by decide +kernel) rfl
set_option maxHeartbeats 4000000 in
set_option maxRecDepth 100000 in
/-- PoloSeason$Roster(): the world that it makes -/
theorem k_X3 (l : Launch) (dC : Nat → ClassId) (dI : Nat → Nat → Nat) (cI cZ cJ : ClassId) (h0 sz : Nat) : Met l yX3_init (wsOf 32) ({ frames := 1, cells := 3, slots := 96, locals := 12 }) (va_Pc [.ref h0] (kb_pre dC dI cI cZ cJ (h0, .inr (3, [.null, .null, .null, .int 0, .int 0])) sz)) (va_Qv (fun _ : Unit => True) (fun _ t => ∃ q7 q15 q23 : Nat, va_P (dC, dI) vwCl [(h0, .inr (3, [.ref q7, .ref q15, .ref q23, .int 0, .int 0])), (q7, .inl (cI, 32, .inl (fun _ => 0))), (q15, .inl (cZ, 32, .inl (fun _ => 0))), (q23, .inl (cI, 32, .inl (fun _ => 0)))] t.heap ∧ va_D (va_A [(h0, .inr (3, [.null, .null, .null, .int 0, .int 0]))] sz) [(h0, .inr (3, [.ref q7, .ref q15, .ref q23, .int 0, .int 0])), (q7, .inl (cI, 32, .inl (fun _ => 0))), (q15, .inl (cZ, 32, .inl (fun _ => 0))), (q23, .inl (cI, 32, .inl (fun _ => 0)))]) (va_A [(h0, .inr (3, [.null, .null, .null, .int 0, .int 0]))] sz)) 3 96 (va_A [(h0, .inr (3, [.null, .null, .null, .int 0, .int 0]))] sz) := by
  refine Met.ofW (cc := cX3_init) (maxL := 1) (ret := none) (by decide) rfl ?_
  intro p e s m args below meth c s₁ B hml hv
  obtain ⟨rfl, hsz, hP, hK, hD0⟩ := hv
  have hx := B.exec
  have hb := B.bytes
  have hr := B.returns
  have hts := atoms_spec (ws := wsOf 32) B.pre
  have hown : s.vm.findClass RX3 = some m.cls := findClass_of_methodNamed B.named
  have hlocks := B.notSynchronized
  have hin : meth.name = "<init>" := (name_of_methodNamed B.named B.method).1
  subst hsz
  have hD := hD0.self (sz := s.heap.size)
  generalize hAe : va_A [(h0, .inr (3, [.null, .null, .null, .int 0, .int 0]))] s.heap.size = A at hD ⊢
  have hA : ∀ q : Nat, s.heap.size ≤ q → A q := fun q h => by rw [← hAe]; exact Or.inr h
  have hS : va_S A s.heap s.heap [] := va_S.rf
  have hP : va_P (dC, dI) vwCl [(h0, .inr (3, [.null, .null, .null, .int 0, .int 0]))] s.heap := hP
  have hl := lv_entry ([.ref h0]) (n := 1) (Nat.le_of_ble_eq_true rfl)
  rw [lg_entry_eq]
  generalize (lg_sl ([.ref h0]) ++ List.replicate (1 - (lg_sl ([.ref h0])).length) Slot.unset).toArray = ls at hl ⊢
  have hl : lv_has ls 1 [(0, .ref h0)] := hl
  refine lv_aload_n hx hb (by decide +kernel : decode cX3_init 0 = .ok (.aload_n 0, 1)) rfl (lv_at hl 0 rfl) ?_
  refine W.objInit hx hb hown (hts (Cond.methodLink RX3 3 objectInit) (List.mem_cons_of_mem _ cwd_7)) (hts (Cond.instanceMethod objectInit) (List.mem_cons_of_mem _ cwd_1)) (hts (Cond.code objectInit ⟨#[0xb1]⟩ 1 none) (List.mem_cons_of_mem _ cwd_2)) rfl (by rw [hml]; exact hl.1) rfl (by decide +kernel : decode cX3_init 1 = .ok (.invokespecial 3, 3)) (Nat.le_of_ble_eq_true rfl) (Nat.le_of_ble_eq_true rfl) ?_
  refine W.eq (g2 := F0 m 4 ls []) rfl ?_
  refine lv_aload_n hx hb (by decide +kernel : decode cX3_init 4 = .ok (.aload_n 0, 1)) rfl (lv_at hl 0 rfl) ?_
  refine lv_bipush (v := 32) hx hb (by decide +kernel : decode cX3_init 5 = .ok (.bipush 32, 2)) (by decide) ?_
  refine va_newa (atype := .int) (ty := .int) (a0 := (32, .inl (fun _ => 0))) (N' := 32) hx hb (hts (Cond.arrayClass .int) (List.mem_cons_of_mem _ cwd_3)) rfl hK hP hD hS hA (fun _ => rfl) (by decide) (by decide) (by decide) (show 0 + 1 ≤ 3 by decide) (show 0 + 32 ≤ 96 by decide) (by decide +kernel : decode cX3_init 7 = .ok (.newarray .int, 2)) (fun q7 cA H hK hP hD hS => ?_)
  cases Option.some.inj ((hK.2 3 _ rfl).2.symm.trans (hK.2 0 _ rfl).2)
  replace hK := hK.sub (tys' := [(cI, .int), (cZ, .boolean), (cJ, .long)]) [0, 1, 2] rfl
  have hP : va_P (dC, dI) vwCl [(h0, .inr (3, [.null, .null, .null, .int 0, .int 0])), (q7, .inl (cI, 32, .inl (fun _ => 0)))] H := hP
  have hD : va_D A [(h0, .inr (3, [.null, .null, .null, .int 0, .int 0])), (q7, .inl (cI, 32, .inl (fun _ => 0)))] := hD
  refine W.widen (k := 1) (n := 32) (by omega) (by omega) ?_
  refine va_putF (D := (dC, dI)) (ci := 3) (v := .ref q7) (ty := .array .int) (C := RX3) (T := TX3) (N := 5) hx hb hts (fun w h => List.mem_cons_of_mem _ (UW_ok 3 (by decide) w h)) tyX3 tyX3_ok nmX3 hown hK hP hD hS 0 rfl rfl 0 (by decide) (hts (.fieldLink RX3 9 "PoloSeason$Roster" "handicaps" "[I") (List.mem_cons_of_mem _ (FL_ok (3, 9, 3, 0) (by decide)))) (fun _ h9 => h9) rfl hin rfl (by decide +kernel) rfl rfl (Nat.le_of_ble_eq_true rfl) (by decide +kernel : decode cX3_init 9 = .ok (.putfield 9, 3)) (fun H locs hP hD hS => ?_)
  have hP : va_P (dC, dI) vwCl [(h0, .inr (3, [.ref q7, .null, .null, .int 0, .int 0])), (q7, .inl (cI, 32, .inl (fun _ => 0)))] H := hP
  have hD : va_D A [(h0, .inr (3, [.ref q7, .null, .null, .int 0, .int 0])), (q7, .inl (cI, 32, .inl (fun _ => 0)))] := hD
  refine lv_aload_n hx hb (by decide +kernel : decode cX3_init 12 = .ok (.aload_n 0, 1)) rfl (lv_at hl 0 rfl) ?_
  refine lv_bipush (v := 32) hx hb (by decide +kernel : decode cX3_init 13 = .ok (.bipush 32, 2)) (by decide) ?_
  refine va_newa (atype := .boolean) (ty := .boolean) (a0 := (32, .inl (fun _ => 0))) (N' := 32) hx hb (hts (Cond.arrayClass .boolean) (List.mem_cons_of_mem _ cwd_6)) rfl hK hP hD hS hA (fun _ => rfl) (by decide) (by decide) (by decide) (show 1 + 1 ≤ 3 by decide) (show 32 + 32 ≤ 96 by decide) (by decide +kernel : decode cX3_init 15 = .ok (.newarray .boolean, 2)) (fun q15 cA H hK hP hD hS => ?_)
  cases Option.some.inj ((hK.2 3 _ rfl).2.symm.trans (hK.2 1 _ rfl).2)
  replace hK := hK.sub (tys' := [(cI, .int), (cZ, .boolean), (cJ, .long)]) [0, 1, 2] rfl
  have hP : va_P (dC, dI) vwCl [(h0, .inr (3, [.ref q7, .null, .null, .int 0, .int 0])), (q7, .inl (cI, 32, .inl (fun _ => 0))), (q15, .inl (cZ, 32, .inl (fun _ => 0)))] H := hP
  have hD : va_D A [(h0, .inr (3, [.ref q7, .null, .null, .int 0, .int 0])), (q7, .inl (cI, 32, .inl (fun _ => 0))), (q15, .inl (cZ, 32, .inl (fun _ => 0)))] := hD
  refine W.widen (k := 2) (n := 64) (by omega) (by omega) ?_
  refine va_putF (D := (dC, dI)) (ci := 3) (v := .ref q15) (ty := .array .boolean) (C := RX3) (T := TX3) (N := 5) hx hb hts (fun w h => List.mem_cons_of_mem _ (UW_ok 3 (by decide) w h)) tyX3 tyX3_ok nmX3 hown hK hP hD hS 0 rfl rfl 1 (by decide) (hts (.fieldLink RX3 15 "PoloSeason$Roster" "taken" "[Z") (List.mem_cons_of_mem _ (FL_ok (3, 15, 3, 1) (by decide)))) (fun _ h9 => h9) rfl hin rfl (by decide +kernel) rfl rfl (Nat.le_of_ble_eq_true rfl) (by decide +kernel : decode cX3_init 17 = .ok (.putfield 15, 3)) (fun H locs hP hD hS => ?_)
  have hP : va_P (dC, dI) vwCl [(h0, .inr (3, [.ref q7, .ref q15, .null, .int 0, .int 0])), (q7, .inl (cI, 32, .inl (fun _ => 0))), (q15, .inl (cZ, 32, .inl (fun _ => 0)))] H := hP
  have hD : va_D A [(h0, .inr (3, [.ref q7, .ref q15, .null, .int 0, .int 0])), (q7, .inl (cI, 32, .inl (fun _ => 0))), (q15, .inl (cZ, 32, .inl (fun _ => 0)))] := hD
  refine lv_aload_n hx hb (by decide +kernel : decode cX3_init 20 = .ok (.aload_n 0, 1)) rfl (lv_at hl 0 rfl) ?_
  refine lv_bipush (v := 32) hx hb (by decide +kernel : decode cX3_init 21 = .ok (.bipush 32, 2)) (by decide) ?_
  refine va_newa (atype := .int) (ty := .int) (a0 := (32, .inl (fun _ => 0))) (N' := 32) hx hb (hts (Cond.arrayClass .int) (List.mem_cons_of_mem _ cwd_3)) rfl hK hP hD hS hA (fun _ => rfl) (by decide) (by decide) (by decide) (show 2 + 1 ≤ 3 by decide) (show 64 + 32 ≤ 96 by decide) (by decide +kernel : decode cX3_init 23 = .ok (.newarray .int, 2)) (fun q23 cA H hK hP hD hS => ?_)
  cases Option.some.inj ((hK.2 3 _ rfl).2.symm.trans (hK.2 0 _ rfl).2)
  replace hK := hK.sub (tys' := [(cI, .int), (cZ, .boolean), (cJ, .long)]) [0, 1, 2] rfl
  have hP : va_P (dC, dI) vwCl [(h0, .inr (3, [.ref q7, .ref q15, .null, .int 0, .int 0])), (q7, .inl (cI, 32, .inl (fun _ => 0))), (q15, .inl (cZ, 32, .inl (fun _ => 0))), (q23, .inl (cI, 32, .inl (fun _ => 0)))] H := hP
  have hD : va_D A [(h0, .inr (3, [.ref q7, .ref q15, .null, .int 0, .int 0])), (q7, .inl (cI, 32, .inl (fun _ => 0))), (q15, .inl (cZ, 32, .inl (fun _ => 0))), (q23, .inl (cI, 32, .inl (fun _ => 0)))] := hD
  refine W.widen (k := 3) (n := 96) (by omega) (by omega) ?_
  refine va_putF (D := (dC, dI)) (ci := 3) (v := .ref q23) (ty := .array .int) (C := RX3) (T := TX3) (N := 5) hx hb hts (fun w h => List.mem_cons_of_mem _ (UW_ok 3 (by decide) w h)) tyX3 tyX3_ok nmX3 hown hK hP hD hS 0 rfl rfl 2 (by decide) (hts (.fieldLink RX3 19 "PoloSeason$Roster" "members" "[I") (List.mem_cons_of_mem _ (FL_ok (3, 19, 3, 2) (by decide)))) (fun _ h9 => h9) rfl hin rfl (by decide +kernel) rfl rfl (Nat.le_of_ble_eq_true rfl) (by decide +kernel : decode cX3_init 25 = .ok (.putfield 19, 3)) (fun H locs hP hD hS => ?_)
  have hP : va_P (dC, dI) vwCl [(h0, .inr (3, [.ref q7, .ref q15, .ref q23, .int 0, .int 0])), (q7, .inl (cI, 32, .inl (fun _ => 0))), (q15, .inl (cZ, 32, .inl (fun _ => 0))), (q23, .inl (cI, 32, .inl (fun _ => 0)))] H := hP
  have hD : va_D A [(h0, .inr (3, [.ref q7, .ref q15, .ref q23, .int 0, .int 0])), (q7, .inl (cI, 32, .inl (fun _ => 0))), (q15, .inl (cZ, 32, .inl (fun _ => 0))), (q23, .inl (cI, 32, .inl (fun _ => 0)))] := hD
  refine lv_aload_n hx hb (by decide +kernel : decode cX3_init 28 = .ok (.aload_n 0, 1)) rfl (lv_at hl 0 rfl) ?_
  refine lv_iconst (v := 0) hx hb (by decide +kernel : decode cX3_init 29 = .ok (.iconst 0, 1)) (by decide) ?_
  refine va_put (D := (dC, dI)) (ci := 3) (v := .int 0) (ty := .int) (C := RX3) (T := TX3) (N := 5) hx hb hts (fun w h => List.mem_cons_of_mem _ (UW_ok 3 (by decide) w h)) tyX3 tyX3_ok nmX3 hown hK hP hD hS 0 rfl rfl 3 (by decide) (hts (.fieldLink RX3 22 "PoloSeason$Roster" "playerCount" "I") (List.mem_cons_of_mem _ (FL_ok (3, 22, 3, 3) (by decide)))) (fun _ h9 => h9) rfl (by decide +kernel) rfl rfl (Nat.le_of_ble_eq_true rfl) (by decide +kernel : decode cX3_init 30 = .ok (.putfield 22, 3)) (fun H locs hP hD hS => ?_)
  have hP : va_P (dC, dI) vwCl [(h0, .inr (3, [.ref q7, .ref q15, .ref q23, .int 0, .int 0])), (q7, .inl (cI, 32, .inl (fun _ => 0))), (q15, .inl (cZ, 32, .inl (fun _ => 0))), (q23, .inl (cI, 32, .inl (fun _ => 0)))] H := hP
  have hD : va_D A [(h0, .inr (3, [.ref q7, .ref q15, .ref q23, .int 0, .int 0])), (q7, .inl (cI, 32, .inl (fun _ => 0))), (q15, .inl (cZ, 32, .inl (fun _ => 0))), (q23, .inl (cI, 32, .inl (fun _ => 0)))] := hD
  refine lv_aload_n hx hb (by decide +kernel : decode cX3_init 33 = .ok (.aload_n 0, 1)) rfl (lv_at hl 0 rfl) ?_
  refine lv_iconst (v := 0) hx hb (by decide +kernel : decode cX3_init 34 = .ok (.iconst 0, 1)) (by decide) ?_
  refine va_put (D := (dC, dI)) (ci := 3) (v := .int 0) (ty := .int) (C := RX3) (T := TX3) (N := 5) hx hb hts (fun w h => List.mem_cons_of_mem _ (UW_ok 3 (by decide) w h)) tyX3 tyX3_ok nmX3 hown hK hP hD hS 0 rfl rfl 4 (by decide) (hts (.fieldLink RX3 26 "PoloSeason$Roster" "teamCount" "I") (List.mem_cons_of_mem _ (FL_ok (3, 26, 3, 4) (by decide)))) (fun _ h9 => h9) rfl (by decide +kernel) rfl rfl (Nat.le_of_ble_eq_true rfl) (by decide +kernel : decode cX3_init 35 = .ok (.putfield 26, 3)) (fun H locs hP hD hS => ?_)
  have hP : va_P (dC, dI) vwCl [(h0, .inr (3, [.ref q7, .ref q15, .ref q23, .int 0, .int 0])), (q7, .inl (cI, 32, .inl (fun _ => 0))), (q15, .inl (cZ, 32, .inl (fun _ => 0))), (q23, .inl (cI, 32, .inl (fun _ => 0)))] H := hP
  have hD : va_D A [(h0, .inr (3, [.ref q7, .ref q15, .ref q23, .int 0, .int 0])), (q7, .inl (cI, 32, .inl (fun _ => 0))), (q15, .inl (cZ, 32, .inl (fun _ => 0))), (q23, .inl (cI, 32, .inl (fun _ => 0)))] := hD
  have hP9 := hP.sub (ws' := [(h0, .inr (3, [.ref q7, .ref q15, .ref q23, .int 0, .int 0])), (q7, .inl (cI, 32, .inl (fun _ => 0))), (q15, .inl (cZ, 32, .inl (fun _ => 0))), (q23, .inl (cI, 32, .inl (fun _ => 0)))]) [0, 1, 2, 3] rfl
  have hD9 := hD.sub (ws' := [(h0, .inr (3, [.ref q7, .ref q15, .ref q23, .int 0, .int 0])), (q7, .inl (cI, 32, .inl (fun _ => 0))), (q15, .inl (cZ, 32, .inl (fun _ => 0))), (q23, .inl (cI, 32, .inl (fun _ => 0)))]) [0, 1, 2, 3] (by decide) rfl
  refine W.widen (k := 3) (n := 96) (by decide) (by decide) ?_
  exact W.vret hx hb hr (fun t ht hW => ⟨⟨(), rfl, trivial, q7, q15, q23, by rw [ht]; exact hP9, hD9⟩, hS.F ht⟩) hS.2.2 (by decide +kernel : decode cX3_init 38 = .ok (.return_, 1))
set_option maxRecDepth 100000 in
theorem cwd_8 : (Cond.methodLink RX4 3 objectInit) ∈ GW := gw_of (p := 124) (by decide +kernel) rfl
set_option maxHeartbeats 4000000 in
set_option maxRecDepth 100000 in
/-- PoloSeason$Row(): the world that it makes -/
theorem k_X4 (l : Launch) (dC : Nat → ClassId) (dI : Nat → Nat → Nat) (cI cZ cJ : ClassId) (h0 sz : Nat) : Met l yX4_init (wsOf 44) ({ frames := 1, cells := 1, slots := 8, locals := 12 }) (va_Pc [.ref h0] (kb_pre dC dI cI cZ cJ (h0, .inr (4, [.null, .int 0])) sz)) (va_Qv (fun _ : Unit => True) (fun _ t => ∃ q7 : Nat, va_P (dC, dI) vwCl [(h0, .inr (4, [.ref q7, .int 0])), (q7, .inl (cI, 8, .inl (fun _ => 0)))] t.heap ∧ va_D (va_A [(h0, .inr (4, [.null, .int 0]))] sz) [(h0, .inr (4, [.ref q7, .int 0])), (q7, .inl (cI, 8, .inl (fun _ => 0)))]) (va_A [(h0, .inr (4, [.null, .int 0]))] sz)) 1 8 (va_A [(h0, .inr (4, [.null, .int 0]))] sz) := by
  refine Met.ofW (cc := cX4_init) (maxL := 1) (ret := none) (by decide) rfl ?_
  intro p e s m args below meth c s₁ B hml hv
  obtain ⟨rfl, hsz, hP, hK, hD0⟩ := hv
  have hx := B.exec
  have hb := B.bytes
  have hr := B.returns
  have hts := atoms_spec (ws := wsOf 44) B.pre
  have hown : s.vm.findClass RX4 = some m.cls := findClass_of_methodNamed B.named
  have hlocks := B.notSynchronized
  have hin : meth.name = "<init>" := (name_of_methodNamed B.named B.method).1
  subst hsz
  have hD := hD0.self (sz := s.heap.size)
  generalize hAe : va_A [(h0, .inr (4, [.null, .int 0]))] s.heap.size = A at hD ⊢
  have hA : ∀ q : Nat, s.heap.size ≤ q → A q := fun q h => by rw [← hAe]; exact Or.inr h
  have hS : va_S A s.heap s.heap [] := va_S.rf
  have hP : va_P (dC, dI) vwCl [(h0, .inr (4, [.null, .int 0]))] s.heap := hP
  have hl := lv_entry ([.ref h0]) (n := 1) (Nat.le_of_ble_eq_true rfl)
  rw [lg_entry_eq]
  generalize (lg_sl ([.ref h0]) ++ List.replicate (1 - (lg_sl ([.ref h0])).length) Slot.unset).toArray = ls at hl ⊢
  have hl : lv_has ls 1 [(0, .ref h0)] := hl
  refine lv_aload_n hx hb (by decide +kernel : decode cX4_init 0 = .ok (.aload_n 0, 1)) rfl (lv_at hl 0 rfl) ?_
  refine W.objInit hx hb hown (hts (Cond.methodLink RX4 3 objectInit) (List.mem_cons_of_mem _ cwd_8)) (hts (Cond.instanceMethod objectInit) (List.mem_cons_of_mem _ cwd_1)) (hts (Cond.code objectInit ⟨#[0xb1]⟩ 1 none) (List.mem_cons_of_mem _ cwd_2)) rfl (by rw [hml]; exact hl.1) rfl (by decide +kernel : decode cX4_init 1 = .ok (.invokespecial 3, 3)) (Nat.le_of_ble_eq_true rfl) (Nat.le_of_ble_eq_true rfl) ?_
  refine W.eq (g2 := F0 m 4 ls []) rfl ?_
  refine lv_aload_n hx hb (by decide +kernel : decode cX4_init 4 = .ok (.aload_n 0, 1)) rfl (lv_at hl 0 rfl) ?_
  refine lv_bipush (v := 8) hx hb (by decide +kernel : decode cX4_init 5 = .ok (.bipush 8, 2)) (by decide) ?_
  refine va_newa (atype := .int) (ty := .int) (a0 := (8, .inl (fun _ => 0))) (N' := 8) hx hb (hts (Cond.arrayClass .int) (List.mem_cons_of_mem _ cwd_3)) rfl hK hP hD hS hA (fun _ => rfl) (by decide) (by decide) (by decide) (show 0 + 1 ≤ 1 by decide) (show 0 + 8 ≤ 8 by decide) (by decide +kernel : decode cX4_init 7 = .ok (.newarray .int, 2)) (fun q7 cA H hK hP hD hS => ?_)
  cases Option.some.inj ((hK.2 3 _ rfl).2.symm.trans (hK.2 0 _ rfl).2)
  replace hK := hK.sub (tys' := [(cI, .int), (cZ, .boolean), (cJ, .long)]) [0, 1, 2] rfl
  have hP : va_P (dC, dI) vwCl [(h0, .inr (4, [.null, .int 0])), (q7, .inl (cI, 8, .inl (fun _ => 0)))] H := hP
  have hD : va_D A [(h0, .inr (4, [.null, .int 0])), (q7, .inl (cI, 8, .inl (fun _ => 0)))] := hD
  refine W.widen (k := 1) (n := 8) (by omega) (by omega) ?_
  refine va_putF (D := (dC, dI)) (ci := 4) (v := .ref q7) (ty := .array .int) (C := RX4) (T := TX4) (N := 2) hx hb hts (fun w h => List.mem_cons_of_mem _ (UW_ok 4 (by decide) w h)) tyX4 tyX4_ok nmX4 hown hK hP hD hS 0 rfl rfl 0 (by decide) (hts (.fieldLink RX4 9 "PoloSeason$Row" "teams" "[I") (List.mem_cons_of_mem _ (FL_ok (4, 9, 4, 0) (by decide)))) (fun _ h9 => h9) rfl hin rfl (by decide +kernel) rfl rfl (Nat.le_of_ble_eq_true rfl) (by decide +kernel : decode cX4_init 9 = .ok (.putfield 9, 3)) (fun H locs hP hD hS => ?_)
  have hP : va_P (dC, dI) vwCl [(h0, .inr (4, [.ref q7, .int 0])), (q7, .inl (cI, 8, .inl (fun _ => 0)))] H := hP
  have hD : va_D A [(h0, .inr (4, [.ref q7, .int 0])), (q7, .inl (cI, 8, .inl (fun _ => 0)))] := hD
  refine lv_aload_n hx hb (by decide +kernel : decode cX4_init 12 = .ok (.aload_n 0, 1)) rfl (lv_at hl 0 rfl) ?_
  refine lv_iconst (v := 0) hx hb (by decide +kernel : decode cX4_init 13 = .ok (.iconst 0, 1)) (by decide) ?_
  refine va_put (D := (dC, dI)) (ci := 4) (v := .int 0) (ty := .int) (C := RX4) (T := TX4) (N := 2) hx hb hts (fun w h => List.mem_cons_of_mem _ (UW_ok 4 (by decide) w h)) tyX4 tyX4_ok nmX4 hown hK hP hD hS 0 rfl rfl 1 (by decide) (hts (.fieldLink RX4 15 "PoloSeason$Row" "length" "I") (List.mem_cons_of_mem _ (FL_ok (4, 15, 4, 1) (by decide)))) (fun _ h9 => h9) rfl (by decide +kernel) rfl rfl (Nat.le_of_ble_eq_true rfl) (by decide +kernel : decode cX4_init 14 = .ok (.putfield 15, 3)) (fun H locs hP hD hS => ?_)
  have hP : va_P (dC, dI) vwCl [(h0, .inr (4, [.ref q7, .int 0])), (q7, .inl (cI, 8, .inl (fun _ => 0)))] H := hP
  have hD : va_D A [(h0, .inr (4, [.ref q7, .int 0])), (q7, .inl (cI, 8, .inl (fun _ => 0)))] := hD
  have hP9 := hP.sub (ws' := [(h0, .inr (4, [.ref q7, .int 0])), (q7, .inl (cI, 8, .inl (fun _ => 0)))]) [0, 1] rfl
  have hD9 := hD.sub (ws' := [(h0, .inr (4, [.ref q7, .int 0])), (q7, .inl (cI, 8, .inl (fun _ => 0)))]) [0, 1] (by decide) rfl
  refine W.widen (k := 1) (n := 8) (by decide) (by decide) ?_
  exact W.vret hx hb hr (fun t ht hW => ⟨⟨(), rfl, trivial, q7, by rw [ht]; exact hP9, hD9⟩, hS.F ht⟩) hS.2.2 (by decide +kernel : decode cX4_init 17 = .ok (.return_, 1))
set_option maxRecDepth 100000 in
theorem cwd_9 : (Cond.methodLink RX5 3 objectInit) ∈ GW := gw_of (p := 168) (by decide +kernel) rfl
set_option maxHeartbeats 4000000 in
set_option maxRecDepth 100000 in
/-- PoloSeason$Stable(): the world that it makes -/
theorem k_X5 (l : Launch) (dC : Nat → ClassId) (dI : Nat → Nat → Nat) (cI cZ cJ : ClassId) (h0 sz : Nat) : Met l yX5_init (wsOf 52) ({ frames := 1, cells := 4, slots := 240, locals := 12 }) (va_Pc [.ref h0] (kb_pre dC dI cI cZ cJ (h0, .inr (5, [.null, .null, .null, .null, .int 0, .int 0])) sz)) (va_Qv (fun _ : Unit => True) (fun _ t => ∃ q7 q15 q23 q31 : Nat, va_P (dC, dI) vwCl [(h0, .inr (5, [.ref q7, .ref q15, .ref q23, .ref q31, .int 0, .int 0])), (q7, .inl (cI, 60, .inl (fun _ => 0))), (q15, .inl (cI, 60, .inl (fun _ => 0))), (q23, .inl (cI, 60, .inl (fun _ => 0))), (q31, .inl (cI, 60, .inl (fun _ => 0)))] t.heap ∧ va_D (va_A [(h0, .inr (5, [.null, .null, .null, .null, .int 0, .int 0]))] sz) [(h0, .inr (5, [.ref q7, .ref q15, .ref q23, .ref q31, .int 0, .int 0])), (q7, .inl (cI, 60, .inl (fun _ => 0))), (q15, .inl (cI, 60, .inl (fun _ => 0))), (q23, .inl (cI, 60, .inl (fun _ => 0))), (q31, .inl (cI, 60, .inl (fun _ => 0)))]) (va_A [(h0, .inr (5, [.null, .null, .null, .null, .int 0, .int 0]))] sz)) 4 240 (va_A [(h0, .inr (5, [.null, .null, .null, .null, .int 0, .int 0]))] sz) := by
  refine Met.ofW (cc := cX5_init) (maxL := 1) (ret := none) (by decide) rfl ?_
  intro p e s m args below meth c s₁ B hml hv
  obtain ⟨rfl, hsz, hP, hK, hD0⟩ := hv
  have hx := B.exec
  have hb := B.bytes
  have hr := B.returns
  have hts := atoms_spec (ws := wsOf 52) B.pre
  have hown : s.vm.findClass RX5 = some m.cls := findClass_of_methodNamed B.named
  have hlocks := B.notSynchronized
  have hin : meth.name = "<init>" := (name_of_methodNamed B.named B.method).1
  subst hsz
  have hD := hD0.self (sz := s.heap.size)
  generalize hAe : va_A [(h0, .inr (5, [.null, .null, .null, .null, .int 0, .int 0]))] s.heap.size = A at hD ⊢
  have hA : ∀ q : Nat, s.heap.size ≤ q → A q := fun q h => by rw [← hAe]; exact Or.inr h
  have hS : va_S A s.heap s.heap [] := va_S.rf
  have hP : va_P (dC, dI) vwCl [(h0, .inr (5, [.null, .null, .null, .null, .int 0, .int 0]))] s.heap := hP
  have hl := lv_entry ([.ref h0]) (n := 1) (Nat.le_of_ble_eq_true rfl)
  rw [lg_entry_eq]
  generalize (lg_sl ([.ref h0]) ++ List.replicate (1 - (lg_sl ([.ref h0])).length) Slot.unset).toArray = ls at hl ⊢
  have hl : lv_has ls 1 [(0, .ref h0)] := hl
  refine lv_aload_n hx hb (by decide +kernel : decode cX5_init 0 = .ok (.aload_n 0, 1)) rfl (lv_at hl 0 rfl) ?_
  refine W.objInit hx hb hown (hts (Cond.methodLink RX5 3 objectInit) (List.mem_cons_of_mem _ cwd_9)) (hts (Cond.instanceMethod objectInit) (List.mem_cons_of_mem _ cwd_1)) (hts (Cond.code objectInit ⟨#[0xb1]⟩ 1 none) (List.mem_cons_of_mem _ cwd_2)) rfl (by rw [hml]; exact hl.1) rfl (by decide +kernel : decode cX5_init 1 = .ok (.invokespecial 3, 3)) (Nat.le_of_ble_eq_true rfl) (Nat.le_of_ble_eq_true rfl) ?_
  refine W.eq (g2 := F0 m 4 ls []) rfl ?_
  refine lv_aload_n hx hb (by decide +kernel : decode cX5_init 4 = .ok (.aload_n 0, 1)) rfl (lv_at hl 0 rfl) ?_
  refine lv_bipush (v := 60) hx hb (by decide +kernel : decode cX5_init 5 = .ok (.bipush 60, 2)) (by decide) ?_
  refine va_newa (atype := .int) (ty := .int) (a0 := (60, .inl (fun _ => 0))) (N' := 60) hx hb (hts (Cond.arrayClass .int) (List.mem_cons_of_mem _ cwd_3)) rfl hK hP hD hS hA (fun _ => rfl) (by decide) (by decide) (by decide) (show 0 + 1 ≤ 4 by decide) (show 0 + 60 ≤ 240 by decide) (by decide +kernel : decode cX5_init 7 = .ok (.newarray .int, 2)) (fun q7 cA H hK hP hD hS => ?_)
  cases Option.some.inj ((hK.2 3 _ rfl).2.symm.trans (hK.2 0 _ rfl).2)
  replace hK := hK.sub (tys' := [(cI, .int), (cZ, .boolean), (cJ, .long)]) [0, 1, 2] rfl
  have hP : va_P (dC, dI) vwCl [(h0, .inr (5, [.null, .null, .null, .null, .int 0, .int 0])), (q7, .inl (cI, 60, .inl (fun _ => 0)))] H := hP
  have hD : va_D A [(h0, .inr (5, [.null, .null, .null, .null, .int 0, .int 0])), (q7, .inl (cI, 60, .inl (fun _ => 0)))] := hD
  refine W.widen (k := 1) (n := 60) (by omega) (by omega) ?_
  refine va_putF (D := (dC, dI)) (ci := 5) (v := .ref q7) (ty := .array .int) (C := RX5) (T := TX5) (N := 6) hx hb hts (fun w h => List.mem_cons_of_mem _ (UW_ok 5 (by decide) w h)) tyX5 tyX5_ok nmX5 hown hK hP hD hS 0 rfl rfl 0 (by decide) (hts (.fieldLink RX5 9 "PoloSeason$Stable" "owners" "[I") (List.mem_cons_of_mem _ (FL_ok (5, 9, 5, 0) (by decide)))) (fun _ h9 => h9) rfl hin rfl (by decide +kernel) rfl rfl (Nat.le_of_ble_eq_true rfl) (by decide +kernel : decode cX5_init 9 = .ok (.putfield 9, 3)) (fun H locs hP hD hS => ?_)
  have hP : va_P (dC, dI) vwCl [(h0, .inr (5, [.ref q7, .null, .null, .null, .int 0, .int 0])), (q7, .inl (cI, 60, .inl (fun _ => 0)))] H := hP
  have hD : va_D A [(h0, .inr (5, [.ref q7, .null, .null, .null, .int 0, .int 0])), (q7, .inl (cI, 60, .inl (fun _ => 0)))] := hD
  refine lv_aload_n hx hb (by decide +kernel : decode cX5_init 12 = .ok (.aload_n 0, 1)) rfl (lv_at hl 0 rfl) ?_
  refine lv_bipush (v := 60) hx hb (by decide +kernel : decode cX5_init 13 = .ok (.bipush 60, 2)) (by decide) ?_
  refine va_newa (atype := .int) (ty := .int) (a0 := (60, .inl (fun _ => 0))) (N' := 60) hx hb (hts (Cond.arrayClass .int) (List.mem_cons_of_mem _ cwd_3)) rfl hK hP hD hS hA (fun _ => rfl) (by decide) (by decide) (by decide) (show 1 + 1 ≤ 4 by decide) (show 60 + 60 ≤ 240 by decide) (by decide +kernel : decode cX5_init 15 = .ok (.newarray .int, 2)) (fun q15 cA H hK hP hD hS => ?_)
  cases Option.some.inj ((hK.2 3 _ rfl).2.symm.trans (hK.2 0 _ rfl).2)
  replace hK := hK.sub (tys' := [(cI, .int), (cZ, .boolean), (cJ, .long)]) [0, 1, 2] rfl
  have hP : va_P (dC, dI) vwCl [(h0, .inr (5, [.ref q7, .null, .null, .null, .int 0, .int 0])), (q7, .inl (cI, 60, .inl (fun _ => 0))), (q15, .inl (cI, 60, .inl (fun _ => 0)))] H := hP
  have hD : va_D A [(h0, .inr (5, [.ref q7, .null, .null, .null, .int 0, .int 0])), (q7, .inl (cI, 60, .inl (fun _ => 0))), (q15, .inl (cI, 60, .inl (fun _ => 0)))] := hD
  refine W.widen (k := 2) (n := 120) (by omega) (by omega) ?_
  refine va_putF (D := (dC, dI)) (ci := 5) (v := .ref q15) (ty := .array .int) (C := RX5) (T := TX5) (N := 6) hx hb hts (fun w h => List.mem_cons_of_mem _ (UW_ok 5 (by decide) w h)) tyX5 tyX5_ok nmX5 hown hK hP hD hS 0 rfl rfl 1 (by decide) (hts (.fieldLink RX5 15 "PoloSeason$Stable" "led" "[I") (List.mem_cons_of_mem _ (FL_ok (5, 15, 5, 1) (by decide)))) (fun _ h9 => h9) rfl hin rfl (by decide +kernel) rfl rfl (Nat.le_of_ble_eq_true rfl) (by decide +kernel : decode cX5_init 17 = .ok (.putfield 15, 3)) (fun H locs hP hD hS => ?_)
  have hP : va_P (dC, dI) vwCl [(h0, .inr (5, [.ref q7, .ref q15, .null, .null, .int 0, .int 0])), (q7, .inl (cI, 60, .inl (fun _ => 0))), (q15, .inl (cI, 60, .inl (fun _ => 0)))] H := hP
  have hD : va_D A [(h0, .inr (5, [.ref q7, .ref q15, .null, .null, .int 0, .int 0])), (q7, .inl (cI, 60, .inl (fun _ => 0))), (q15, .inl (cI, 60, .inl (fun _ => 0)))] := hD
  refine lv_aload_n hx hb (by decide +kernel : decode cX5_init 20 = .ok (.aload_n 0, 1)) rfl (lv_at hl 0 rfl) ?_
  refine lv_bipush (v := 60) hx hb (by decide +kernel : decode cX5_init 21 = .ok (.bipush 60, 2)) (by decide) ?_
  refine va_newa (atype := .int) (ty := .int) (a0 := (60, .inl (fun _ => 0))) (N' := 60) hx hb (hts (Cond.arrayClass .int) (List.mem_cons_of_mem _ cwd_3)) rfl hK hP hD hS hA (fun _ => rfl) (by decide) (by decide) (by decide) (show 2 + 1 ≤ 4 by decide) (show 120 + 60 ≤ 240 by decide) (by decide +kernel : decode cX5_init 23 = .ok (.newarray .int, 2)) (fun q23 cA H hK hP hD hS => ?_)
  cases Option.some.inj ((hK.2 3 _ rfl).2.symm.trans (hK.2 0 _ rfl).2)
  replace hK := hK.sub (tys' := [(cI, .int), (cZ, .boolean), (cJ, .long)]) [0, 1, 2] rfl
  have hP : va_P (dC, dI) vwCl [(h0, .inr (5, [.ref q7, .ref q15, .null, .null, .int 0, .int 0])), (q7, .inl (cI, 60, .inl (fun _ => 0))), (q15, .inl (cI, 60, .inl (fun _ => 0))), (q23, .inl (cI, 60, .inl (fun _ => 0)))] H := hP
  have hD : va_D A [(h0, .inr (5, [.ref q7, .ref q15, .null, .null, .int 0, .int 0])), (q7, .inl (cI, 60, .inl (fun _ => 0))), (q15, .inl (cI, 60, .inl (fun _ => 0))), (q23, .inl (cI, 60, .inl (fun _ => 0)))] := hD
  refine W.widen (k := 3) (n := 180) (by omega) (by omega) ?_
  refine va_putF (D := (dC, dI)) (ci := 5) (v := .ref q23) (ty := .array .int) (C := RX5) (T := TX5) (N := 6) hx hb hts (fun w h => List.mem_cons_of_mem _ (UW_ok 5 (by decide) w h)) tyX5 tyX5_ok nmX5 hown hK hP hD hS 0 rfl rfl 2 (by decide) (hts (.fieldLink RX5 18 "PoloSeason$Stable" "rides" "[I") (List.mem_cons_of_mem _ (FL_ok (5, 18, 5, 2) (by decide)))) (fun _ h9 => h9) rfl hin rfl (by decide +kernel) rfl rfl (Nat.le_of_ble_eq_true rfl) (by decide +kernel : decode cX5_init 25 = .ok (.putfield 18, 3)) (fun H locs hP hD hS => ?_)
  have hP : va_P (dC, dI) vwCl [(h0, .inr (5, [.ref q7, .ref q15, .ref q23, .null, .int 0, .int 0])), (q7, .inl (cI, 60, .inl (fun _ => 0))), (q15, .inl (cI, 60, .inl (fun _ => 0))), (q23, .inl (cI, 60, .inl (fun _ => 0)))] H := hP
  have hD : va_D A [(h0, .inr (5, [.ref q7, .ref q15, .ref q23, .null, .int 0, .int 0])), (q7, .inl (cI, 60, .inl (fun _ => 0))), (q15, .inl (cI, 60, .inl (fun _ => 0))), (q23, .inl (cI, 60, .inl (fun _ => 0)))] := hD
  refine lv_aload_n hx hb (by decide +kernel : decode cX5_init 28 = .ok (.aload_n 0, 1)) rfl (lv_at hl 0 rfl) ?_
  refine lv_bipush (v := 60) hx hb (by decide +kernel : decode cX5_init 29 = .ok (.bipush 60, 2)) (by decide) ?_
  refine va_newa (atype := .int) (ty := .int) (a0 := (60, .inl (fun _ => 0))) (N' := 60) hx hb (hts (Cond.arrayClass .int) (List.mem_cons_of_mem _ cwd_3)) rfl hK hP hD hS hA (fun _ => rfl) (by decide) (by decide) (by decide) (show 3 + 1 ≤ 4 by decide) (show 180 + 60 ≤ 240 by decide) (by decide +kernel : decode cX5_init 31 = .ok (.newarray .int, 2)) (fun q31 cA H hK hP hD hS => ?_)
  cases Option.some.inj ((hK.2 3 _ rfl).2.symm.trans (hK.2 0 _ rfl).2)
  replace hK := hK.sub (tys' := [(cI, .int), (cZ, .boolean), (cJ, .long)]) [0, 1, 2] rfl
  have hP : va_P (dC, dI) vwCl [(h0, .inr (5, [.ref q7, .ref q15, .ref q23, .null, .int 0, .int 0])), (q7, .inl (cI, 60, .inl (fun _ => 0))), (q15, .inl (cI, 60, .inl (fun _ => 0))), (q23, .inl (cI, 60, .inl (fun _ => 0))), (q31, .inl (cI, 60, .inl (fun _ => 0)))] H := hP
  have hD : va_D A [(h0, .inr (5, [.ref q7, .ref q15, .ref q23, .null, .int 0, .int 0])), (q7, .inl (cI, 60, .inl (fun _ => 0))), (q15, .inl (cI, 60, .inl (fun _ => 0))), (q23, .inl (cI, 60, .inl (fun _ => 0))), (q31, .inl (cI, 60, .inl (fun _ => 0)))] := hD
  refine W.widen (k := 4) (n := 240) (by omega) (by omega) ?_
  refine va_putF (D := (dC, dI)) (ci := 5) (v := .ref q31) (ty := .array .int) (C := RX5) (T := TX5) (N := 6) hx hb hts (fun w h => List.mem_cons_of_mem _ (UW_ok 5 (by decide) w h)) tyX5 tyX5_ok nmX5 hown hK hP hD hS 0 rfl rfl 3 (by decide) (hts (.fieldLink RX5 21 "PoloSeason$Stable" "lameTill" "[I") (List.mem_cons_of_mem _ (FL_ok (5, 21, 5, 3) (by decide)))) (fun _ h9 => h9) rfl hin rfl (by decide +kernel) rfl rfl (Nat.le_of_ble_eq_true rfl) (by decide +kernel : decode cX5_init 33 = .ok (.putfield 21, 3)) (fun H locs hP hD hS => ?_)
  have hP : va_P (dC, dI) vwCl [(h0, .inr (5, [.ref q7, .ref q15, .ref q23, .ref q31, .int 0, .int 0])), (q7, .inl (cI, 60, .inl (fun _ => 0))), (q15, .inl (cI, 60, .inl (fun _ => 0))), (q23, .inl (cI, 60, .inl (fun _ => 0))), (q31, .inl (cI, 60, .inl (fun _ => 0)))] H := hP
  have hD : va_D A [(h0, .inr (5, [.ref q7, .ref q15, .ref q23, .ref q31, .int 0, .int 0])), (q7, .inl (cI, 60, .inl (fun _ => 0))), (q15, .inl (cI, 60, .inl (fun _ => 0))), (q23, .inl (cI, 60, .inl (fun _ => 0))), (q31, .inl (cI, 60, .inl (fun _ => 0)))] := hD
  refine lv_aload_n hx hb (by decide +kernel : decode cX5_init 36 = .ok (.aload_n 0, 1)) rfl (lv_at hl 0 rfl) ?_
  refine lv_iconst (v := 0) hx hb (by decide +kernel : decode cX5_init 37 = .ok (.iconst 0, 1)) (by decide) ?_
  refine va_put (D := (dC, dI)) (ci := 5) (v := .int 0) (ty := .int) (C := RX5) (T := TX5) (N := 6) hx hb hts (fun w h => List.mem_cons_of_mem _ (UW_ok 5 (by decide) w h)) tyX5 tyX5_ok nmX5 hown hK hP hD hS 0 rfl rfl 4 (by decide) (hts (.fieldLink RX5 24 "PoloSeason$Stable" "ponyCount" "I") (List.mem_cons_of_mem _ (FL_ok (5, 24, 5, 4) (by decide)))) (fun _ h9 => h9) rfl (by decide +kernel) rfl rfl (Nat.le_of_ble_eq_true rfl) (by decide +kernel : decode cX5_init 38 = .ok (.putfield 24, 3)) (fun H locs hP hD hS => ?_)
  have hP : va_P (dC, dI) vwCl [(h0, .inr (5, [.ref q7, .ref q15, .ref q23, .ref q31, .int 0, .int 0])), (q7, .inl (cI, 60, .inl (fun _ => 0))), (q15, .inl (cI, 60, .inl (fun _ => 0))), (q23, .inl (cI, 60, .inl (fun _ => 0))), (q31, .inl (cI, 60, .inl (fun _ => 0)))] H := hP
  have hD : va_D A [(h0, .inr (5, [.ref q7, .ref q15, .ref q23, .ref q31, .int 0, .int 0])), (q7, .inl (cI, 60, .inl (fun _ => 0))), (q15, .inl (cI, 60, .inl (fun _ => 0))), (q23, .inl (cI, 60, .inl (fun _ => 0))), (q31, .inl (cI, 60, .inl (fun _ => 0)))] := hD
  refine lv_aload_n hx hb (by decide +kernel : decode cX5_init 41 = .ok (.aload_n 0, 1)) rfl (lv_at hl 0 rfl) ?_
  refine lv_iconst (v := 0) hx hb (by decide +kernel : decode cX5_init 42 = .ok (.iconst 0, 1)) (by decide) ?_
  refine va_put (D := (dC, dI)) (ci := 5) (v := .int 0) (ty := .int) (C := RX5) (T := TX5) (N := 6) hx hb hts (fun w h => List.mem_cons_of_mem _ (UW_ok 5 (by decide) w h)) tyX5 tyX5_ok nmX5 hown hK hP hD hS 0 rfl rfl 5 (by decide) (hts (.fieldLink RX5 28 "PoloSeason$Stable" "day" "I") (List.mem_cons_of_mem _ (FL_ok (5, 28, 5, 5) (by decide)))) (fun _ h9 => h9) rfl (by decide +kernel) rfl rfl (Nat.le_of_ble_eq_true rfl) (by decide +kernel : decode cX5_init 43 = .ok (.putfield 28, 3)) (fun H locs hP hD hS => ?_)
  have hP : va_P (dC, dI) vwCl [(h0, .inr (5, [.ref q7, .ref q15, .ref q23, .ref q31, .int 0, .int 0])), (q7, .inl (cI, 60, .inl (fun _ => 0))), (q15, .inl (cI, 60, .inl (fun _ => 0))), (q23, .inl (cI, 60, .inl (fun _ => 0))), (q31, .inl (cI, 60, .inl (fun _ => 0)))] H := hP
  have hD : va_D A [(h0, .inr (5, [.ref q7, .ref q15, .ref q23, .ref q31, .int 0, .int 0])), (q7, .inl (cI, 60, .inl (fun _ => 0))), (q15, .inl (cI, 60, .inl (fun _ => 0))), (q23, .inl (cI, 60, .inl (fun _ => 0))), (q31, .inl (cI, 60, .inl (fun _ => 0)))] := hD
  have hP9 := hP.sub (ws' := [(h0, .inr (5, [.ref q7, .ref q15, .ref q23, .ref q31, .int 0, .int 0])), (q7, .inl (cI, 60, .inl (fun _ => 0))), (q15, .inl (cI, 60, .inl (fun _ => 0))), (q23, .inl (cI, 60, .inl (fun _ => 0))), (q31, .inl (cI, 60, .inl (fun _ => 0)))]) [0, 1, 2, 3, 4] rfl
  have hD9 := hD.sub (ws' := [(h0, .inr (5, [.ref q7, .ref q15, .ref q23, .ref q31, .int 0, .int 0])), (q7, .inl (cI, 60, .inl (fun _ => 0))), (q15, .inl (cI, 60, .inl (fun _ => 0))), (q23, .inl (cI, 60, .inl (fun _ => 0))), (q31, .inl (cI, 60, .inl (fun _ => 0)))]) [0, 1, 2, 3, 4] (by decide) rfl
  refine W.widen (k := 4) (n := 240) (by decide) (by decide) ?_
  exact W.vret hx hb hr (fun t ht hW => ⟨⟨(), rfl, trivial, q7, q15, q23, q31, by rw [ht]; exact hP9, hD9⟩, hS.F ht⟩) hS.2.2 (by decide +kernel : decode cX5_init 46 = .ok (.return_, 1))
set_option maxRecDepth 100000 in
theorem cwd_10 : (Cond.methodLink RX6 3 objectInit) ∈ GW := gw_of (p := 118) (by decide +kernel) rfl
set_option maxRecDepth 100000 in
theorem cwd_11 : (Cond.classLink RX6 9 RX4) ∈ GW := gw_of (p := 119) (by decide +kernel) rfl
set_option maxRecDepth 100000 in
theorem cwd_12 : (Cond.instantiable RX4 2) ∈ GW := gw_of (p := 120) (by decide +kernel) rfl
set_option maxRecDepth 100000 in
theorem cwd_13 : (Cond.initialized RX4) ∈ GW := gw_of (p := 56) (by decide +kernel) rfl
set_option maxRecDepth 100000 in
theorem cwd_14 : (Cond.methodLink RX6 11 yX4_init) ∈ GW := gw_of (p := 121) (by decide +kernel) rfl
set_option maxRecDepth 100000 in
theorem cwd_15 : (Cond.instanceMethod yX4_init) ∈ GW := gw_of (p := 122) (by decide +kernel) rfl
set_option maxHeartbeats 4000000 in
set_option maxRecDepth 100000 in
/-- PoloSeason$Tournament(): the world that it makes -/
theorem k_X6 (l : Launch) (dC : Nat → ClassId) (dI : Nat → Nat → Nat) (cI cZ cJ : ClassId) (h0 sz : Nat) : Met l yX6_init (wsOf 66) ({ frames := 2, cells := 8, slots := 40, locals := 32 }) (va_Pc [.ref h0] (kb_pre dC dI cI cZ cJ (h0, .inr (6, [.null, .null, .null, .null, .int 0, .int 0, .int 0, .int 0, .int 0, .int 0])) sz)) (va_Qv (fun _ : Unit => True) (fun _ t => ∃ q5 q5_q7 q16 q16_q7 q27 q27_q7 q38 q38_q7 : Nat, va_P (dC, dI) vwCl [(h0, .inr (6, [.ref q5, .ref q16, .ref q27, .ref q38, .int 0, .int 0, .int 0, .int 0, .int 0, .int 0])), (q5, .inr (4, [.ref q5_q7, .int 0])), (q5_q7, .inl (cI, 8, .inl (fun _ => 0))), (q16, .inr (4, [.ref q16_q7, .int 0])), (q16_q7, .inl (cI, 8, .inl (fun _ => 0))), (q27, .inr (4, [.ref q27_q7, .int 0])), (q27_q7, .inl (cI, 8, .inl (fun _ => 0))), (q38, .inr (4, [.ref q38_q7, .int 0])), (q38_q7, .inl (cI, 8, .inl (fun _ => 0)))] t.heap ∧ va_D (va_A [(h0, .inr (6, [.null, .null, .null, .null, .int 0, .int 0, .int 0, .int 0, .int 0, .int 0]))] sz) [(h0, .inr (6, [.ref q5, .ref q16, .ref q27, .ref q38, .int 0, .int 0, .int 0, .int 0, .int 0, .int 0])), (q5, .inr (4, [.ref q5_q7, .int 0])), (q5_q7, .inl (cI, 8, .inl (fun _ => 0))), (q16, .inr (4, [.ref q16_q7, .int 0])), (q16_q7, .inl (cI, 8, .inl (fun _ => 0))), (q27, .inr (4, [.ref q27_q7, .int 0])), (q27_q7, .inl (cI, 8, .inl (fun _ => 0))), (q38, .inr (4, [.ref q38_q7, .int 0])), (q38_q7, .inl (cI, 8, .inl (fun _ => 0)))]) (va_A [(h0, .inr (6, [.null, .null, .null, .null, .int 0, .int 0, .int 0, .int 0, .int 0, .int 0]))] sz)) 8 40 (va_A [(h0, .inr (6, [.null, .null, .null, .null, .int 0, .int 0, .int 0, .int 0, .int 0, .int 0]))] sz) := by
  refine Met.ofW (cc := cX6_init) (maxL := 1) (ret := none) (by decide) rfl ?_
  intro p e s m args below meth c s₁ B hml hv
  obtain ⟨rfl, hsz, hP, hK, hD0⟩ := hv
  have hx := B.exec
  have hb := B.bytes
  have hr := B.returns
  have hts := atoms_spec (ws := wsOf 66) B.pre
  have hown : s.vm.findClass RX6 = some m.cls := findClass_of_methodNamed B.named
  have hlocks := B.notSynchronized
  have hin : meth.name = "<init>" := (name_of_methodNamed B.named B.method).1
  subst hsz
  have hD := hD0.self (sz := s.heap.size)
  generalize hAe : va_A [(h0, .inr (6, [.null, .null, .null, .null, .int 0, .int 0, .int 0, .int 0, .int 0, .int 0]))] s.heap.size = A at hD ⊢
  have hA : ∀ q : Nat, s.heap.size ≤ q → A q := fun q h => by rw [← hAe]; exact Or.inr h
  have hS : va_S A s.heap s.heap [] := va_S.rf
  have hP : va_P (dC, dI) vwCl [(h0, .inr (6, [.null, .null, .null, .null, .int 0, .int 0, .int 0, .int 0, .int 0, .int 0]))] s.heap := hP
  have hl := lv_entry ([.ref h0]) (n := 1) (Nat.le_of_ble_eq_true rfl)
  rw [lg_entry_eq]
  generalize (lg_sl ([.ref h0]) ++ List.replicate (1 - (lg_sl ([.ref h0])).length) Slot.unset).toArray = ls at hl ⊢
  have hl : lv_has ls 1 [(0, .ref h0)] := hl
  refine lv_aload_n hx hb (by decide +kernel : decode cX6_init 0 = .ok (.aload_n 0, 1)) rfl (lv_at hl 0 rfl) ?_
  refine W.objInit hx hb hown (hts (Cond.methodLink RX6 3 objectInit) (List.mem_cons_of_mem _ cwd_10)) (hts (Cond.instanceMethod objectInit) (List.mem_cons_of_mem _ cwd_1)) (hts (Cond.code objectInit ⟨#[0xb1]⟩ 1 none) (List.mem_cons_of_mem _ cwd_2)) rfl (by rw [hml]; exact hl.1) rfl (by decide +kernel : decode cX6_init 1 = .ok (.invokespecial 3, 3)) (Nat.le_of_ble_eq_true rfl) (Nat.le_of_ble_eq_true rfl) ?_
  refine W.eq (g2 := F0 m 4 ls []) rfl ?_
  refine lv_aload_n hx hb (by decide +kernel : decode cX6_init 4 = .ok (.aload_n 0, 1)) rfl (lv_at hl 0 rfl) ?_
  refine va_new (ci := 4) (fs := [.null, .int 0]) (C := RX4) (T := TX4) (N := 2) hx hb hts (fun w h => List.mem_cons_of_mem _ (UW_ok 4 (by decide) w h)) tyX4 tyX4_ok hown (hts (Cond.classLink RX6 9 RX4) (List.mem_cons_of_mem _ cwd_11)) (hts (Cond.instantiable RX4 2) (List.mem_cons_of_mem _ cwd_12)) (hts (Cond.initialized RX4) (List.mem_cons_of_mem _ cwd_13)) hK hP hD hS hA rfl (fun j hj => by match j, hj with | 0, _ => rfl | 1, _ => rfl) (show 0 + 1 ≤ 8 by decide) (show 0 + 2 ≤ 40 by decide) (by decide +kernel : decode cX6_init 5 = .ok (.new 9, 3)) (fun q5 H hP hD hS => ?_)
  have hP : va_P (dC, dI) vwCl [(h0, .inr (6, [.null, .null, .null, .null, .int 0, .int 0, .int 0, .int 0, .int 0, .int 0])), (q5, .inr (4, [.null, .int 0]))] H := hP
  have hD : va_D A [(h0, .inr (6, [.null, .null, .null, .null, .int 0, .int 0, .int 0, .int 0, .int 0, .int 0])), (q5, .inr (4, [.null, .int 0]))] := hD
  refine W.widen (k := 1) (n := 2) (by omega) (by omega) ?_
  refine lv_dup hx hb (by decide +kernel : decode cX6_init 8 = .ok (.dup, 1)) rfl ?_
  have hPc := hP.sub (ws' := [(q5, .inr (4, [.null, .int 0]))]) [1] rfl
  have hDc := hD.sub (ws' := [(q5, .inr (4, [.null, .int 0]))]) [1] (by decide) rfl
  have hFc := va_free (wc := [(q5, .inr (4, [.null, .int 0]))]) hD hS hA [1] rfl
  refine va_callv (va_runI (As := []) (rest := [.ref q5, .ref h0]) ⟨hx, hb, hml, hown, hts⟩ (k_X4 l dC dI cI cZ cJ q5 H.size) (cwI 0 hts (goodIn_ws cwi_44) rfl rfl rfl (hts (Cond.initialized RX4) (List.mem_cons_of_mem _ cwd_13)) (hts (Cond.methodLink RX6 11 yX4_init) (List.mem_cons_of_mem _ cwd_14)) (hts (Cond.instanceMethod yX4_init) (List.mem_cons_of_mem _ cwd_15)) rfl (by decide +kernel) ⟨by decide, by decide⟩) ⟨kb_blind, fun U hU hW => ⟨rfl, by rw [hU], by rw [hU]; exact hPc, va_K.moved hW.alike hK, hDc.weaken (fun _ _ _ _ => trivial)⟩⟩ rfl rfl hl.1 rfl (lv_room (Nat.le_of_ble_eq_true rfl)) (by decide +kernel : decode cX6_init 9 = .ok (.invokespecial 11, 3)) ⟨show 1 + 1 ≤ 8 by decide, show 2 + 8 ≤ 40 by decide⟩) hS (fun q _ h => hFc q h) hFc (fun u t H1 locs ht hvm hw hB hz1 hk1 hS => ?_)
  obtain ⟨q5_q7, hP1, hD1⟩ := hB
  rw [ht] at hP1
  obtain ⟨hP, hD⟩ := va_join (wr := [(h0, .inr (6, [.null, .null, .null, .null, .int 0, .int 0, .int 0, .int 0, .int 0, .int 0]))]) (w1 := [(q5, .inr (4, [.ref q5_q7, .int 0])), (q5_q7, .inl (cI, 8, .inl (fun _ => 0)))]) hP hD [1] [0] rfl rfl (by decide) (by decide) hk1 hFc hP1 hD1
  generalize H1 = H at hP hS ⊢
  have hP : va_P (dC, dI) vwCl [(h0, .inr (6, [.null, .null, .null, .null, .int 0, .int 0, .int 0, .int 0, .int 0, .int 0])), (q5, .inr (4, [.ref q5_q7, .int 0])), (q5_q7, .inl (cI, 8, .inl (fun _ => 0)))] H := hP
  have hD : va_D A [(h0, .inr (6, [.null, .null, .null, .null, .int 0, .int 0, .int 0, .int 0, .int 0, .int 0])), (q5, .inr (4, [.ref q5_q7, .int 0])), (q5_q7, .inl (cI, 8, .inl (fun _ => 0)))] := hD
  refine W.widen (k := 2) (n := 10) (by omega) (by omega) ?_
  refine va_putF (D := (dC, dI)) (ci := 6) (v := .ref q5) (ty := .object "PoloSeason$Row") (C := RX6) (T := TX6) (N := 10) hx hb hts (fun w h => List.mem_cons_of_mem _ (UW_ok 6 (by decide) w h)) tyX6 tyX6_ok nmX6 hown hK hP hD hS 0 rfl rfl 0 (by decide) (hts (.fieldLink RX6 12 "PoloSeason$Tournament" "entered" "LPoloSeason$Row;") (List.mem_cons_of_mem _ (FL_ok (6, 12, 6, 0) (by decide)))) (fun _ h9 => h9) rfl hin rfl (by decide +kernel) rfl rfl (Nat.le_of_ble_eq_true rfl) (by decide +kernel : decode cX6_init 12 = .ok (.putfield 12, 3)) (fun H locs hP hD hS => ?_)
  have hP : va_P (dC, dI) vwCl [(h0, .inr (6, [.ref q5, .null, .null, .null, .int 0, .int 0, .int 0, .int 0, .int 0, .int 0])), (q5, .inr (4, [.ref q5_q7, .int 0])), (q5_q7, .inl (cI, 8, .inl (fun _ => 0)))] H := hP
  have hD : va_D A [(h0, .inr (6, [.ref q5, .null, .null, .null, .int 0, .int 0, .int 0, .int 0, .int 0, .int 0])), (q5, .inr (4, [.ref q5_q7, .int 0])), (q5_q7, .inl (cI, 8, .inl (fun _ => 0)))] := hD
  refine lv_aload_n hx hb (by decide +kernel : decode cX6_init 15 = .ok (.aload_n 0, 1)) rfl (lv_at hl 0 rfl) ?_
  refine va_new (ci := 4) (fs := [.null, .int 0]) (C := RX4) (T := TX4) (N := 2) hx hb hts (fun w h => List.mem_cons_of_mem _ (UW_ok 4 (by decide) w h)) tyX4 tyX4_ok hown (hts (Cond.classLink RX6 9 RX4) (List.mem_cons_of_mem _ cwd_11)) (hts (Cond.instantiable RX4 2) (List.mem_cons_of_mem _ cwd_12)) (hts (Cond.initialized RX4) (List.mem_cons_of_mem _ cwd_13)) hK hP hD hS hA rfl (fun j hj => by match j, hj with | 0, _ => rfl | 1, _ => rfl) (show 2 + 1 ≤ 8 by decide) (show 10 + 2 ≤ 40 by decide) (by decide +kernel : decode cX6_init 16 = .ok (.new 9, 3)) (fun q16 H hP hD hS => ?_)
  have hP : va_P (dC, dI) vwCl [(h0, .inr (6, [.ref q5, .null, .null, .null, .int 0, .int 0, .int 0, .int 0, .int 0, .int 0])), (q5, .inr (4, [.ref q5_q7, .int 0])), (q5_q7, .inl (cI, 8, .inl (fun _ => 0))), (q16, .inr (4, [.null, .int 0]))] H := hP
  have hD : va_D A [(h0, .inr (6, [.ref q5, .null, .null, .null, .int 0, .int 0, .int 0, .int 0, .int 0, .int 0])), (q5, .inr (4, [.ref q5_q7, .int 0])), (q5_q7, .inl (cI, 8, .inl (fun _ => 0))), (q16, .inr (4, [.null, .int 0]))] := hD
  refine W.widen (k := 3) (n := 12) (by omega) (by omega) ?_
  refine lv_dup hx hb (by decide +kernel : decode cX6_init 19 = .ok (.dup, 1)) rfl ?_
  have hPc := hP.sub (ws' := [(q16, .inr (4, [.null, .int 0]))]) [3] rfl
  have hDc := hD.sub (ws' := [(q16, .inr (4, [.null, .int 0]))]) [3] (by decide) rfl
  have hFc := va_free (wc := [(q16, .inr (4, [.null, .int 0]))]) hD hS hA [3] rfl
  refine va_callv (va_runI (As := []) (rest := [.ref q16, .ref h0]) ⟨hx, hb, hml, hown, hts⟩ (k_X4 l dC dI cI cZ cJ q16 H.size) (cwI 0 hts (goodIn_ws cwi_44) rfl rfl rfl (hts (Cond.initialized RX4) (List.mem_cons_of_mem _ cwd_13)) (hts (Cond.methodLink RX6 11 yX4_init) (List.mem_cons_of_mem _ cwd_14)) (hts (Cond.instanceMethod yX4_init) (List.mem_cons_of_mem _ cwd_15)) rfl (by decide +kernel) ⟨by decide, by decide⟩) ⟨kb_blind, fun U hU hW => ⟨rfl, by rw [hU], by rw [hU]; exact hPc, va_K.moved hW.alike hK, hDc.weaken (fun _ _ _ _ => trivial)⟩⟩ rfl rfl hl.1 rfl (lv_room (Nat.le_of_ble_eq_true rfl)) (by decide +kernel : decode cX6_init 20 = .ok (.invokespecial 11, 3)) ⟨show 3 + 1 ≤ 8 by decide, show 12 + 8 ≤ 40 by decide⟩) hS (fun q _ h => hFc q h) hFc (fun u t H1 locs ht hvm hw hB hz1 hk1 hS => ?_)
  obtain ⟨q16_q7, hP1, hD1⟩ := hB
  rw [ht] at hP1
  obtain ⟨hP, hD⟩ := va_join (wr := [(h0, .inr (6, [.ref q5, .null, .null, .null, .int 0, .int 0, .int 0, .int 0, .int 0, .int 0])), (q5, .inr (4, [.ref q5_q7, .int 0])), (q5_q7, .inl (cI, 8, .inl (fun _ => 0)))]) (w1 := [(q16, .inr (4, [.ref q16_q7, .int 0])), (q16_q7, .inl (cI, 8, .inl (fun _ => 0)))]) hP hD [3] [0, 1, 2] rfl rfl (by decide) (by decide) hk1 hFc hP1 hD1
  generalize H1 = H at hP hS ⊢
  have hP : va_P (dC, dI) vwCl [(h0, .inr (6, [.ref q5, .null, .null, .null, .int 0, .int 0, .int 0, .int 0, .int 0, .int 0])), (q5, .inr (4, [.ref q5_q7, .int 0])), (q5_q7, .inl (cI, 8, .inl (fun _ => 0))), (q16, .inr (4, [.ref q16_q7, .int 0])), (q16_q7, .inl (cI, 8, .inl (fun _ => 0)))] H := hP
  have hD : va_D A [(h0, .inr (6, [.ref q5, .null, .null, .null, .int 0, .int 0, .int 0, .int 0, .int 0, .int 0])), (q5, .inr (4, [.ref q5_q7, .int 0])), (q5_q7, .inl (cI, 8, .inl (fun _ => 0))), (q16, .inr (4, [.ref q16_q7, .int 0])), (q16_q7, .inl (cI, 8, .inl (fun _ => 0)))] := hD
  refine W.widen (k := 4) (n := 20) (by omega) (by omega) ?_
  refine va_putF (D := (dC, dI)) (ci := 6) (v := .ref q16) (ty := .object "PoloSeason$Row") (C := RX6) (T := TX6) (N := 10) hx hb hts (fun w h => List.mem_cons_of_mem _ (UW_ok 6 (by decide) w h)) tyX6 tyX6_ok nmX6 hown hK hP hD hS 0 rfl rfl 1 (by decide) (hts (.fieldLink RX6 18 "PoloSeason$Tournament" "whole" "LPoloSeason$Row;") (List.mem_cons_of_mem _ (FL_ok (6, 18, 6, 1) (by decide)))) (fun _ h9 => h9) rfl hin rfl (by decide +kernel) rfl rfl (Nat.le_of_ble_eq_true rfl) (by decide +kernel : decode cX6_init 23 = .ok (.putfield 18, 3)) (fun H locs hP hD hS => ?_)
  have hP : va_P (dC, dI) vwCl [(h0, .inr (6, [.ref q5, .ref q16, .null, .null, .int 0, .int 0, .int 0, .int 0, .int 0, .int 0])), (q5, .inr (4, [.ref q5_q7, .int 0])), (q5_q7, .inl (cI, 8, .inl (fun _ => 0))), (q16, .inr (4, [.ref q16_q7, .int 0])), (q16_q7, .inl (cI, 8, .inl (fun _ => 0)))] H := hP
  have hD : va_D A [(h0, .inr (6, [.ref q5, .ref q16, .null, .null, .int 0, .int 0, .int 0, .int 0, .int 0, .int 0])), (q5, .inr (4, [.ref q5_q7, .int 0])), (q5_q7, .inl (cI, 8, .inl (fun _ => 0))), (q16, .inr (4, [.ref q16_q7, .int 0])), (q16_q7, .inl (cI, 8, .inl (fun _ => 0)))] := hD
  refine lv_aload_n hx hb (by decide +kernel : decode cX6_init 26 = .ok (.aload_n 0, 1)) rfl (lv_at hl 0 rfl) ?_
  refine va_new (ci := 4) (fs := [.null, .int 0]) (C := RX4) (T := TX4) (N := 2) hx hb hts (fun w h => List.mem_cons_of_mem _ (UW_ok 4 (by decide) w h)) tyX4 tyX4_ok hown (hts (Cond.classLink RX6 9 RX4) (List.mem_cons_of_mem _ cwd_11)) (hts (Cond.instantiable RX4 2) (List.mem_cons_of_mem _ cwd_12)) (hts (Cond.initialized RX4) (List.mem_cons_of_mem _ cwd_13)) hK hP hD hS hA rfl (fun j hj => by match j, hj with | 0, _ => rfl | 1, _ => rfl) (show 4 + 1 ≤ 8 by decide) (show 20 + 2 ≤ 40 by decide) (by decide +kernel : decode cX6_init 27 = .ok (.new 9, 3)) (fun q27 H hP hD hS => ?_)
  have hP : va_P (dC, dI) vwCl [(h0, .inr (6, [.ref q5, .ref q16, .null, .null, .int 0, .int 0, .int 0, .int 0, .int 0, .int 0])), (q5, .inr (4, [.ref q5_q7, .int 0])), (q5_q7, .inl (cI, 8, .inl (fun _ => 0))), (q16, .inr (4, [.ref q16_q7, .int 0])), (q16_q7, .inl (cI, 8, .inl (fun _ => 0))), (q27, .inr (4, [.null, .int 0]))] H := hP
  have hD : va_D A [(h0, .inr (6, [.ref q5, .ref q16, .null, .null, .int 0, .int 0, .int 0, .int 0, .int 0, .int 0])), (q5, .inr (4, [.ref q5_q7, .int 0])), (q5_q7, .inl (cI, 8, .inl (fun _ => 0))), (q16, .inr (4, [.ref q16_q7, .int 0])), (q16_q7, .inl (cI, 8, .inl (fun _ => 0))), (q27, .inr (4, [.null, .int 0]))] := hD
  refine W.widen (k := 5) (n := 22) (by omega) (by omega) ?_
  refine lv_dup hx hb (by decide +kernel : decode cX6_init 30 = .ok (.dup, 1)) rfl ?_
  have hPc := hP.sub (ws' := [(q27, .inr (4, [.null, .int 0]))]) [5] rfl
  have hDc := hD.sub (ws' := [(q27, .inr (4, [.null, .int 0]))]) [5] (by decide) rfl
  have hFc := va_free (wc := [(q27, .inr (4, [.null, .int 0]))]) hD hS hA [5] rfl
  refine va_callv (va_runI (As := []) (rest := [.ref q27, .ref h0]) ⟨hx, hb, hml, hown, hts⟩ (k_X4 l dC dI cI cZ cJ q27 H.size) (cwI 0 hts (goodIn_ws cwi_44) rfl rfl rfl (hts (Cond.initialized RX4) (List.mem_cons_of_mem _ cwd_13)) (hts (Cond.methodLink RX6 11 yX4_init) (List.mem_cons_of_mem _ cwd_14)) (hts (Cond.instanceMethod yX4_init) (List.mem_cons_of_mem _ cwd_15)) rfl (by decide +kernel) ⟨by decide, by decide⟩) ⟨kb_blind, fun U hU hW => ⟨rfl, by rw [hU], by rw [hU]; exact hPc, va_K.moved hW.alike hK, hDc.weaken (fun _ _ _ _ => trivial)⟩⟩ rfl rfl hl.1 rfl (lv_room (Nat.le_of_ble_eq_true rfl)) (by decide +kernel : decode cX6_init 31 = .ok (.invokespecial 11, 3)) ⟨show 5 + 1 ≤ 8 by decide, show 22 + 8 ≤ 40 by decide⟩) hS (fun q _ h => hFc q h) hFc (fun u t H1 locs ht hvm hw hB hz1 hk1 hS => ?_)
  obtain ⟨q27_q7, hP1, hD1⟩ := hB
  rw [ht] at hP1
  obtain ⟨hP, hD⟩ := va_join (wr := [(h0, .inr (6, [.ref q5, .ref q16, .null, .null, .int 0, .int 0, .int 0, .int 0, .int 0, .int 0])), (q5, .inr (4, [.ref q5_q7, .int 0])), (q5_q7, .inl (cI, 8, .inl (fun _ => 0))), (q16, .inr (4, [.ref q16_q7, .int 0])), (q16_q7, .inl (cI, 8, .inl (fun _ => 0)))]) (w1 := [(q27, .inr (4, [.ref q27_q7, .int 0])), (q27_q7, .inl (cI, 8, .inl (fun _ => 0)))]) hP hD [5] [0, 1, 2, 3, 4] rfl rfl (by decide) (by decide) hk1 hFc hP1 hD1
  generalize H1 = H at hP hS ⊢
  have hP : va_P (dC, dI) vwCl [(h0, .inr (6, [.ref q5, .ref q16, .null, .null, .int 0, .int 0, .int 0, .int 0, .int 0, .int 0])), (q5, .inr (4, [.ref q5_q7, .int 0])), (q5_q7, .inl (cI, 8, .inl (fun _ => 0))), (q16, .inr (4, [.ref q16_q7, .int 0])), (q16_q7, .inl (cI, 8, .inl (fun _ => 0))), (q27, .inr (4, [.ref q27_q7, .int 0])), (q27_q7, .inl (cI, 8, .inl (fun _ => 0)))] H := hP
  have hD : va_D A [(h0, .inr (6, [.ref q5, .ref q16, .null, .null, .int 0, .int 0, .int 0, .int 0, .int 0, .int 0])), (q5, .inr (4, [.ref q5_q7, .int 0])), (q5_q7, .inl (cI, 8, .inl (fun _ => 0))), (q16, .inr (4, [.ref q16_q7, .int 0])), (q16_q7, .inl (cI, 8, .inl (fun _ => 0))), (q27, .inr (4, [.ref q27_q7, .int 0])), (q27_q7, .inl (cI, 8, .inl (fun _ => 0)))] := hD
  refine W.widen (k := 6) (n := 30) (by omega) (by omega) ?_
  refine va_putF (D := (dC, dI)) (ci := 6) (v := .ref q27) (ty := .object "PoloSeason$Row") (C := RX6) (T := TX6) (N := 10) hx hb hts (fun w h => List.mem_cons_of_mem _ (UW_ok 6 (by decide) w h)) tyX6 tyX6_ok nmX6 hown hK hP hD hS 0 rfl rfl 2 (by decide) (hts (.fieldLink RX6 21 "PoloSeason$Tournament" "hurt" "LPoloSeason$Row;") (List.mem_cons_of_mem _ (FL_ok (6, 21, 6, 2) (by decide)))) (fun _ h9 => h9) rfl hin rfl (by decide +kernel) rfl rfl (Nat.le_of_ble_eq_true rfl) (by decide +kernel : decode cX6_init 34 = .ok (.putfield 21, 3)) (fun H locs hP hD hS => ?_)
  have hP : va_P (dC, dI) vwCl [(h0, .inr (6, [.ref q5, .ref q16, .ref q27, .null, .int 0, .int 0, .int 0, .int 0, .int 0, .int 0])), (q5, .inr (4, [.ref q5_q7, .int 0])), (q5_q7, .inl (cI, 8, .inl (fun _ => 0))), (q16, .inr (4, [.ref q16_q7, .int 0])), (q16_q7, .inl (cI, 8, .inl (fun _ => 0))), (q27, .inr (4, [.ref q27_q7, .int 0])), (q27_q7, .inl (cI, 8, .inl (fun _ => 0)))] H := hP
  have hD : va_D A [(h0, .inr (6, [.ref q5, .ref q16, .ref q27, .null, .int 0, .int 0, .int 0, .int 0, .int 0, .int 0])), (q5, .inr (4, [.ref q5_q7, .int 0])), (q5_q7, .inl (cI, 8, .inl (fun _ => 0))), (q16, .inr (4, [.ref q16_q7, .int 0])), (q16_q7, .inl (cI, 8, .inl (fun _ => 0))), (q27, .inr (4, [.ref q27_q7, .int 0])), (q27_q7, .inl (cI, 8, .inl (fun _ => 0)))] := hD
  refine lv_aload_n hx hb (by decide +kernel : decode cX6_init 37 = .ok (.aload_n 0, 1)) rfl (lv_at hl 0 rfl) ?_
  refine va_new (ci := 4) (fs := [.null, .int 0]) (C := RX4) (T := TX4) (N := 2) hx hb hts (fun w h => List.mem_cons_of_mem _ (UW_ok 4 (by decide) w h)) tyX4 tyX4_ok hown (hts (Cond.classLink RX6 9 RX4) (List.mem_cons_of_mem _ cwd_11)) (hts (Cond.instantiable RX4 2) (List.mem_cons_of_mem _ cwd_12)) (hts (Cond.initialized RX4) (List.mem_cons_of_mem _ cwd_13)) hK hP hD hS hA rfl (fun j hj => by match j, hj with | 0, _ => rfl | 1, _ => rfl) (show 6 + 1 ≤ 8 by decide) (show 30 + 2 ≤ 40 by decide) (by decide +kernel : decode cX6_init 38 = .ok (.new 9, 3)) (fun q38 H hP hD hS => ?_)
  have hP : va_P (dC, dI) vwCl [(h0, .inr (6, [.ref q5, .ref q16, .ref q27, .null, .int 0, .int 0, .int 0, .int 0, .int 0, .int 0])), (q5, .inr (4, [.ref q5_q7, .int 0])), (q5_q7, .inl (cI, 8, .inl (fun _ => 0))), (q16, .inr (4, [.ref q16_q7, .int 0])), (q16_q7, .inl (cI, 8, .inl (fun _ => 0))), (q27, .inr (4, [.ref q27_q7, .int 0])), (q27_q7, .inl (cI, 8, .inl (fun _ => 0))), (q38, .inr (4, [.null, .int 0]))] H := hP
  have hD : va_D A [(h0, .inr (6, [.ref q5, .ref q16, .ref q27, .null, .int 0, .int 0, .int 0, .int 0, .int 0, .int 0])), (q5, .inr (4, [.ref q5_q7, .int 0])), (q5_q7, .inl (cI, 8, .inl (fun _ => 0))), (q16, .inr (4, [.ref q16_q7, .int 0])), (q16_q7, .inl (cI, 8, .inl (fun _ => 0))), (q27, .inr (4, [.ref q27_q7, .int 0])), (q27_q7, .inl (cI, 8, .inl (fun _ => 0))), (q38, .inr (4, [.null, .int 0]))] := hD
  refine W.widen (k := 7) (n := 32) (by omega) (by omega) ?_
  refine lv_dup hx hb (by decide +kernel : decode cX6_init 41 = .ok (.dup, 1)) rfl ?_
  have hPc := hP.sub (ws' := [(q38, .inr (4, [.null, .int 0]))]) [7] rfl
  have hDc := hD.sub (ws' := [(q38, .inr (4, [.null, .int 0]))]) [7] (by decide) rfl
  have hFc := va_free (wc := [(q38, .inr (4, [.null, .int 0]))]) hD hS hA [7] rfl
  refine va_callv (va_runI (As := []) (rest := [.ref q38, .ref h0]) ⟨hx, hb, hml, hown, hts⟩ (k_X4 l dC dI cI cZ cJ q38 H.size) (cwI 0 hts (goodIn_ws cwi_44) rfl rfl rfl (hts (Cond.initialized RX4) (List.mem_cons_of_mem _ cwd_13)) (hts (Cond.methodLink RX6 11 yX4_init) (List.mem_cons_of_mem _ cwd_14)) (hts (Cond.instanceMethod yX4_init) (List.mem_cons_of_mem _ cwd_15)) rfl (by decide +kernel) ⟨by decide, by decide⟩) ⟨kb_blind, fun U hU hW => ⟨rfl, by rw [hU], by rw [hU]; exact hPc, va_K.moved hW.alike hK, hDc.weaken (fun _ _ _ _ => trivial)⟩⟩ rfl rfl hl.1 rfl (lv_room (Nat.le_of_ble_eq_true rfl)) (by decide +kernel : decode cX6_init 42 = .ok (.invokespecial 11, 3)) ⟨show 7 + 1 ≤ 8 by decide, show 32 + 8 ≤ 40 by decide⟩) hS (fun q _ h => hFc q h) hFc (fun u t H1 locs ht hvm hw hB hz1 hk1 hS => ?_)
  obtain ⟨q38_q7, hP1, hD1⟩ := hB
  rw [ht] at hP1
  obtain ⟨hP, hD⟩ := va_join (wr := [(h0, .inr (6, [.ref q5, .ref q16, .ref q27, .null, .int 0, .int 0, .int 0, .int 0, .int 0, .int 0])), (q5, .inr (4, [.ref q5_q7, .int 0])), (q5_q7, .inl (cI, 8, .inl (fun _ => 0))), (q16, .inr (4, [.ref q16_q7, .int 0])), (q16_q7, .inl (cI, 8, .inl (fun _ => 0))), (q27, .inr (4, [.ref q27_q7, .int 0])), (q27_q7, .inl (cI, 8, .inl (fun _ => 0)))]) (w1 := [(q38, .inr (4, [.ref q38_q7, .int 0])), (q38_q7, .inl (cI, 8, .inl (fun _ => 0)))]) hP hD [7] [0, 1, 2, 3, 4, 5, 6] rfl rfl (by decide) (by decide) hk1 hFc hP1 hD1
  generalize H1 = H at hP hS ⊢
  have hP : va_P (dC, dI) vwCl [(h0, .inr (6, [.ref q5, .ref q16, .ref q27, .null, .int 0, .int 0, .int 0, .int 0, .int 0, .int 0])), (q5, .inr (4, [.ref q5_q7, .int 0])), (q5_q7, .inl (cI, 8, .inl (fun _ => 0))), (q16, .inr (4, [.ref q16_q7, .int 0])), (q16_q7, .inl (cI, 8, .inl (fun _ => 0))), (q27, .inr (4, [.ref q27_q7, .int 0])), (q27_q7, .inl (cI, 8, .inl (fun _ => 0))), (q38, .inr (4, [.ref q38_q7, .int 0])), (q38_q7, .inl (cI, 8, .inl (fun _ => 0)))] H := hP
  have hD : va_D A [(h0, .inr (6, [.ref q5, .ref q16, .ref q27, .null, .int 0, .int 0, .int 0, .int 0, .int 0, .int 0])), (q5, .inr (4, [.ref q5_q7, .int 0])), (q5_q7, .inl (cI, 8, .inl (fun _ => 0))), (q16, .inr (4, [.ref q16_q7, .int 0])), (q16_q7, .inl (cI, 8, .inl (fun _ => 0))), (q27, .inr (4, [.ref q27_q7, .int 0])), (q27_q7, .inl (cI, 8, .inl (fun _ => 0))), (q38, .inr (4, [.ref q38_q7, .int 0])), (q38_q7, .inl (cI, 8, .inl (fun _ => 0)))] := hD
  refine W.widen (k := 8) (n := 40) (by omega) (by omega) ?_
  refine va_putF (D := (dC, dI)) (ci := 6) (v := .ref q38) (ty := .object "PoloSeason$Row") (C := RX6) (T := TX6) (N := 10) hx hb hts (fun w h => List.mem_cons_of_mem _ (UW_ok 6 (by decide) w h)) tyX6 tyX6_ok nmX6 hown hK hP hD hS 0 rfl rfl 3 (by decide) (hts (.fieldLink RX6 24 "PoloSeason$Tournament" "losers" "LPoloSeason$Row;") (List.mem_cons_of_mem _ (FL_ok (6, 24, 6, 3) (by decide)))) (fun _ h9 => h9) rfl hin rfl (by decide +kernel) rfl rfl (Nat.le_of_ble_eq_true rfl) (by decide +kernel : decode cX6_init 45 = .ok (.putfield 24, 3)) (fun H locs hP hD hS => ?_)
  have hP : va_P (dC, dI) vwCl [(h0, .inr (6, [.ref q5, .ref q16, .ref q27, .ref q38, .int 0, .int 0, .int 0, .int 0, .int 0, .int 0])), (q5, .inr (4, [.ref q5_q7, .int 0])), (q5_q7, .inl (cI, 8, .inl (fun _ => 0))), (q16, .inr (4, [.ref q16_q7, .int 0])), (q16_q7, .inl (cI, 8, .inl (fun _ => 0))), (q27, .inr (4, [.ref q27_q7, .int 0])), (q27_q7, .inl (cI, 8, .inl (fun _ => 0))), (q38, .inr (4, [.ref q38_q7, .int 0])), (q38_q7, .inl (cI, 8, .inl (fun _ => 0)))] H := hP
  have hD : va_D A [(h0, .inr (6, [.ref q5, .ref q16, .ref q27, .ref q38, .int 0, .int 0, .int 0, .int 0, .int 0, .int 0])), (q5, .inr (4, [.ref q5_q7, .int 0])), (q5_q7, .inl (cI, 8, .inl (fun _ => 0))), (q16, .inr (4, [.ref q16_q7, .int 0])), (q16_q7, .inl (cI, 8, .inl (fun _ => 0))), (q27, .inr (4, [.ref q27_q7, .int 0])), (q27_q7, .inl (cI, 8, .inl (fun _ => 0))), (q38, .inr (4, [.ref q38_q7, .int 0])), (q38_q7, .inl (cI, 8, .inl (fun _ => 0)))] := hD
  refine lv_aload_n hx hb (by decide +kernel : decode cX6_init 48 = .ok (.aload_n 0, 1)) rfl (lv_at hl 0 rfl) ?_
  refine lv_iconst (v := 0) hx hb (by decide +kernel : decode cX6_init 49 = .ok (.iconst 0, 1)) (by decide) ?_
  refine va_put (D := (dC, dI)) (ci := 6) (v := .int 0) (ty := .boolean) (C := RX6) (T := TX6) (N := 10) hx hb hts (fun w h => List.mem_cons_of_mem _ (UW_ok 6 (by decide) w h)) tyX6 tyX6_ok nmX6 hown hK hP hD hS 0 rfl rfl 4 (by decide) (hts (.fieldLink RX6 27 "PoloSeason$Tournament" "open" "Z") (List.mem_cons_of_mem _ (FL_ok (6, 27, 6, 4) (by decide)))) (fun _ h9 => h9) rfl (by decide +kernel) rfl rfl (Nat.le_of_ble_eq_true rfl) (by decide +kernel : decode cX6_init 50 = .ok (.putfield 27, 3)) (fun H locs hP hD hS => ?_)
  have hP : va_P (dC, dI) vwCl [(h0, .inr (6, [.ref q5, .ref q16, .ref q27, .ref q38, .int 0, .int 0, .int 0, .int 0, .int 0, .int 0])), (q5, .inr (4, [.ref q5_q7, .int 0])), (q5_q7, .inl (cI, 8, .inl (fun _ => 0))), (q16, .inr (4, [.ref q16_q7, .int 0])), (q16_q7, .inl (cI, 8, .inl (fun _ => 0))), (q27, .inr (4, [.ref q27_q7, .int 0])), (q27_q7, .inl (cI, 8, .inl (fun _ => 0))), (q38, .inr (4, [.ref q38_q7, .int 0])), (q38_q7, .inl (cI, 8, .inl (fun _ => 0)))] H := hP
  have hD : va_D A [(h0, .inr (6, [.ref q5, .ref q16, .ref q27, .ref q38, .int 0, .int 0, .int 0, .int 0, .int 0, .int 0])), (q5, .inr (4, [.ref q5_q7, .int 0])), (q5_q7, .inl (cI, 8, .inl (fun _ => 0))), (q16, .inr (4, [.ref q16_q7, .int 0])), (q16_q7, .inl (cI, 8, .inl (fun _ => 0))), (q27, .inr (4, [.ref q27_q7, .int 0])), (q27_q7, .inl (cI, 8, .inl (fun _ => 0))), (q38, .inr (4, [.ref q38_q7, .int 0])), (q38_q7, .inl (cI, 8, .inl (fun _ => 0)))] := hD
  refine lv_aload_n hx hb (by decide +kernel : decode cX6_init 53 = .ok (.aload_n 0, 1)) rfl (lv_at hl 0 rfl) ?_
  refine lv_iconst (v := 0) hx hb (by decide +kernel : decode cX6_init 54 = .ok (.iconst 0, 1)) (by decide) ?_
  refine va_put (D := (dC, dI)) (ci := 6) (v := .int 0) (ty := .boolean) (C := RX6) (T := TX6) (N := 10) hx hb hts (fun w h => List.mem_cons_of_mem _ (UW_ok 6 (by decide) w h)) tyX6 tyX6_ok nmX6 hown hK hP hD hS 0 rfl rfl 5 (by decide) (hts (.fieldLink RX6 31 "PoloSeason$Tournament" "drawn" "Z") (List.mem_cons_of_mem _ (FL_ok (6, 31, 6, 5) (by decide)))) (fun _ h9 => h9) rfl (by decide +kernel) rfl rfl (Nat.le_of_ble_eq_true rfl) (by decide +kernel : decode cX6_init 55 = .ok (.putfield 31, 3)) (fun H locs hP hD hS => ?_)
  have hP : va_P (dC, dI) vwCl [(h0, .inr (6, [.ref q5, .ref q16, .ref q27, .ref q38, .int 0, .int 0, .int 0, .int 0, .int 0, .int 0])), (q5, .inr (4, [.ref q5_q7, .int 0])), (q5_q7, .inl (cI, 8, .inl (fun _ => 0))), (q16, .inr (4, [.ref q16_q7, .int 0])), (q16_q7, .inl (cI, 8, .inl (fun _ => 0))), (q27, .inr (4, [.ref q27_q7, .int 0])), (q27_q7, .inl (cI, 8, .inl (fun _ => 0))), (q38, .inr (4, [.ref q38_q7, .int 0])), (q38_q7, .inl (cI, 8, .inl (fun _ => 0)))] H := hP
  have hD : va_D A [(h0, .inr (6, [.ref q5, .ref q16, .ref q27, .ref q38, .int 0, .int 0, .int 0, .int 0, .int 0, .int 0])), (q5, .inr (4, [.ref q5_q7, .int 0])), (q5_q7, .inl (cI, 8, .inl (fun _ => 0))), (q16, .inr (4, [.ref q16_q7, .int 0])), (q16_q7, .inl (cI, 8, .inl (fun _ => 0))), (q27, .inr (4, [.ref q27_q7, .int 0])), (q27_q7, .inl (cI, 8, .inl (fun _ => 0))), (q38, .inr (4, [.ref q38_q7, .int 0])), (q38_q7, .inl (cI, 8, .inl (fun _ => 0)))] := hD
  refine lv_aload_n hx hb (by decide +kernel : decode cX6_init 58 = .ok (.aload_n 0, 1)) rfl (lv_at hl 0 rfl) ?_
  refine lv_iconst (v := 0) hx hb (by decide +kernel : decode cX6_init 59 = .ok (.iconst 0, 1)) (by decide) ?_
  refine va_put (D := (dC, dI)) (ci := 6) (v := .int 0) (ty := .int) (C := RX6) (T := TX6) (N := 10) hx hb hts (fun w h => List.mem_cons_of_mem _ (UW_ok 6 (by decide) w h)) tyX6 tyX6_ok nmX6 hown hK hP hD hS 0 rfl rfl 6 (by decide) (hts (.fieldLink RX6 34 "PoloSeason$Tournament" "strengthLimit" "I") (List.mem_cons_of_mem _ (FL_ok (6, 34, 6, 6) (by decide)))) (fun _ h9 => h9) rfl (by decide +kernel) rfl rfl (Nat.le_of_ble_eq_true rfl) (by decide +kernel : decode cX6_init 60 = .ok (.putfield 34, 3)) (fun H locs hP hD hS => ?_)
  have hP : va_P (dC, dI) vwCl [(h0, .inr (6, [.ref q5, .ref q16, .ref q27, .ref q38, .int 0, .int 0, .int 0, .int 0, .int 0, .int 0])), (q5, .inr (4, [.ref q5_q7, .int 0])), (q5_q7, .inl (cI, 8, .inl (fun _ => 0))), (q16, .inr (4, [.ref q16_q7, .int 0])), (q16_q7, .inl (cI, 8, .inl (fun _ => 0))), (q27, .inr (4, [.ref q27_q7, .int 0])), (q27_q7, .inl (cI, 8, .inl (fun _ => 0))), (q38, .inr (4, [.ref q38_q7, .int 0])), (q38_q7, .inl (cI, 8, .inl (fun _ => 0)))] H := hP
  have hD : va_D A [(h0, .inr (6, [.ref q5, .ref q16, .ref q27, .ref q38, .int 0, .int 0, .int 0, .int 0, .int 0, .int 0])), (q5, .inr (4, [.ref q5_q7, .int 0])), (q5_q7, .inl (cI, 8, .inl (fun _ => 0))), (q16, .inr (4, [.ref q16_q7, .int 0])), (q16_q7, .inl (cI, 8, .inl (fun _ => 0))), (q27, .inr (4, [.ref q27_q7, .int 0])), (q27_q7, .inl (cI, 8, .inl (fun _ => 0))), (q38, .inr (4, [.ref q38_q7, .int 0])), (q38_q7, .inl (cI, 8, .inl (fun _ => 0)))] := hD
  refine lv_aload_n hx hb (by decide +kernel : decode cX6_init 63 = .ok (.aload_n 0, 1)) rfl (lv_at hl 0 rfl) ?_
  refine lv_iconst (v := 0) hx hb (by decide +kernel : decode cX6_init 64 = .ok (.iconst 0, 1)) (by decide) ?_
  refine va_put (D := (dC, dI)) (ci := 6) (v := .int 0) (ty := .int) (C := RX6) (T := TX6) (N := 10) hx hb hts (fun w h => List.mem_cons_of_mem _ (UW_ok 6 (by decide) w h)) tyX6 tyX6_ok nmX6 hown hK hP hD hS 0 rfl rfl 7 (by decide) (hts (.fieldLink RX6 38 "PoloSeason$Tournament" "matchChukkas" "I") (List.mem_cons_of_mem _ (FL_ok (6, 38, 6, 7) (by decide)))) (fun _ h9 => h9) rfl (by decide +kernel) rfl rfl (Nat.le_of_ble_eq_true rfl) (by decide +kernel : decode cX6_init 65 = .ok (.putfield 38, 3)) (fun H locs hP hD hS => ?_)
  have hP : va_P (dC, dI) vwCl [(h0, .inr (6, [.ref q5, .ref q16, .ref q27, .ref q38, .int 0, .int 0, .int 0, .int 0, .int 0, .int 0])), (q5, .inr (4, [.ref q5_q7, .int 0])), (q5_q7, .inl (cI, 8, .inl (fun _ => 0))), (q16, .inr (4, [.ref q16_q7, .int 0])), (q16_q7, .inl (cI, 8, .inl (fun _ => 0))), (q27, .inr (4, [.ref q27_q7, .int 0])), (q27_q7, .inl (cI, 8, .inl (fun _ => 0))), (q38, .inr (4, [.ref q38_q7, .int 0])), (q38_q7, .inl (cI, 8, .inl (fun _ => 0)))] H := hP
  have hD : va_D A [(h0, .inr (6, [.ref q5, .ref q16, .ref q27, .ref q38, .int 0, .int 0, .int 0, .int 0, .int 0, .int 0])), (q5, .inr (4, [.ref q5_q7, .int 0])), (q5_q7, .inl (cI, 8, .inl (fun _ => 0))), (q16, .inr (4, [.ref q16_q7, .int 0])), (q16_q7, .inl (cI, 8, .inl (fun _ => 0))), (q27, .inr (4, [.ref q27_q7, .int 0])), (q27_q7, .inl (cI, 8, .inl (fun _ => 0))), (q38, .inr (4, [.ref q38_q7, .int 0])), (q38_q7, .inl (cI, 8, .inl (fun _ => 0)))] := hD
  refine lv_aload_n hx hb (by decide +kernel : decode cX6_init 68 = .ok (.aload_n 0, 1)) rfl (lv_at hl 0 rfl) ?_
  refine lv_iconst (v := 0) hx hb (by decide +kernel : decode cX6_init 69 = .ok (.iconst 0, 1)) (by decide) ?_
  refine va_put (D := (dC, dI)) (ci := 6) (v := .int 0) (ty := .int) (C := RX6) (T := TX6) (N := 10) hx hb hts (fun w h => List.mem_cons_of_mem _ (UW_ok 6 (by decide) w h)) tyX6 tyX6_ok nmX6 hown hK hP hD hS 0 rfl rfl 8 (by decide) (hts (.fieldLink RX6 41 "PoloSeason$Tournament" "played" "I") (List.mem_cons_of_mem _ (FL_ok (6, 41, 6, 8) (by decide)))) (fun _ h9 => h9) rfl (by decide +kernel) rfl rfl (Nat.le_of_ble_eq_true rfl) (by decide +kernel : decode cX6_init 70 = .ok (.putfield 41, 3)) (fun H locs hP hD hS => ?_)
  have hP : va_P (dC, dI) vwCl [(h0, .inr (6, [.ref q5, .ref q16, .ref q27, .ref q38, .int 0, .int 0, .int 0, .int 0, .int 0, .int 0])), (q5, .inr (4, [.ref q5_q7, .int 0])), (q5_q7, .inl (cI, 8, .inl (fun _ => 0))), (q16, .inr (4, [.ref q16_q7, .int 0])), (q16_q7, .inl (cI, 8, .inl (fun _ => 0))), (q27, .inr (4, [.ref q27_q7, .int 0])), (q27_q7, .inl (cI, 8, .inl (fun _ => 0))), (q38, .inr (4, [.ref q38_q7, .int 0])), (q38_q7, .inl (cI, 8, .inl (fun _ => 0)))] H := hP
  have hD : va_D A [(h0, .inr (6, [.ref q5, .ref q16, .ref q27, .ref q38, .int 0, .int 0, .int 0, .int 0, .int 0, .int 0])), (q5, .inr (4, [.ref q5_q7, .int 0])), (q5_q7, .inl (cI, 8, .inl (fun _ => 0))), (q16, .inr (4, [.ref q16_q7, .int 0])), (q16_q7, .inl (cI, 8, .inl (fun _ => 0))), (q27, .inr (4, [.ref q27_q7, .int 0])), (q27_q7, .inl (cI, 8, .inl (fun _ => 0))), (q38, .inr (4, [.ref q38_q7, .int 0])), (q38_q7, .inl (cI, 8, .inl (fun _ => 0)))] := hD
  refine lv_aload_n hx hb (by decide +kernel : decode cX6_init 73 = .ok (.aload_n 0, 1)) rfl (lv_at hl 0 rfl) ?_
  refine lv_iconst (v := 0) hx hb (by decide +kernel : decode cX6_init 74 = .ok (.iconst 0, 1)) (by decide) ?_
  refine va_put (D := (dC, dI)) (ci := 6) (v := .int 0) (ty := .int) (C := RX6) (T := TX6) (N := 10) hx hb hts (fun w h => List.mem_cons_of_mem _ (UW_ok 6 (by decide) w h)) tyX6 tyX6_ok nmX6 hown hK hP hD hS 0 rfl rfl 9 (by decide) (hts (.fieldLink RX6 44 "PoloSeason$Tournament" "rounds" "I") (List.mem_cons_of_mem _ (FL_ok (6, 44, 6, 9) (by decide)))) (fun _ h9 => h9) rfl (by decide +kernel) rfl rfl (Nat.le_of_ble_eq_true rfl) (by decide +kernel : decode cX6_init 75 = .ok (.putfield 44, 3)) (fun H locs hP hD hS => ?_)
  have hP : va_P (dC, dI) vwCl [(h0, .inr (6, [.ref q5, .ref q16, .ref q27, .ref q38, .int 0, .int 0, .int 0, .int 0, .int 0, .int 0])), (q5, .inr (4, [.ref q5_q7, .int 0])), (q5_q7, .inl (cI, 8, .inl (fun _ => 0))), (q16, .inr (4, [.ref q16_q7, .int 0])), (q16_q7, .inl (cI, 8, .inl (fun _ => 0))), (q27, .inr (4, [.ref q27_q7, .int 0])), (q27_q7, .inl (cI, 8, .inl (fun _ => 0))), (q38, .inr (4, [.ref q38_q7, .int 0])), (q38_q7, .inl (cI, 8, .inl (fun _ => 0)))] H := hP
  have hD : va_D A [(h0, .inr (6, [.ref q5, .ref q16, .ref q27, .ref q38, .int 0, .int 0, .int 0, .int 0, .int 0, .int 0])), (q5, .inr (4, [.ref q5_q7, .int 0])), (q5_q7, .inl (cI, 8, .inl (fun _ => 0))), (q16, .inr (4, [.ref q16_q7, .int 0])), (q16_q7, .inl (cI, 8, .inl (fun _ => 0))), (q27, .inr (4, [.ref q27_q7, .int 0])), (q27_q7, .inl (cI, 8, .inl (fun _ => 0))), (q38, .inr (4, [.ref q38_q7, .int 0])), (q38_q7, .inl (cI, 8, .inl (fun _ => 0)))] := hD
  have hP9 := hP.sub (ws' := [(h0, .inr (6, [.ref q5, .ref q16, .ref q27, .ref q38, .int 0, .int 0, .int 0, .int 0, .int 0, .int 0])), (q5, .inr (4, [.ref q5_q7, .int 0])), (q5_q7, .inl (cI, 8, .inl (fun _ => 0))), (q16, .inr (4, [.ref q16_q7, .int 0])), (q16_q7, .inl (cI, 8, .inl (fun _ => 0))), (q27, .inr (4, [.ref q27_q7, .int 0])), (q27_q7, .inl (cI, 8, .inl (fun _ => 0))), (q38, .inr (4, [.ref q38_q7, .int 0])), (q38_q7, .inl (cI, 8, .inl (fun _ => 0)))]) [0, 1, 2, 3, 4, 5, 6, 7, 8] rfl
  have hD9 := hD.sub (ws' := [(h0, .inr (6, [.ref q5, .ref q16, .ref q27, .ref q38, .int 0, .int 0, .int 0, .int 0, .int 0, .int 0])), (q5, .inr (4, [.ref q5_q7, .int 0])), (q5_q7, .inl (cI, 8, .inl (fun _ => 0))), (q16, .inr (4, [.ref q16_q7, .int 0])), (q16_q7, .inl (cI, 8, .inl (fun _ => 0))), (q27, .inr (4, [.ref q27_q7, .int 0])), (q27_q7, .inl (cI, 8, .inl (fun _ => 0))), (q38, .inr (4, [.ref q38_q7, .int 0])), (q38_q7, .inl (cI, 8, .inl (fun _ => 0)))]) [0, 1, 2, 3, 4, 5, 6, 7, 8] (by decide) rfl
  refine W.widen (k := 8) (n := 40) (by decide) (by decide) ?_
  exact W.vret hx hb hr (fun t ht hW => ⟨⟨(), rfl, trivial, q5, q5_q7, q16, q16_q7, q27, q27_q7, q38, q38_q7, by rw [ht]; exact hP9, hD9⟩, hS.F ht⟩) hS.2.2 (by decide +kernel : decode cX6_init 78 = .ok (.return_, 1))
set_option maxRecDepth 100000 in
theorem cwd_16 : (Cond.methodLink RX7 1 objectInit) ∈ GW := gw_of (p := 73) (by decide +kernel) rfl
set_option maxRecDepth 100000 in
theorem cwd_17 : (Cond.classLink RX7 7 RX3) ∈ GW := gw_of (p := 76) (by decide +kernel) rfl
set_option maxRecDepth 100000 in
theorem cwd_18 : (Cond.instantiable RX3 5) ∈ GW := gw_of (p := 77) (by decide +kernel) rfl
set_option maxRecDepth 100000 in
theorem cwd_19 : (Cond.initialized RX3) ∈ GW := gw_of (p := 53) (by decide +kernel) rfl
set_option maxRecDepth 100000 in
theorem cwd_20 : (Cond.methodLink RX7 9 yX3_init) ∈ GW := gw_of (p := 78) (by decide +kernel) rfl
set_option maxRecDepth 100000 in
theorem cwd_21 : (Cond.instanceMethod yX3_init) ∈ GW := gw_of (p := 79) (by decide +kernel) rfl
set_option maxRecDepth 100000 in
theorem cwd_22 : (Cond.classLink RX7 16 RX1) ∈ GW := gw_of (p := 100) (by decide +kernel) rfl
set_option maxRecDepth 100000 in
theorem cwd_23 : (Cond.instantiable RX1 2) ∈ GW := gw_of (p := 101) (by decide +kernel) rfl
set_option maxRecDepth 100000 in
theorem cwd_24 : (Cond.initialized RX1) ∈ GW := gw_of (p := 54) (by decide +kernel) rfl
set_option maxRecDepth 100000 in
theorem cwd_25 : (Cond.methodLink RX7 18 yX1_init) ∈ GW := gw_of (p := 102) (by decide +kernel) rfl
set_option maxRecDepth 100000 in
theorem cwd_26 : (Cond.instanceMethod yX1_init) ∈ GW := gw_of (p := 103) (by decide +kernel) rfl
set_option maxRecDepth 100000 in
theorem cwd_27 : (Cond.classLink RX7 23 RX6) ∈ GW := gw_of (p := 113) (by decide +kernel) rfl
set_option maxRecDepth 100000 in
theorem cwd_28 : (Cond.instantiable RX6 10) ∈ GW := gw_of (p := 114) (by decide +kernel) rfl
set_option maxRecDepth 100000 in
theorem cwd_29 : (Cond.initialized RX6) ∈ GW := gw_of (p := 55) (by decide +kernel) rfl
set_option maxRecDepth 100000 in
theorem cwd_30 : (Cond.methodLink RX7 25 yX6_init) ∈ GW := gw_of (p := 115) (by decide +kernel) rfl
set_option maxRecDepth 100000 in
theorem cwd_31 : (Cond.instanceMethod yX6_init) ∈ GW := gw_of (p := 116) (by decide +kernel) rfl
set_option maxRecDepth 100000 in
theorem cwd_32 : (Cond.classLink RX7 30 RX5) ∈ GW := gw_of (p := 163) (by decide +kernel) rfl
set_option maxRecDepth 100000 in
theorem cwd_33 : (Cond.instantiable RX5 6) ∈ GW := gw_of (p := 164) (by decide +kernel) rfl
set_option maxRecDepth 100000 in
theorem cwd_34 : (Cond.initialized RX5) ∈ GW := gw_of (p := 57) (by decide +kernel) rfl
set_option maxRecDepth 100000 in
theorem cwd_35 : (Cond.methodLink RX7 32 yX5_init) ∈ GW := gw_of (p := 165) (by decide +kernel) rfl
set_option maxRecDepth 100000 in
theorem cwd_36 : (Cond.instanceMethod yX5_init) ∈ GW := gw_of (p := 166) (by decide +kernel) rfl
set_option maxRecDepth 100000 in
theorem cwd_37 : (Cond.classLink RX7 37 RX2) ∈ GW := gw_of (p := 188) (by decide +kernel) rfl
set_option maxRecDepth 100000 in
theorem cwd_38 : (Cond.instantiable RX2 9) ∈ GW := gw_of (p := 189) (by decide +kernel) rfl
set_option maxRecDepth 100000 in
theorem cwd_39 : (Cond.initialized RX2) ∈ GW := gw_of (p := 58) (by decide +kernel) rfl
set_option maxRecDepth 100000 in
theorem cwd_40 : (Cond.methodLink RX7 39 yX2_init) ∈ GW := gw_of (p := 190) (by decide +kernel) rfl
set_option maxRecDepth 100000 in
theorem cwd_41 : (Cond.instanceMethod yX2_init) ∈ GW := gw_of (p := 191) (by decide +kernel) rfl
set_option maxRecDepth 100000 in
theorem cwd_42 : (Cond.classLink RX7 44 RX0) ∈ GW := gw_of (p := 222) (by decide +kernel) rfl
set_option maxRecDepth 100000 in
theorem cwd_43 : (Cond.instantiable RX0 11) ∈ GW := gw_of (p := 223) (by decide +kernel) rfl
set_option maxRecDepth 100000 in
theorem cwd_44 : (Cond.initialized RX0) ∈ GW := gw_of (p := 59) (by decide +kernel) rfl
set_option maxRecDepth 100000 in
theorem cwd_45 : (Cond.methodLink RX7 46 yX0_init) ∈ GW := gw_of (p := 224) (by decide +kernel) rfl
set_option maxRecDepth 100000 in
theorem cwd_46 : (Cond.instanceMethod yX0_init) ∈ GW := gw_of (p := 225) (by decide +kernel) rfl
set_option maxHeartbeats 4000000 in
set_option maxRecDepth 100000 in
/-- PoloSeason(): the world that it makes -/
theorem k_X7 (l : Launch) (dC : Nat → ClassId) (dI : Nat → Nat → Nat) (cI cZ cJ : ClassId) (h0 sz : Nat) : Met l yX7_init (wsOf 84) ({ frames := 3, cells := 33, slots := 525, locals := 52 }) (va_Pc [.ref h0] (kb_pre dC dI cI cZ cJ (h0, .inr (7, [.null, .null, .null, .null, .null, .null, .int 0])) sz)) (va_Qv (fun _ : Unit => True) (fun _ t => ∃ q5 q5_q7 q5_q15 q5_q23 q16 q16_q7 q27 q27_q5 q27_q5_q7 q27_q16 q27_q16_q7 q27_q27 q27_q27_q7 q27_q38 q27_q38_q7 q38 q38_q7 q38_q15 q38_q23 q38_q31 q49 q49_q7 q49_q15 q49_q23 q49_q31 q49_q39 q49_q47 q60 q60_q7 q60_q15 q60_q23 q60_q31 q60_q39 : Nat, va_P (dC, dI) vwCl [(h0, .inr (7, [.ref q5, .ref q16, .ref q27, .ref q38, .ref q49, .ref q60, .int 0])), (q5, .inr (3, [.ref q5_q7, .ref q5_q15, .ref q5_q23, .int 0, .int 0])), (q5_q7, .inl (cI, 32, .inl (fun _ => 0))), (q5_q15, .inl (cZ, 32, .inl (fun _ => 0))), (q5_q23, .inl (cI, 32, .inl (fun _ => 0))), (q16, .inr (1, [.ref q16_q7, .int 0])), (q16_q7, .inl (cI, 20, .inl (fun _ => 0))), (q27, .inr (6, [.ref q27_q5, .ref q27_q16, .ref q27_q27, .ref q27_q38, .int 0, .int 0, .int 0, .int 0, .int 0, .int 0])), (q27_q5, .inr (4, [.ref q27_q5_q7, .int 0])), (q27_q5_q7, .inl (cI, 8, .inl (fun _ => 0))), (q27_q16, .inr (4, [.ref q27_q16_q7, .int 0])), (q27_q16_q7, .inl (cI, 8, .inl (fun _ => 0))), (q27_q27, .inr (4, [.ref q27_q27_q7, .int 0])), (q27_q27_q7, .inl (cI, 8, .inl (fun _ => 0))), (q27_q38, .inr (4, [.ref q27_q38_q7, .int 0])), (q27_q38_q7, .inl (cI, 8, .inl (fun _ => 0))), (q38, .inr (5, [.ref q38_q7, .ref q38_q15, .ref q38_q23, .ref q38_q31, .int 0, .int 0])), (q38_q7, .inl (cI, 60, .inl (fun _ => 0))), (q38_q15, .inl (cI, 60, .inl (fun _ => 0))), (q38_q23, .inl (cI, 60, .inl (fun _ => 0))), (q38_q31, .inl (cI, 60, .inl (fun _ => 0))), (q49, .inr (2, [.ref q49_q7, .ref q49_q15, .ref q49_q23, .ref q49_q31, .ref q49_q39, .ref q49_q47, .int 0, .int 0, .int 0])), (q49_q7, .inl (cI, 8, .inl (fun _ => 0))), (q49_q15, .inl (cI, 8, .inl (fun _ => 0))), (q49_q23, .inl (cI, 8, .inl (fun _ => 0))), (q49_q31, .inl (cI, 8, .inl (fun _ => 0))), (q49_q39, .inl (cZ, 8, .inl (fun _ => 0))), (q49_q47, .inl (cI, 6, .inl (fun _ => 0))), (q60, .inr (0, [.ref q60_q7, .ref q60_q15, .ref q60_q23, .ref q60_q31, .ref q60_q39, .int 0, .int 0, .int 0, .int 0, .int 0, .int 0])), (q60_q7, .inl (cI, 8, .inl (fun _ => 0))), (q60_q15, .inl (cI, 8, .inl (fun _ => 0))), (q60_q23, .inl (cI, 8, .inl (fun _ => 0))), (q60_q31, .inl (cI, 8, .inl (fun _ => 0))), (q60_q39, .inl (cI, 8, .inl (fun _ => 0)))] t.heap ∧ va_D (va_A [(h0, .inr (7, [.null, .null, .null, .null, .null, .null, .int 0]))] sz) [(h0, .inr (7, [.ref q5, .ref q16, .ref q27, .ref q38, .ref q49, .ref q60, .int 0])), (q5, .inr (3, [.ref q5_q7, .ref q5_q15, .ref q5_q23, .int 0, .int 0])), (q5_q7, .inl (cI, 32, .inl (fun _ => 0))), (q5_q15, .inl (cZ, 32, .inl (fun _ => 0))), (q5_q23, .inl (cI, 32, .inl (fun _ => 0))), (q16, .inr (1, [.ref q16_q7, .int 0])), (q16_q7, .inl (cI, 20, .inl (fun _ => 0))), (q27, .inr (6, [.ref q27_q5, .ref q27_q16, .ref q27_q27, .ref q27_q38, .int 0, .int 0, .int 0, .int 0, .int 0, .int 0])), (q27_q5, .inr (4, [.ref q27_q5_q7, .int 0])), (q27_q5_q7, .inl (cI, 8, .inl (fun _ => 0))), (q27_q16, .inr (4, [.ref q27_q16_q7, .int 0])), (q27_q16_q7, .inl (cI, 8, .inl (fun _ => 0))), (q27_q27, .inr (4, [.ref q27_q27_q7, .int 0])), (q27_q27_q7, .inl (cI, 8, .inl (fun _ => 0))), (q27_q38, .inr (4, [.ref q27_q38_q7, .int 0])), (q27_q38_q7, .inl (cI, 8, .inl (fun _ => 0))), (q38, .inr (5, [.ref q38_q7, .ref q38_q15, .ref q38_q23, .ref q38_q31, .int 0, .int 0])), (q38_q7, .inl (cI, 60, .inl (fun _ => 0))), (q38_q15, .inl (cI, 60, .inl (fun _ => 0))), (q38_q23, .inl (cI, 60, .inl (fun _ => 0))), (q38_q31, .inl (cI, 60, .inl (fun _ => 0))), (q49, .inr (2, [.ref q49_q7, .ref q49_q15, .ref q49_q23, .ref q49_q31, .ref q49_q39, .ref q49_q47, .int 0, .int 0, .int 0])), (q49_q7, .inl (cI, 8, .inl (fun _ => 0))), (q49_q15, .inl (cI, 8, .inl (fun _ => 0))), (q49_q23, .inl (cI, 8, .inl (fun _ => 0))), (q49_q31, .inl (cI, 8, .inl (fun _ => 0))), (q49_q39, .inl (cZ, 8, .inl (fun _ => 0))), (q49_q47, .inl (cI, 6, .inl (fun _ => 0))), (q60, .inr (0, [.ref q60_q7, .ref q60_q15, .ref q60_q23, .ref q60_q31, .ref q60_q39, .int 0, .int 0, .int 0, .int 0, .int 0, .int 0])), (q60_q7, .inl (cI, 8, .inl (fun _ => 0))), (q60_q15, .inl (cI, 8, .inl (fun _ => 0))), (q60_q23, .inl (cI, 8, .inl (fun _ => 0))), (q60_q31, .inl (cI, 8, .inl (fun _ => 0))), (q60_q39, .inl (cI, 8, .inl (fun _ => 0)))]) (va_A [(h0, .inr (7, [.null, .null, .null, .null, .null, .null, .int 0]))] sz)) 33 525 (va_A [(h0, .inr (7, [.null, .null, .null, .null, .null, .null, .int 0]))] sz) := by
  refine Met.ofW (cc := cX7_init) (maxL := 1) (ret := none) (by decide) rfl ?_
  intro p e s m args below meth c s₁ B hml hv
  obtain ⟨rfl, hsz, hP, hK, hD0⟩ := hv
  have hx := B.exec
  have hb := B.bytes
  have hr := B.returns
  have hts := atoms_spec (ws := wsOf 84) B.pre
  have hown : s.vm.findClass RX7 = some m.cls := findClass_of_methodNamed B.named
  have hlocks := B.notSynchronized
  have hin : meth.name = "<init>" := (name_of_methodNamed B.named B.method).1
  subst hsz
  have hD := hD0.self (sz := s.heap.size)
  generalize hAe : va_A [(h0, .inr (7, [.null, .null, .null, .null, .null, .null, .int 0]))] s.heap.size = A at hD ⊢
  have hA : ∀ q : Nat, s.heap.size ≤ q → A q := fun q h => by rw [← hAe]; exact Or.inr h
  have hS : va_S A s.heap s.heap [] := va_S.rf
  have hP : va_P (dC, dI) vwCl [(h0, .inr (7, [.null, .null, .null, .null, .null, .null, .int 0]))] s.heap := hP
  have hl := lv_entry ([.ref h0]) (n := 1) (Nat.le_of_ble_eq_true rfl)
  rw [lg_entry_eq]
  generalize (lg_sl ([.ref h0]) ++ List.replicate (1 - (lg_sl ([.ref h0])).length) Slot.unset).toArray = ls at hl ⊢
  have hl : lv_has ls 1 [(0, .ref h0)] := hl
  refine lv_aload_n hx hb (by decide +kernel : decode cX7_init 0 = .ok (.aload_n 0, 1)) rfl (lv_at hl 0 rfl) ?_
  refine W.objInit hx hb hown (hts (Cond.methodLink RX7 1 objectInit) (List.mem_cons_of_mem _ cwd_16)) (hts (Cond.instanceMethod objectInit) (List.mem_cons_of_mem _ cwd_1)) (hts (Cond.code objectInit ⟨#[0xb1]⟩ 1 none) (List.mem_cons_of_mem _ cwd_2)) rfl (by rw [hml]; exact hl.1) rfl (by decide +kernel : decode cX7_init 1 = .ok (.invokespecial 1, 3)) (Nat.le_of_ble_eq_true rfl) (Nat.le_of_ble_eq_true rfl) ?_
  refine W.eq (g2 := F0 m 4 ls []) rfl ?_
  refine lv_aload_n hx hb (by decide +kernel : decode cX7_init 4 = .ok (.aload_n 0, 1)) rfl (lv_at hl 0 rfl) ?_
  refine va_new (ci := 3) (fs := [.null, .null, .null, .int 0, .int 0]) (C := RX3) (T := TX3) (N := 5) hx hb hts (fun w h => List.mem_cons_of_mem _ (UW_ok 3 (by decide) w h)) tyX3 tyX3_ok hown (hts (Cond.classLink RX7 7 RX3) (List.mem_cons_of_mem _ cwd_17)) (hts (Cond.instantiable RX3 5) (List.mem_cons_of_mem _ cwd_18)) (hts (Cond.initialized RX3) (List.mem_cons_of_mem _ cwd_19)) hK hP hD hS hA rfl (fun j hj => by match j, hj with | 0, _ => rfl | 1, _ => rfl | 2, _ => rfl | 3, _ => rfl | 4, _ => rfl) (show 0 + 1 ≤ 33 by decide) (show 0 + 5 ≤ 525 by decide) (by decide +kernel : decode cX7_init 5 = .ok (.new 7, 3)) (fun q5 H hP hD hS => ?_)
  have hP : va_P (dC, dI) vwCl [(h0, .inr (7, [.null, .null, .null, .null, .null, .null, .int 0])), (q5, .inr (3, [.null, .null, .null, .int 0, .int 0]))] H := hP
  have hD : va_D A [(h0, .inr (7, [.null, .null, .null, .null, .null, .null, .int 0])), (q5, .inr (3, [.null, .null, .null, .int 0, .int 0]))] := hD
  refine W.widen (k := 1) (n := 5) (by omega) (by omega) ?_
  refine lv_dup hx hb (by decide +kernel : decode cX7_init 8 = .ok (.dup, 1)) rfl ?_
  have hPc := hP.sub (ws' := [(q5, .inr (3, [.null, .null, .null, .int 0, .int 0]))]) [1] rfl
  have hDc := hD.sub (ws' := [(q5, .inr (3, [.null, .null, .null, .int 0, .int 0]))]) [1] (by decide) rfl
  have hFc := va_free (wc := [(q5, .inr (3, [.null, .null, .null, .int 0, .int 0]))]) hD hS hA [1] rfl
  refine va_callv (va_runI (As := []) (rest := [.ref q5, .ref h0]) ⟨hx, hb, hml, hown, hts⟩ (k_X3 l dC dI cI cZ cJ q5 H.size) (cwI 0 hts (goodIn_ws cwi_32) rfl rfl rfl (hts (Cond.initialized RX3) (List.mem_cons_of_mem _ cwd_19)) (hts (Cond.methodLink RX7 9 yX3_init) (List.mem_cons_of_mem _ cwd_20)) (hts (Cond.instanceMethod yX3_init) (List.mem_cons_of_mem _ cwd_21)) rfl (by decide +kernel) ⟨by decide, by decide⟩) ⟨kb_blind, fun U hU hW => ⟨rfl, by rw [hU], by rw [hU]; exact hPc, va_K.moved hW.alike hK, hDc.weaken (fun _ _ _ _ => trivial)⟩⟩ rfl rfl hl.1 rfl (lv_room (Nat.le_of_ble_eq_true rfl)) (by decide +kernel : decode cX7_init 9 = .ok (.invokespecial 9, 3)) ⟨show 1 + 3 ≤ 33 by decide, show 5 + 96 ≤ 525 by decide⟩) hS (fun q _ h => hFc q h) hFc (fun u t H1 locs ht hvm hw hB hz1 hk1 hS => ?_)
  obtain ⟨q5_q7, q5_q15, q5_q23, hP1, hD1⟩ := hB
  rw [ht] at hP1
  obtain ⟨hP, hD⟩ := va_join (wr := [(h0, .inr (7, [.null, .null, .null, .null, .null, .null, .int 0]))]) (w1 := [(q5, .inr (3, [.ref q5_q7, .ref q5_q15, .ref q5_q23, .int 0, .int 0])), (q5_q7, .inl (cI, 32, .inl (fun _ => 0))), (q5_q15, .inl (cZ, 32, .inl (fun _ => 0))), (q5_q23, .inl (cI, 32, .inl (fun _ => 0)))]) hP hD [1] [0] rfl rfl (by decide) (by decide) hk1 hFc hP1 hD1
  generalize H1 = H at hP hS ⊢
  have hP : va_P (dC, dI) vwCl [(h0, .inr (7, [.null, .null, .null, .null, .null, .null, .int 0])), (q5, .inr (3, [.ref q5_q7, .ref q5_q15, .ref q5_q23, .int 0, .int 0])), (q5_q7, .inl (cI, 32, .inl (fun _ => 0))), (q5_q15, .inl (cZ, 32, .inl (fun _ => 0))), (q5_q23, .inl (cI, 32, .inl (fun _ => 0)))] H := hP
  have hD : va_D A [(h0, .inr (7, [.null, .null, .null, .null, .null, .null, .int 0])), (q5, .inr (3, [.ref q5_q7, .ref q5_q15, .ref q5_q23, .int 0, .int 0])), (q5_q7, .inl (cI, 32, .inl (fun _ => 0))), (q5_q15, .inl (cZ, 32, .inl (fun _ => 0))), (q5_q23, .inl (cI, 32, .inl (fun _ => 0)))] := hD
  refine W.widen (k := 4) (n := 101) (by omega) (by omega) ?_
  refine va_putF (D := (dC, dI)) (ci := 7) (v := .ref q5) (ty := .object "PoloSeason$Roster") (C := RX7) (T := TX7) (N := 7) hx hb hts (fun w h => List.mem_cons_of_mem _ (UW_ok 7 (by decide) w h)) tyX7 tyX7_ok nmX7 hown hK hP hD hS 0 rfl rfl 0 (by decide) (hts (.fieldLink RX7 10 "PoloSeason" "roster" "LPoloSeason$Roster;") (List.mem_cons_of_mem _ (FL_ok (7, 10, 7, 0) (by decide)))) (fun _ h9 => h9) rfl hin rfl (by decide +kernel) rfl rfl (Nat.le_of_ble_eq_true rfl) (by decide +kernel : decode cX7_init 12 = .ok (.putfield 10, 3)) (fun H locs hP hD hS => ?_)
  have hP : va_P (dC, dI) vwCl [(h0, .inr (7, [.ref q5, .null, .null, .null, .null, .null, .int 0])), (q5, .inr (3, [.ref q5_q7, .ref q5_q15, .ref q5_q23, .int 0, .int 0])), (q5_q7, .inl (cI, 32, .inl (fun _ => 0))), (q5_q15, .inl (cZ, 32, .inl (fun _ => 0))), (q5_q23, .inl (cI, 32, .inl (fun _ => 0)))] H := hP
  have hD : va_D A [(h0, .inr (7, [.ref q5, .null, .null, .null, .null, .null, .int 0])), (q5, .inr (3, [.ref q5_q7, .ref q5_q15, .ref q5_q23, .int 0, .int 0])), (q5_q7, .inl (cI, 32, .inl (fun _ => 0))), (q5_q15, .inl (cZ, 32, .inl (fun _ => 0))), (q5_q23, .inl (cI, 32, .inl (fun _ => 0)))] := hD
  refine lv_aload_n hx hb (by decide +kernel : decode cX7_init 15 = .ok (.aload_n 0, 1)) rfl (lv_at hl 0 rfl) ?_
  refine va_new (ci := 1) (fs := [.null, .int 0]) (C := RX1) (T := TX1) (N := 2) hx hb hts (fun w h => List.mem_cons_of_mem _ (UW_ok 1 (by decide) w h)) tyX1 tyX1_ok hown (hts (Cond.classLink RX7 16 RX1) (List.mem_cons_of_mem _ cwd_22)) (hts (Cond.instantiable RX1 2) (List.mem_cons_of_mem _ cwd_23)) (hts (Cond.initialized RX1) (List.mem_cons_of_mem _ cwd_24)) hK hP hD hS hA rfl (fun j hj => by match j, hj with | 0, _ => rfl | 1, _ => rfl) (show 4 + 1 ≤ 33 by decide) (show 101 + 2 ≤ 525 by decide) (by decide +kernel : decode cX7_init 16 = .ok (.new 16, 3)) (fun q16 H hP hD hS => ?_)
  have hP : va_P (dC, dI) vwCl [(h0, .inr (7, [.ref q5, .null, .null, .null, .null, .null, .int 0])), (q5, .inr (3, [.ref q5_q7, .ref q5_q15, .ref q5_q23, .int 0, .int 0])), (q5_q7, .inl (cI, 32, .inl (fun _ => 0))), (q5_q15, .inl (cZ, 32, .inl (fun _ => 0))), (q5_q23, .inl (cI, 32, .inl (fun _ => 0))), (q16, .inr (1, [.null, .int 0]))] H := hP
  have hD : va_D A [(h0, .inr (7, [.ref q5, .null, .null, .null, .null, .null, .int 0])), (q5, .inr (3, [.ref q5_q7, .ref q5_q15, .ref q5_q23, .int 0, .int 0])), (q5_q7, .inl (cI, 32, .inl (fun _ => 0))), (q5_q15, .inl (cZ, 32, .inl (fun _ => 0))), (q5_q23, .inl (cI, 32, .inl (fun _ => 0))), (q16, .inr (1, [.null, .int 0]))] := hD
  refine W.widen (k := 5) (n := 103) (by omega) (by omega) ?_
  refine lv_dup hx hb (by decide +kernel : decode cX7_init 19 = .ok (.dup, 1)) rfl ?_
  have hPc := hP.sub (ws' := [(q16, .inr (1, [.null, .int 0]))]) [5] rfl
  have hDc := hD.sub (ws' := [(q16, .inr (1, [.null, .int 0]))]) [5] (by decide) rfl
  have hFc := va_free (wc := [(q16, .inr (1, [.null, .int 0]))]) hD hS hA [5] rfl
  refine va_callv (va_runI (As := []) (rest := [.ref q16, .ref h0]) ⟨hx, hb, hml, hown, hts⟩ (k_X1 l dC dI cI cZ cJ q16 H.size) (cwI 0 hts (goodIn_ws cwi_16) rfl rfl rfl (hts (Cond.initialized RX1) (List.mem_cons_of_mem _ cwd_24)) (hts (Cond.methodLink RX7 18 yX1_init) (List.mem_cons_of_mem _ cwd_25)) (hts (Cond.instanceMethod yX1_init) (List.mem_cons_of_mem _ cwd_26)) rfl (by decide +kernel) ⟨by decide, by decide⟩) ⟨kb_blind, fun U hU hW => ⟨rfl, by rw [hU], by rw [hU]; exact hPc, va_K.moved hW.alike hK, hDc.weaken (fun _ _ _ _ => trivial)⟩⟩ rfl rfl hl.1 rfl (lv_room (Nat.le_of_ble_eq_true rfl)) (by decide +kernel : decode cX7_init 20 = .ok (.invokespecial 18, 3)) ⟨show 5 + 1 ≤ 33 by decide, show 103 + 20 ≤ 525 by decide⟩) hS (fun q _ h => hFc q h) hFc (fun u t H1 locs ht hvm hw hB hz1 hk1 hS => ?_)
  obtain ⟨q16_q7, hP1, hD1⟩ := hB
  rw [ht] at hP1
  obtain ⟨hP, hD⟩ := va_join (wr := [(h0, .inr (7, [.ref q5, .null, .null, .null, .null, .null, .int 0])), (q5, .inr (3, [.ref q5_q7, .ref q5_q15, .ref q5_q23, .int 0, .int 0])), (q5_q7, .inl (cI, 32, .inl (fun _ => 0))), (q5_q15, .inl (cZ, 32, .inl (fun _ => 0))), (q5_q23, .inl (cI, 32, .inl (fun _ => 0)))]) (w1 := [(q16, .inr (1, [.ref q16_q7, .int 0])), (q16_q7, .inl (cI, 20, .inl (fun _ => 0)))]) hP hD [5] [0, 1, 2, 3, 4] rfl rfl (by decide) (by decide) hk1 hFc hP1 hD1
  generalize H1 = H at hP hS ⊢
  have hP : va_P (dC, dI) vwCl [(h0, .inr (7, [.ref q5, .null, .null, .null, .null, .null, .int 0])), (q5, .inr (3, [.ref q5_q7, .ref q5_q15, .ref q5_q23, .int 0, .int 0])), (q5_q7, .inl (cI, 32, .inl (fun _ => 0))), (q5_q15, .inl (cZ, 32, .inl (fun _ => 0))), (q5_q23, .inl (cI, 32, .inl (fun _ => 0))), (q16, .inr (1, [.ref q16_q7, .int 0])), (q16_q7, .inl (cI, 20, .inl (fun _ => 0)))] H := hP
  have hD : va_D A [(h0, .inr (7, [.ref q5, .null, .null, .null, .null, .null, .int 0])), (q5, .inr (3, [.ref q5_q7, .ref q5_q15, .ref q5_q23, .int 0, .int 0])), (q5_q7, .inl (cI, 32, .inl (fun _ => 0))), (q5_q15, .inl (cZ, 32, .inl (fun _ => 0))), (q5_q23, .inl (cI, 32, .inl (fun _ => 0))), (q16, .inr (1, [.ref q16_q7, .int 0])), (q16_q7, .inl (cI, 20, .inl (fun _ => 0)))] := hD
  refine W.widen (k := 6) (n := 123) (by omega) (by omega) ?_
  refine va_putF (D := (dC, dI)) (ci := 7) (v := .ref q16) (ty := .object "PoloSeason$Noise") (C := RX7) (T := TX7) (N := 7) hx hb hts (fun w h => List.mem_cons_of_mem _ (UW_ok 7 (by decide) w h)) tyX7 tyX7_ok nmX7 hown hK hP hD hS 0 rfl rfl 1 (by decide) (hts (.fieldLink RX7 19 "PoloSeason" "numbers" "LPoloSeason$Noise;") (List.mem_cons_of_mem _ (FL_ok (7, 19, 7, 1) (by decide)))) (fun _ h9 => h9) rfl hin rfl (by decide +kernel) rfl rfl (Nat.le_of_ble_eq_true rfl) (by decide +kernel : decode cX7_init 23 = .ok (.putfield 19, 3)) (fun H locs hP hD hS => ?_)
  have hP : va_P (dC, dI) vwCl [(h0, .inr (7, [.ref q5, .ref q16, .null, .null, .null, .null, .int 0])), (q5, .inr (3, [.ref q5_q7, .ref q5_q15, .ref q5_q23, .int 0, .int 0])), (q5_q7, .inl (cI, 32, .inl (fun _ => 0))), (q5_q15, .inl (cZ, 32, .inl (fun _ => 0))), (q5_q23, .inl (cI, 32, .inl (fun _ => 0))), (q16, .inr (1, [.ref q16_q7, .int 0])), (q16_q7, .inl (cI, 20, .inl (fun _ => 0)))] H := hP
  have hD : va_D A [(h0, .inr (7, [.ref q5, .ref q16, .null, .null, .null, .null, .int 0])), (q5, .inr (3, [.ref q5_q7, .ref q5_q15, .ref q5_q23, .int 0, .int 0])), (q5_q7, .inl (cI, 32, .inl (fun _ => 0))), (q5_q15, .inl (cZ, 32, .inl (fun _ => 0))), (q5_q23, .inl (cI, 32, .inl (fun _ => 0))), (q16, .inr (1, [.ref q16_q7, .int 0])), (q16_q7, .inl (cI, 20, .inl (fun _ => 0)))] := hD
  refine lv_aload_n hx hb (by decide +kernel : decode cX7_init 26 = .ok (.aload_n 0, 1)) rfl (lv_at hl 0 rfl) ?_
  refine va_new (ci := 6) (fs := [.null, .null, .null, .null, .int 0, .int 0, .int 0, .int 0, .int 0, .int 0]) (C := RX6) (T := TX6) (N := 10) hx hb hts (fun w h => List.mem_cons_of_mem _ (UW_ok 6 (by decide) w h)) tyX6 tyX6_ok hown (hts (Cond.classLink RX7 23 RX6) (List.mem_cons_of_mem _ cwd_27)) (hts (Cond.instantiable RX6 10) (List.mem_cons_of_mem _ cwd_28)) (hts (Cond.initialized RX6) (List.mem_cons_of_mem _ cwd_29)) hK hP hD hS hA rfl (fun j hj => by match j, hj with | 0, _ => rfl | 1, _ => rfl | 2, _ => rfl | 3, _ => rfl | 4, _ => rfl | 5, _ => rfl | 6, _ => rfl | 7, _ => rfl | 8, _ => rfl | 9, _ => rfl) (show 6 + 1 ≤ 33 by decide) (show 123 + 10 ≤ 525 by decide) (by decide +kernel : decode cX7_init 27 = .ok (.new 23, 3)) (fun q27 H hP hD hS => ?_)
  have hP : va_P (dC, dI) vwCl [(h0, .inr (7, [.ref q5, .ref q16, .null, .null, .null, .null, .int 0])), (q5, .inr (3, [.ref q5_q7, .ref q5_q15, .ref q5_q23, .int 0, .int 0])), (q5_q7, .inl (cI, 32, .inl (fun _ => 0))), (q5_q15, .inl (cZ, 32, .inl (fun _ => 0))), (q5_q23, .inl (cI, 32, .inl (fun _ => 0))), (q16, .inr (1, [.ref q16_q7, .int 0])), (q16_q7, .inl (cI, 20, .inl (fun _ => 0))), (q27, .inr (6, [.null, .null, .null, .null, .int 0, .int 0, .int 0, .int 0, .int 0, .int 0]))] H := hP
  have hD : va_D A [(h0, .inr (7, [.ref q5, .ref q16, .null, .null, .null, .null, .int 0])), (q5, .inr (3, [.ref q5_q7, .ref q5_q15, .ref q5_q23, .int 0, .int 0])), (q5_q7, .inl (cI, 32, .inl (fun _ => 0))), (q5_q15, .inl (cZ, 32, .inl (fun _ => 0))), (q5_q23, .inl (cI, 32, .inl (fun _ => 0))), (q16, .inr (1, [.ref q16_q7, .int 0])), (q16_q7, .inl (cI, 20, .inl (fun _ => 0))), (q27, .inr (6, [.null, .null, .null, .null, .int 0, .int 0, .int 0, .int 0, .int 0, .int 0]))] := hD
  refine W.widen (k := 7) (n := 133) (by omega) (by omega) ?_
  refine lv_dup hx hb (by decide +kernel : decode cX7_init 30 = .ok (.dup, 1)) rfl ?_
  have hPc := hP.sub (ws' := [(q27, .inr (6, [.null, .null, .null, .null, .int 0, .int 0, .int 0, .int 0, .int 0, .int 0]))]) [7] rfl
  have hDc := hD.sub (ws' := [(q27, .inr (6, [.null, .null, .null, .null, .int 0, .int 0, .int 0, .int 0, .int 0, .int 0]))]) [7] (by decide) rfl
  have hFc := va_free (wc := [(q27, .inr (6, [.null, .null, .null, .null, .int 0, .int 0, .int 0, .int 0, .int 0, .int 0]))]) hD hS hA [7] rfl
  refine va_callv (va_runI (As := []) (rest := [.ref q27, .ref h0]) ⟨hx, hb, hml, hown, hts⟩ (k_X6 l dC dI cI cZ cJ q27 H.size) (cwI 0 hts (goodIn_ws cwi_66) rfl rfl rfl (hts (Cond.initialized RX6) (List.mem_cons_of_mem _ cwd_29)) (hts (Cond.methodLink RX7 25 yX6_init) (List.mem_cons_of_mem _ cwd_30)) (hts (Cond.instanceMethod yX6_init) (List.mem_cons_of_mem _ cwd_31)) rfl (by decide +kernel) ⟨by decide, by decide⟩) ⟨kb_blind, fun U hU hW => ⟨rfl, by rw [hU], by rw [hU]; exact hPc, va_K.moved hW.alike hK, hDc.weaken (fun _ _ _ _ => trivial)⟩⟩ rfl rfl hl.1 rfl (lv_room (Nat.le_of_ble_eq_true rfl)) (by decide +kernel : decode cX7_init 31 = .ok (.invokespecial 25, 3)) ⟨show 7 + 8 ≤ 33 by decide, show 133 + 40 ≤ 525 by decide⟩) hS (fun q _ h => hFc q h) hFc (fun u t H1 locs ht hvm hw hB hz1 hk1 hS => ?_)
  obtain ⟨q27_q5, q27_q5_q7, q27_q16, q27_q16_q7, q27_q27, q27_q27_q7, q27_q38, q27_q38_q7, hP1, hD1⟩ := hB
  rw [ht] at hP1
  obtain ⟨hP, hD⟩ := va_join (wr := [(h0, .inr (7, [.ref q5, .ref q16, .null, .null, .null, .null, .int 0])), (q5, .inr (3, [.ref q5_q7, .ref q5_q15, .ref q5_q23, .int 0, .int 0])), (q5_q7, .inl (cI, 32, .inl (fun _ => 0))), (q5_q15, .inl (cZ, 32, .inl (fun _ => 0))), (q5_q23, .inl (cI, 32, .inl (fun _ => 0))), (q16, .inr (1, [.ref q16_q7, .int 0])), (q16_q7, .inl (cI, 20, .inl (fun _ => 0)))]) (w1 := [(q27, .inr (6, [.ref q27_q5, .ref q27_q16, .ref q27_q27, .ref q27_q38, .int 0, .int 0, .int 0, .int 0, .int 0, .int 0])), (q27_q5, .inr (4, [.ref q27_q5_q7, .int 0])), (q27_q5_q7, .inl (cI, 8, .inl (fun _ => 0))), (q27_q16, .inr (4, [.ref q27_q16_q7, .int 0])), (q27_q16_q7, .inl (cI, 8, .inl (fun _ => 0))), (q27_q27, .inr (4, [.ref q27_q27_q7, .int 0])), (q27_q27_q7, .inl (cI, 8, .inl (fun _ => 0))), (q27_q38, .inr (4, [.ref q27_q38_q7, .int 0])), (q27_q38_q7, .inl (cI, 8, .inl (fun _ => 0)))]) hP hD [7] [0, 1, 2, 3, 4, 5, 6] rfl rfl (by decide) (by decide) hk1 hFc hP1 hD1
  generalize H1 = H at hP hS ⊢
  have hP : va_P (dC, dI) vwCl [(h0, .inr (7, [.ref q5, .ref q16, .null, .null, .null, .null, .int 0])), (q5, .inr (3, [.ref q5_q7, .ref q5_q15, .ref q5_q23, .int 0, .int 0])), (q5_q7, .inl (cI, 32, .inl (fun _ => 0))), (q5_q15, .inl (cZ, 32, .inl (fun _ => 0))), (q5_q23, .inl (cI, 32, .inl (fun _ => 0))), (q16, .inr (1, [.ref q16_q7, .int 0])), (q16_q7, .inl (cI, 20, .inl (fun _ => 0))), (q27, .inr (6, [.ref q27_q5, .ref q27_q16, .ref q27_q27, .ref q27_q38, .int 0, .int 0, .int 0, .int 0, .int 0, .int 0])), (q27_q5, .inr (4, [.ref q27_q5_q7, .int 0])), (q27_q5_q7, .inl (cI, 8, .inl (fun _ => 0))), (q27_q16, .inr (4, [.ref q27_q16_q7, .int 0])), (q27_q16_q7, .inl (cI, 8, .inl (fun _ => 0))), (q27_q27, .inr (4, [.ref q27_q27_q7, .int 0])), (q27_q27_q7, .inl (cI, 8, .inl (fun _ => 0))), (q27_q38, .inr (4, [.ref q27_q38_q7, .int 0])), (q27_q38_q7, .inl (cI, 8, .inl (fun _ => 0)))] H := hP
  have hD : va_D A [(h0, .inr (7, [.ref q5, .ref q16, .null, .null, .null, .null, .int 0])), (q5, .inr (3, [.ref q5_q7, .ref q5_q15, .ref q5_q23, .int 0, .int 0])), (q5_q7, .inl (cI, 32, .inl (fun _ => 0))), (q5_q15, .inl (cZ, 32, .inl (fun _ => 0))), (q5_q23, .inl (cI, 32, .inl (fun _ => 0))), (q16, .inr (1, [.ref q16_q7, .int 0])), (q16_q7, .inl (cI, 20, .inl (fun _ => 0))), (q27, .inr (6, [.ref q27_q5, .ref q27_q16, .ref q27_q27, .ref q27_q38, .int 0, .int 0, .int 0, .int 0, .int 0, .int 0])), (q27_q5, .inr (4, [.ref q27_q5_q7, .int 0])), (q27_q5_q7, .inl (cI, 8, .inl (fun _ => 0))), (q27_q16, .inr (4, [.ref q27_q16_q7, .int 0])), (q27_q16_q7, .inl (cI, 8, .inl (fun _ => 0))), (q27_q27, .inr (4, [.ref q27_q27_q7, .int 0])), (q27_q27_q7, .inl (cI, 8, .inl (fun _ => 0))), (q27_q38, .inr (4, [.ref q27_q38_q7, .int 0])), (q27_q38_q7, .inl (cI, 8, .inl (fun _ => 0)))] := hD
  refine W.widen (k := 15) (n := 173) (by omega) (by omega) ?_
  refine va_putF (D := (dC, dI)) (ci := 7) (v := .ref q27) (ty := .object "PoloSeason$Tournament") (C := RX7) (T := TX7) (N := 7) hx hb hts (fun w h => List.mem_cons_of_mem _ (UW_ok 7 (by decide) w h)) tyX7 tyX7_ok nmX7 hown hK hP hD hS 0 rfl rfl 2 (by decide) (hts (.fieldLink RX7 26 "PoloSeason" "tournament" "LPoloSeason$Tournament;") (List.mem_cons_of_mem _ (FL_ok (7, 26, 7, 2) (by decide)))) (fun _ h9 => h9) rfl hin rfl (by decide +kernel) rfl rfl (Nat.le_of_ble_eq_true rfl) (by decide +kernel : decode cX7_init 34 = .ok (.putfield 26, 3)) (fun H locs hP hD hS => ?_)
  have hP : va_P (dC, dI) vwCl [(h0, .inr (7, [.ref q5, .ref q16, .ref q27, .null, .null, .null, .int 0])), (q5, .inr (3, [.ref q5_q7, .ref q5_q15, .ref q5_q23, .int 0, .int 0])), (q5_q7, .inl (cI, 32, .inl (fun _ => 0))), (q5_q15, .inl (cZ, 32, .inl (fun _ => 0))), (q5_q23, .inl (cI, 32, .inl (fun _ => 0))), (q16, .inr (1, [.ref q16_q7, .int 0])), (q16_q7, .inl (cI, 20, .inl (fun _ => 0))), (q27, .inr (6, [.ref q27_q5, .ref q27_q16, .ref q27_q27, .ref q27_q38, .int 0, .int 0, .int 0, .int 0, .int 0, .int 0])), (q27_q5, .inr (4, [.ref q27_q5_q7, .int 0])), (q27_q5_q7, .inl (cI, 8, .inl (fun _ => 0))), (q27_q16, .inr (4, [.ref q27_q16_q7, .int 0])), (q27_q16_q7, .inl (cI, 8, .inl (fun _ => 0))), (q27_q27, .inr (4, [.ref q27_q27_q7, .int 0])), (q27_q27_q7, .inl (cI, 8, .inl (fun _ => 0))), (q27_q38, .inr (4, [.ref q27_q38_q7, .int 0])), (q27_q38_q7, .inl (cI, 8, .inl (fun _ => 0)))] H := hP
  have hD : va_D A [(h0, .inr (7, [.ref q5, .ref q16, .ref q27, .null, .null, .null, .int 0])), (q5, .inr (3, [.ref q5_q7, .ref q5_q15, .ref q5_q23, .int 0, .int 0])), (q5_q7, .inl (cI, 32, .inl (fun _ => 0))), (q5_q15, .inl (cZ, 32, .inl (fun _ => 0))), (q5_q23, .inl (cI, 32, .inl (fun _ => 0))), (q16, .inr (1, [.ref q16_q7, .int 0])), (q16_q7, .inl (cI, 20, .inl (fun _ => 0))), (q27, .inr (6, [.ref q27_q5, .ref q27_q16, .ref q27_q27, .ref q27_q38, .int 0, .int 0, .int 0, .int 0, .int 0, .int 0])), (q27_q5, .inr (4, [.ref q27_q5_q7, .int 0])), (q27_q5_q7, .inl (cI, 8, .inl (fun _ => 0))), (q27_q16, .inr (4, [.ref q27_q16_q7, .int 0])), (q27_q16_q7, .inl (cI, 8, .inl (fun _ => 0))), (q27_q27, .inr (4, [.ref q27_q27_q7, .int 0])), (q27_q27_q7, .inl (cI, 8, .inl (fun _ => 0))), (q27_q38, .inr (4, [.ref q27_q38_q7, .int 0])), (q27_q38_q7, .inl (cI, 8, .inl (fun _ => 0)))] := hD
  refine lv_aload_n hx hb (by decide +kernel : decode cX7_init 37 = .ok (.aload_n 0, 1)) rfl (lv_at hl 0 rfl) ?_
  refine va_new (ci := 5) (fs := [.null, .null, .null, .null, .int 0, .int 0]) (C := RX5) (T := TX5) (N := 6) hx hb hts (fun w h => List.mem_cons_of_mem _ (UW_ok 5 (by decide) w h)) tyX5 tyX5_ok hown (hts (Cond.classLink RX7 30 RX5) (List.mem_cons_of_mem _ cwd_32)) (hts (Cond.instantiable RX5 6) (List.mem_cons_of_mem _ cwd_33)) (hts (Cond.initialized RX5) (List.mem_cons_of_mem _ cwd_34)) hK hP hD hS hA rfl (fun j hj => by match j, hj with | 0, _ => rfl | 1, _ => rfl | 2, _ => rfl | 3, _ => rfl | 4, _ => rfl | 5, _ => rfl) (show 15 + 1 ≤ 33 by decide) (show 173 + 6 ≤ 525 by decide) (by decide +kernel : decode cX7_init 38 = .ok (.new 30, 3)) (fun q38 H hP hD hS => ?_)
  have hP : va_P (dC, dI) vwCl [(h0, .inr (7, [.ref q5, .ref q16, .ref q27, .null, .null, .null, .int 0])), (q5, .inr (3, [.ref q5_q7, .ref q5_q15, .ref q5_q23, .int 0, .int 0])), (q5_q7, .inl (cI, 32, .inl (fun _ => 0))), (q5_q15, .inl (cZ, 32, .inl (fun _ => 0))), (q5_q23, .inl (cI, 32, .inl (fun _ => 0))), (q16, .inr (1, [.ref q16_q7, .int 0])), (q16_q7, .inl (cI, 20, .inl (fun _ => 0))), (q27, .inr (6, [.ref q27_q5, .ref q27_q16, .ref q27_q27, .ref q27_q38, .int 0, .int 0, .int 0, .int 0, .int 0, .int 0])), (q27_q5, .inr (4, [.ref q27_q5_q7, .int 0])), (q27_q5_q7, .inl (cI, 8, .inl (fun _ => 0))), (q27_q16, .inr (4, [.ref q27_q16_q7, .int 0])), (q27_q16_q7, .inl (cI, 8, .inl (fun _ => 0))), (q27_q27, .inr (4, [.ref q27_q27_q7, .int 0])), (q27_q27_q7, .inl (cI, 8, .inl (fun _ => 0))), (q27_q38, .inr (4, [.ref q27_q38_q7, .int 0])), (q27_q38_q7, .inl (cI, 8, .inl (fun _ => 0))), (q38, .inr (5, [.null, .null, .null, .null, .int 0, .int 0]))] H := hP
  have hD : va_D A [(h0, .inr (7, [.ref q5, .ref q16, .ref q27, .null, .null, .null, .int 0])), (q5, .inr (3, [.ref q5_q7, .ref q5_q15, .ref q5_q23, .int 0, .int 0])), (q5_q7, .inl (cI, 32, .inl (fun _ => 0))), (q5_q15, .inl (cZ, 32, .inl (fun _ => 0))), (q5_q23, .inl (cI, 32, .inl (fun _ => 0))), (q16, .inr (1, [.ref q16_q7, .int 0])), (q16_q7, .inl (cI, 20, .inl (fun _ => 0))), (q27, .inr (6, [.ref q27_q5, .ref q27_q16, .ref q27_q27, .ref q27_q38, .int 0, .int 0, .int 0, .int 0, .int 0, .int 0])), (q27_q5, .inr (4, [.ref q27_q5_q7, .int 0])), (q27_q5_q7, .inl (cI, 8, .inl (fun _ => 0))), (q27_q16, .inr (4, [.ref q27_q16_q7, .int 0])), (q27_q16_q7, .inl (cI, 8, .inl (fun _ => 0))), (q27_q27, .inr (4, [.ref q27_q27_q7, .int 0])), (q27_q27_q7, .inl (cI, 8, .inl (fun _ => 0))), (q27_q38, .inr (4, [.ref q27_q38_q7, .int 0])), (q27_q38_q7, .inl (cI, 8, .inl (fun _ => 0))), (q38, .inr (5, [.null, .null, .null, .null, .int 0, .int 0]))] := hD
  refine W.widen (k := 16) (n := 179) (by omega) (by omega) ?_
  refine lv_dup hx hb (by decide +kernel : decode cX7_init 41 = .ok (.dup, 1)) rfl ?_
  have hPc := hP.sub (ws' := [(q38, .inr (5, [.null, .null, .null, .null, .int 0, .int 0]))]) [16] rfl
  have hDc := hD.sub (ws' := [(q38, .inr (5, [.null, .null, .null, .null, .int 0, .int 0]))]) [16] (by decide) rfl
  have hFc := va_free (wc := [(q38, .inr (5, [.null, .null, .null, .null, .int 0, .int 0]))]) hD hS hA [16] rfl
  refine va_callv (va_runI (As := []) (rest := [.ref q38, .ref h0]) ⟨hx, hb, hml, hown, hts⟩ (k_X5 l dC dI cI cZ cJ q38 H.size) (cwI 0 hts (goodIn_ws cwi_52) rfl rfl rfl (hts (Cond.initialized RX5) (List.mem_cons_of_mem _ cwd_34)) (hts (Cond.methodLink RX7 32 yX5_init) (List.mem_cons_of_mem _ cwd_35)) (hts (Cond.instanceMethod yX5_init) (List.mem_cons_of_mem _ cwd_36)) rfl (by decide +kernel) ⟨by decide, by decide⟩) ⟨kb_blind, fun U hU hW => ⟨rfl, by rw [hU], by rw [hU]; exact hPc, va_K.moved hW.alike hK, hDc.weaken (fun _ _ _ _ => trivial)⟩⟩ rfl rfl hl.1 rfl (lv_room (Nat.le_of_ble_eq_true rfl)) (by decide +kernel : decode cX7_init 42 = .ok (.invokespecial 32, 3)) ⟨show 16 + 4 ≤ 33 by decide, show 179 + 240 ≤ 525 by decide⟩) hS (fun q _ h => hFc q h) hFc (fun u t H1 locs ht hvm hw hB hz1 hk1 hS => ?_)
  obtain ⟨q38_q7, q38_q15, q38_q23, q38_q31, hP1, hD1⟩ := hB
  rw [ht] at hP1
  obtain ⟨hP, hD⟩ := va_join (wr := [(h0, .inr (7, [.ref q5, .ref q16, .ref q27, .null, .null, .null, .int 0])), (q5, .inr (3, [.ref q5_q7, .ref q5_q15, .ref q5_q23, .int 0, .int 0])), (q5_q7, .inl (cI, 32, .inl (fun _ => 0))), (q5_q15, .inl (cZ, 32, .inl (fun _ => 0))), (q5_q23, .inl (cI, 32, .inl (fun _ => 0))), (q16, .inr (1, [.ref q16_q7, .int 0])), (q16_q7, .inl (cI, 20, .inl (fun _ => 0))), (q27, .inr (6, [.ref q27_q5, .ref q27_q16, .ref q27_q27, .ref q27_q38, .int 0, .int 0, .int 0, .int 0, .int 0, .int 0])), (q27_q5, .inr (4, [.ref q27_q5_q7, .int 0])), (q27_q5_q7, .inl (cI, 8, .inl (fun _ => 0))), (q27_q16, .inr (4, [.ref q27_q16_q7, .int 0])), (q27_q16_q7, .inl (cI, 8, .inl (fun _ => 0))), (q27_q27, .inr (4, [.ref q27_q27_q7, .int 0])), (q27_q27_q7, .inl (cI, 8, .inl (fun _ => 0))), (q27_q38, .inr (4, [.ref q27_q38_q7, .int 0])), (q27_q38_q7, .inl (cI, 8, .inl (fun _ => 0)))]) (w1 := [(q38, .inr (5, [.ref q38_q7, .ref q38_q15, .ref q38_q23, .ref q38_q31, .int 0, .int 0])), (q38_q7, .inl (cI, 60, .inl (fun _ => 0))), (q38_q15, .inl (cI, 60, .inl (fun _ => 0))), (q38_q23, .inl (cI, 60, .inl (fun _ => 0))), (q38_q31, .inl (cI, 60, .inl (fun _ => 0)))]) hP hD [16] [0, 1, 2, 3, 4, 5, 6, 7, 8, 9, 10, 11, 12, 13, 14, 15] rfl rfl (by decide) (by decide) hk1 hFc hP1 hD1
  generalize H1 = H at hP hS ⊢
  have hP : va_P (dC, dI) vwCl [(h0, .inr (7, [.ref q5, .ref q16, .ref q27, .null, .null, .null, .int 0])), (q5, .inr (3, [.ref q5_q7, .ref q5_q15, .ref q5_q23, .int 0, .int 0])), (q5_q7, .inl (cI, 32, .inl (fun _ => 0))), (q5_q15, .inl (cZ, 32, .inl (fun _ => 0))), (q5_q23, .inl (cI, 32, .inl (fun _ => 0))), (q16, .inr (1, [.ref q16_q7, .int 0])), (q16_q7, .inl (cI, 20, .inl (fun _ => 0))), (q27, .inr (6, [.ref q27_q5, .ref q27_q16, .ref q27_q27, .ref q27_q38, .int 0, .int 0, .int 0, .int 0, .int 0, .int 0])), (q27_q5, .inr (4, [.ref q27_q5_q7, .int 0])), (q27_q5_q7, .inl (cI, 8, .inl (fun _ => 0))), (q27_q16, .inr (4, [.ref q27_q16_q7, .int 0])), (q27_q16_q7, .inl (cI, 8, .inl (fun _ => 0))), (q27_q27, .inr (4, [.ref q27_q27_q7, .int 0])), (q27_q27_q7, .inl (cI, 8, .inl (fun _ => 0))), (q27_q38, .inr (4, [.ref q27_q38_q7, .int 0])), (q27_q38_q7, .inl (cI, 8, .inl (fun _ => 0))), (q38, .inr (5, [.ref q38_q7, .ref q38_q15, .ref q38_q23, .ref q38_q31, .int 0, .int 0])), (q38_q7, .inl (cI, 60, .inl (fun _ => 0))), (q38_q15, .inl (cI, 60, .inl (fun _ => 0))), (q38_q23, .inl (cI, 60, .inl (fun _ => 0))), (q38_q31, .inl (cI, 60, .inl (fun _ => 0)))] H := hP
  have hD : va_D A [(h0, .inr (7, [.ref q5, .ref q16, .ref q27, .null, .null, .null, .int 0])), (q5, .inr (3, [.ref q5_q7, .ref q5_q15, .ref q5_q23, .int 0, .int 0])), (q5_q7, .inl (cI, 32, .inl (fun _ => 0))), (q5_q15, .inl (cZ, 32, .inl (fun _ => 0))), (q5_q23, .inl (cI, 32, .inl (fun _ => 0))), (q16, .inr (1, [.ref q16_q7, .int 0])), (q16_q7, .inl (cI, 20, .inl (fun _ => 0))), (q27, .inr (6, [.ref q27_q5, .ref q27_q16, .ref q27_q27, .ref q27_q38, .int 0, .int 0, .int 0, .int 0, .int 0, .int 0])), (q27_q5, .inr (4, [.ref q27_q5_q7, .int 0])), (q27_q5_q7, .inl (cI, 8, .inl (fun _ => 0))), (q27_q16, .inr (4, [.ref q27_q16_q7, .int 0])), (q27_q16_q7, .inl (cI, 8, .inl (fun _ => 0))), (q27_q27, .inr (4, [.ref q27_q27_q7, .int 0])), (q27_q27_q7, .inl (cI, 8, .inl (fun _ => 0))), (q27_q38, .inr (4, [.ref q27_q38_q7, .int 0])), (q27_q38_q7, .inl (cI, 8, .inl (fun _ => 0))), (q38, .inr (5, [.ref q38_q7, .ref q38_q15, .ref q38_q23, .ref q38_q31, .int 0, .int 0])), (q38_q7, .inl (cI, 60, .inl (fun _ => 0))), (q38_q15, .inl (cI, 60, .inl (fun _ => 0))), (q38_q23, .inl (cI, 60, .inl (fun _ => 0))), (q38_q31, .inl (cI, 60, .inl (fun _ => 0)))] := hD
  refine W.widen (k := 20) (n := 419) (by omega) (by omega) ?_
  refine va_putF (D := (dC, dI)) (ci := 7) (v := .ref q38) (ty := .object "PoloSeason$Stable") (C := RX7) (T := TX7) (N := 7) hx hb hts (fun w h => List.mem_cons_of_mem _ (UW_ok 7 (by decide) w h)) tyX7 tyX7_ok nmX7 hown hK hP hD hS 0 rfl rfl 3 (by decide) (hts (.fieldLink RX7 33 "PoloSeason" "stable" "LPoloSeason$Stable;") (List.mem_cons_of_mem _ (FL_ok (7, 33, 7, 3) (by decide)))) (fun _ h9 => h9) rfl hin rfl (by decide +kernel) rfl rfl (Nat.le_of_ble_eq_true rfl) (by decide +kernel : decode cX7_init 45 = .ok (.putfield 33, 3)) (fun H locs hP hD hS => ?_)
  have hP : va_P (dC, dI) vwCl [(h0, .inr (7, [.ref q5, .ref q16, .ref q27, .ref q38, .null, .null, .int 0])), (q5, .inr (3, [.ref q5_q7, .ref q5_q15, .ref q5_q23, .int 0, .int 0])), (q5_q7, .inl (cI, 32, .inl (fun _ => 0))), (q5_q15, .inl (cZ, 32, .inl (fun _ => 0))), (q5_q23, .inl (cI, 32, .inl (fun _ => 0))), (q16, .inr (1, [.ref q16_q7, .int 0])), (q16_q7, .inl (cI, 20, .inl (fun _ => 0))), (q27, .inr (6, [.ref q27_q5, .ref q27_q16, .ref q27_q27, .ref q27_q38, .int 0, .int 0, .int 0, .int 0, .int 0, .int 0])), (q27_q5, .inr (4, [.ref q27_q5_q7, .int 0])), (q27_q5_q7, .inl (cI, 8, .inl (fun _ => 0))), (q27_q16, .inr (4, [.ref q27_q16_q7, .int 0])), (q27_q16_q7, .inl (cI, 8, .inl (fun _ => 0))), (q27_q27, .inr (4, [.ref q27_q27_q7, .int 0])), (q27_q27_q7, .inl (cI, 8, .inl (fun _ => 0))), (q27_q38, .inr (4, [.ref q27_q38_q7, .int 0])), (q27_q38_q7, .inl (cI, 8, .inl (fun _ => 0))), (q38, .inr (5, [.ref q38_q7, .ref q38_q15, .ref q38_q23, .ref q38_q31, .int 0, .int 0])), (q38_q7, .inl (cI, 60, .inl (fun _ => 0))), (q38_q15, .inl (cI, 60, .inl (fun _ => 0))), (q38_q23, .inl (cI, 60, .inl (fun _ => 0))), (q38_q31, .inl (cI, 60, .inl (fun _ => 0)))] H := hP
  have hD : va_D A [(h0, .inr (7, [.ref q5, .ref q16, .ref q27, .ref q38, .null, .null, .int 0])), (q5, .inr (3, [.ref q5_q7, .ref q5_q15, .ref q5_q23, .int 0, .int 0])), (q5_q7, .inl (cI, 32, .inl (fun _ => 0))), (q5_q15, .inl (cZ, 32, .inl (fun _ => 0))), (q5_q23, .inl (cI, 32, .inl (fun _ => 0))), (q16, .inr (1, [.ref q16_q7, .int 0])), (q16_q7, .inl (cI, 20, .inl (fun _ => 0))), (q27, .inr (6, [.ref q27_q5, .ref q27_q16, .ref q27_q27, .ref q27_q38, .int 0, .int 0, .int 0, .int 0, .int 0, .int 0])), (q27_q5, .inr (4, [.ref q27_q5_q7, .int 0])), (q27_q5_q7, .inl (cI, 8, .inl (fun _ => 0))), (q27_q16, .inr (4, [.ref q27_q16_q7, .int 0])), (q27_q16_q7, .inl (cI, 8, .inl (fun _ => 0))), (q27_q27, .inr (4, [.ref q27_q27_q7, .int 0])), (q27_q27_q7, .inl (cI, 8, .inl (fun _ => 0))), (q27_q38, .inr (4, [.ref q27_q38_q7, .int 0])), (q27_q38_q7, .inl (cI, 8, .inl (fun _ => 0))), (q38, .inr (5, [.ref q38_q7, .ref q38_q15, .ref q38_q23, .ref q38_q31, .int 0, .int 0])), (q38_q7, .inl (cI, 60, .inl (fun _ => 0))), (q38_q15, .inl (cI, 60, .inl (fun _ => 0))), (q38_q23, .inl (cI, 60, .inl (fun _ => 0))), (q38_q31, .inl (cI, 60, .inl (fun _ => 0)))] := hD
  refine lv_aload_n hx hb (by decide +kernel : decode cX7_init 48 = .ok (.aload_n 0, 1)) rfl (lv_at hl 0 rfl) ?_
  refine va_new (ci := 2) (fs := [.null, .null, .null, .null, .null, .null, .int 0, .int 0, .int 0]) (C := RX2) (T := TX2) (N := 9) hx hb hts (fun w h => List.mem_cons_of_mem _ (UW_ok 2 (by decide) w h)) tyX2 tyX2_ok hown (hts (Cond.classLink RX7 37 RX2) (List.mem_cons_of_mem _ cwd_37)) (hts (Cond.instantiable RX2 9) (List.mem_cons_of_mem _ cwd_38)) (hts (Cond.initialized RX2) (List.mem_cons_of_mem _ cwd_39)) hK hP hD hS hA rfl (fun j hj => by match j, hj with | 0, _ => rfl | 1, _ => rfl | 2, _ => rfl | 3, _ => rfl | 4, _ => rfl | 5, _ => rfl | 6, _ => rfl | 7, _ => rfl | 8, _ => rfl) (show 20 + 1 ≤ 33 by decide) (show 419 + 9 ≤ 525 by decide) (by decide +kernel : decode cX7_init 49 = .ok (.new 37, 3)) (fun q49 H hP hD hS => ?_)
  have hP : va_P (dC, dI) vwCl [(h0, .inr (7, [.ref q5, .ref q16, .ref q27, .ref q38, .null, .null, .int 0])), (q5, .inr (3, [.ref q5_q7, .ref q5_q15, .ref q5_q23, .int 0, .int 0])), (q5_q7, .inl (cI, 32, .inl (fun _ => 0))), (q5_q15, .inl (cZ, 32, .inl (fun _ => 0))), (q5_q23, .inl (cI, 32, .inl (fun _ => 0))), (q16, .inr (1, [.ref q16_q7, .int 0])), (q16_q7, .inl (cI, 20, .inl (fun _ => 0))), (q27, .inr (6, [.ref q27_q5, .ref q27_q16, .ref q27_q27, .ref q27_q38, .int 0, .int 0, .int 0, .int 0, .int 0, .int 0])), (q27_q5, .inr (4, [.ref q27_q5_q7, .int 0])), (q27_q5_q7, .inl (cI, 8, .inl (fun _ => 0))), (q27_q16, .inr (4, [.ref q27_q16_q7, .int 0])), (q27_q16_q7, .inl (cI, 8, .inl (fun _ => 0))), (q27_q27, .inr (4, [.ref q27_q27_q7, .int 0])), (q27_q27_q7, .inl (cI, 8, .inl (fun _ => 0))), (q27_q38, .inr (4, [.ref q27_q38_q7, .int 0])), (q27_q38_q7, .inl (cI, 8, .inl (fun _ => 0))), (q38, .inr (5, [.ref q38_q7, .ref q38_q15, .ref q38_q23, .ref q38_q31, .int 0, .int 0])), (q38_q7, .inl (cI, 60, .inl (fun _ => 0))), (q38_q15, .inl (cI, 60, .inl (fun _ => 0))), (q38_q23, .inl (cI, 60, .inl (fun _ => 0))), (q38_q31, .inl (cI, 60, .inl (fun _ => 0))), (q49, .inr (2, [.null, .null, .null, .null, .null, .null, .int 0, .int 0, .int 0]))] H := hP
  have hD : va_D A [(h0, .inr (7, [.ref q5, .ref q16, .ref q27, .ref q38, .null, .null, .int 0])), (q5, .inr (3, [.ref q5_q7, .ref q5_q15, .ref q5_q23, .int 0, .int 0])), (q5_q7, .inl (cI, 32, .inl (fun _ => 0))), (q5_q15, .inl (cZ, 32, .inl (fun _ => 0))), (q5_q23, .inl (cI, 32, .inl (fun _ => 0))), (q16, .inr (1, [.ref q16_q7, .int 0])), (q16_q7, .inl (cI, 20, .inl (fun _ => 0))), (q27, .inr (6, [.ref q27_q5, .ref q27_q16, .ref q27_q27, .ref q27_q38, .int 0, .int 0, .int 0, .int 0, .int 0, .int 0])), (q27_q5, .inr (4, [.ref q27_q5_q7, .int 0])), (q27_q5_q7, .inl (cI, 8, .inl (fun _ => 0))), (q27_q16, .inr (4, [.ref q27_q16_q7, .int 0])), (q27_q16_q7, .inl (cI, 8, .inl (fun _ => 0))), (q27_q27, .inr (4, [.ref q27_q27_q7, .int 0])), (q27_q27_q7, .inl (cI, 8, .inl (fun _ => 0))), (q27_q38, .inr (4, [.ref q27_q38_q7, .int 0])), (q27_q38_q7, .inl (cI, 8, .inl (fun _ => 0))), (q38, .inr (5, [.ref q38_q7, .ref q38_q15, .ref q38_q23, .ref q38_q31, .int 0, .int 0])), (q38_q7, .inl (cI, 60, .inl (fun _ => 0))), (q38_q15, .inl (cI, 60, .inl (fun _ => 0))), (q38_q23, .inl (cI, 60, .inl (fun _ => 0))), (q38_q31, .inl (cI, 60, .inl (fun _ => 0))), (q49, .inr (2, [.null, .null, .null, .null, .null, .null, .int 0, .int 0, .int 0]))] := hD
  refine W.widen (k := 21) (n := 428) (by omega) (by omega) ?_
  refine lv_dup hx hb (by decide +kernel : decode cX7_init 52 = .ok (.dup, 1)) rfl ?_
  have hPc := hP.sub (ws' := [(q49, .inr (2, [.null, .null, .null, .null, .null, .null, .int 0, .int 0, .int 0]))]) [21] rfl
  have hDc := hD.sub (ws' := [(q49, .inr (2, [.null, .null, .null, .null, .null, .null, .int 0, .int 0, .int 0]))]) [21] (by decide) rfl
  have hFc := va_free (wc := [(q49, .inr (2, [.null, .null, .null, .null, .null, .null, .int 0, .int 0, .int 0]))]) hD hS hA [21] rfl
  refine va_callv (va_runI (As := []) (rest := [.ref q49, .ref h0]) ⟨hx, hb, hml, hown, hts⟩ (k_X2 l dC dI cI cZ cJ q49 H.size) (cwI 0 hts (goodIn_ws cwi_21) rfl rfl rfl (hts (Cond.initialized RX2) (List.mem_cons_of_mem _ cwd_39)) (hts (Cond.methodLink RX7 39 yX2_init) (List.mem_cons_of_mem _ cwd_40)) (hts (Cond.instanceMethod yX2_init) (List.mem_cons_of_mem _ cwd_41)) rfl (by decide +kernel) ⟨by decide, by decide⟩) ⟨kb_blind, fun U hU hW => ⟨rfl, by rw [hU], by rw [hU]; exact hPc, va_K.moved hW.alike hK, hDc.weaken (fun _ _ _ _ => trivial)⟩⟩ rfl rfl hl.1 rfl (lv_room (Nat.le_of_ble_eq_true rfl)) (by decide +kernel : decode cX7_init 53 = .ok (.invokespecial 39, 3)) ⟨show 21 + 6 ≤ 33 by decide, show 428 + 46 ≤ 525 by decide⟩) hS (fun q _ h => hFc q h) hFc (fun u t H1 locs ht hvm hw hB hz1 hk1 hS => ?_)
  obtain ⟨q49_q7, q49_q15, q49_q23, q49_q31, q49_q39, q49_q47, hP1, hD1⟩ := hB
  rw [ht] at hP1
  obtain ⟨hP, hD⟩ := va_join (wr := [(h0, .inr (7, [.ref q5, .ref q16, .ref q27, .ref q38, .null, .null, .int 0])), (q5, .inr (3, [.ref q5_q7, .ref q5_q15, .ref q5_q23, .int 0, .int 0])), (q5_q7, .inl (cI, 32, .inl (fun _ => 0))), (q5_q15, .inl (cZ, 32, .inl (fun _ => 0))), (q5_q23, .inl (cI, 32, .inl (fun _ => 0))), (q16, .inr (1, [.ref q16_q7, .int 0])), (q16_q7, .inl (cI, 20, .inl (fun _ => 0))), (q27, .inr (6, [.ref q27_q5, .ref q27_q16, .ref q27_q27, .ref q27_q38, .int 0, .int 0, .int 0, .int 0, .int 0, .int 0])), (q27_q5, .inr (4, [.ref q27_q5_q7, .int 0])), (q27_q5_q7, .inl (cI, 8, .inl (fun _ => 0))), (q27_q16, .inr (4, [.ref q27_q16_q7, .int 0])), (q27_q16_q7, .inl (cI, 8, .inl (fun _ => 0))), (q27_q27, .inr (4, [.ref q27_q27_q7, .int 0])), (q27_q27_q7, .inl (cI, 8, .inl (fun _ => 0))), (q27_q38, .inr (4, [.ref q27_q38_q7, .int 0])), (q27_q38_q7, .inl (cI, 8, .inl (fun _ => 0))), (q38, .inr (5, [.ref q38_q7, .ref q38_q15, .ref q38_q23, .ref q38_q31, .int 0, .int 0])), (q38_q7, .inl (cI, 60, .inl (fun _ => 0))), (q38_q15, .inl (cI, 60, .inl (fun _ => 0))), (q38_q23, .inl (cI, 60, .inl (fun _ => 0))), (q38_q31, .inl (cI, 60, .inl (fun _ => 0)))]) (w1 := [(q49, .inr (2, [.ref q49_q7, .ref q49_q15, .ref q49_q23, .ref q49_q31, .ref q49_q39, .ref q49_q47, .int 0, .int 0, .int 0])), (q49_q7, .inl (cI, 8, .inl (fun _ => 0))), (q49_q15, .inl (cI, 8, .inl (fun _ => 0))), (q49_q23, .inl (cI, 8, .inl (fun _ => 0))), (q49_q31, .inl (cI, 8, .inl (fun _ => 0))), (q49_q39, .inl (cZ, 8, .inl (fun _ => 0))), (q49_q47, .inl (cI, 6, .inl (fun _ => 0)))]) hP hD [21] [0, 1, 2, 3, 4, 5, 6, 7, 8, 9, 10, 11, 12, 13, 14, 15, 16, 17, 18, 19, 20] rfl rfl (by decide) (by decide) hk1 hFc hP1 hD1
  generalize H1 = H at hP hS ⊢
  have hP : va_P (dC, dI) vwCl [(h0, .inr (7, [.ref q5, .ref q16, .ref q27, .ref q38, .null, .null, .int 0])), (q5, .inr (3, [.ref q5_q7, .ref q5_q15, .ref q5_q23, .int 0, .int 0])), (q5_q7, .inl (cI, 32, .inl (fun _ => 0))), (q5_q15, .inl (cZ, 32, .inl (fun _ => 0))), (q5_q23, .inl (cI, 32, .inl (fun _ => 0))), (q16, .inr (1, [.ref q16_q7, .int 0])), (q16_q7, .inl (cI, 20, .inl (fun _ => 0))), (q27, .inr (6, [.ref q27_q5, .ref q27_q16, .ref q27_q27, .ref q27_q38, .int 0, .int 0, .int 0, .int 0, .int 0, .int 0])), (q27_q5, .inr (4, [.ref q27_q5_q7, .int 0])), (q27_q5_q7, .inl (cI, 8, .inl (fun _ => 0))), (q27_q16, .inr (4, [.ref q27_q16_q7, .int 0])), (q27_q16_q7, .inl (cI, 8, .inl (fun _ => 0))), (q27_q27, .inr (4, [.ref q27_q27_q7, .int 0])), (q27_q27_q7, .inl (cI, 8, .inl (fun _ => 0))), (q27_q38, .inr (4, [.ref q27_q38_q7, .int 0])), (q27_q38_q7, .inl (cI, 8, .inl (fun _ => 0))), (q38, .inr (5, [.ref q38_q7, .ref q38_q15, .ref q38_q23, .ref q38_q31, .int 0, .int 0])), (q38_q7, .inl (cI, 60, .inl (fun _ => 0))), (q38_q15, .inl (cI, 60, .inl (fun _ => 0))), (q38_q23, .inl (cI, 60, .inl (fun _ => 0))), (q38_q31, .inl (cI, 60, .inl (fun _ => 0))), (q49, .inr (2, [.ref q49_q7, .ref q49_q15, .ref q49_q23, .ref q49_q31, .ref q49_q39, .ref q49_q47, .int 0, .int 0, .int 0])), (q49_q7, .inl (cI, 8, .inl (fun _ => 0))), (q49_q15, .inl (cI, 8, .inl (fun _ => 0))), (q49_q23, .inl (cI, 8, .inl (fun _ => 0))), (q49_q31, .inl (cI, 8, .inl (fun _ => 0))), (q49_q39, .inl (cZ, 8, .inl (fun _ => 0))), (q49_q47, .inl (cI, 6, .inl (fun _ => 0)))] H := hP
  have hD : va_D A [(h0, .inr (7, [.ref q5, .ref q16, .ref q27, .ref q38, .null, .null, .int 0])), (q5, .inr (3, [.ref q5_q7, .ref q5_q15, .ref q5_q23, .int 0, .int 0])), (q5_q7, .inl (cI, 32, .inl (fun _ => 0))), (q5_q15, .inl (cZ, 32, .inl (fun _ => 0))), (q5_q23, .inl (cI, 32, .inl (fun _ => 0))), (q16, .inr (1, [.ref q16_q7, .int 0])), (q16_q7, .inl (cI, 20, .inl (fun _ => 0))), (q27, .inr (6, [.ref q27_q5, .ref q27_q16, .ref q27_q27, .ref q27_q38, .int 0, .int 0, .int 0, .int 0, .int 0, .int 0])), (q27_q5, .inr (4, [.ref q27_q5_q7, .int 0])), (q27_q5_q7, .inl (cI, 8, .inl (fun _ => 0))), (q27_q16, .inr (4, [.ref q27_q16_q7, .int 0])), (q27_q16_q7, .inl (cI, 8, .inl (fun _ => 0))), (q27_q27, .inr (4, [.ref q27_q27_q7, .int 0])), (q27_q27_q7, .inl (cI, 8, .inl (fun _ => 0))), (q27_q38, .inr (4, [.ref q27_q38_q7, .int 0])), (q27_q38_q7, .inl (cI, 8, .inl (fun _ => 0))), (q38, .inr (5, [.ref q38_q7, .ref q38_q15, .ref q38_q23, .ref q38_q31, .int 0, .int 0])), (q38_q7, .inl (cI, 60, .inl (fun _ => 0))), (q38_q15, .inl (cI, 60, .inl (fun _ => 0))), (q38_q23, .inl (cI, 60, .inl (fun _ => 0))), (q38_q31, .inl (cI, 60, .inl (fun _ => 0))), (q49, .inr (2, [.ref q49_q7, .ref q49_q15, .ref q49_q23, .ref q49_q31, .ref q49_q39, .ref q49_q47, .int 0, .int 0, .int 0])), (q49_q7, .inl (cI, 8, .inl (fun _ => 0))), (q49_q15, .inl (cI, 8, .inl (fun _ => 0))), (q49_q23, .inl (cI, 8, .inl (fun _ => 0))), (q49_q31, .inl (cI, 8, .inl (fun _ => 0))), (q49_q39, .inl (cZ, 8, .inl (fun _ => 0))), (q49_q47, .inl (cI, 6, .inl (fun _ => 0)))] := hD
  refine W.widen (k := 27) (n := 474) (by omega) (by omega) ?_
  refine va_putF (D := (dC, dI)) (ci := 7) (v := .ref q49) (ty := .object "PoloSeason$Planner") (C := RX7) (T := TX7) (N := 7) hx hb hts (fun w h => List.mem_cons_of_mem _ (UW_ok 7 (by decide) w h)) tyX7 tyX7_ok nmX7 hown hK hP hD hS 0 rfl rfl 4 (by decide) (hts (.fieldLink RX7 40 "PoloSeason" "planner" "LPoloSeason$Planner;") (List.mem_cons_of_mem _ (FL_ok (7, 40, 7, 4) (by decide)))) (fun _ h9 => h9) rfl hin rfl (by decide +kernel) rfl rfl (Nat.le_of_ble_eq_true rfl) (by decide +kernel : decode cX7_init 56 = .ok (.putfield 40, 3)) (fun H locs hP hD hS => ?_)
  have hP : va_P (dC, dI) vwCl [(h0, .inr (7, [.ref q5, .ref q16, .ref q27, .ref q38, .ref q49, .null, .int 0])), (q5, .inr (3, [.ref q5_q7, .ref q5_q15, .ref q5_q23, .int 0, .int 0])), (q5_q7, .inl (cI, 32, .inl (fun _ => 0))), (q5_q15, .inl (cZ, 32, .inl (fun _ => 0))), (q5_q23, .inl (cI, 32, .inl (fun _ => 0))), (q16, .inr (1, [.ref q16_q7, .int 0])), (q16_q7, .inl (cI, 20, .inl (fun _ => 0))), (q27, .inr (6, [.ref q27_q5, .ref q27_q16, .ref q27_q27, .ref q27_q38, .int 0, .int 0, .int 0, .int 0, .int 0, .int 0])), (q27_q5, .inr (4, [.ref q27_q5_q7, .int 0])), (q27_q5_q7, .inl (cI, 8, .inl (fun _ => 0))), (q27_q16, .inr (4, [.ref q27_q16_q7, .int 0])), (q27_q16_q7, .inl (cI, 8, .inl (fun _ => 0))), (q27_q27, .inr (4, [.ref q27_q27_q7, .int 0])), (q27_q27_q7, .inl (cI, 8, .inl (fun _ => 0))), (q27_q38, .inr (4, [.ref q27_q38_q7, .int 0])), (q27_q38_q7, .inl (cI, 8, .inl (fun _ => 0))), (q38, .inr (5, [.ref q38_q7, .ref q38_q15, .ref q38_q23, .ref q38_q31, .int 0, .int 0])), (q38_q7, .inl (cI, 60, .inl (fun _ => 0))), (q38_q15, .inl (cI, 60, .inl (fun _ => 0))), (q38_q23, .inl (cI, 60, .inl (fun _ => 0))), (q38_q31, .inl (cI, 60, .inl (fun _ => 0))), (q49, .inr (2, [.ref q49_q7, .ref q49_q15, .ref q49_q23, .ref q49_q31, .ref q49_q39, .ref q49_q47, .int 0, .int 0, .int 0])), (q49_q7, .inl (cI, 8, .inl (fun _ => 0))), (q49_q15, .inl (cI, 8, .inl (fun _ => 0))), (q49_q23, .inl (cI, 8, .inl (fun _ => 0))), (q49_q31, .inl (cI, 8, .inl (fun _ => 0))), (q49_q39, .inl (cZ, 8, .inl (fun _ => 0))), (q49_q47, .inl (cI, 6, .inl (fun _ => 0)))] H := hP
  have hD : va_D A [(h0, .inr (7, [.ref q5, .ref q16, .ref q27, .ref q38, .ref q49, .null, .int 0])), (q5, .inr (3, [.ref q5_q7, .ref q5_q15, .ref q5_q23, .int 0, .int 0])), (q5_q7, .inl (cI, 32, .inl (fun _ => 0))), (q5_q15, .inl (cZ, 32, .inl (fun _ => 0))), (q5_q23, .inl (cI, 32, .inl (fun _ => 0))), (q16, .inr (1, [.ref q16_q7, .int 0])), (q16_q7, .inl (cI, 20, .inl (fun _ => 0))), (q27, .inr (6, [.ref q27_q5, .ref q27_q16, .ref q27_q27, .ref q27_q38, .int 0, .int 0, .int 0, .int 0, .int 0, .int 0])), (q27_q5, .inr (4, [.ref q27_q5_q7, .int 0])), (q27_q5_q7, .inl (cI, 8, .inl (fun _ => 0))), (q27_q16, .inr (4, [.ref q27_q16_q7, .int 0])), (q27_q16_q7, .inl (cI, 8, .inl (fun _ => 0))), (q27_q27, .inr (4, [.ref q27_q27_q7, .int 0])), (q27_q27_q7, .inl (cI, 8, .inl (fun _ => 0))), (q27_q38, .inr (4, [.ref q27_q38_q7, .int 0])), (q27_q38_q7, .inl (cI, 8, .inl (fun _ => 0))), (q38, .inr (5, [.ref q38_q7, .ref q38_q15, .ref q38_q23, .ref q38_q31, .int 0, .int 0])), (q38_q7, .inl (cI, 60, .inl (fun _ => 0))), (q38_q15, .inl (cI, 60, .inl (fun _ => 0))), (q38_q23, .inl (cI, 60, .inl (fun _ => 0))), (q38_q31, .inl (cI, 60, .inl (fun _ => 0))), (q49, .inr (2, [.ref q49_q7, .ref q49_q15, .ref q49_q23, .ref q49_q31, .ref q49_q39, .ref q49_q47, .int 0, .int 0, .int 0])), (q49_q7, .inl (cI, 8, .inl (fun _ => 0))), (q49_q15, .inl (cI, 8, .inl (fun _ => 0))), (q49_q23, .inl (cI, 8, .inl (fun _ => 0))), (q49_q31, .inl (cI, 8, .inl (fun _ => 0))), (q49_q39, .inl (cZ, 8, .inl (fun _ => 0))), (q49_q47, .inl (cI, 6, .inl (fun _ => 0)))] := hD
  refine lv_aload_n hx hb (by decide +kernel : decode cX7_init 59 = .ok (.aload_n 0, 1)) rfl (lv_at hl 0 rfl) ?_
  refine va_new (ci := 0) (fs := [.null, .null, .null, .null, .null, .int 0, .int 0, .int 0, .int 0, .int 0, .int 0]) (C := RX0) (T := TX0) (N := 11) hx hb hts (fun w h => List.mem_cons_of_mem _ (UW_ok 0 (by decide) w h)) tyX0 tyX0_ok hown (hts (Cond.classLink RX7 44 RX0) (List.mem_cons_of_mem _ cwd_42)) (hts (Cond.instantiable RX0 11) (List.mem_cons_of_mem _ cwd_43)) (hts (Cond.initialized RX0) (List.mem_cons_of_mem _ cwd_44)) hK hP hD hS hA rfl (fun j hj => by match j, hj with | 0, _ => rfl | 1, _ => rfl | 2, _ => rfl | 3, _ => rfl | 4, _ => rfl | 5, _ => rfl | 6, _ => rfl | 7, _ => rfl | 8, _ => rfl | 9, _ => rfl | 10, _ => rfl) (show 27 + 1 ≤ 33 by decide) (show 474 + 11 ≤ 525 by decide) (by decide +kernel : decode cX7_init 60 = .ok (.new 44, 3)) (fun q60 H hP hD hS => ?_)
  have hP : va_P (dC, dI) vwCl [(h0, .inr (7, [.ref q5, .ref q16, .ref q27, .ref q38, .ref q49, .null, .int 0])), (q5, .inr (3, [.ref q5_q7, .ref q5_q15, .ref q5_q23, .int 0, .int 0])), (q5_q7, .inl (cI, 32, .inl (fun _ => 0))), (q5_q15, .inl (cZ, 32, .inl (fun _ => 0))), (q5_q23, .inl (cI, 32, .inl (fun _ => 0))), (q16, .inr (1, [.ref q16_q7, .int 0])), (q16_q7, .inl (cI, 20, .inl (fun _ => 0))), (q27, .inr (6, [.ref q27_q5, .ref q27_q16, .ref q27_q27, .ref q27_q38, .int 0, .int 0, .int 0, .int 0, .int 0, .int 0])), (q27_q5, .inr (4, [.ref q27_q5_q7, .int 0])), (q27_q5_q7, .inl (cI, 8, .inl (fun _ => 0))), (q27_q16, .inr (4, [.ref q27_q16_q7, .int 0])), (q27_q16_q7, .inl (cI, 8, .inl (fun _ => 0))), (q27_q27, .inr (4, [.ref q27_q27_q7, .int 0])), (q27_q27_q7, .inl (cI, 8, .inl (fun _ => 0))), (q27_q38, .inr (4, [.ref q27_q38_q7, .int 0])), (q27_q38_q7, .inl (cI, 8, .inl (fun _ => 0))), (q38, .inr (5, [.ref q38_q7, .ref q38_q15, .ref q38_q23, .ref q38_q31, .int 0, .int 0])), (q38_q7, .inl (cI, 60, .inl (fun _ => 0))), (q38_q15, .inl (cI, 60, .inl (fun _ => 0))), (q38_q23, .inl (cI, 60, .inl (fun _ => 0))), (q38_q31, .inl (cI, 60, .inl (fun _ => 0))), (q49, .inr (2, [.ref q49_q7, .ref q49_q15, .ref q49_q23, .ref q49_q31, .ref q49_q39, .ref q49_q47, .int 0, .int 0, .int 0])), (q49_q7, .inl (cI, 8, .inl (fun _ => 0))), (q49_q15, .inl (cI, 8, .inl (fun _ => 0))), (q49_q23, .inl (cI, 8, .inl (fun _ => 0))), (q49_q31, .inl (cI, 8, .inl (fun _ => 0))), (q49_q39, .inl (cZ, 8, .inl (fun _ => 0))), (q49_q47, .inl (cI, 6, .inl (fun _ => 0))), (q60, .inr (0, [.null, .null, .null, .null, .null, .int 0, .int 0, .int 0, .int 0, .int 0, .int 0]))] H := hP
  have hD : va_D A [(h0, .inr (7, [.ref q5, .ref q16, .ref q27, .ref q38, .ref q49, .null, .int 0])), (q5, .inr (3, [.ref q5_q7, .ref q5_q15, .ref q5_q23, .int 0, .int 0])), (q5_q7, .inl (cI, 32, .inl (fun _ => 0))), (q5_q15, .inl (cZ, 32, .inl (fun _ => 0))), (q5_q23, .inl (cI, 32, .inl (fun _ => 0))), (q16, .inr (1, [.ref q16_q7, .int 0])), (q16_q7, .inl (cI, 20, .inl (fun _ => 0))), (q27, .inr (6, [.ref q27_q5, .ref q27_q16, .ref q27_q27, .ref q27_q38, .int 0, .int 0, .int 0, .int 0, .int 0, .int 0])), (q27_q5, .inr (4, [.ref q27_q5_q7, .int 0])), (q27_q5_q7, .inl (cI, 8, .inl (fun _ => 0))), (q27_q16, .inr (4, [.ref q27_q16_q7, .int 0])), (q27_q16_q7, .inl (cI, 8, .inl (fun _ => 0))), (q27_q27, .inr (4, [.ref q27_q27_q7, .int 0])), (q27_q27_q7, .inl (cI, 8, .inl (fun _ => 0))), (q27_q38, .inr (4, [.ref q27_q38_q7, .int 0])), (q27_q38_q7, .inl (cI, 8, .inl (fun _ => 0))), (q38, .inr (5, [.ref q38_q7, .ref q38_q15, .ref q38_q23, .ref q38_q31, .int 0, .int 0])), (q38_q7, .inl (cI, 60, .inl (fun _ => 0))), (q38_q15, .inl (cI, 60, .inl (fun _ => 0))), (q38_q23, .inl (cI, 60, .inl (fun _ => 0))), (q38_q31, .inl (cI, 60, .inl (fun _ => 0))), (q49, .inr (2, [.ref q49_q7, .ref q49_q15, .ref q49_q23, .ref q49_q31, .ref q49_q39, .ref q49_q47, .int 0, .int 0, .int 0])), (q49_q7, .inl (cI, 8, .inl (fun _ => 0))), (q49_q15, .inl (cI, 8, .inl (fun _ => 0))), (q49_q23, .inl (cI, 8, .inl (fun _ => 0))), (q49_q31, .inl (cI, 8, .inl (fun _ => 0))), (q49_q39, .inl (cZ, 8, .inl (fun _ => 0))), (q49_q47, .inl (cI, 6, .inl (fun _ => 0))), (q60, .inr (0, [.null, .null, .null, .null, .null, .int 0, .int 0, .int 0, .int 0, .int 0, .int 0]))] := hD
  refine W.widen (k := 28) (n := 485) (by omega) (by omega) ?_
  refine lv_dup hx hb (by decide +kernel : decode cX7_init 63 = .ok (.dup, 1)) rfl ?_
  have hPc := hP.sub (ws' := [(q60, .inr (0, [.null, .null, .null, .null, .null, .int 0, .int 0, .int 0, .int 0, .int 0, .int 0]))]) [28] rfl
  have hDc := hD.sub (ws' := [(q60, .inr (0, [.null, .null, .null, .null, .null, .int 0, .int 0, .int 0, .int 0, .int 0, .int 0]))]) [28] (by decide) rfl
  have hFc := va_free (wc := [(q60, .inr (0, [.null, .null, .null, .null, .null, .int 0, .int 0, .int 0, .int 0, .int 0, .int 0]))]) hD hS hA [28] rfl
  refine va_callv (va_runI (As := []) (rest := [.ref q60, .ref h0]) ⟨hx, hb, hml, hown, hts⟩ (k_X0 l dC dI cI cZ cJ q60 H.size) (cwI 0 hts (goodIn_ws cwi_0) rfl rfl rfl (hts (Cond.initialized RX0) (List.mem_cons_of_mem _ cwd_44)) (hts (Cond.methodLink RX7 46 yX0_init) (List.mem_cons_of_mem _ cwd_45)) (hts (Cond.instanceMethod yX0_init) (List.mem_cons_of_mem _ cwd_46)) rfl (by decide +kernel) ⟨by decide, by decide⟩) ⟨kb_blind, fun U hU hW => ⟨rfl, by rw [hU], by rw [hU]; exact hPc, va_K.moved hW.alike hK, hDc.weaken (fun _ _ _ _ => trivial)⟩⟩ rfl rfl hl.1 rfl (lv_room (Nat.le_of_ble_eq_true rfl)) (by decide +kernel : decode cX7_init 64 = .ok (.invokespecial 46, 3)) ⟨show 28 + 5 ≤ 33 by decide, show 485 + 40 ≤ 525 by decide⟩) hS (fun q _ h => hFc q h) hFc (fun u t H1 locs ht hvm hw hB hz1 hk1 hS => ?_)
  obtain ⟨q60_q7, q60_q15, q60_q23, q60_q31, q60_q39, hP1, hD1⟩ := hB
  rw [ht] at hP1
  obtain ⟨hP, hD⟩ := va_join (wr := [(h0, .inr (7, [.ref q5, .ref q16, .ref q27, .ref q38, .ref q49, .null, .int 0])), (q5, .inr (3, [.ref q5_q7, .ref q5_q15, .ref q5_q23, .int 0, .int 0])), (q5_q7, .inl (cI, 32, .inl (fun _ => 0))), (q5_q15, .inl (cZ, 32, .inl (fun _ => 0))), (q5_q23, .inl (cI, 32, .inl (fun _ => 0))), (q16, .inr (1, [.ref q16_q7, .int 0])), (q16_q7, .inl (cI, 20, .inl (fun _ => 0))), (q27, .inr (6, [.ref q27_q5, .ref q27_q16, .ref q27_q27, .ref q27_q38, .int 0, .int 0, .int 0, .int 0, .int 0, .int 0])), (q27_q5, .inr (4, [.ref q27_q5_q7, .int 0])), (q27_q5_q7, .inl (cI, 8, .inl (fun _ => 0))), (q27_q16, .inr (4, [.ref q27_q16_q7, .int 0])), (q27_q16_q7, .inl (cI, 8, .inl (fun _ => 0))), (q27_q27, .inr (4, [.ref q27_q27_q7, .int 0])), (q27_q27_q7, .inl (cI, 8, .inl (fun _ => 0))), (q27_q38, .inr (4, [.ref q27_q38_q7, .int 0])), (q27_q38_q7, .inl (cI, 8, .inl (fun _ => 0))), (q38, .inr (5, [.ref q38_q7, .ref q38_q15, .ref q38_q23, .ref q38_q31, .int 0, .int 0])), (q38_q7, .inl (cI, 60, .inl (fun _ => 0))), (q38_q15, .inl (cI, 60, .inl (fun _ => 0))), (q38_q23, .inl (cI, 60, .inl (fun _ => 0))), (q38_q31, .inl (cI, 60, .inl (fun _ => 0))), (q49, .inr (2, [.ref q49_q7, .ref q49_q15, .ref q49_q23, .ref q49_q31, .ref q49_q39, .ref q49_q47, .int 0, .int 0, .int 0])), (q49_q7, .inl (cI, 8, .inl (fun _ => 0))), (q49_q15, .inl (cI, 8, .inl (fun _ => 0))), (q49_q23, .inl (cI, 8, .inl (fun _ => 0))), (q49_q31, .inl (cI, 8, .inl (fun _ => 0))), (q49_q39, .inl (cZ, 8, .inl (fun _ => 0))), (q49_q47, .inl (cI, 6, .inl (fun _ => 0)))]) (w1 := [(q60, .inr (0, [.ref q60_q7, .ref q60_q15, .ref q60_q23, .ref q60_q31, .ref q60_q39, .int 0, .int 0, .int 0, .int 0, .int 0, .int 0])), (q60_q7, .inl (cI, 8, .inl (fun _ => 0))), (q60_q15, .inl (cI, 8, .inl (fun _ => 0))), (q60_q23, .inl (cI, 8, .inl (fun _ => 0))), (q60_q31, .inl (cI, 8, .inl (fun _ => 0))), (q60_q39, .inl (cI, 8, .inl (fun _ => 0)))]) hP hD [28] [0, 1, 2, 3, 4, 5, 6, 7, 8, 9, 10, 11, 12, 13, 14, 15, 16, 17, 18, 19, 20, 21, 22, 23, 24, 25, 26, 27] rfl rfl (by decide) (by decide) hk1 hFc hP1 hD1
  generalize H1 = H at hP hS ⊢
  have hP : va_P (dC, dI) vwCl [(h0, .inr (7, [.ref q5, .ref q16, .ref q27, .ref q38, .ref q49, .null, .int 0])), (q5, .inr (3, [.ref q5_q7, .ref q5_q15, .ref q5_q23, .int 0, .int 0])), (q5_q7, .inl (cI, 32, .inl (fun _ => 0))), (q5_q15, .inl (cZ, 32, .inl (fun _ => 0))), (q5_q23, .inl (cI, 32, .inl (fun _ => 0))), (q16, .inr (1, [.ref q16_q7, .int 0])), (q16_q7, .inl (cI, 20, .inl (fun _ => 0))), (q27, .inr (6, [.ref q27_q5, .ref q27_q16, .ref q27_q27, .ref q27_q38, .int 0, .int 0, .int 0, .int 0, .int 0, .int 0])), (q27_q5, .inr (4, [.ref q27_q5_q7, .int 0])), (q27_q5_q7, .inl (cI, 8, .inl (fun _ => 0))), (q27_q16, .inr (4, [.ref q27_q16_q7, .int 0])), (q27_q16_q7, .inl (cI, 8, .inl (fun _ => 0))), (q27_q27, .inr (4, [.ref q27_q27_q7, .int 0])), (q27_q27_q7, .inl (cI, 8, .inl (fun _ => 0))), (q27_q38, .inr (4, [.ref q27_q38_q7, .int 0])), (q27_q38_q7, .inl (cI, 8, .inl (fun _ => 0))), (q38, .inr (5, [.ref q38_q7, .ref q38_q15, .ref q38_q23, .ref q38_q31, .int 0, .int 0])), (q38_q7, .inl (cI, 60, .inl (fun _ => 0))), (q38_q15, .inl (cI, 60, .inl (fun _ => 0))), (q38_q23, .inl (cI, 60, .inl (fun _ => 0))), (q38_q31, .inl (cI, 60, .inl (fun _ => 0))), (q49, .inr (2, [.ref q49_q7, .ref q49_q15, .ref q49_q23, .ref q49_q31, .ref q49_q39, .ref q49_q47, .int 0, .int 0, .int 0])), (q49_q7, .inl (cI, 8, .inl (fun _ => 0))), (q49_q15, .inl (cI, 8, .inl (fun _ => 0))), (q49_q23, .inl (cI, 8, .inl (fun _ => 0))), (q49_q31, .inl (cI, 8, .inl (fun _ => 0))), (q49_q39, .inl (cZ, 8, .inl (fun _ => 0))), (q49_q47, .inl (cI, 6, .inl (fun _ => 0))), (q60, .inr (0, [.ref q60_q7, .ref q60_q15, .ref q60_q23, .ref q60_q31, .ref q60_q39, .int 0, .int 0, .int 0, .int 0, .int 0, .int 0])), (q60_q7, .inl (cI, 8, .inl (fun _ => 0))), (q60_q15, .inl (cI, 8, .inl (fun _ => 0))), (q60_q23, .inl (cI, 8, .inl (fun _ => 0))), (q60_q31, .inl (cI, 8, .inl (fun _ => 0))), (q60_q39, .inl (cI, 8, .inl (fun _ => 0)))] H := hP
  have hD : va_D A [(h0, .inr (7, [.ref q5, .ref q16, .ref q27, .ref q38, .ref q49, .null, .int 0])), (q5, .inr (3, [.ref q5_q7, .ref q5_q15, .ref q5_q23, .int 0, .int 0])), (q5_q7, .inl (cI, 32, .inl (fun _ => 0))), (q5_q15, .inl (cZ, 32, .inl (fun _ => 0))), (q5_q23, .inl (cI, 32, .inl (fun _ => 0))), (q16, .inr (1, [.ref q16_q7, .int 0])), (q16_q7, .inl (cI, 20, .inl (fun _ => 0))), (q27, .inr (6, [.ref q27_q5, .ref q27_q16, .ref q27_q27, .ref q27_q38, .int 0, .int 0, .int 0, .int 0, .int 0, .int 0])), (q27_q5, .inr (4, [.ref q27_q5_q7, .int 0])), (q27_q5_q7, .inl (cI, 8, .inl (fun _ => 0))), (q27_q16, .inr (4, [.ref q27_q16_q7, .int 0])), (q27_q16_q7, .inl (cI, 8, .inl (fun _ => 0))), (q27_q27, .inr (4, [.ref q27_q27_q7, .int 0])), (q27_q27_q7, .inl (cI, 8, .inl (fun _ => 0))), (q27_q38, .inr (4, [.ref q27_q38_q7, .int 0])), (q27_q38_q7, .inl (cI, 8, .inl (fun _ => 0))), (q38, .inr (5, [.ref q38_q7, .ref q38_q15, .ref q38_q23, .ref q38_q31, .int 0, .int 0])), (q38_q7, .inl (cI, 60, .inl (fun _ => 0))), (q38_q15, .inl (cI, 60, .inl (fun _ => 0))), (q38_q23, .inl (cI, 60, .inl (fun _ => 0))), (q38_q31, .inl (cI, 60, .inl (fun _ => 0))), (q49, .inr (2, [.ref q49_q7, .ref q49_q15, .ref q49_q23, .ref q49_q31, .ref q49_q39, .ref q49_q47, .int 0, .int 0, .int 0])), (q49_q7, .inl (cI, 8, .inl (fun _ => 0))), (q49_q15, .inl (cI, 8, .inl (fun _ => 0))), (q49_q23, .inl (cI, 8, .inl (fun _ => 0))), (q49_q31, .inl (cI, 8, .inl (fun _ => 0))), (q49_q39, .inl (cZ, 8, .inl (fun _ => 0))), (q49_q47, .inl (cI, 6, .inl (fun _ => 0))), (q60, .inr (0, [.ref q60_q7, .ref q60_q15, .ref q60_q23, .ref q60_q31, .ref q60_q39, .int 0, .int 0, .int 0, .int 0, .int 0, .int 0])), (q60_q7, .inl (cI, 8, .inl (fun _ => 0))), (q60_q15, .inl (cI, 8, .inl (fun _ => 0))), (q60_q23, .inl (cI, 8, .inl (fun _ => 0))), (q60_q31, .inl (cI, 8, .inl (fun _ => 0))), (q60_q39, .inl (cI, 8, .inl (fun _ => 0)))] := hD
  refine W.widen (k := 33) (n := 525) (by omega) (by omega) ?_
  refine va_putF (D := (dC, dI)) (ci := 7) (v := .ref q60) (ty := .object "PoloSeason$Line") (C := RX7) (T := TX7) (N := 7) hx hb hts (fun w h => List.mem_cons_of_mem _ (UW_ok 7 (by decide) w h)) tyX7 tyX7_ok nmX7 hown hK hP hD hS 0 rfl rfl 5 (by decide) (hts (.fieldLink RX7 47 "PoloSeason" "line" "LPoloSeason$Line;") (List.mem_cons_of_mem _ (FL_ok (7, 47, 7, 5) (by decide)))) (fun _ h9 => h9) rfl hin rfl (by decide +kernel) rfl rfl (Nat.le_of_ble_eq_true rfl) (by decide +kernel : decode cX7_init 67 = .ok (.putfield 47, 3)) (fun H locs hP hD hS => ?_)
  have hP : va_P (dC, dI) vwCl [(h0, .inr (7, [.ref q5, .ref q16, .ref q27, .ref q38, .ref q49, .ref q60, .int 0])), (q5, .inr (3, [.ref q5_q7, .ref q5_q15, .ref q5_q23, .int 0, .int 0])), (q5_q7, .inl (cI, 32, .inl (fun _ => 0))), (q5_q15, .inl (cZ, 32, .inl (fun _ => 0))), (q5_q23, .inl (cI, 32, .inl (fun _ => 0))), (q16, .inr (1, [.ref q16_q7, .int 0])), (q16_q7, .inl (cI, 20, .inl (fun _ => 0))), (q27, .inr (6, [.ref q27_q5, .ref q27_q16, .ref q27_q27, .ref q27_q38, .int 0, .int 0, .int 0, .int 0, .int 0, .int 0])), (q27_q5, .inr (4, [.ref q27_q5_q7, .int 0])), (q27_q5_q7, .inl (cI, 8, .inl (fun _ => 0))), (q27_q16, .inr (4, [.ref q27_q16_q7, .int 0])), (q27_q16_q7, .inl (cI, 8, .inl (fun _ => 0))), (q27_q27, .inr (4, [.ref q27_q27_q7, .int 0])), (q27_q27_q7, .inl (cI, 8, .inl (fun _ => 0))), (q27_q38, .inr (4, [.ref q27_q38_q7, .int 0])), (q27_q38_q7, .inl (cI, 8, .inl (fun _ => 0))), (q38, .inr (5, [.ref q38_q7, .ref q38_q15, .ref q38_q23, .ref q38_q31, .int 0, .int 0])), (q38_q7, .inl (cI, 60, .inl (fun _ => 0))), (q38_q15, .inl (cI, 60, .inl (fun _ => 0))), (q38_q23, .inl (cI, 60, .inl (fun _ => 0))), (q38_q31, .inl (cI, 60, .inl (fun _ => 0))), (q49, .inr (2, [.ref q49_q7, .ref q49_q15, .ref q49_q23, .ref q49_q31, .ref q49_q39, .ref q49_q47, .int 0, .int 0, .int 0])), (q49_q7, .inl (cI, 8, .inl (fun _ => 0))), (q49_q15, .inl (cI, 8, .inl (fun _ => 0))), (q49_q23, .inl (cI, 8, .inl (fun _ => 0))), (q49_q31, .inl (cI, 8, .inl (fun _ => 0))), (q49_q39, .inl (cZ, 8, .inl (fun _ => 0))), (q49_q47, .inl (cI, 6, .inl (fun _ => 0))), (q60, .inr (0, [.ref q60_q7, .ref q60_q15, .ref q60_q23, .ref q60_q31, .ref q60_q39, .int 0, .int 0, .int 0, .int 0, .int 0, .int 0])), (q60_q7, .inl (cI, 8, .inl (fun _ => 0))), (q60_q15, .inl (cI, 8, .inl (fun _ => 0))), (q60_q23, .inl (cI, 8, .inl (fun _ => 0))), (q60_q31, .inl (cI, 8, .inl (fun _ => 0))), (q60_q39, .inl (cI, 8, .inl (fun _ => 0)))] H := hP
  have hD : va_D A [(h0, .inr (7, [.ref q5, .ref q16, .ref q27, .ref q38, .ref q49, .ref q60, .int 0])), (q5, .inr (3, [.ref q5_q7, .ref q5_q15, .ref q5_q23, .int 0, .int 0])), (q5_q7, .inl (cI, 32, .inl (fun _ => 0))), (q5_q15, .inl (cZ, 32, .inl (fun _ => 0))), (q5_q23, .inl (cI, 32, .inl (fun _ => 0))), (q16, .inr (1, [.ref q16_q7, .int 0])), (q16_q7, .inl (cI, 20, .inl (fun _ => 0))), (q27, .inr (6, [.ref q27_q5, .ref q27_q16, .ref q27_q27, .ref q27_q38, .int 0, .int 0, .int 0, .int 0, .int 0, .int 0])), (q27_q5, .inr (4, [.ref q27_q5_q7, .int 0])), (q27_q5_q7, .inl (cI, 8, .inl (fun _ => 0))), (q27_q16, .inr (4, [.ref q27_q16_q7, .int 0])), (q27_q16_q7, .inl (cI, 8, .inl (fun _ => 0))), (q27_q27, .inr (4, [.ref q27_q27_q7, .int 0])), (q27_q27_q7, .inl (cI, 8, .inl (fun _ => 0))), (q27_q38, .inr (4, [.ref q27_q38_q7, .int 0])), (q27_q38_q7, .inl (cI, 8, .inl (fun _ => 0))), (q38, .inr (5, [.ref q38_q7, .ref q38_q15, .ref q38_q23, .ref q38_q31, .int 0, .int 0])), (q38_q7, .inl (cI, 60, .inl (fun _ => 0))), (q38_q15, .inl (cI, 60, .inl (fun _ => 0))), (q38_q23, .inl (cI, 60, .inl (fun _ => 0))), (q38_q31, .inl (cI, 60, .inl (fun _ => 0))), (q49, .inr (2, [.ref q49_q7, .ref q49_q15, .ref q49_q23, .ref q49_q31, .ref q49_q39, .ref q49_q47, .int 0, .int 0, .int 0])), (q49_q7, .inl (cI, 8, .inl (fun _ => 0))), (q49_q15, .inl (cI, 8, .inl (fun _ => 0))), (q49_q23, .inl (cI, 8, .inl (fun _ => 0))), (q49_q31, .inl (cI, 8, .inl (fun _ => 0))), (q49_q39, .inl (cZ, 8, .inl (fun _ => 0))), (q49_q47, .inl (cI, 6, .inl (fun _ => 0))), (q60, .inr (0, [.ref q60_q7, .ref q60_q15, .ref q60_q23, .ref q60_q31, .ref q60_q39, .int 0, .int 0, .int 0, .int 0, .int 0, .int 0])), (q60_q7, .inl (cI, 8, .inl (fun _ => 0))), (q60_q15, .inl (cI, 8, .inl (fun _ => 0))), (q60_q23, .inl (cI, 8, .inl (fun _ => 0))), (q60_q31, .inl (cI, 8, .inl (fun _ => 0))), (q60_q39, .inl (cI, 8, .inl (fun _ => 0)))] := hD
  refine lv_aload_n hx hb (by decide +kernel : decode cX7_init 70 = .ok (.aload_n 0, 1)) rfl (lv_at hl 0 rfl) ?_
  refine lv_iconst (v := 0) hx hb (by decide +kernel : decode cX7_init 71 = .ok (.iconst 0, 1)) (by decide) ?_
  refine va_put (D := (dC, dI)) (ci := 7) (v := .int 0) (ty := .int) (C := RX7) (T := TX7) (N := 7) hx hb hts (fun w h => List.mem_cons_of_mem _ (UW_ok 7 (by decide) w h)) tyX7 tyX7_ok nmX7 hown hK hP hD hS 0 rfl rfl 6 (by decide) (hts (.fieldLink RX7 51 "PoloSeason" "chukkasAfoot" "I") (List.mem_cons_of_mem _ (FL_ok (7, 51, 7, 6) (by decide)))) (fun _ h9 => h9) rfl (by decide +kernel) rfl rfl (Nat.le_of_ble_eq_true rfl) (by decide +kernel : decode cX7_init 72 = .ok (.putfield 51, 3)) (fun H locs hP hD hS => ?_)
  have hP : va_P (dC, dI) vwCl [(h0, .inr (7, [.ref q5, .ref q16, .ref q27, .ref q38, .ref q49, .ref q60, .int 0])), (q5, .inr (3, [.ref q5_q7, .ref q5_q15, .ref q5_q23, .int 0, .int 0])), (q5_q7, .inl (cI, 32, .inl (fun _ => 0))), (q5_q15, .inl (cZ, 32, .inl (fun _ => 0))), (q5_q23, .inl (cI, 32, .inl (fun _ => 0))), (q16, .inr (1, [.ref q16_q7, .int 0])), (q16_q7, .inl (cI, 20, .inl (fun _ => 0))), (q27, .inr (6, [.ref q27_q5, .ref q27_q16, .ref q27_q27, .ref q27_q38, .int 0, .int 0, .int 0, .int 0, .int 0, .int 0])), (q27_q5, .inr (4, [.ref q27_q5_q7, .int 0])), (q27_q5_q7, .inl (cI, 8, .inl (fun _ => 0))), (q27_q16, .inr (4, [.ref q27_q16_q7, .int 0])), (q27_q16_q7, .inl (cI, 8, .inl (fun _ => 0))), (q27_q27, .inr (4, [.ref q27_q27_q7, .int 0])), (q27_q27_q7, .inl (cI, 8, .inl (fun _ => 0))), (q27_q38, .inr (4, [.ref q27_q38_q7, .int 0])), (q27_q38_q7, .inl (cI, 8, .inl (fun _ => 0))), (q38, .inr (5, [.ref q38_q7, .ref q38_q15, .ref q38_q23, .ref q38_q31, .int 0, .int 0])), (q38_q7, .inl (cI, 60, .inl (fun _ => 0))), (q38_q15, .inl (cI, 60, .inl (fun _ => 0))), (q38_q23, .inl (cI, 60, .inl (fun _ => 0))), (q38_q31, .inl (cI, 60, .inl (fun _ => 0))), (q49, .inr (2, [.ref q49_q7, .ref q49_q15, .ref q49_q23, .ref q49_q31, .ref q49_q39, .ref q49_q47, .int 0, .int 0, .int 0])), (q49_q7, .inl (cI, 8, .inl (fun _ => 0))), (q49_q15, .inl (cI, 8, .inl (fun _ => 0))), (q49_q23, .inl (cI, 8, .inl (fun _ => 0))), (q49_q31, .inl (cI, 8, .inl (fun _ => 0))), (q49_q39, .inl (cZ, 8, .inl (fun _ => 0))), (q49_q47, .inl (cI, 6, .inl (fun _ => 0))), (q60, .inr (0, [.ref q60_q7, .ref q60_q15, .ref q60_q23, .ref q60_q31, .ref q60_q39, .int 0, .int 0, .int 0, .int 0, .int 0, .int 0])), (q60_q7, .inl (cI, 8, .inl (fun _ => 0))), (q60_q15, .inl (cI, 8, .inl (fun _ => 0))), (q60_q23, .inl (cI, 8, .inl (fun _ => 0))), (q60_q31, .inl (cI, 8, .inl (fun _ => 0))), (q60_q39, .inl (cI, 8, .inl (fun _ => 0)))] H := hP
  have hD : va_D A [(h0, .inr (7, [.ref q5, .ref q16, .ref q27, .ref q38, .ref q49, .ref q60, .int 0])), (q5, .inr (3, [.ref q5_q7, .ref q5_q15, .ref q5_q23, .int 0, .int 0])), (q5_q7, .inl (cI, 32, .inl (fun _ => 0))), (q5_q15, .inl (cZ, 32, .inl (fun _ => 0))), (q5_q23, .inl (cI, 32, .inl (fun _ => 0))), (q16, .inr (1, [.ref q16_q7, .int 0])), (q16_q7, .inl (cI, 20, .inl (fun _ => 0))), (q27, .inr (6, [.ref q27_q5, .ref q27_q16, .ref q27_q27, .ref q27_q38, .int 0, .int 0, .int 0, .int 0, .int 0, .int 0])), (q27_q5, .inr (4, [.ref q27_q5_q7, .int 0])), (q27_q5_q7, .inl (cI, 8, .inl (fun _ => 0))), (q27_q16, .inr (4, [.ref q27_q16_q7, .int 0])), (q27_q16_q7, .inl (cI, 8, .inl (fun _ => 0))), (q27_q27, .inr (4, [.ref q27_q27_q7, .int 0])), (q27_q27_q7, .inl (cI, 8, .inl (fun _ => 0))), (q27_q38, .inr (4, [.ref q27_q38_q7, .int 0])), (q27_q38_q7, .inl (cI, 8, .inl (fun _ => 0))), (q38, .inr (5, [.ref q38_q7, .ref q38_q15, .ref q38_q23, .ref q38_q31, .int 0, .int 0])), (q38_q7, .inl (cI, 60, .inl (fun _ => 0))), (q38_q15, .inl (cI, 60, .inl (fun _ => 0))), (q38_q23, .inl (cI, 60, .inl (fun _ => 0))), (q38_q31, .inl (cI, 60, .inl (fun _ => 0))), (q49, .inr (2, [.ref q49_q7, .ref q49_q15, .ref q49_q23, .ref q49_q31, .ref q49_q39, .ref q49_q47, .int 0, .int 0, .int 0])), (q49_q7, .inl (cI, 8, .inl (fun _ => 0))), (q49_q15, .inl (cI, 8, .inl (fun _ => 0))), (q49_q23, .inl (cI, 8, .inl (fun _ => 0))), (q49_q31, .inl (cI, 8, .inl (fun _ => 0))), (q49_q39, .inl (cZ, 8, .inl (fun _ => 0))), (q49_q47, .inl (cI, 6, .inl (fun _ => 0))), (q60, .inr (0, [.ref q60_q7, .ref q60_q15, .ref q60_q23, .ref q60_q31, .ref q60_q39, .int 0, .int 0, .int 0, .int 0, .int 0, .int 0])), (q60_q7, .inl (cI, 8, .inl (fun _ => 0))), (q60_q15, .inl (cI, 8, .inl (fun _ => 0))), (q60_q23, .inl (cI, 8, .inl (fun _ => 0))), (q60_q31, .inl (cI, 8, .inl (fun _ => 0))), (q60_q39, .inl (cI, 8, .inl (fun _ => 0)))] := hD
  have hP9 := hP.sub (ws' := [(h0, .inr (7, [.ref q5, .ref q16, .ref q27, .ref q38, .ref q49, .ref q60, .int 0])), (q5, .inr (3, [.ref q5_q7, .ref q5_q15, .ref q5_q23, .int 0, .int 0])), (q5_q7, .inl (cI, 32, .inl (fun _ => 0))), (q5_q15, .inl (cZ, 32, .inl (fun _ => 0))), (q5_q23, .inl (cI, 32, .inl (fun _ => 0))), (q16, .inr (1, [.ref q16_q7, .int 0])), (q16_q7, .inl (cI, 20, .inl (fun _ => 0))), (q27, .inr (6, [.ref q27_q5, .ref q27_q16, .ref q27_q27, .ref q27_q38, .int 0, .int 0, .int 0, .int 0, .int 0, .int 0])), (q27_q5, .inr (4, [.ref q27_q5_q7, .int 0])), (q27_q5_q7, .inl (cI, 8, .inl (fun _ => 0))), (q27_q16, .inr (4, [.ref q27_q16_q7, .int 0])), (q27_q16_q7, .inl (cI, 8, .inl (fun _ => 0))), (q27_q27, .inr (4, [.ref q27_q27_q7, .int 0])), (q27_q27_q7, .inl (cI, 8, .inl (fun _ => 0))), (q27_q38, .inr (4, [.ref q27_q38_q7, .int 0])), (q27_q38_q7, .inl (cI, 8, .inl (fun _ => 0))), (q38, .inr (5, [.ref q38_q7, .ref q38_q15, .ref q38_q23, .ref q38_q31, .int 0, .int 0])), (q38_q7, .inl (cI, 60, .inl (fun _ => 0))), (q38_q15, .inl (cI, 60, .inl (fun _ => 0))), (q38_q23, .inl (cI, 60, .inl (fun _ => 0))), (q38_q31, .inl (cI, 60, .inl (fun _ => 0))), (q49, .inr (2, [.ref q49_q7, .ref q49_q15, .ref q49_q23, .ref q49_q31, .ref q49_q39, .ref q49_q47, .int 0, .int 0, .int 0])), (q49_q7, .inl (cI, 8, .inl (fun _ => 0))), (q49_q15, .inl (cI, 8, .inl (fun _ => 0))), (q49_q23, .inl (cI, 8, .inl (fun _ => 0))), (q49_q31, .inl (cI, 8, .inl (fun _ => 0))), (q49_q39, .inl (cZ, 8, .inl (fun _ => 0))), (q49_q47, .inl (cI, 6, .inl (fun _ => 0))), (q60, .inr (0, [.ref q60_q7, .ref q60_q15, .ref q60_q23, .ref q60_q31, .ref q60_q39, .int 0, .int 0, .int 0, .int 0, .int 0, .int 0])), (q60_q7, .inl (cI, 8, .inl (fun _ => 0))), (q60_q15, .inl (cI, 8, .inl (fun _ => 0))), (q60_q23, .inl (cI, 8, .inl (fun _ => 0))), (q60_q31, .inl (cI, 8, .inl (fun _ => 0))), (q60_q39, .inl (cI, 8, .inl (fun _ => 0)))]) [0, 1, 2, 3, 4, 5, 6, 7, 8, 9, 10, 11, 12, 13, 14, 15, 16, 17, 18, 19, 20, 21, 22, 23, 24, 25, 26, 27, 28, 29, 30, 31, 32, 33] rfl
  have hD9 := hD.sub (ws' := [(h0, .inr (7, [.ref q5, .ref q16, .ref q27, .ref q38, .ref q49, .ref q60, .int 0])), (q5, .inr (3, [.ref q5_q7, .ref q5_q15, .ref q5_q23, .int 0, .int 0])), (q5_q7, .inl (cI, 32, .inl (fun _ => 0))), (q5_q15, .inl (cZ, 32, .inl (fun _ => 0))), (q5_q23, .inl (cI, 32, .inl (fun _ => 0))), (q16, .inr (1, [.ref q16_q7, .int 0])), (q16_q7, .inl (cI, 20, .inl (fun _ => 0))), (q27, .inr (6, [.ref q27_q5, .ref q27_q16, .ref q27_q27, .ref q27_q38, .int 0, .int 0, .int 0, .int 0, .int 0, .int 0])), (q27_q5, .inr (4, [.ref q27_q5_q7, .int 0])), (q27_q5_q7, .inl (cI, 8, .inl (fun _ => 0))), (q27_q16, .inr (4, [.ref q27_q16_q7, .int 0])), (q27_q16_q7, .inl (cI, 8, .inl (fun _ => 0))), (q27_q27, .inr (4, [.ref q27_q27_q7, .int 0])), (q27_q27_q7, .inl (cI, 8, .inl (fun _ => 0))), (q27_q38, .inr (4, [.ref q27_q38_q7, .int 0])), (q27_q38_q7, .inl (cI, 8, .inl (fun _ => 0))), (q38, .inr (5, [.ref q38_q7, .ref q38_q15, .ref q38_q23, .ref q38_q31, .int 0, .int 0])), (q38_q7, .inl (cI, 60, .inl (fun _ => 0))), (q38_q15, .inl (cI, 60, .inl (fun _ => 0))), (q38_q23, .inl (cI, 60, .inl (fun _ => 0))), (q38_q31, .inl (cI, 60, .inl (fun _ => 0))), (q49, .inr (2, [.ref q49_q7, .ref q49_q15, .ref q49_q23, .ref q49_q31, .ref q49_q39, .ref q49_q47, .int 0, .int 0, .int 0])), (q49_q7, .inl (cI, 8, .inl (fun _ => 0))), (q49_q15, .inl (cI, 8, .inl (fun _ => 0))), (q49_q23, .inl (cI, 8, .inl (fun _ => 0))), (q49_q31, .inl (cI, 8, .inl (fun _ => 0))), (q49_q39, .inl (cZ, 8, .inl (fun _ => 0))), (q49_q47, .inl (cI, 6, .inl (fun _ => 0))), (q60, .inr (0, [.ref q60_q7, .ref q60_q15, .ref q60_q23, .ref q60_q31, .ref q60_q39, .int 0, .int 0, .int 0, .int 0, .int 0, .int 0])), (q60_q7, .inl (cI, 8, .inl (fun _ => 0))), (q60_q15, .inl (cI, 8, .inl (fun _ => 0))), (q60_q23, .inl (cI, 8, .inl (fun _ => 0))), (q60_q31, .inl (cI, 8, .inl (fun _ => 0))), (q60_q39, .inl (cI, 8, .inl (fun _ => 0)))]) [0, 1, 2, 3, 4, 5, 6, 7, 8, 9, 10, 11, 12, 13, 14, 15, 16, 17, 18, 19, 20, 21, 22, 23, 24, 25, 26, 27, 28, 29, 30, 31, 32, 33] (by decide) rfl
  refine W.widen (k := 33) (n := 525) (by decide) (by decide) ?_
  exact W.vret hx hb hr (fun t ht hW => ⟨⟨(), rfl, trivial, q5, q5_q7, q5_q15, q5_q23, q16, q16_q7, q27, q27_q5, q27_q5_q7, q27_q16, q27_q16_q7, q27_q27, q27_q27_q7, q27_q38, q27_q38_q7, q38, q38_q7, q38_q15, q38_q23, q38_q31, q49, q49_q7, q49_q15, q49_q23, q49_q31, q49_q39, q49_q47, q60, q60_q7, q60_q15, q60_q23, q60_q31, q60_q39, by rw [ht]; exact hP9, hD9⟩, hS.F ht⟩) hS.2.2 (by decide +kernel : decode cX7_init 75 = .ok (.return_, 1))
end
section
set_option maxRecDepth 100000 in
theorem cwd_47 : (Cond.methodLink RX8 1 objectInit) ∈ GW := gw_of (p := 922) (by decide +kernel) rfl
set_option maxRecDepth 100000 in
theorem cwd_48 : (Cond.constant RX8 64 52488) ∈ GW := gw_of (p := 923) (by decide +kernel) rfl
set_option maxHeartbeats 4000000 in
set_option maxRecDepth 100000 in
/-- PoloSeasonModel(): the world that it makes -/
theorem k_X8 (l : Launch) (dC : Nat → ClassId) (dI : Nat → Nat → Nat) (cI cZ cJ : ClassId) (h0 sz : Nat) : Met l yX8_init (wsOf 120) ({ frames := 1, cells := 28, slots := 52994, locals := 12 }) (va_Pc [.ref h0] (kb_pre dC dI cI cZ cJ (h0, .inr (8, [.int 0, .null, .null, .int 0, .null, .int 0, .int 0, .int 0, .int 0, .int 0, .int 0, .int 0, .null, .int 0, .null, .int 0, .null, .null, .int 0, .int 0, .null, .null, .null, .int 0, .int 0, .null, .null, .null, .null, .null, .int 0, .int 0, .int 0, .null, .null, .int 0, .null, .null, .int 0, .null, .null, .int 0, .null, .null, .int 0, .int 0, .int 0, .int 0, .int 0, .int 0, .null, .null, .null, .null, .null])) sz)) (va_Qv (fun _ : Unit => True) (fun _ t => ∃ q7 q15 q23 q31 q39 q47 q55 q63 q71 q79 q87 q95 q103 q111 q119 q127 q135 q143 q151 q159 q167 q175 q183 q191 q199 q207 q215 q223 : Nat, va_P (dC, dI) vwCl [(h0, .inr (8, [.int 0, .ref q7, .ref q15, .int 0, .ref q23, .int 0, .int 0, .int 0, .int 0, .int 0, .int 0, .int 0, .ref q31, .int 0, .ref q39, .int 0, .ref q47, .ref q55, .int 0, .int 0, .ref q63, .ref q71, .ref q79, .int 0, .int 0, .ref q87, .ref q95, .ref q103, .ref q111, .ref q119, .int 0, .int 0, .int 0, .ref q127, .ref q135, .int 0, .ref q143, .ref q151, .int 0, .ref q159, .ref q167, .int 0, .ref q175, .ref q183, .int 0, .int 0, .int 0, .int 0, .int 0, .int 0, .ref q191, .ref q199, .ref q207, .ref q215, .ref q223])), (q7, .inl (cI, 32, .inl (fun _ => 0))), (q15, .inl (cI, 32, .inl (fun j => if j < 32 then -1 else 0))), (q23, .inl (cI, 32, .inl (fun _ => 0))), (q31, .inl (cI, 8, .inl (fun _ => 0))), (q39, .inl (cI, 20, .inl (fun _ => 0))), (q47, .inl (cI, 8, .inl (fun _ => 0))), (q55, .inl (cI, 8, .inl (fun _ => 0))), (q63, .inl (cI, 8, .inl (fun _ => 0))), (q71, .inl (cI, 8, .inl (fun _ => 0))), (q79, .inl (cI, 8, .inl (fun _ => 0))), (q87, .inl (cI, 8, .inl (fun _ => 0))), (q95, .inl (cI, 60, .inl (fun _ => 0))), (q103, .inl (cI, 60, .inl (fun _ => 0))), (q111, .inl (cI, 60, .inl (fun _ => 0))), (q119, .inl (cI, 60, .inl (fun _ => 0))), (q127, .inl (cI, 8, .inl (fun _ => 0))), (q135, .inl (cI, 8, .inl (fun _ => 0))), (q143, .inl (cI, 8, .inl (fun _ => 0))), (q151, .inl (cI, 52488, .inl (fun _ => 0))), (q159, .inl (cI, 8, .inl (fun _ => 0))), (q167, .inl (cI, 8, .inl (fun _ => 0))), (q175, .inl (cI, 6, .inl (fun _ => 0))), (q183, .inl (cI, 8, .inl (fun _ => 0))), (q191, .inl (cI, 8, .inl (fun _ => 0))), (q199, .inl (cI, 8, .inl (fun _ => 0))), (q207, .inl (cI, 8, .inl (fun _ => 0))), (q215, .inl (cI, 8, .inl (fun _ => 0))), (q223, .inl (cI, 8, .inl (fun _ => 0)))] t.heap ∧ va_D (va_A [(h0, .inr (8, [.int 0, .null, .null, .int 0, .null, .int 0, .int 0, .int 0, .int 0, .int 0, .int 0, .int 0, .null, .int 0, .null, .int 0, .null, .null, .int 0, .int 0, .null, .null, .null, .int 0, .int 0, .null, .null, .null, .null, .null, .int 0, .int 0, .int 0, .null, .null, .int 0, .null, .null, .int 0, .null, .null, .int 0, .null, .null, .int 0, .int 0, .int 0, .int 0, .int 0, .int 0, .null, .null, .null, .null, .null]))] sz) [(h0, .inr (8, [.int 0, .ref q7, .ref q15, .int 0, .ref q23, .int 0, .int 0, .int 0, .int 0, .int 0, .int 0, .int 0, .ref q31, .int 0, .ref q39, .int 0, .ref q47, .ref q55, .int 0, .int 0, .ref q63, .ref q71, .ref q79, .int 0, .int 0, .ref q87, .ref q95, .ref q103, .ref q111, .ref q119, .int 0, .int 0, .int 0, .ref q127, .ref q135, .int 0, .ref q143, .ref q151, .int 0, .ref q159, .ref q167, .int 0, .ref q175, .ref q183, .int 0, .int 0, .int 0, .int 0, .int 0, .int 0, .ref q191, .ref q199, .ref q207, .ref q215, .ref q223])), (q7, .inl (cI, 32, .inl (fun _ => 0))), (q15, .inl (cI, 32, .inl (fun j => if j < 32 then -1 else 0))), (q23, .inl (cI, 32, .inl (fun _ => 0))), (q31, .inl (cI, 8, .inl (fun _ => 0))), (q39, .inl (cI, 20, .inl (fun _ => 0))), (q47, .inl (cI, 8, .inl (fun _ => 0))), (q55, .inl (cI, 8, .inl (fun _ => 0))), (q63, .inl (cI, 8, .inl (fun _ => 0))), (q71, .inl (cI, 8, .inl (fun _ => 0))), (q79, .inl (cI, 8, .inl (fun _ => 0))), (q87, .inl (cI, 8, .inl (fun _ => 0))), (q95, .inl (cI, 60, .inl (fun _ => 0))), (q103, .inl (cI, 60, .inl (fun _ => 0))), (q111, .inl (cI, 60, .inl (fun _ => 0))), (q119, .inl (cI, 60, .inl (fun _ => 0))), (q127, .inl (cI, 8, .inl (fun _ => 0))), (q135, .inl (cI, 8, .inl (fun _ => 0))), (q143, .inl (cI, 8, .inl (fun _ => 0))), (q151, .inl (cI, 52488, .inl (fun _ => 0))), (q159, .inl (cI, 8, .inl (fun _ => 0))), (q167, .inl (cI, 8, .inl (fun _ => 0))), (q175, .inl (cI, 6, .inl (fun _ => 0))), (q183, .inl (cI, 8, .inl (fun _ => 0))), (q191, .inl (cI, 8, .inl (fun _ => 0))), (q199, .inl (cI, 8, .inl (fun _ => 0))), (q207, .inl (cI, 8, .inl (fun _ => 0))), (q215, .inl (cI, 8, .inl (fun _ => 0))), (q223, .inl (cI, 8, .inl (fun _ => 0)))]) (va_A [(h0, .inr (8, [.int 0, .null, .null, .int 0, .null, .int 0, .int 0, .int 0, .int 0, .int 0, .int 0, .int 0, .null, .int 0, .null, .int 0, .null, .null, .int 0, .int 0, .null, .null, .null, .int 0, .int 0, .null, .null, .null, .null, .null, .int 0, .int 0, .int 0, .null, .null, .int 0, .null, .null, .int 0, .null, .null, .int 0, .null, .null, .int 0, .int 0, .int 0, .int 0, .int 0, .int 0, .null, .null, .null, .null, .null]))] sz)) 28 52994 (va_A [(h0, .inr (8, [.int 0, .null, .null, .int 0, .null, .int 0, .int 0, .int 0, .int 0, .int 0, .int 0, .int 0, .null, .int 0, .null, .int 0, .null, .null, .int 0, .int 0, .null, .null, .null, .int 0, .int 0, .null, .null, .null, .null, .null, .int 0, .int 0, .int 0, .null, .null, .int 0, .null, .null, .int 0, .null, .null, .int 0, .null, .null, .int 0, .int 0, .int 0, .int 0, .int 0, .int 0, .null, .null, .null, .null, .null]))] sz) := by
  refine Met.ofW (cc := cX8_init) (maxL := 2) (ret := none) (by decide) rfl ?_
  intro p e s m args below meth c s₁ B hml hv
  obtain ⟨rfl, hsz, hP, hK, hD0⟩ := hv
  have hx := B.exec
  have hb := B.bytes
  have hr := B.returns
  have hts := atoms_spec (ws := wsOf 120) B.pre
  have hown : s.vm.findClass RX8 = some m.cls := findClass_of_methodNamed B.named
  have hlocks := B.notSynchronized
  have hin : meth.name = "<init>" := (name_of_methodNamed B.named B.method).1
  subst hsz
  have hD := hD0.self (sz := s.heap.size)
  generalize hAe : va_A [(h0, .inr (8, [.int 0, .null, .null, .int 0, .null, .int 0, .int 0, .int 0, .int 0, .int 0, .int 0, .int 0, .null, .int 0, .null, .int 0, .null, .null, .int 0, .int 0, .null, .null, .null, .int 0, .int 0, .null, .null, .null, .null, .null, .int 0, .int 0, .int 0, .null, .null, .int 0, .null, .null, .int 0, .null, .null, .int 0, .null, .null, .int 0, .int 0, .int 0, .int 0, .int 0, .int 0, .null, .null, .null, .null, .null]))] s.heap.size = A at hD ⊢
  have hA : ∀ q : Nat, s.heap.size ≤ q → A q := fun q h => by rw [← hAe]; exact Or.inr h
  have hS : va_S A s.heap s.heap [] := va_S.rf
  have hP : va_P (dC, dI) vwCl [(h0, .inr (8, [.int 0, .null, .null, .int 0, .null, .int 0, .int 0, .int 0, .int 0, .int 0, .int 0, .int 0, .null, .int 0, .null, .int 0, .null, .null, .int 0, .int 0, .null, .null, .null, .int 0, .int 0, .null, .null, .null, .null, .null, .int 0, .int 0, .int 0, .null, .null, .int 0, .null, .null, .int 0, .null, .null, .int 0, .null, .null, .int 0, .int 0, .int 0, .int 0, .int 0, .int 0, .null, .null, .null, .null, .null]))] s.heap := hP
  have hl := lv_entry ([.ref h0]) (n := 2) (Nat.le_of_ble_eq_true rfl)
  rw [lg_entry_eq]
  generalize (lg_sl ([.ref h0]) ++ List.replicate (2 - (lg_sl ([.ref h0])).length) Slot.unset).toArray = ls at hl ⊢
  have hl : lv_has ls 2 [(0, .ref h0)] := hl
  refine lv_aload_n hx hb (by decide +kernel : decode cX8_init 0 = .ok (.aload_n 0, 1)) rfl (lv_at hl 0 rfl) ?_
  refine W.objInit hx hb hown (hts (Cond.methodLink RX8 1 objectInit) (List.mem_cons_of_mem _ cwd_47)) (hts (Cond.instanceMethod objectInit) (List.mem_cons_of_mem _ cwd_1)) (hts (Cond.code objectInit ⟨#[0xb1]⟩ 1 none) (List.mem_cons_of_mem _ cwd_2)) rfl (by rw [hml]; exact hl.1) rfl (by decide +kernel : decode cX8_init 1 = .ok (.invokespecial 1, 3)) (Nat.le_of_ble_eq_true rfl) (Nat.le_of_ble_eq_true rfl) ?_
  refine W.eq (g2 := F0 m 4 ls []) rfl ?_
  refine lv_aload_n hx hb (by decide +kernel : decode cX8_init 4 = .ok (.aload_n 0, 1)) rfl (lv_at hl 0 rfl) ?_
  refine lv_bipush (v := 32) hx hb (by decide +kernel : decode cX8_init 5 = .ok (.bipush 32, 2)) (by decide) ?_
  refine va_newa (atype := .int) (ty := .int) (a0 := (32, .inl (fun _ => 0))) (N' := 32) hx hb (hts (Cond.arrayClass .int) (List.mem_cons_of_mem _ cwd_3)) rfl hK hP hD hS hA (fun _ => rfl) (by decide) (by decide) (by decide) (show 0 + 1 ≤ 28 by decide) (show 0 + 32 ≤ 52994 by decide) (by decide +kernel : decode cX8_init 7 = .ok (.newarray .int, 2)) (fun q7 cA H hK hP hD hS => ?_)
  cases Option.some.inj ((hK.2 3 _ rfl).2.symm.trans (hK.2 0 _ rfl).2)
  replace hK := hK.sub (tys' := [(cI, .int), (cZ, .boolean), (cJ, .long)]) [0, 1, 2] rfl
  have hP : va_P (dC, dI) vwCl [(h0, .inr (8, [.int 0, .null, .null, .int 0, .null, .int 0, .int 0, .int 0, .int 0, .int 0, .int 0, .int 0, .null, .int 0, .null, .int 0, .null, .null, .int 0, .int 0, .null, .null, .null, .int 0, .int 0, .null, .null, .null, .null, .null, .int 0, .int 0, .int 0, .null, .null, .int 0, .null, .null, .int 0, .null, .null, .int 0, .null, .null, .int 0, .int 0, .int 0, .int 0, .int 0, .int 0, .null, .null, .null, .null, .null])), (q7, .inl (cI, 32, .inl (fun _ => 0)))] H := hP
  have hD : va_D A [(h0, .inr (8, [.int 0, .null, .null, .int 0, .null, .int 0, .int 0, .int 0, .int 0, .int 0, .int 0, .int 0, .null, .int 0, .null, .int 0, .null, .null, .int 0, .int 0, .null, .null, .null, .int 0, .int 0, .null, .null, .null, .null, .null, .int 0, .int 0, .int 0, .null, .null, .int 0, .null, .null, .int 0, .null, .null, .int 0, .null, .null, .int 0, .int 0, .int 0, .int 0, .int 0, .int 0, .null, .null, .null, .null, .null])), (q7, .inl (cI, 32, .inl (fun _ => 0)))] := hD
  refine W.widen (k := 1) (n := 32) (by omega) (by omega) ?_
  refine va_putF (D := (dC, dI)) (ci := 8) (v := .ref q7) (ty := .array .int) (C := RX8) (T := TX8) (N := 55) hx hb hts (fun w h => List.mem_cons_of_mem _ (UW_ok 8 (by decide) w h)) tyX8 tyX8_ok nmX8 hown hK hP hD hS 0 rfl rfl 1 (by decide) (hts (.fieldLink RX8 9 "PoloSeasonModel" "handicaps" "[I") (List.mem_cons_of_mem _ (FL_ok (8, 9, 8, 1) (by decide)))) (fun _ h9 => h9) rfl hin rfl (by decide +kernel) rfl rfl (Nat.le_of_ble_eq_true rfl) (by decide +kernel : decode cX8_init 9 = .ok (.putfield 9, 3)) (fun H locs hP hD hS => ?_)
  have hP : va_P (dC, dI) vwCl [(h0, .inr (8, [.int 0, .ref q7, .null, .int 0, .null, .int 0, .int 0, .int 0, .int 0, .int 0, .int 0, .int 0, .null, .int 0, .null, .int 0, .null, .null, .int 0, .int 0, .null, .null, .null, .int 0, .int 0, .null, .null, .null, .null, .null, .int 0, .int 0, .int 0, .null, .null, .int 0, .null, .null, .int 0, .null, .null, .int 0, .null, .null, .int 0, .int 0, .int 0, .int 0, .int 0, .int 0, .null, .null, .null, .null, .null])), (q7, .inl (cI, 32, .inl (fun _ => 0)))] H := hP
  have hD : va_D A [(h0, .inr (8, [.int 0, .ref q7, .null, .int 0, .null, .int 0, .int 0, .int 0, .int 0, .int 0, .int 0, .int 0, .null, .int 0, .null, .int 0, .null, .null, .int 0, .int 0, .null, .null, .null, .int 0, .int 0, .null, .null, .null, .null, .null, .int 0, .int 0, .int 0, .null, .null, .int 0, .null, .null, .int 0, .null, .null, .int 0, .null, .null, .int 0, .int 0, .int 0, .int 0, .int 0, .int 0, .null, .null, .null, .null, .null])), (q7, .inl (cI, 32, .inl (fun _ => 0)))] := hD
  refine lv_aload_n hx hb (by decide +kernel : decode cX8_init 12 = .ok (.aload_n 0, 1)) rfl (lv_at hl 0 rfl) ?_
  refine lv_bipush (v := 32) hx hb (by decide +kernel : decode cX8_init 13 = .ok (.bipush 32, 2)) (by decide) ?_
  refine va_newa (atype := .int) (ty := .int) (a0 := (32, .inl (fun _ => 0))) (N' := 32) hx hb (hts (Cond.arrayClass .int) (List.mem_cons_of_mem _ cwd_3)) rfl hK hP hD hS hA (fun _ => rfl) (by decide) (by decide) (by decide) (show 1 + 1 ≤ 28 by decide) (show 32 + 32 ≤ 52994 by decide) (by decide +kernel : decode cX8_init 15 = .ok (.newarray .int, 2)) (fun q15 cA H hK hP hD hS => ?_)
  cases Option.some.inj ((hK.2 3 _ rfl).2.symm.trans (hK.2 0 _ rfl).2)
  replace hK := hK.sub (tys' := [(cI, .int), (cZ, .boolean), (cJ, .long)]) [0, 1, 2] rfl
  have hP : va_P (dC, dI) vwCl [(h0, .inr (8, [.int 0, .ref q7, .null, .int 0, .null, .int 0, .int 0, .int 0, .int 0, .int 0, .int 0, .int 0, .null, .int 0, .null, .int 0, .null, .null, .int 0, .int 0, .null, .null, .null, .int 0, .int 0, .null, .null, .null, .null, .null, .int 0, .int 0, .int 0, .null, .null, .int 0, .null, .null, .int 0, .null, .null, .int 0, .null, .null, .int 0, .int 0, .int 0, .int 0, .int 0, .int 0, .null, .null, .null, .null, .null])), (q7, .inl (cI, 32, .inl (fun _ => 0))), (q15, .inl (cI, 32, .inl (fun _ => 0)))] H := hP
  have hD : va_D A [(h0, .inr (8, [.int 0, .ref q7, .null, .int 0, .null, .int 0, .int 0, .int 0, .int 0, .int 0, .int 0, .int 0, .null, .int 0, .null, .int 0, .null, .null, .int 0, .int 0, .null, .null, .null, .int 0, .int 0, .null, .null, .null, .null, .null, .int 0, .int 0, .int 0, .null, .null, .int 0, .null, .null, .int 0, .null, .null, .int 0, .null, .null, .int 0, .int 0, .int 0, .int 0, .int 0, .int 0, .null, .null, .null, .null, .null])), (q7, .inl (cI, 32, .inl (fun _ => 0))), (q15, .inl (cI, 32, .inl (fun _ => 0)))] := hD
  refine W.widen (k := 2) (n := 64) (by omega) (by omega) ?_
  refine va_putF (D := (dC, dI)) (ci := 8) (v := .ref q15) (ty := .array .int) (C := RX8) (T := TX8) (N := 55) hx hb hts (fun w h => List.mem_cons_of_mem _ (UW_ok 8 (by decide) w h)) tyX8 tyX8_ok nmX8 hown hK hP hD hS 0 rfl rfl 2 (by decide) (hts (.fieldLink RX8 13 "PoloSeasonModel" "teamOf" "[I") (List.mem_cons_of_mem _ (FL_ok (8, 13, 8, 2) (by decide)))) (fun _ h9 => h9) rfl hin rfl (by decide +kernel) rfl rfl (Nat.le_of_ble_eq_true rfl) (by decide +kernel : decode cX8_init 17 = .ok (.putfield 13, 3)) (fun H locs hP hD hS => ?_)
  have hP : va_P (dC, dI) vwCl [(h0, .inr (8, [.int 0, .ref q7, .ref q15, .int 0, .null, .int 0, .int 0, .int 0, .int 0, .int 0, .int 0, .int 0, .null, .int 0, .null, .int 0, .null, .null, .int 0, .int 0, .null, .null, .null, .int 0, .int 0, .null, .null, .null, .null, .null, .int 0, .int 0, .int 0, .null, .null, .int 0, .null, .null, .int 0, .null, .null, .int 0, .null, .null, .int 0, .int 0, .int 0, .int 0, .int 0, .int 0, .null, .null, .null, .null, .null])), (q7, .inl (cI, 32, .inl (fun _ => 0))), (q15, .inl (cI, 32, .inl (fun _ => 0)))] H := hP
  have hD : va_D A [(h0, .inr (8, [.int 0, .ref q7, .ref q15, .int 0, .null, .int 0, .int 0, .int 0, .int 0, .int 0, .int 0, .int 0, .null, .int 0, .null, .int 0, .null, .null, .int 0, .int 0, .null, .null, .null, .int 0, .int 0, .null, .null, .null, .null, .null, .int 0, .int 0, .int 0, .null, .null, .int 0, .null, .null, .int 0, .null, .null, .int 0, .null, .null, .int 0, .int 0, .int 0, .int 0, .int 0, .int 0, .null, .null, .null, .null, .null])), (q7, .inl (cI, 32, .inl (fun _ => 0))), (q15, .inl (cI, 32, .inl (fun _ => 0)))] := hD
  refine lv_aload_n hx hb (by decide +kernel : decode cX8_init 20 = .ok (.aload_n 0, 1)) rfl (lv_at hl 0 rfl) ?_
  refine lv_bipush (v := 32) hx hb (by decide +kernel : decode cX8_init 21 = .ok (.bipush 32, 2)) (by decide) ?_
  refine va_newa (atype := .int) (ty := .int) (a0 := (32, .inl (fun _ => 0))) (N' := 32) hx hb (hts (Cond.arrayClass .int) (List.mem_cons_of_mem _ cwd_3)) rfl hK hP hD hS hA (fun _ => rfl) (by decide) (by decide) (by decide) (show 2 + 1 ≤ 28 by decide) (show 64 + 32 ≤ 52994 by decide) (by decide +kernel : decode cX8_init 23 = .ok (.newarray .int, 2)) (fun q23 cA H hK hP hD hS => ?_)
  cases Option.some.inj ((hK.2 3 _ rfl).2.symm.trans (hK.2 0 _ rfl).2)
  replace hK := hK.sub (tys' := [(cI, .int), (cZ, .boolean), (cJ, .long)]) [0, 1, 2] rfl
  have hP : va_P (dC, dI) vwCl [(h0, .inr (8, [.int 0, .ref q7, .ref q15, .int 0, .null, .int 0, .int 0, .int 0, .int 0, .int 0, .int 0, .int 0, .null, .int 0, .null, .int 0, .null, .null, .int 0, .int 0, .null, .null, .null, .int 0, .int 0, .null, .null, .null, .null, .null, .int 0, .int 0, .int 0, .null, .null, .int 0, .null, .null, .int 0, .null, .null, .int 0, .null, .null, .int 0, .int 0, .int 0, .int 0, .int 0, .int 0, .null, .null, .null, .null, .null])), (q7, .inl (cI, 32, .inl (fun _ => 0))), (q15, .inl (cI, 32, .inl (fun _ => 0))), (q23, .inl (cI, 32, .inl (fun _ => 0)))] H := hP
  have hD : va_D A [(h0, .inr (8, [.int 0, .ref q7, .ref q15, .int 0, .null, .int 0, .int 0, .int 0, .int 0, .int 0, .int 0, .int 0, .null, .int 0, .null, .int 0, .null, .null, .int 0, .int 0, .null, .null, .null, .int 0, .int 0, .null, .null, .null, .null, .null, .int 0, .int 0, .int 0, .null, .null, .int 0, .null, .null, .int 0, .null, .null, .int 0, .null, .null, .int 0, .int 0, .int 0, .int 0, .int 0, .int 0, .null, .null, .null, .null, .null])), (q7, .inl (cI, 32, .inl (fun _ => 0))), (q15, .inl (cI, 32, .inl (fun _ => 0))), (q23, .inl (cI, 32, .inl (fun _ => 0)))] := hD
  refine W.widen (k := 3) (n := 96) (by omega) (by omega) ?_
  refine va_putF (D := (dC, dI)) (ci := 8) (v := .ref q23) (ty := .array .int) (C := RX8) (T := TX8) (N := 55) hx hb hts (fun w h => List.mem_cons_of_mem _ (UW_ok 8 (by decide) w h)) tyX8 tyX8_ok nmX8 hown hK hP hD hS 0 rfl rfl 4 (by decide) (hts (.fieldLink RX8 16 "PoloSeasonModel" "members" "[I") (List.mem_cons_of_mem _ (FL_ok (8, 16, 8, 4) (by decide)))) (fun _ h9 => h9) rfl hin rfl (by decide +kernel) rfl rfl (Nat.le_of_ble_eq_true rfl) (by decide +kernel : decode cX8_init 25 = .ok (.putfield 16, 3)) (fun H locs hP hD hS => ?_)
  have hP : va_P (dC, dI) vwCl [(h0, .inr (8, [.int 0, .ref q7, .ref q15, .int 0, .ref q23, .int 0, .int 0, .int 0, .int 0, .int 0, .int 0, .int 0, .null, .int 0, .null, .int 0, .null, .null, .int 0, .int 0, .null, .null, .null, .int 0, .int 0, .null, .null, .null, .null, .null, .int 0, .int 0, .int 0, .null, .null, .int 0, .null, .null, .int 0, .null, .null, .int 0, .null, .null, .int 0, .int 0, .int 0, .int 0, .int 0, .int 0, .null, .null, .null, .null, .null])), (q7, .inl (cI, 32, .inl (fun _ => 0))), (q15, .inl (cI, 32, .inl (fun _ => 0))), (q23, .inl (cI, 32, .inl (fun _ => 0)))] H := hP
  have hD : va_D A [(h0, .inr (8, [.int 0, .ref q7, .ref q15, .int 0, .ref q23, .int 0, .int 0, .int 0, .int 0, .int 0, .int 0, .int 0, .null, .int 0, .null, .int 0, .null, .null, .int 0, .int 0, .null, .null, .null, .int 0, .int 0, .null, .null, .null, .null, .null, .int 0, .int 0, .int 0, .null, .null, .int 0, .null, .null, .int 0, .null, .null, .int 0, .null, .null, .int 0, .int 0, .int 0, .int 0, .int 0, .int 0, .null, .null, .null, .null, .null])), (q7, .inl (cI, 32, .inl (fun _ => 0))), (q15, .inl (cI, 32, .inl (fun _ => 0))), (q23, .inl (cI, 32, .inl (fun _ => 0)))] := hD
  refine lv_aload_n hx hb (by decide +kernel : decode cX8_init 28 = .ok (.aload_n 0, 1)) rfl (lv_at hl 0 rfl) ?_
  refine lv_bipush (v := 8) hx hb (by decide +kernel : decode cX8_init 29 = .ok (.bipush 8, 2)) (by decide) ?_
  refine va_newa (atype := .int) (ty := .int) (a0 := (8, .inl (fun _ => 0))) (N' := 8) hx hb (hts (Cond.arrayClass .int) (List.mem_cons_of_mem _ cwd_3)) rfl hK hP hD hS hA (fun _ => rfl) (by decide) (by decide) (by decide) (show 3 + 1 ≤ 28 by decide) (show 96 + 8 ≤ 52994 by decide) (by decide +kernel : decode cX8_init 31 = .ok (.newarray .int, 2)) (fun q31 cA H hK hP hD hS => ?_)
  cases Option.some.inj ((hK.2 3 _ rfl).2.symm.trans (hK.2 0 _ rfl).2)
  replace hK := hK.sub (tys' := [(cI, .int), (cZ, .boolean), (cJ, .long)]) [0, 1, 2] rfl
  have hP : va_P (dC, dI) vwCl [(h0, .inr (8, [.int 0, .ref q7, .ref q15, .int 0, .ref q23, .int 0, .int 0, .int 0, .int 0, .int 0, .int 0, .int 0, .null, .int 0, .null, .int 0, .null, .null, .int 0, .int 0, .null, .null, .null, .int 0, .int 0, .null, .null, .null, .null, .null, .int 0, .int 0, .int 0, .null, .null, .int 0, .null, .null, .int 0, .null, .null, .int 0, .null, .null, .int 0, .int 0, .int 0, .int 0, .int 0, .int 0, .null, .null, .null, .null, .null])), (q7, .inl (cI, 32, .inl (fun _ => 0))), (q15, .inl (cI, 32, .inl (fun _ => 0))), (q23, .inl (cI, 32, .inl (fun _ => 0))), (q31, .inl (cI, 8, .inl (fun _ => 0)))] H := hP
  have hD : va_D A [(h0, .inr (8, [.int 0, .ref q7, .ref q15, .int 0, .ref q23, .int 0, .int 0, .int 0, .int 0, .int 0, .int 0, .int 0, .null, .int 0, .null, .int 0, .null, .null, .int 0, .int 0, .null, .null, .null, .int 0, .int 0, .null, .null, .null, .null, .null, .int 0, .int 0, .int 0, .null, .null, .int 0, .null, .null, .int 0, .null, .null, .int 0, .null, .null, .int 0, .int 0, .int 0, .int 0, .int 0, .int 0, .null, .null, .null, .null, .null])), (q7, .inl (cI, 32, .inl (fun _ => 0))), (q15, .inl (cI, 32, .inl (fun _ => 0))), (q23, .inl (cI, 32, .inl (fun _ => 0))), (q31, .inl (cI, 8, .inl (fun _ => 0)))] := hD
  refine W.widen (k := 4) (n := 104) (by omega) (by omega) ?_
  refine va_putF (D := (dC, dI)) (ci := 8) (v := .ref q31) (ty := .array .int) (C := RX8) (T := TX8) (N := 55) hx hb hts (fun w h => List.mem_cons_of_mem _ (UW_ok 8 (by decide) w h)) tyX8 tyX8_ok nmX8 hown hK hP hD hS 0 rfl rfl 12 (by decide) (hts (.fieldLink RX8 19 "PoloSeasonModel" "entered" "[I") (List.mem_cons_of_mem _ (FL_ok (8, 19, 8, 12) (by decide)))) (fun _ h9 => h9) rfl hin rfl (by decide +kernel) rfl rfl (Nat.le_of_ble_eq_true rfl) (by decide +kernel : decode cX8_init 33 = .ok (.putfield 19, 3)) (fun H locs hP hD hS => ?_)
  have hP : va_P (dC, dI) vwCl [(h0, .inr (8, [.int 0, .ref q7, .ref q15, .int 0, .ref q23, .int 0, .int 0, .int 0, .int 0, .int 0, .int 0, .int 0, .ref q31, .int 0, .null, .int 0, .null, .null, .int 0, .int 0, .null, .null, .null, .int 0, .int 0, .null, .null, .null, .null, .null, .int 0, .int 0, .int 0, .null, .null, .int 0, .null, .null, .int 0, .null, .null, .int 0, .null, .null, .int 0, .int 0, .int 0, .int 0, .int 0, .int 0, .null, .null, .null, .null, .null])), (q7, .inl (cI, 32, .inl (fun _ => 0))), (q15, .inl (cI, 32, .inl (fun _ => 0))), (q23, .inl (cI, 32, .inl (fun _ => 0))), (q31, .inl (cI, 8, .inl (fun _ => 0)))] H := hP
  have hD : va_D A [(h0, .inr (8, [.int 0, .ref q7, .ref q15, .int 0, .ref q23, .int 0, .int 0, .int 0, .int 0, .int 0, .int 0, .int 0, .ref q31, .int 0, .null, .int 0, .null, .null, .int 0, .int 0, .null, .null, .null, .int 0, .int 0, .null, .null, .null, .null, .null, .int 0, .int 0, .int 0, .null, .null, .int 0, .null, .null, .int 0, .null, .null, .int 0, .null, .null, .int 0, .int 0, .int 0, .int 0, .int 0, .int 0, .null, .null, .null, .null, .null])), (q7, .inl (cI, 32, .inl (fun _ => 0))), (q15, .inl (cI, 32, .inl (fun _ => 0))), (q23, .inl (cI, 32, .inl (fun _ => 0))), (q31, .inl (cI, 8, .inl (fun _ => 0)))] := hD
  refine lv_aload_n hx hb (by decide +kernel : decode cX8_init 36 = .ok (.aload_n 0, 1)) rfl (lv_at hl 0 rfl) ?_
  refine lv_bipush (v := 20) hx hb (by decide +kernel : decode cX8_init 37 = .ok (.bipush 20, 2)) (by decide) ?_
  refine va_newa (atype := .int) (ty := .int) (a0 := (20, .inl (fun _ => 0))) (N' := 20) hx hb (hts (Cond.arrayClass .int) (List.mem_cons_of_mem _ cwd_3)) rfl hK hP hD hS hA (fun _ => rfl) (by decide) (by decide) (by decide) (show 4 + 1 ≤ 28 by decide) (show 104 + 20 ≤ 52994 by decide) (by decide +kernel : decode cX8_init 39 = .ok (.newarray .int, 2)) (fun q39 cA H hK hP hD hS => ?_)
  cases Option.some.inj ((hK.2 3 _ rfl).2.symm.trans (hK.2 0 _ rfl).2)
  replace hK := hK.sub (tys' := [(cI, .int), (cZ, .boolean), (cJ, .long)]) [0, 1, 2] rfl
  have hP : va_P (dC, dI) vwCl [(h0, .inr (8, [.int 0, .ref q7, .ref q15, .int 0, .ref q23, .int 0, .int 0, .int 0, .int 0, .int 0, .int 0, .int 0, .ref q31, .int 0, .null, .int 0, .null, .null, .int 0, .int 0, .null, .null, .null, .int 0, .int 0, .null, .null, .null, .null, .null, .int 0, .int 0, .int 0, .null, .null, .int 0, .null, .null, .int 0, .null, .null, .int 0, .null, .null, .int 0, .int 0, .int 0, .int 0, .int 0, .int 0, .null, .null, .null, .null, .null])), (q7, .inl (cI, 32, .inl (fun _ => 0))), (q15, .inl (cI, 32, .inl (fun _ => 0))), (q23, .inl (cI, 32, .inl (fun _ => 0))), (q31, .inl (cI, 8, .inl (fun _ => 0))), (q39, .inl (cI, 20, .inl (fun _ => 0)))] H := hP
  have hD : va_D A [(h0, .inr (8, [.int 0, .ref q7, .ref q15, .int 0, .ref q23, .int 0, .int 0, .int 0, .int 0, .int 0, .int 0, .int 0, .ref q31, .int 0, .null, .int 0, .null, .null, .int 0, .int 0, .null, .null, .null, .int 0, .int 0, .null, .null, .null, .null, .null, .int 0, .int 0, .int 0, .null, .null, .int 0, .null, .null, .int 0, .null, .null, .int 0, .null, .null, .int 0, .int 0, .int 0, .int 0, .int 0, .int 0, .null, .null, .null, .null, .null])), (q7, .inl (cI, 32, .inl (fun _ => 0))), (q15, .inl (cI, 32, .inl (fun _ => 0))), (q23, .inl (cI, 32, .inl (fun _ => 0))), (q31, .inl (cI, 8, .inl (fun _ => 0))), (q39, .inl (cI, 20, .inl (fun _ => 0)))] := hD
  refine W.widen (k := 5) (n := 124) (by omega) (by omega) ?_
  refine va_putF (D := (dC, dI)) (ci := 8) (v := .ref q39) (ty := .array .int) (C := RX8) (T := TX8) (N := 55) hx hb hts (fun w h => List.mem_cons_of_mem _ (UW_ok 8 (by decide) w h)) tyX8 tyX8_ok nmX8 hown hK hP hD hS 0 rfl rfl 14 (by decide) (hts (.fieldLink RX8 22 "PoloSeasonModel" "noise" "[I") (List.mem_cons_of_mem _ (FL_ok (8, 22, 8, 14) (by decide)))) (fun _ h9 => h9) rfl hin rfl (by decide +kernel) rfl rfl (Nat.le_of_ble_eq_true rfl) (by decide +kernel : decode cX8_init 41 = .ok (.putfield 22, 3)) (fun H locs hP hD hS => ?_)
  have hP : va_P (dC, dI) vwCl [(h0, .inr (8, [.int 0, .ref q7, .ref q15, .int 0, .ref q23, .int 0, .int 0, .int 0, .int 0, .int 0, .int 0, .int 0, .ref q31, .int 0, .ref q39, .int 0, .null, .null, .int 0, .int 0, .null, .null, .null, .int 0, .int 0, .null, .null, .null, .null, .null, .int 0, .int 0, .int 0, .null, .null, .int 0, .null, .null, .int 0, .null, .null, .int 0, .null, .null, .int 0, .int 0, .int 0, .int 0, .int 0, .int 0, .null, .null, .null, .null, .null])), (q7, .inl (cI, 32, .inl (fun _ => 0))), (q15, .inl (cI, 32, .inl (fun _ => 0))), (q23, .inl (cI, 32, .inl (fun _ => 0))), (q31, .inl (cI, 8, .inl (fun _ => 0))), (q39, .inl (cI, 20, .inl (fun _ => 0)))] H := hP
  have hD : va_D A [(h0, .inr (8, [.int 0, .ref q7, .ref q15, .int 0, .ref q23, .int 0, .int 0, .int 0, .int 0, .int 0, .int 0, .int 0, .ref q31, .int 0, .ref q39, .int 0, .null, .null, .int 0, .int 0, .null, .null, .null, .int 0, .int 0, .null, .null, .null, .null, .null, .int 0, .int 0, .int 0, .null, .null, .int 0, .null, .null, .int 0, .null, .null, .int 0, .null, .null, .int 0, .int 0, .int 0, .int 0, .int 0, .int 0, .null, .null, .null, .null, .null])), (q7, .inl (cI, 32, .inl (fun _ => 0))), (q15, .inl (cI, 32, .inl (fun _ => 0))), (q23, .inl (cI, 32, .inl (fun _ => 0))), (q31, .inl (cI, 8, .inl (fun _ => 0))), (q39, .inl (cI, 20, .inl (fun _ => 0)))] := hD
  refine lv_aload_n hx hb (by decide +kernel : decode cX8_init 44 = .ok (.aload_n 0, 1)) rfl (lv_at hl 0 rfl) ?_
  refine lv_bipush (v := 8) hx hb (by decide +kernel : decode cX8_init 45 = .ok (.bipush 8, 2)) (by decide) ?_
  refine va_newa (atype := .int) (ty := .int) (a0 := (8, .inl (fun _ => 0))) (N' := 8) hx hb (hts (Cond.arrayClass .int) (List.mem_cons_of_mem _ cwd_3)) rfl hK hP hD hS hA (fun _ => rfl) (by decide) (by decide) (by decide) (show 5 + 1 ≤ 28 by decide) (show 124 + 8 ≤ 52994 by decide) (by decide +kernel : decode cX8_init 47 = .ok (.newarray .int, 2)) (fun q47 cA H hK hP hD hS => ?_)
  cases Option.some.inj ((hK.2 3 _ rfl).2.symm.trans (hK.2 0 _ rfl).2)
  replace hK := hK.sub (tys' := [(cI, .int), (cZ, .boolean), (cJ, .long)]) [0, 1, 2] rfl
  have hP : va_P (dC, dI) vwCl [(h0, .inr (8, [.int 0, .ref q7, .ref q15, .int 0, .ref q23, .int 0, .int 0, .int 0, .int 0, .int 0, .int 0, .int 0, .ref q31, .int 0, .ref q39, .int 0, .null, .null, .int 0, .int 0, .null, .null, .null, .int 0, .int 0, .null, .null, .null, .null, .null, .int 0, .int 0, .int 0, .null, .null, .int 0, .null, .null, .int 0, .null, .null, .int 0, .null, .null, .int 0, .int 0, .int 0, .int 0, .int 0, .int 0, .null, .null, .null, .null, .null])), (q7, .inl (cI, 32, .inl (fun _ => 0))), (q15, .inl (cI, 32, .inl (fun _ => 0))), (q23, .inl (cI, 32, .inl (fun _ => 0))), (q31, .inl (cI, 8, .inl (fun _ => 0))), (q39, .inl (cI, 20, .inl (fun _ => 0))), (q47, .inl (cI, 8, .inl (fun _ => 0)))] H := hP
  have hD : va_D A [(h0, .inr (8, [.int 0, .ref q7, .ref q15, .int 0, .ref q23, .int 0, .int 0, .int 0, .int 0, .int 0, .int 0, .int 0, .ref q31, .int 0, .ref q39, .int 0, .null, .null, .int 0, .int 0, .null, .null, .null, .int 0, .int 0, .null, .null, .null, .null, .null, .int 0, .int 0, .int 0, .null, .null, .int 0, .null, .null, .int 0, .null, .null, .int 0, .null, .null, .int 0, .int 0, .int 0, .int 0, .int 0, .int 0, .null, .null, .null, .null, .null])), (q7, .inl (cI, 32, .inl (fun _ => 0))), (q15, .inl (cI, 32, .inl (fun _ => 0))), (q23, .inl (cI, 32, .inl (fun _ => 0))), (q31, .inl (cI, 8, .inl (fun _ => 0))), (q39, .inl (cI, 20, .inl (fun _ => 0))), (q47, .inl (cI, 8, .inl (fun _ => 0)))] := hD
  refine W.widen (k := 6) (n := 132) (by omega) (by omega) ?_
  refine va_putF (D := (dC, dI)) (ci := 8) (v := .ref q47) (ty := .array .int) (C := RX8) (T := TX8) (N := 55) hx hb hts (fun w h => List.mem_cons_of_mem _ (UW_ok 8 (by decide) w h)) tyX8 tyX8_ok nmX8 hown hK hP hD hS 0 rfl rfl 16 (by decide) (hts (.fieldLink RX8 25 "PoloSeasonModel" "whole" "[I") (List.mem_cons_of_mem _ (FL_ok (8, 25, 8, 16) (by decide)))) (fun _ h9 => h9) rfl hin rfl (by decide +kernel) rfl rfl (Nat.le_of_ble_eq_true rfl) (by decide +kernel : decode cX8_init 49 = .ok (.putfield 25, 3)) (fun H locs hP hD hS => ?_)
  have hP : va_P (dC, dI) vwCl [(h0, .inr (8, [.int 0, .ref q7, .ref q15, .int 0, .ref q23, .int 0, .int 0, .int 0, .int 0, .int 0, .int 0, .int 0, .ref q31, .int 0, .ref q39, .int 0, .ref q47, .null, .int 0, .int 0, .null, .null, .null, .int 0, .int 0, .null, .null, .null, .null, .null, .int 0, .int 0, .int 0, .null, .null, .int 0, .null, .null, .int 0, .null, .null, .int 0, .null, .null, .int 0, .int 0, .int 0, .int 0, .int 0, .int 0, .null, .null, .null, .null, .null])), (q7, .inl (cI, 32, .inl (fun _ => 0))), (q15, .inl (cI, 32, .inl (fun _ => 0))), (q23, .inl (cI, 32, .inl (fun _ => 0))), (q31, .inl (cI, 8, .inl (fun _ => 0))), (q39, .inl (cI, 20, .inl (fun _ => 0))), (q47, .inl (cI, 8, .inl (fun _ => 0)))] H := hP
  have hD : va_D A [(h0, .inr (8, [.int 0, .ref q7, .ref q15, .int 0, .ref q23, .int 0, .int 0, .int 0, .int 0, .int 0, .int 0, .int 0, .ref q31, .int 0, .ref q39, .int 0, .ref q47, .null, .int 0, .int 0, .null, .null, .null, .int 0, .int 0, .null, .null, .null, .null, .null, .int 0, .int 0, .int 0, .null, .null, .int 0, .null, .null, .int 0, .null, .null, .int 0, .null, .null, .int 0, .int 0, .int 0, .int 0, .int 0, .int 0, .null, .null, .null, .null, .null])), (q7, .inl (cI, 32, .inl (fun _ => 0))), (q15, .inl (cI, 32, .inl (fun _ => 0))), (q23, .inl (cI, 32, .inl (fun _ => 0))), (q31, .inl (cI, 8, .inl (fun _ => 0))), (q39, .inl (cI, 20, .inl (fun _ => 0))), (q47, .inl (cI, 8, .inl (fun _ => 0)))] := hD
  refine lv_aload_n hx hb (by decide +kernel : decode cX8_init 52 = .ok (.aload_n 0, 1)) rfl (lv_at hl 0 rfl) ?_
  refine lv_bipush (v := 8) hx hb (by decide +kernel : decode cX8_init 53 = .ok (.bipush 8, 2)) (by decide) ?_
  refine va_newa (atype := .int) (ty := .int) (a0 := (8, .inl (fun _ => 0))) (N' := 8) hx hb (hts (Cond.arrayClass .int) (List.mem_cons_of_mem _ cwd_3)) rfl hK hP hD hS hA (fun _ => rfl) (by decide) (by decide) (by decide) (show 6 + 1 ≤ 28 by decide) (show 132 + 8 ≤ 52994 by decide) (by decide +kernel : decode cX8_init 55 = .ok (.newarray .int, 2)) (fun q55 cA H hK hP hD hS => ?_)
  cases Option.some.inj ((hK.2 3 _ rfl).2.symm.trans (hK.2 0 _ rfl).2)
  replace hK := hK.sub (tys' := [(cI, .int), (cZ, .boolean), (cJ, .long)]) [0, 1, 2] rfl
  have hP : va_P (dC, dI) vwCl [(h0, .inr (8, [.int 0, .ref q7, .ref q15, .int 0, .ref q23, .int 0, .int 0, .int 0, .int 0, .int 0, .int 0, .int 0, .ref q31, .int 0, .ref q39, .int 0, .ref q47, .null, .int 0, .int 0, .null, .null, .null, .int 0, .int 0, .null, .null, .null, .null, .null, .int 0, .int 0, .int 0, .null, .null, .int 0, .null, .null, .int 0, .null, .null, .int 0, .null, .null, .int 0, .int 0, .int 0, .int 0, .int 0, .int 0, .null, .null, .null, .null, .null])), (q7, .inl (cI, 32, .inl (fun _ => 0))), (q15, .inl (cI, 32, .inl (fun _ => 0))), (q23, .inl (cI, 32, .inl (fun _ => 0))), (q31, .inl (cI, 8, .inl (fun _ => 0))), (q39, .inl (cI, 20, .inl (fun _ => 0))), (q47, .inl (cI, 8, .inl (fun _ => 0))), (q55, .inl (cI, 8, .inl (fun _ => 0)))] H := hP
  have hD : va_D A [(h0, .inr (8, [.int 0, .ref q7, .ref q15, .int 0, .ref q23, .int 0, .int 0, .int 0, .int 0, .int 0, .int 0, .int 0, .ref q31, .int 0, .ref q39, .int 0, .ref q47, .null, .int 0, .int 0, .null, .null, .null, .int 0, .int 0, .null, .null, .null, .null, .null, .int 0, .int 0, .int 0, .null, .null, .int 0, .null, .null, .int 0, .null, .null, .int 0, .null, .null, .int 0, .int 0, .int 0, .int 0, .int 0, .int 0, .null, .null, .null, .null, .null])), (q7, .inl (cI, 32, .inl (fun _ => 0))), (q15, .inl (cI, 32, .inl (fun _ => 0))), (q23, .inl (cI, 32, .inl (fun _ => 0))), (q31, .inl (cI, 8, .inl (fun _ => 0))), (q39, .inl (cI, 20, .inl (fun _ => 0))), (q47, .inl (cI, 8, .inl (fun _ => 0))), (q55, .inl (cI, 8, .inl (fun _ => 0)))] := hD
  refine W.widen (k := 7) (n := 140) (by omega) (by omega) ?_
  refine va_putF (D := (dC, dI)) (ci := 8) (v := .ref q55) (ty := .array .int) (C := RX8) (T := TX8) (N := 55) hx hb hts (fun w h => List.mem_cons_of_mem _ (UW_ok 8 (by decide) w h)) tyX8 tyX8_ok nmX8 hown hK hP hD hS 0 rfl rfl 17 (by decide) (hts (.fieldLink RX8 28 "PoloSeasonModel" "hurt" "[I") (List.mem_cons_of_mem _ (FL_ok (8, 28, 8, 17) (by decide)))) (fun _ h9 => h9) rfl hin rfl (by decide +kernel) rfl rfl (Nat.le_of_ble_eq_true rfl) (by decide +kernel : decode cX8_init 57 = .ok (.putfield 28, 3)) (fun H locs hP hD hS => ?_)
  have hP : va_P (dC, dI) vwCl [(h0, .inr (8, [.int 0, .ref q7, .ref q15, .int 0, .ref q23, .int 0, .int 0, .int 0, .int 0, .int 0, .int 0, .int 0, .ref q31, .int 0, .ref q39, .int 0, .ref q47, .ref q55, .int 0, .int 0, .null, .null, .null, .int 0, .int 0, .null, .null, .null, .null, .null, .int 0, .int 0, .int 0, .null, .null, .int 0, .null, .null, .int 0, .null, .null, .int 0, .null, .null, .int 0, .int 0, .int 0, .int 0, .int 0, .int 0, .null, .null, .null, .null, .null])), (q7, .inl (cI, 32, .inl (fun _ => 0))), (q15, .inl (cI, 32, .inl (fun _ => 0))), (q23, .inl (cI, 32, .inl (fun _ => 0))), (q31, .inl (cI, 8, .inl (fun _ => 0))), (q39, .inl (cI, 20, .inl (fun _ => 0))), (q47, .inl (cI, 8, .inl (fun _ => 0))), (q55, .inl (cI, 8, .inl (fun _ => 0)))] H := hP
  have hD : va_D A [(h0, .inr (8, [.int 0, .ref q7, .ref q15, .int 0, .ref q23, .int 0, .int 0, .int 0, .int 0, .int 0, .int 0, .int 0, .ref q31, .int 0, .ref q39, .int 0, .ref q47, .ref q55, .int 0, .int 0, .null, .null, .null, .int 0, .int 0, .null, .null, .null, .null, .null, .int 0, .int 0, .int 0, .null, .null, .int 0, .null, .null, .int 0, .null, .null, .int 0, .null, .null, .int 0, .int 0, .int 0, .int 0, .int 0, .int 0, .null, .null, .null, .null, .null])), (q7, .inl (cI, 32, .inl (fun _ => 0))), (q15, .inl (cI, 32, .inl (fun _ => 0))), (q23, .inl (cI, 32, .inl (fun _ => 0))), (q31, .inl (cI, 8, .inl (fun _ => 0))), (q39, .inl (cI, 20, .inl (fun _ => 0))), (q47, .inl (cI, 8, .inl (fun _ => 0))), (q55, .inl (cI, 8, .inl (fun _ => 0)))] := hD
  refine lv_aload_n hx hb (by decide +kernel : decode cX8_init 60 = .ok (.aload_n 0, 1)) rfl (lv_at hl 0 rfl) ?_
  refine lv_bipush (v := 8) hx hb (by decide +kernel : decode cX8_init 61 = .ok (.bipush 8, 2)) (by decide) ?_
  refine va_newa (atype := .int) (ty := .int) (a0 := (8, .inl (fun _ => 0))) (N' := 8) hx hb (hts (Cond.arrayClass .int) (List.mem_cons_of_mem _ cwd_3)) rfl hK hP hD hS hA (fun _ => rfl) (by decide) (by decide) (by decide) (show 7 + 1 ≤ 28 by decide) (show 140 + 8 ≤ 52994 by decide) (by decide +kernel : decode cX8_init 63 = .ok (.newarray .int, 2)) (fun q63 cA H hK hP hD hS => ?_)
  cases Option.some.inj ((hK.2 3 _ rfl).2.symm.trans (hK.2 0 _ rfl).2)
  replace hK := hK.sub (tys' := [(cI, .int), (cZ, .boolean), (cJ, .long)]) [0, 1, 2] rfl
  have hP : va_P (dC, dI) vwCl [(h0, .inr (8, [.int 0, .ref q7, .ref q15, .int 0, .ref q23, .int 0, .int 0, .int 0, .int 0, .int 0, .int 0, .int 0, .ref q31, .int 0, .ref q39, .int 0, .ref q47, .ref q55, .int 0, .int 0, .null, .null, .null, .int 0, .int 0, .null, .null, .null, .null, .null, .int 0, .int 0, .int 0, .null, .null, .int 0, .null, .null, .int 0, .null, .null, .int 0, .null, .null, .int 0, .int 0, .int 0, .int 0, .int 0, .int 0, .null, .null, .null, .null, .null])), (q7, .inl (cI, 32, .inl (fun _ => 0))), (q15, .inl (cI, 32, .inl (fun _ => 0))), (q23, .inl (cI, 32, .inl (fun _ => 0))), (q31, .inl (cI, 8, .inl (fun _ => 0))), (q39, .inl (cI, 20, .inl (fun _ => 0))), (q47, .inl (cI, 8, .inl (fun _ => 0))), (q55, .inl (cI, 8, .inl (fun _ => 0))), (q63, .inl (cI, 8, .inl (fun _ => 0)))] H := hP
  have hD : va_D A [(h0, .inr (8, [.int 0, .ref q7, .ref q15, .int 0, .ref q23, .int 0, .int 0, .int 0, .int 0, .int 0, .int 0, .int 0, .ref q31, .int 0, .ref q39, .int 0, .ref q47, .ref q55, .int 0, .int 0, .null, .null, .null, .int 0, .int 0, .null, .null, .null, .null, .null, .int 0, .int 0, .int 0, .null, .null, .int 0, .null, .null, .int 0, .null, .null, .int 0, .null, .null, .int 0, .int 0, .int 0, .int 0, .int 0, .int 0, .null, .null, .null, .null, .null])), (q7, .inl (cI, 32, .inl (fun _ => 0))), (q15, .inl (cI, 32, .inl (fun _ => 0))), (q23, .inl (cI, 32, .inl (fun _ => 0))), (q31, .inl (cI, 8, .inl (fun _ => 0))), (q39, .inl (cI, 20, .inl (fun _ => 0))), (q47, .inl (cI, 8, .inl (fun _ => 0))), (q55, .inl (cI, 8, .inl (fun _ => 0))), (q63, .inl (cI, 8, .inl (fun _ => 0)))] := hD
  refine W.widen (k := 8) (n := 148) (by omega) (by omega) ?_
  refine va_putF (D := (dC, dI)) (ci := 8) (v := .ref q63) (ty := .array .int) (C := RX8) (T := TX8) (N := 55) hx hb hts (fun w h => List.mem_cons_of_mem _ (UW_ok 8 (by decide) w h)) tyX8 tyX8_ok nmX8 hown hK hP hD hS 0 rfl rfl 20 (by decide) (hts (.fieldLink RX8 31 "PoloSeasonModel" "first" "[I") (List.mem_cons_of_mem _ (FL_ok (8, 31, 8, 20) (by decide)))) (fun _ h9 => h9) rfl hin rfl (by decide +kernel) rfl rfl (Nat.le_of_ble_eq_true rfl) (by decide +kernel : decode cX8_init 65 = .ok (.putfield 31, 3)) (fun H locs hP hD hS => ?_)
  have hP : va_P (dC, dI) vwCl [(h0, .inr (8, [.int 0, .ref q7, .ref q15, .int 0, .ref q23, .int 0, .int 0, .int 0, .int 0, .int 0, .int 0, .int 0, .ref q31, .int 0, .ref q39, .int 0, .ref q47, .ref q55, .int 0, .int 0, .ref q63, .null, .null, .int 0, .int 0, .null, .null, .null, .null, .null, .int 0, .int 0, .int 0, .null, .null, .int 0, .null, .null, .int 0, .null, .null, .int 0, .null, .null, .int 0, .int 0, .int 0, .int 0, .int 0, .int 0, .null, .null, .null, .null, .null])), (q7, .inl (cI, 32, .inl (fun _ => 0))), (q15, .inl (cI, 32, .inl (fun _ => 0))), (q23, .inl (cI, 32, .inl (fun _ => 0))), (q31, .inl (cI, 8, .inl (fun _ => 0))), (q39, .inl (cI, 20, .inl (fun _ => 0))), (q47, .inl (cI, 8, .inl (fun _ => 0))), (q55, .inl (cI, 8, .inl (fun _ => 0))), (q63, .inl (cI, 8, .inl (fun _ => 0)))] H := hP
  have hD : va_D A [(h0, .inr (8, [.int 0, .ref q7, .ref q15, .int 0, .ref q23, .int 0, .int 0, .int 0, .int 0, .int 0, .int 0, .int 0, .ref q31, .int 0, .ref q39, .int 0, .ref q47, .ref q55, .int 0, .int 0, .ref q63, .null, .null, .int 0, .int 0, .null, .null, .null, .null, .null, .int 0, .int 0, .int 0, .null, .null, .int 0, .null, .null, .int 0, .null, .null, .int 0, .null, .null, .int 0, .int 0, .int 0, .int 0, .int 0, .int 0, .null, .null, .null, .null, .null])), (q7, .inl (cI, 32, .inl (fun _ => 0))), (q15, .inl (cI, 32, .inl (fun _ => 0))), (q23, .inl (cI, 32, .inl (fun _ => 0))), (q31, .inl (cI, 8, .inl (fun _ => 0))), (q39, .inl (cI, 20, .inl (fun _ => 0))), (q47, .inl (cI, 8, .inl (fun _ => 0))), (q55, .inl (cI, 8, .inl (fun _ => 0))), (q63, .inl (cI, 8, .inl (fun _ => 0)))] := hD
  refine lv_aload_n hx hb (by decide +kernel : decode cX8_init 68 = .ok (.aload_n 0, 1)) rfl (lv_at hl 0 rfl) ?_
  refine lv_bipush (v := 8) hx hb (by decide +kernel : decode cX8_init 69 = .ok (.bipush 8, 2)) (by decide) ?_
  refine va_newa (atype := .int) (ty := .int) (a0 := (8, .inl (fun _ => 0))) (N' := 8) hx hb (hts (Cond.arrayClass .int) (List.mem_cons_of_mem _ cwd_3)) rfl hK hP hD hS hA (fun _ => rfl) (by decide) (by decide) (by decide) (show 8 + 1 ≤ 28 by decide) (show 148 + 8 ≤ 52994 by decide) (by decide +kernel : decode cX8_init 71 = .ok (.newarray .int, 2)) (fun q71 cA H hK hP hD hS => ?_)
  cases Option.some.inj ((hK.2 3 _ rfl).2.symm.trans (hK.2 0 _ rfl).2)
  replace hK := hK.sub (tys' := [(cI, .int), (cZ, .boolean), (cJ, .long)]) [0, 1, 2] rfl
  have hP : va_P (dC, dI) vwCl [(h0, .inr (8, [.int 0, .ref q7, .ref q15, .int 0, .ref q23, .int 0, .int 0, .int 0, .int 0, .int 0, .int 0, .int 0, .ref q31, .int 0, .ref q39, .int 0, .ref q47, .ref q55, .int 0, .int 0, .ref q63, .null, .null, .int 0, .int 0, .null, .null, .null, .null, .null, .int 0, .int 0, .int 0, .null, .null, .int 0, .null, .null, .int 0, .null, .null, .int 0, .null, .null, .int 0, .int 0, .int 0, .int 0, .int 0, .int 0, .null, .null, .null, .null, .null])), (q7, .inl (cI, 32, .inl (fun _ => 0))), (q15, .inl (cI, 32, .inl (fun _ => 0))), (q23, .inl (cI, 32, .inl (fun _ => 0))), (q31, .inl (cI, 8, .inl (fun _ => 0))), (q39, .inl (cI, 20, .inl (fun _ => 0))), (q47, .inl (cI, 8, .inl (fun _ => 0))), (q55, .inl (cI, 8, .inl (fun _ => 0))), (q63, .inl (cI, 8, .inl (fun _ => 0))), (q71, .inl (cI, 8, .inl (fun _ => 0)))] H := hP
  have hD : va_D A [(h0, .inr (8, [.int 0, .ref q7, .ref q15, .int 0, .ref q23, .int 0, .int 0, .int 0, .int 0, .int 0, .int 0, .int 0, .ref q31, .int 0, .ref q39, .int 0, .ref q47, .ref q55, .int 0, .int 0, .ref q63, .null, .null, .int 0, .int 0, .null, .null, .null, .null, .null, .int 0, .int 0, .int 0, .null, .null, .int 0, .null, .null, .int 0, .null, .null, .int 0, .null, .null, .int 0, .int 0, .int 0, .int 0, .int 0, .int 0, .null, .null, .null, .null, .null])), (q7, .inl (cI, 32, .inl (fun _ => 0))), (q15, .inl (cI, 32, .inl (fun _ => 0))), (q23, .inl (cI, 32, .inl (fun _ => 0))), (q31, .inl (cI, 8, .inl (fun _ => 0))), (q39, .inl (cI, 20, .inl (fun _ => 0))), (q47, .inl (cI, 8, .inl (fun _ => 0))), (q55, .inl (cI, 8, .inl (fun _ => 0))), (q63, .inl (cI, 8, .inl (fun _ => 0))), (q71, .inl (cI, 8, .inl (fun _ => 0)))] := hD
  refine W.widen (k := 9) (n := 156) (by omega) (by omega) ?_
  refine va_putF (D := (dC, dI)) (ci := 8) (v := .ref q71) (ty := .array .int) (C := RX8) (T := TX8) (N := 55) hx hb hts (fun w h => List.mem_cons_of_mem _ (UW_ok 8 (by decide) w h)) tyX8 tyX8_ok nmX8 hown hK hP hD hS 0 rfl rfl 21 (by decide) (hts (.fieldLink RX8 34 "PoloSeasonModel" "second" "[I") (List.mem_cons_of_mem _ (FL_ok (8, 34, 8, 21) (by decide)))) (fun _ h9 => h9) rfl hin rfl (by decide +kernel) rfl rfl (Nat.le_of_ble_eq_true rfl) (by decide +kernel : decode cX8_init 73 = .ok (.putfield 34, 3)) (fun H locs hP hD hS => ?_)
  have hP : va_P (dC, dI) vwCl [(h0, .inr (8, [.int 0, .ref q7, .ref q15, .int 0, .ref q23, .int 0, .int 0, .int 0, .int 0, .int 0, .int 0, .int 0, .ref q31, .int 0, .ref q39, .int 0, .ref q47, .ref q55, .int 0, .int 0, .ref q63, .ref q71, .null, .int 0, .int 0, .null, .null, .null, .null, .null, .int 0, .int 0, .int 0, .null, .null, .int 0, .null, .null, .int 0, .null, .null, .int 0, .null, .null, .int 0, .int 0, .int 0, .int 0, .int 0, .int 0, .null, .null, .null, .null, .null])), (q7, .inl (cI, 32, .inl (fun _ => 0))), (q15, .inl (cI, 32, .inl (fun _ => 0))), (q23, .inl (cI, 32, .inl (fun _ => 0))), (q31, .inl (cI, 8, .inl (fun _ => 0))), (q39, .inl (cI, 20, .inl (fun _ => 0))), (q47, .inl (cI, 8, .inl (fun _ => 0))), (q55, .inl (cI, 8, .inl (fun _ => 0))), (q63, .inl (cI, 8, .inl (fun _ => 0))), (q71, .inl (cI, 8, .inl (fun _ => 0)))] H := hP
  have hD : va_D A [(h0, .inr (8, [.int 0, .ref q7, .ref q15, .int 0, .ref q23, .int 0, .int 0, .int 0, .int 0, .int 0, .int 0, .int 0, .ref q31, .int 0, .ref q39, .int 0, .ref q47, .ref q55, .int 0, .int 0, .ref q63, .ref q71, .null, .int 0, .int 0, .null, .null, .null, .null, .null, .int 0, .int 0, .int 0, .null, .null, .int 0, .null, .null, .int 0, .null, .null, .int 0, .null, .null, .int 0, .int 0, .int 0, .int 0, .int 0, .int 0, .null, .null, .null, .null, .null])), (q7, .inl (cI, 32, .inl (fun _ => 0))), (q15, .inl (cI, 32, .inl (fun _ => 0))), (q23, .inl (cI, 32, .inl (fun _ => 0))), (q31, .inl (cI, 8, .inl (fun _ => 0))), (q39, .inl (cI, 20, .inl (fun _ => 0))), (q47, .inl (cI, 8, .inl (fun _ => 0))), (q55, .inl (cI, 8, .inl (fun _ => 0))), (q63, .inl (cI, 8, .inl (fun _ => 0))), (q71, .inl (cI, 8, .inl (fun _ => 0)))] := hD
  refine lv_aload_n hx hb (by decide +kernel : decode cX8_init 76 = .ok (.aload_n 0, 1)) rfl (lv_at hl 0 rfl) ?_
  refine lv_bipush (v := 8) hx hb (by decide +kernel : decode cX8_init 77 = .ok (.bipush 8, 2)) (by decide) ?_
  refine va_newa (atype := .int) (ty := .int) (a0 := (8, .inl (fun _ => 0))) (N' := 8) hx hb (hts (Cond.arrayClass .int) (List.mem_cons_of_mem _ cwd_3)) rfl hK hP hD hS hA (fun _ => rfl) (by decide) (by decide) (by decide) (show 9 + 1 ≤ 28 by decide) (show 156 + 8 ≤ 52994 by decide) (by decide +kernel : decode cX8_init 79 = .ok (.newarray .int, 2)) (fun q79 cA H hK hP hD hS => ?_)
  cases Option.some.inj ((hK.2 3 _ rfl).2.symm.trans (hK.2 0 _ rfl).2)
  replace hK := hK.sub (tys' := [(cI, .int), (cZ, .boolean), (cJ, .long)]) [0, 1, 2] rfl
  have hP : va_P (dC, dI) vwCl [(h0, .inr (8, [.int 0, .ref q7, .ref q15, .int 0, .ref q23, .int 0, .int 0, .int 0, .int 0, .int 0, .int 0, .int 0, .ref q31, .int 0, .ref q39, .int 0, .ref q47, .ref q55, .int 0, .int 0, .ref q63, .ref q71, .null, .int 0, .int 0, .null, .null, .null, .null, .null, .int 0, .int 0, .int 0, .null, .null, .int 0, .null, .null, .int 0, .null, .null, .int 0, .null, .null, .int 0, .int 0, .int 0, .int 0, .int 0, .int 0, .null, .null, .null, .null, .null])), (q7, .inl (cI, 32, .inl (fun _ => 0))), (q15, .inl (cI, 32, .inl (fun _ => 0))), (q23, .inl (cI, 32, .inl (fun _ => 0))), (q31, .inl (cI, 8, .inl (fun _ => 0))), (q39, .inl (cI, 20, .inl (fun _ => 0))), (q47, .inl (cI, 8, .inl (fun _ => 0))), (q55, .inl (cI, 8, .inl (fun _ => 0))), (q63, .inl (cI, 8, .inl (fun _ => 0))), (q71, .inl (cI, 8, .inl (fun _ => 0))), (q79, .inl (cI, 8, .inl (fun _ => 0)))] H := hP
  have hD : va_D A [(h0, .inr (8, [.int 0, .ref q7, .ref q15, .int 0, .ref q23, .int 0, .int 0, .int 0, .int 0, .int 0, .int 0, .int 0, .ref q31, .int 0, .ref q39, .int 0, .ref q47, .ref q55, .int 0, .int 0, .ref q63, .ref q71, .null, .int 0, .int 0, .null, .null, .null, .null, .null, .int 0, .int 0, .int 0, .null, .null, .int 0, .null, .null, .int 0, .null, .null, .int 0, .null, .null, .int 0, .int 0, .int 0, .int 0, .int 0, .int 0, .null, .null, .null, .null, .null])), (q7, .inl (cI, 32, .inl (fun _ => 0))), (q15, .inl (cI, 32, .inl (fun _ => 0))), (q23, .inl (cI, 32, .inl (fun _ => 0))), (q31, .inl (cI, 8, .inl (fun _ => 0))), (q39, .inl (cI, 20, .inl (fun _ => 0))), (q47, .inl (cI, 8, .inl (fun _ => 0))), (q55, .inl (cI, 8, .inl (fun _ => 0))), (q63, .inl (cI, 8, .inl (fun _ => 0))), (q71, .inl (cI, 8, .inl (fun _ => 0))), (q79, .inl (cI, 8, .inl (fun _ => 0)))] := hD
  refine W.widen (k := 10) (n := 164) (by omega) (by omega) ?_
  refine va_putF (D := (dC, dI)) (ci := 8) (v := .ref q79) (ty := .array .int) (C := RX8) (T := TX8) (N := 55) hx hb hts (fun w h => List.mem_cons_of_mem _ (UW_ok 8 (by decide) w h)) tyX8 tyX8_ok nmX8 hown hK hP hD hS 0 rfl rfl 22 (by decide) (hts (.fieldLink RX8 37 "PoloSeasonModel" "lost" "[I") (List.mem_cons_of_mem _ (FL_ok (8, 37, 8, 22) (by decide)))) (fun _ h9 => h9) rfl hin rfl (by decide +kernel) rfl rfl (Nat.le_of_ble_eq_true rfl) (by decide +kernel : decode cX8_init 81 = .ok (.putfield 37, 3)) (fun H locs hP hD hS => ?_)
  have hP : va_P (dC, dI) vwCl [(h0, .inr (8, [.int 0, .ref q7, .ref q15, .int 0, .ref q23, .int 0, .int 0, .int 0, .int 0, .int 0, .int 0, .int 0, .ref q31, .int 0, .ref q39, .int 0, .ref q47, .ref q55, .int 0, .int 0, .ref q63, .ref q71, .ref q79, .int 0, .int 0, .null, .null, .null, .null, .null, .int 0, .int 0, .int 0, .null, .null, .int 0, .null, .null, .int 0, .null, .null, .int 0, .null, .null, .int 0, .int 0, .int 0, .int 0, .int 0, .int 0, .null, .null, .null, .null, .null])), (q7, .inl (cI, 32, .inl (fun _ => 0))), (q15, .inl (cI, 32, .inl (fun _ => 0))), (q23, .inl (cI, 32, .inl (fun _ => 0))), (q31, .inl (cI, 8, .inl (fun _ => 0))), (q39, .inl (cI, 20, .inl (fun _ => 0))), (q47, .inl (cI, 8, .inl (fun _ => 0))), (q55, .inl (cI, 8, .inl (fun _ => 0))), (q63, .inl (cI, 8, .inl (fun _ => 0))), (q71, .inl (cI, 8, .inl (fun _ => 0))), (q79, .inl (cI, 8, .inl (fun _ => 0)))] H := hP
  have hD : va_D A [(h0, .inr (8, [.int 0, .ref q7, .ref q15, .int 0, .ref q23, .int 0, .int 0, .int 0, .int 0, .int 0, .int 0, .int 0, .ref q31, .int 0, .ref q39, .int 0, .ref q47, .ref q55, .int 0, .int 0, .ref q63, .ref q71, .ref q79, .int 0, .int 0, .null, .null, .null, .null, .null, .int 0, .int 0, .int 0, .null, .null, .int 0, .null, .null, .int 0, .null, .null, .int 0, .null, .null, .int 0, .int 0, .int 0, .int 0, .int 0, .int 0, .null, .null, .null, .null, .null])), (q7, .inl (cI, 32, .inl (fun _ => 0))), (q15, .inl (cI, 32, .inl (fun _ => 0))), (q23, .inl (cI, 32, .inl (fun _ => 0))), (q31, .inl (cI, 8, .inl (fun _ => 0))), (q39, .inl (cI, 20, .inl (fun _ => 0))), (q47, .inl (cI, 8, .inl (fun _ => 0))), (q55, .inl (cI, 8, .inl (fun _ => 0))), (q63, .inl (cI, 8, .inl (fun _ => 0))), (q71, .inl (cI, 8, .inl (fun _ => 0))), (q79, .inl (cI, 8, .inl (fun _ => 0)))] := hD
  refine lv_aload_n hx hb (by decide +kernel : decode cX8_init 84 = .ok (.aload_n 0, 1)) rfl (lv_at hl 0 rfl) ?_
  refine lv_bipush (v := 8) hx hb (by decide +kernel : decode cX8_init 85 = .ok (.bipush 8, 2)) (by decide) ?_
  refine va_newa (atype := .int) (ty := .int) (a0 := (8, .inl (fun _ => 0))) (N' := 8) hx hb (hts (Cond.arrayClass .int) (List.mem_cons_of_mem _ cwd_3)) rfl hK hP hD hS hA (fun _ => rfl) (by decide) (by decide) (by decide) (show 10 + 1 ≤ 28 by decide) (show 164 + 8 ≤ 52994 by decide) (by decide +kernel : decode cX8_init 87 = .ok (.newarray .int, 2)) (fun q87 cA H hK hP hD hS => ?_)
  cases Option.some.inj ((hK.2 3 _ rfl).2.symm.trans (hK.2 0 _ rfl).2)
  replace hK := hK.sub (tys' := [(cI, .int), (cZ, .boolean), (cJ, .long)]) [0, 1, 2] rfl
  have hP : va_P (dC, dI) vwCl [(h0, .inr (8, [.int 0, .ref q7, .ref q15, .int 0, .ref q23, .int 0, .int 0, .int 0, .int 0, .int 0, .int 0, .int 0, .ref q31, .int 0, .ref q39, .int 0, .ref q47, .ref q55, .int 0, .int 0, .ref q63, .ref q71, .ref q79, .int 0, .int 0, .null, .null, .null, .null, .null, .int 0, .int 0, .int 0, .null, .null, .int 0, .null, .null, .int 0, .null, .null, .int 0, .null, .null, .int 0, .int 0, .int 0, .int 0, .int 0, .int 0, .null, .null, .null, .null, .null])), (q7, .inl (cI, 32, .inl (fun _ => 0))), (q15, .inl (cI, 32, .inl (fun _ => 0))), (q23, .inl (cI, 32, .inl (fun _ => 0))), (q31, .inl (cI, 8, .inl (fun _ => 0))), (q39, .inl (cI, 20, .inl (fun _ => 0))), (q47, .inl (cI, 8, .inl (fun _ => 0))), (q55, .inl (cI, 8, .inl (fun _ => 0))), (q63, .inl (cI, 8, .inl (fun _ => 0))), (q71, .inl (cI, 8, .inl (fun _ => 0))), (q79, .inl (cI, 8, .inl (fun _ => 0))), (q87, .inl (cI, 8, .inl (fun _ => 0)))] H := hP
  have hD : va_D A [(h0, .inr (8, [.int 0, .ref q7, .ref q15, .int 0, .ref q23, .int 0, .int 0, .int 0, .int 0, .int 0, .int 0, .int 0, .ref q31, .int 0, .ref q39, .int 0, .ref q47, .ref q55, .int 0, .int 0, .ref q63, .ref q71, .ref q79, .int 0, .int 0, .null, .null, .null, .null, .null, .int 0, .int 0, .int 0, .null, .null, .int 0, .null, .null, .int 0, .null, .null, .int 0, .null, .null, .int 0, .int 0, .int 0, .int 0, .int 0, .int 0, .null, .null, .null, .null, .null])), (q7, .inl (cI, 32, .inl (fun _ => 0))), (q15, .inl (cI, 32, .inl (fun _ => 0))), (q23, .inl (cI, 32, .inl (fun _ => 0))), (q31, .inl (cI, 8, .inl (fun _ => 0))), (q39, .inl (cI, 20, .inl (fun _ => 0))), (q47, .inl (cI, 8, .inl (fun _ => 0))), (q55, .inl (cI, 8, .inl (fun _ => 0))), (q63, .inl (cI, 8, .inl (fun _ => 0))), (q71, .inl (cI, 8, .inl (fun _ => 0))), (q79, .inl (cI, 8, .inl (fun _ => 0))), (q87, .inl (cI, 8, .inl (fun _ => 0)))] := hD
  refine W.widen (k := 11) (n := 172) (by omega) (by omega) ?_
  refine va_putF (D := (dC, dI)) (ci := 8) (v := .ref q87) (ty := .array .int) (C := RX8) (T := TX8) (N := 55) hx hb hts (fun w h => List.mem_cons_of_mem _ (UW_ok 8 (by decide) w h)) tyX8 tyX8_ok nmX8 hown hK hP hD hS 0 rfl rfl 25 (by decide) (hts (.fieldLink RX8 40 "PoloSeasonModel" "places" "[I") (List.mem_cons_of_mem _ (FL_ok (8, 40, 8, 25) (by decide)))) (fun _ h9 => h9) rfl hin rfl (by decide +kernel) rfl rfl (Nat.le_of_ble_eq_true rfl) (by decide +kernel : decode cX8_init 89 = .ok (.putfield 40, 3)) (fun H locs hP hD hS => ?_)
  have hP : va_P (dC, dI) vwCl [(h0, .inr (8, [.int 0, .ref q7, .ref q15, .int 0, .ref q23, .int 0, .int 0, .int 0, .int 0, .int 0, .int 0, .int 0, .ref q31, .int 0, .ref q39, .int 0, .ref q47, .ref q55, .int 0, .int 0, .ref q63, .ref q71, .ref q79, .int 0, .int 0, .ref q87, .null, .null, .null, .null, .int 0, .int 0, .int 0, .null, .null, .int 0, .null, .null, .int 0, .null, .null, .int 0, .null, .null, .int 0, .int 0, .int 0, .int 0, .int 0, .int 0, .null, .null, .null, .null, .null])), (q7, .inl (cI, 32, .inl (fun _ => 0))), (q15, .inl (cI, 32, .inl (fun _ => 0))), (q23, .inl (cI, 32, .inl (fun _ => 0))), (q31, .inl (cI, 8, .inl (fun _ => 0))), (q39, .inl (cI, 20, .inl (fun _ => 0))), (q47, .inl (cI, 8, .inl (fun _ => 0))), (q55, .inl (cI, 8, .inl (fun _ => 0))), (q63, .inl (cI, 8, .inl (fun _ => 0))), (q71, .inl (cI, 8, .inl (fun _ => 0))), (q79, .inl (cI, 8, .inl (fun _ => 0))), (q87, .inl (cI, 8, .inl (fun _ => 0)))] H := hP
  have hD : va_D A [(h0, .inr (8, [.int 0, .ref q7, .ref q15, .int 0, .ref q23, .int 0, .int 0, .int 0, .int 0, .int 0, .int 0, .int 0, .ref q31, .int 0, .ref q39, .int 0, .ref q47, .ref q55, .int 0, .int 0, .ref q63, .ref q71, .ref q79, .int 0, .int 0, .ref q87, .null, .null, .null, .null, .int 0, .int 0, .int 0, .null, .null, .int 0, .null, .null, .int 0, .null, .null, .int 0, .null, .null, .int 0, .int 0, .int 0, .int 0, .int 0, .int 0, .null, .null, .null, .null, .null])), (q7, .inl (cI, 32, .inl (fun _ => 0))), (q15, .inl (cI, 32, .inl (fun _ => 0))), (q23, .inl (cI, 32, .inl (fun _ => 0))), (q31, .inl (cI, 8, .inl (fun _ => 0))), (q39, .inl (cI, 20, .inl (fun _ => 0))), (q47, .inl (cI, 8, .inl (fun _ => 0))), (q55, .inl (cI, 8, .inl (fun _ => 0))), (q63, .inl (cI, 8, .inl (fun _ => 0))), (q71, .inl (cI, 8, .inl (fun _ => 0))), (q79, .inl (cI, 8, .inl (fun _ => 0))), (q87, .inl (cI, 8, .inl (fun _ => 0)))] := hD
  refine lv_aload_n hx hb (by decide +kernel : decode cX8_init 92 = .ok (.aload_n 0, 1)) rfl (lv_at hl 0 rfl) ?_
  refine lv_bipush (v := 60) hx hb (by decide +kernel : decode cX8_init 93 = .ok (.bipush 60, 2)) (by decide) ?_
  refine va_newa (atype := .int) (ty := .int) (a0 := (60, .inl (fun _ => 0))) (N' := 60) hx hb (hts (Cond.arrayClass .int) (List.mem_cons_of_mem _ cwd_3)) rfl hK hP hD hS hA (fun _ => rfl) (by decide) (by decide) (by decide) (show 11 + 1 ≤ 28 by decide) (show 172 + 60 ≤ 52994 by decide) (by decide +kernel : decode cX8_init 95 = .ok (.newarray .int, 2)) (fun q95 cA H hK hP hD hS => ?_)
  cases Option.some.inj ((hK.2 3 _ rfl).2.symm.trans (hK.2 0 _ rfl).2)
  replace hK := hK.sub (tys' := [(cI, .int), (cZ, .boolean), (cJ, .long)]) [0, 1, 2] rfl
  have hP : va_P (dC, dI) vwCl [(h0, .inr (8, [.int 0, .ref q7, .ref q15, .int 0, .ref q23, .int 0, .int 0, .int 0, .int 0, .int 0, .int 0, .int 0, .ref q31, .int 0, .ref q39, .int 0, .ref q47, .ref q55, .int 0, .int 0, .ref q63, .ref q71, .ref q79, .int 0, .int 0, .ref q87, .null, .null, .null, .null, .int 0, .int 0, .int 0, .null, .null, .int 0, .null, .null, .int 0, .null, .null, .int 0, .null, .null, .int 0, .int 0, .int 0, .int 0, .int 0, .int 0, .null, .null, .null, .null, .null])), (q7, .inl (cI, 32, .inl (fun _ => 0))), (q15, .inl (cI, 32, .inl (fun _ => 0))), (q23, .inl (cI, 32, .inl (fun _ => 0))), (q31, .inl (cI, 8, .inl (fun _ => 0))), (q39, .inl (cI, 20, .inl (fun _ => 0))), (q47, .inl (cI, 8, .inl (fun _ => 0))), (q55, .inl (cI, 8, .inl (fun _ => 0))), (q63, .inl (cI, 8, .inl (fun _ => 0))), (q71, .inl (cI, 8, .inl (fun _ => 0))), (q79, .inl (cI, 8, .inl (fun _ => 0))), (q87, .inl (cI, 8, .inl (fun _ => 0))), (q95, .inl (cI, 60, .inl (fun _ => 0)))] H := hP
  have hD : va_D A [(h0, .inr (8, [.int 0, .ref q7, .ref q15, .int 0, .ref q23, .int 0, .int 0, .int 0, .int 0, .int 0, .int 0, .int 0, .ref q31, .int 0, .ref q39, .int 0, .ref q47, .ref q55, .int 0, .int 0, .ref q63, .ref q71, .ref q79, .int 0, .int 0, .ref q87, .null, .null, .null, .null, .int 0, .int 0, .int 0, .null, .null, .int 0, .null, .null, .int 0, .null, .null, .int 0, .null, .null, .int 0, .int 0, .int 0, .int 0, .int 0, .int 0, .null, .null, .null, .null, .null])), (q7, .inl (cI, 32, .inl (fun _ => 0))), (q15, .inl (cI, 32, .inl (fun _ => 0))), (q23, .inl (cI, 32, .inl (fun _ => 0))), (q31, .inl (cI, 8, .inl (fun _ => 0))), (q39, .inl (cI, 20, .inl (fun _ => 0))), (q47, .inl (cI, 8, .inl (fun _ => 0))), (q55, .inl (cI, 8, .inl (fun _ => 0))), (q63, .inl (cI, 8, .inl (fun _ => 0))), (q71, .inl (cI, 8, .inl (fun _ => 0))), (q79, .inl (cI, 8, .inl (fun _ => 0))), (q87, .inl (cI, 8, .inl (fun _ => 0))), (q95, .inl (cI, 60, .inl (fun _ => 0)))] := hD
  refine W.widen (k := 12) (n := 232) (by omega) (by omega) ?_
  refine va_putF (D := (dC, dI)) (ci := 8) (v := .ref q95) (ty := .array .int) (C := RX8) (T := TX8) (N := 55) hx hb hts (fun w h => List.mem_cons_of_mem _ (UW_ok 8 (by decide) w h)) tyX8 tyX8_ok nmX8 hown hK hP hD hS 0 rfl rfl 26 (by decide) (hts (.fieldLink RX8 43 "PoloSeasonModel" "ownerOf" "[I") (List.mem_cons_of_mem _ (FL_ok (8, 43, 8, 26) (by decide)))) (fun _ h9 => h9) rfl hin rfl (by decide +kernel) rfl rfl (Nat.le_of_ble_eq_true rfl) (by decide +kernel : decode cX8_init 97 = .ok (.putfield 43, 3)) (fun H locs hP hD hS => ?_)
  have hP : va_P (dC, dI) vwCl [(h0, .inr (8, [.int 0, .ref q7, .ref q15, .int 0, .ref q23, .int 0, .int 0, .int 0, .int 0, .int 0, .int 0, .int 0, .ref q31, .int 0, .ref q39, .int 0, .ref q47, .ref q55, .int 0, .int 0, .ref q63, .ref q71, .ref q79, .int 0, .int 0, .ref q87, .ref q95, .null, .null, .null, .int 0, .int 0, .int 0, .null, .null, .int 0, .null, .null, .int 0, .null, .null, .int 0, .null, .null, .int 0, .int 0, .int 0, .int 0, .int 0, .int 0, .null, .null, .null, .null, .null])), (q7, .inl (cI, 32, .inl (fun _ => 0))), (q15, .inl (cI, 32, .inl (fun _ => 0))), (q23, .inl (cI, 32, .inl (fun _ => 0))), (q31, .inl (cI, 8, .inl (fun _ => 0))), (q39, .inl (cI, 20, .inl (fun _ => 0))), (q47, .inl (cI, 8, .inl (fun _ => 0))), (q55, .inl (cI, 8, .inl (fun _ => 0))), (q63, .inl (cI, 8, .inl (fun _ => 0))), (q71, .inl (cI, 8, .inl (fun _ => 0))), (q79, .inl (cI, 8, .inl (fun _ => 0))), (q87, .inl (cI, 8, .inl (fun _ => 0))), (q95, .inl (cI, 60, .inl (fun _ => 0)))] H := hP
  have hD : va_D A [(h0, .inr (8, [.int 0, .ref q7, .ref q15, .int 0, .ref q23, .int 0, .int 0, .int 0, .int 0, .int 0, .int 0, .int 0, .ref q31, .int 0, .ref q39, .int 0, .ref q47, .ref q55, .int 0, .int 0, .ref q63, .ref q71, .ref q79, .int 0, .int 0, .ref q87, .ref q95, .null, .null, .null, .int 0, .int 0, .int 0, .null, .null, .int 0, .null, .null, .int 0, .null, .null, .int 0, .null, .null, .int 0, .int 0, .int 0, .int 0, .int 0, .int 0, .null, .null, .null, .null, .null])), (q7, .inl (cI, 32, .inl (fun _ => 0))), (q15, .inl (cI, 32, .inl (fun _ => 0))), (q23, .inl (cI, 32, .inl (fun _ => 0))), (q31, .inl (cI, 8, .inl (fun _ => 0))), (q39, .inl (cI, 20, .inl (fun _ => 0))), (q47, .inl (cI, 8, .inl (fun _ => 0))), (q55, .inl (cI, 8, .inl (fun _ => 0))), (q63, .inl (cI, 8, .inl (fun _ => 0))), (q71, .inl (cI, 8, .inl (fun _ => 0))), (q79, .inl (cI, 8, .inl (fun _ => 0))), (q87, .inl (cI, 8, .inl (fun _ => 0))), (q95, .inl (cI, 60, .inl (fun _ => 0)))] := hD
  refine lv_aload_n hx hb (by decide +kernel : decode cX8_init 100 = .ok (.aload_n 0, 1)) rfl (lv_at hl 0 rfl) ?_
  refine lv_bipush (v := 60) hx hb (by decide +kernel : decode cX8_init 101 = .ok (.bipush 60, 2)) (by decide) ?_
  refine va_newa (atype := .int) (ty := .int) (a0 := (60, .inl (fun _ => 0))) (N' := 60) hx hb (hts (Cond.arrayClass .int) (List.mem_cons_of_mem _ cwd_3)) rfl hK hP hD hS hA (fun _ => rfl) (by decide) (by decide) (by decide) (show 12 + 1 ≤ 28 by decide) (show 232 + 60 ≤ 52994 by decide) (by decide +kernel : decode cX8_init 103 = .ok (.newarray .int, 2)) (fun q103 cA H hK hP hD hS => ?_)
  cases Option.some.inj ((hK.2 3 _ rfl).2.symm.trans (hK.2 0 _ rfl).2)
  replace hK := hK.sub (tys' := [(cI, .int), (cZ, .boolean), (cJ, .long)]) [0, 1, 2] rfl
  have hP : va_P (dC, dI) vwCl [(h0, .inr (8, [.int 0, .ref q7, .ref q15, .int 0, .ref q23, .int 0, .int 0, .int 0, .int 0, .int 0, .int 0, .int 0, .ref q31, .int 0, .ref q39, .int 0, .ref q47, .ref q55, .int 0, .int 0, .ref q63, .ref q71, .ref q79, .int 0, .int 0, .ref q87, .ref q95, .null, .null, .null, .int 0, .int 0, .int 0, .null, .null, .int 0, .null, .null, .int 0, .null, .null, .int 0, .null, .null, .int 0, .int 0, .int 0, .int 0, .int 0, .int 0, .null, .null, .null, .null, .null])), (q7, .inl (cI, 32, .inl (fun _ => 0))), (q15, .inl (cI, 32, .inl (fun _ => 0))), (q23, .inl (cI, 32, .inl (fun _ => 0))), (q31, .inl (cI, 8, .inl (fun _ => 0))), (q39, .inl (cI, 20, .inl (fun _ => 0))), (q47, .inl (cI, 8, .inl (fun _ => 0))), (q55, .inl (cI, 8, .inl (fun _ => 0))), (q63, .inl (cI, 8, .inl (fun _ => 0))), (q71, .inl (cI, 8, .inl (fun _ => 0))), (q79, .inl (cI, 8, .inl (fun _ => 0))), (q87, .inl (cI, 8, .inl (fun _ => 0))), (q95, .inl (cI, 60, .inl (fun _ => 0))), (q103, .inl (cI, 60, .inl (fun _ => 0)))] H := hP
  have hD : va_D A [(h0, .inr (8, [.int 0, .ref q7, .ref q15, .int 0, .ref q23, .int 0, .int 0, .int 0, .int 0, .int 0, .int 0, .int 0, .ref q31, .int 0, .ref q39, .int 0, .ref q47, .ref q55, .int 0, .int 0, .ref q63, .ref q71, .ref q79, .int 0, .int 0, .ref q87, .ref q95, .null, .null, .null, .int 0, .int 0, .int 0, .null, .null, .int 0, .null, .null, .int 0, .null, .null, .int 0, .null, .null, .int 0, .int 0, .int 0, .int 0, .int 0, .int 0, .null, .null, .null, .null, .null])), (q7, .inl (cI, 32, .inl (fun _ => 0))), (q15, .inl (cI, 32, .inl (fun _ => 0))), (q23, .inl (cI, 32, .inl (fun _ => 0))), (q31, .inl (cI, 8, .inl (fun _ => 0))), (q39, .inl (cI, 20, .inl (fun _ => 0))), (q47, .inl (cI, 8, .inl (fun _ => 0))), (q55, .inl (cI, 8, .inl (fun _ => 0))), (q63, .inl (cI, 8, .inl (fun _ => 0))), (q71, .inl (cI, 8, .inl (fun _ => 0))), (q79, .inl (cI, 8, .inl (fun _ => 0))), (q87, .inl (cI, 8, .inl (fun _ => 0))), (q95, .inl (cI, 60, .inl (fun _ => 0))), (q103, .inl (cI, 60, .inl (fun _ => 0)))] := hD
  refine W.widen (k := 13) (n := 292) (by omega) (by omega) ?_
  refine va_putF (D := (dC, dI)) (ci := 8) (v := .ref q103) (ty := .array .int) (C := RX8) (T := TX8) (N := 55) hx hb hts (fun w h => List.mem_cons_of_mem _ (UW_ok 8 (by decide) w h)) tyX8 tyX8_ok nmX8 hown hK hP hD hS 0 rfl rfl 27 (by decide) (hts (.fieldLink RX8 46 "PoloSeasonModel" "plays" "[I") (List.mem_cons_of_mem _ (FL_ok (8, 46, 8, 27) (by decide)))) (fun _ h9 => h9) rfl hin rfl (by decide +kernel) rfl rfl (Nat.le_of_ble_eq_true rfl) (by decide +kernel : decode cX8_init 105 = .ok (.putfield 46, 3)) (fun H locs hP hD hS => ?_)
  have hP : va_P (dC, dI) vwCl [(h0, .inr (8, [.int 0, .ref q7, .ref q15, .int 0, .ref q23, .int 0, .int 0, .int 0, .int 0, .int 0, .int 0, .int 0, .ref q31, .int 0, .ref q39, .int 0, .ref q47, .ref q55, .int 0, .int 0, .ref q63, .ref q71, .ref q79, .int 0, .int 0, .ref q87, .ref q95, .ref q103, .null, .null, .int 0, .int 0, .int 0, .null, .null, .int 0, .null, .null, .int 0, .null, .null, .int 0, .null, .null, .int 0, .int 0, .int 0, .int 0, .int 0, .int 0, .null, .null, .null, .null, .null])), (q7, .inl (cI, 32, .inl (fun _ => 0))), (q15, .inl (cI, 32, .inl (fun _ => 0))), (q23, .inl (cI, 32, .inl (fun _ => 0))), (q31, .inl (cI, 8, .inl (fun _ => 0))), (q39, .inl (cI, 20, .inl (fun _ => 0))), (q47, .inl (cI, 8, .inl (fun _ => 0))), (q55, .inl (cI, 8, .inl (fun _ => 0))), (q63, .inl (cI, 8, .inl (fun _ => 0))), (q71, .inl (cI, 8, .inl (fun _ => 0))), (q79, .inl (cI, 8, .inl (fun _ => 0))), (q87, .inl (cI, 8, .inl (fun _ => 0))), (q95, .inl (cI, 60, .inl (fun _ => 0))), (q103, .inl (cI, 60, .inl (fun _ => 0)))] H := hP
  have hD : va_D A [(h0, .inr (8, [.int 0, .ref q7, .ref q15, .int 0, .ref q23, .int 0, .int 0, .int 0, .int 0, .int 0, .int 0, .int 0, .ref q31, .int 0, .ref q39, .int 0, .ref q47, .ref q55, .int 0, .int 0, .ref q63, .ref q71, .ref q79, .int 0, .int 0, .ref q87, .ref q95, .ref q103, .null, .null, .int 0, .int 0, .int 0, .null, .null, .int 0, .null, .null, .int 0, .null, .null, .int 0, .null, .null, .int 0, .int 0, .int 0, .int 0, .int 0, .int 0, .null, .null, .null, .null, .null])), (q7, .inl (cI, 32, .inl (fun _ => 0))), (q15, .inl (cI, 32, .inl (fun _ => 0))), (q23, .inl (cI, 32, .inl (fun _ => 0))), (q31, .inl (cI, 8, .inl (fun _ => 0))), (q39, .inl (cI, 20, .inl (fun _ => 0))), (q47, .inl (cI, 8, .inl (fun _ => 0))), (q55, .inl (cI, 8, .inl (fun _ => 0))), (q63, .inl (cI, 8, .inl (fun _ => 0))), (q71, .inl (cI, 8, .inl (fun _ => 0))), (q79, .inl (cI, 8, .inl (fun _ => 0))), (q87, .inl (cI, 8, .inl (fun _ => 0))), (q95, .inl (cI, 60, .inl (fun _ => 0))), (q103, .inl (cI, 60, .inl (fun _ => 0)))] := hD
  refine lv_aload_n hx hb (by decide +kernel : decode cX8_init 108 = .ok (.aload_n 0, 1)) rfl (lv_at hl 0 rfl) ?_
  refine lv_bipush (v := 60) hx hb (by decide +kernel : decode cX8_init 109 = .ok (.bipush 60, 2)) (by decide) ?_
  refine va_newa (atype := .int) (ty := .int) (a0 := (60, .inl (fun _ => 0))) (N' := 60) hx hb (hts (Cond.arrayClass .int) (List.mem_cons_of_mem _ cwd_3)) rfl hK hP hD hS hA (fun _ => rfl) (by decide) (by decide) (by decide) (show 13 + 1 ≤ 28 by decide) (show 292 + 60 ≤ 52994 by decide) (by decide +kernel : decode cX8_init 111 = .ok (.newarray .int, 2)) (fun q111 cA H hK hP hD hS => ?_)
  cases Option.some.inj ((hK.2 3 _ rfl).2.symm.trans (hK.2 0 _ rfl).2)
  replace hK := hK.sub (tys' := [(cI, .int), (cZ, .boolean), (cJ, .long)]) [0, 1, 2] rfl
  have hP : va_P (dC, dI) vwCl [(h0, .inr (8, [.int 0, .ref q7, .ref q15, .int 0, .ref q23, .int 0, .int 0, .int 0, .int 0, .int 0, .int 0, .int 0, .ref q31, .int 0, .ref q39, .int 0, .ref q47, .ref q55, .int 0, .int 0, .ref q63, .ref q71, .ref q79, .int 0, .int 0, .ref q87, .ref q95, .ref q103, .null, .null, .int 0, .int 0, .int 0, .null, .null, .int 0, .null, .null, .int 0, .null, .null, .int 0, .null, .null, .int 0, .int 0, .int 0, .int 0, .int 0, .int 0, .null, .null, .null, .null, .null])), (q7, .inl (cI, 32, .inl (fun _ => 0))), (q15, .inl (cI, 32, .inl (fun _ => 0))), (q23, .inl (cI, 32, .inl (fun _ => 0))), (q31, .inl (cI, 8, .inl (fun _ => 0))), (q39, .inl (cI, 20, .inl (fun _ => 0))), (q47, .inl (cI, 8, .inl (fun _ => 0))), (q55, .inl (cI, 8, .inl (fun _ => 0))), (q63, .inl (cI, 8, .inl (fun _ => 0))), (q71, .inl (cI, 8, .inl (fun _ => 0))), (q79, .inl (cI, 8, .inl (fun _ => 0))), (q87, .inl (cI, 8, .inl (fun _ => 0))), (q95, .inl (cI, 60, .inl (fun _ => 0))), (q103, .inl (cI, 60, .inl (fun _ => 0))), (q111, .inl (cI, 60, .inl (fun _ => 0)))] H := hP
  have hD : va_D A [(h0, .inr (8, [.int 0, .ref q7, .ref q15, .int 0, .ref q23, .int 0, .int 0, .int 0, .int 0, .int 0, .int 0, .int 0, .ref q31, .int 0, .ref q39, .int 0, .ref q47, .ref q55, .int 0, .int 0, .ref q63, .ref q71, .ref q79, .int 0, .int 0, .ref q87, .ref q95, .ref q103, .null, .null, .int 0, .int 0, .int 0, .null, .null, .int 0, .null, .null, .int 0, .null, .null, .int 0, .null, .null, .int 0, .int 0, .int 0, .int 0, .int 0, .int 0, .null, .null, .null, .null, .null])), (q7, .inl (cI, 32, .inl (fun _ => 0))), (q15, .inl (cI, 32, .inl (fun _ => 0))), (q23, .inl (cI, 32, .inl (fun _ => 0))), (q31, .inl (cI, 8, .inl (fun _ => 0))), (q39, .inl (cI, 20, .inl (fun _ => 0))), (q47, .inl (cI, 8, .inl (fun _ => 0))), (q55, .inl (cI, 8, .inl (fun _ => 0))), (q63, .inl (cI, 8, .inl (fun _ => 0))), (q71, .inl (cI, 8, .inl (fun _ => 0))), (q79, .inl (cI, 8, .inl (fun _ => 0))), (q87, .inl (cI, 8, .inl (fun _ => 0))), (q95, .inl (cI, 60, .inl (fun _ => 0))), (q103, .inl (cI, 60, .inl (fun _ => 0))), (q111, .inl (cI, 60, .inl (fun _ => 0)))] := hD
  refine W.widen (k := 14) (n := 352) (by omega) (by omega) ?_
  refine va_putF (D := (dC, dI)) (ci := 8) (v := .ref q111) (ty := .array .int) (C := RX8) (T := TX8) (N := 55) hx hb hts (fun w h => List.mem_cons_of_mem _ (UW_ok 8 (by decide) w h)) tyX8 tyX8_ok nmX8 hown hK hP hD hS 0 rfl rfl 28 (by decide) (hts (.fieldLink RX8 49 "PoloSeasonModel" "todays" "[I") (List.mem_cons_of_mem _ (FL_ok (8, 49, 8, 28) (by decide)))) (fun _ h9 => h9) rfl hin rfl (by decide +kernel) rfl rfl (Nat.le_of_ble_eq_true rfl) (by decide +kernel : decode cX8_init 113 = .ok (.putfield 49, 3)) (fun H locs hP hD hS => ?_)
  have hP : va_P (dC, dI) vwCl [(h0, .inr (8, [.int 0, .ref q7, .ref q15, .int 0, .ref q23, .int 0, .int 0, .int 0, .int 0, .int 0, .int 0, .int 0, .ref q31, .int 0, .ref q39, .int 0, .ref q47, .ref q55, .int 0, .int 0, .ref q63, .ref q71, .ref q79, .int 0, .int 0, .ref q87, .ref q95, .ref q103, .ref q111, .null, .int 0, .int 0, .int 0, .null, .null, .int 0, .null, .null, .int 0, .null, .null, .int 0, .null, .null, .int 0, .int 0, .int 0, .int 0, .int 0, .int 0, .null, .null, .null, .null, .null])), (q7, .inl (cI, 32, .inl (fun _ => 0))), (q15, .inl (cI, 32, .inl (fun _ => 0))), (q23, .inl (cI, 32, .inl (fun _ => 0))), (q31, .inl (cI, 8, .inl (fun _ => 0))), (q39, .inl (cI, 20, .inl (fun _ => 0))), (q47, .inl (cI, 8, .inl (fun _ => 0))), (q55, .inl (cI, 8, .inl (fun _ => 0))), (q63, .inl (cI, 8, .inl (fun _ => 0))), (q71, .inl (cI, 8, .inl (fun _ => 0))), (q79, .inl (cI, 8, .inl (fun _ => 0))), (q87, .inl (cI, 8, .inl (fun _ => 0))), (q95, .inl (cI, 60, .inl (fun _ => 0))), (q103, .inl (cI, 60, .inl (fun _ => 0))), (q111, .inl (cI, 60, .inl (fun _ => 0)))] H := hP
  have hD : va_D A [(h0, .inr (8, [.int 0, .ref q7, .ref q15, .int 0, .ref q23, .int 0, .int 0, .int 0, .int 0, .int 0, .int 0, .int 0, .ref q31, .int 0, .ref q39, .int 0, .ref q47, .ref q55, .int 0, .int 0, .ref q63, .ref q71, .ref q79, .int 0, .int 0, .ref q87, .ref q95, .ref q103, .ref q111, .null, .int 0, .int 0, .int 0, .null, .null, .int 0, .null, .null, .int 0, .null, .null, .int 0, .null, .null, .int 0, .int 0, .int 0, .int 0, .int 0, .int 0, .null, .null, .null, .null, .null])), (q7, .inl (cI, 32, .inl (fun _ => 0))), (q15, .inl (cI, 32, .inl (fun _ => 0))), (q23, .inl (cI, 32, .inl (fun _ => 0))), (q31, .inl (cI, 8, .inl (fun _ => 0))), (q39, .inl (cI, 20, .inl (fun _ => 0))), (q47, .inl (cI, 8, .inl (fun _ => 0))), (q55, .inl (cI, 8, .inl (fun _ => 0))), (q63, .inl (cI, 8, .inl (fun _ => 0))), (q71, .inl (cI, 8, .inl (fun _ => 0))), (q79, .inl (cI, 8, .inl (fun _ => 0))), (q87, .inl (cI, 8, .inl (fun _ => 0))), (q95, .inl (cI, 60, .inl (fun _ => 0))), (q103, .inl (cI, 60, .inl (fun _ => 0))), (q111, .inl (cI, 60, .inl (fun _ => 0)))] := hD
  refine lv_aload_n hx hb (by decide +kernel : decode cX8_init 116 = .ok (.aload_n 0, 1)) rfl (lv_at hl 0 rfl) ?_
  refine lv_bipush (v := 60) hx hb (by decide +kernel : decode cX8_init 117 = .ok (.bipush 60, 2)) (by decide) ?_
  refine va_newa (atype := .int) (ty := .int) (a0 := (60, .inl (fun _ => 0))) (N' := 60) hx hb (hts (Cond.arrayClass .int) (List.mem_cons_of_mem _ cwd_3)) rfl hK hP hD hS hA (fun _ => rfl) (by decide) (by decide) (by decide) (show 14 + 1 ≤ 28 by decide) (show 352 + 60 ≤ 52994 by decide) (by decide +kernel : decode cX8_init 119 = .ok (.newarray .int, 2)) (fun q119 cA H hK hP hD hS => ?_)
  cases Option.some.inj ((hK.2 3 _ rfl).2.symm.trans (hK.2 0 _ rfl).2)
  replace hK := hK.sub (tys' := [(cI, .int), (cZ, .boolean), (cJ, .long)]) [0, 1, 2] rfl
  have hP : va_P (dC, dI) vwCl [(h0, .inr (8, [.int 0, .ref q7, .ref q15, .int 0, .ref q23, .int 0, .int 0, .int 0, .int 0, .int 0, .int 0, .int 0, .ref q31, .int 0, .ref q39, .int 0, .ref q47, .ref q55, .int 0, .int 0, .ref q63, .ref q71, .ref q79, .int 0, .int 0, .ref q87, .ref q95, .ref q103, .ref q111, .null, .int 0, .int 0, .int 0, .null, .null, .int 0, .null, .null, .int 0, .null, .null, .int 0, .null, .null, .int 0, .int 0, .int 0, .int 0, .int 0, .int 0, .null, .null, .null, .null, .null])), (q7, .inl (cI, 32, .inl (fun _ => 0))), (q15, .inl (cI, 32, .inl (fun _ => 0))), (q23, .inl (cI, 32, .inl (fun _ => 0))), (q31, .inl (cI, 8, .inl (fun _ => 0))), (q39, .inl (cI, 20, .inl (fun _ => 0))), (q47, .inl (cI, 8, .inl (fun _ => 0))), (q55, .inl (cI, 8, .inl (fun _ => 0))), (q63, .inl (cI, 8, .inl (fun _ => 0))), (q71, .inl (cI, 8, .inl (fun _ => 0))), (q79, .inl (cI, 8, .inl (fun _ => 0))), (q87, .inl (cI, 8, .inl (fun _ => 0))), (q95, .inl (cI, 60, .inl (fun _ => 0))), (q103, .inl (cI, 60, .inl (fun _ => 0))), (q111, .inl (cI, 60, .inl (fun _ => 0))), (q119, .inl (cI, 60, .inl (fun _ => 0)))] H := hP
  have hD : va_D A [(h0, .inr (8, [.int 0, .ref q7, .ref q15, .int 0, .ref q23, .int 0, .int 0, .int 0, .int 0, .int 0, .int 0, .int 0, .ref q31, .int 0, .ref q39, .int 0, .ref q47, .ref q55, .int 0, .int 0, .ref q63, .ref q71, .ref q79, .int 0, .int 0, .ref q87, .ref q95, .ref q103, .ref q111, .null, .int 0, .int 0, .int 0, .null, .null, .int 0, .null, .null, .int 0, .null, .null, .int 0, .null, .null, .int 0, .int 0, .int 0, .int 0, .int 0, .int 0, .null, .null, .null, .null, .null])), (q7, .inl (cI, 32, .inl (fun _ => 0))), (q15, .inl (cI, 32, .inl (fun _ => 0))), (q23, .inl (cI, 32, .inl (fun _ => 0))), (q31, .inl (cI, 8, .inl (fun _ => 0))), (q39, .inl (cI, 20, .inl (fun _ => 0))), (q47, .inl (cI, 8, .inl (fun _ => 0))), (q55, .inl (cI, 8, .inl (fun _ => 0))), (q63, .inl (cI, 8, .inl (fun _ => 0))), (q71, .inl (cI, 8, .inl (fun _ => 0))), (q79, .inl (cI, 8, .inl (fun _ => 0))), (q87, .inl (cI, 8, .inl (fun _ => 0))), (q95, .inl (cI, 60, .inl (fun _ => 0))), (q103, .inl (cI, 60, .inl (fun _ => 0))), (q111, .inl (cI, 60, .inl (fun _ => 0))), (q119, .inl (cI, 60, .inl (fun _ => 0)))] := hD
  refine W.widen (k := 15) (n := 412) (by omega) (by omega) ?_
  refine va_putF (D := (dC, dI)) (ci := 8) (v := .ref q119) (ty := .array .int) (C := RX8) (T := TX8) (N := 55) hx hb hts (fun w h => List.mem_cons_of_mem _ (UW_ok 8 (by decide) w h)) tyX8 tyX8_ok nmX8 hown hK hP hD hS 0 rfl rfl 29 (by decide) (hts (.fieldLink RX8 52 "PoloSeasonModel" "lameTill" "[I") (List.mem_cons_of_mem _ (FL_ok (8, 52, 8, 29) (by decide)))) (fun _ h9 => h9) rfl hin rfl (by decide +kernel) rfl rfl (Nat.le_of_ble_eq_true rfl) (by decide +kernel : decode cX8_init 121 = .ok (.putfield 52, 3)) (fun H locs hP hD hS => ?_)
  have hP : va_P (dC, dI) vwCl [(h0, .inr (8, [.int 0, .ref q7, .ref q15, .int 0, .ref q23, .int 0, .int 0, .int 0, .int 0, .int 0, .int 0, .int 0, .ref q31, .int 0, .ref q39, .int 0, .ref q47, .ref q55, .int 0, .int 0, .ref q63, .ref q71, .ref q79, .int 0, .int 0, .ref q87, .ref q95, .ref q103, .ref q111, .ref q119, .int 0, .int 0, .int 0, .null, .null, .int 0, .null, .null, .int 0, .null, .null, .int 0, .null, .null, .int 0, .int 0, .int 0, .int 0, .int 0, .int 0, .null, .null, .null, .null, .null])), (q7, .inl (cI, 32, .inl (fun _ => 0))), (q15, .inl (cI, 32, .inl (fun _ => 0))), (q23, .inl (cI, 32, .inl (fun _ => 0))), (q31, .inl (cI, 8, .inl (fun _ => 0))), (q39, .inl (cI, 20, .inl (fun _ => 0))), (q47, .inl (cI, 8, .inl (fun _ => 0))), (q55, .inl (cI, 8, .inl (fun _ => 0))), (q63, .inl (cI, 8, .inl (fun _ => 0))), (q71, .inl (cI, 8, .inl (fun _ => 0))), (q79, .inl (cI, 8, .inl (fun _ => 0))), (q87, .inl (cI, 8, .inl (fun _ => 0))), (q95, .inl (cI, 60, .inl (fun _ => 0))), (q103, .inl (cI, 60, .inl (fun _ => 0))), (q111, .inl (cI, 60, .inl (fun _ => 0))), (q119, .inl (cI, 60, .inl (fun _ => 0)))] H := hP
  have hD : va_D A [(h0, .inr (8, [.int 0, .ref q7, .ref q15, .int 0, .ref q23, .int 0, .int 0, .int 0, .int 0, .int 0, .int 0, .int 0, .ref q31, .int 0, .ref q39, .int 0, .ref q47, .ref q55, .int 0, .int 0, .ref q63, .ref q71, .ref q79, .int 0, .int 0, .ref q87, .ref q95, .ref q103, .ref q111, .ref q119, .int 0, .int 0, .int 0, .null, .null, .int 0, .null, .null, .int 0, .null, .null, .int 0, .null, .null, .int 0, .int 0, .int 0, .int 0, .int 0, .int 0, .null, .null, .null, .null, .null])), (q7, .inl (cI, 32, .inl (fun _ => 0))), (q15, .inl (cI, 32, .inl (fun _ => 0))), (q23, .inl (cI, 32, .inl (fun _ => 0))), (q31, .inl (cI, 8, .inl (fun _ => 0))), (q39, .inl (cI, 20, .inl (fun _ => 0))), (q47, .inl (cI, 8, .inl (fun _ => 0))), (q55, .inl (cI, 8, .inl (fun _ => 0))), (q63, .inl (cI, 8, .inl (fun _ => 0))), (q71, .inl (cI, 8, .inl (fun _ => 0))), (q79, .inl (cI, 8, .inl (fun _ => 0))), (q87, .inl (cI, 8, .inl (fun _ => 0))), (q95, .inl (cI, 60, .inl (fun _ => 0))), (q103, .inl (cI, 60, .inl (fun _ => 0))), (q111, .inl (cI, 60, .inl (fun _ => 0))), (q119, .inl (cI, 60, .inl (fun _ => 0)))] := hD
  refine lv_aload_n hx hb (by decide +kernel : decode cX8_init 124 = .ok (.aload_n 0, 1)) rfl (lv_at hl 0 rfl) ?_
  refine lv_bipush (v := 8) hx hb (by decide +kernel : decode cX8_init 125 = .ok (.bipush 8, 2)) (by decide) ?_
  refine va_newa (atype := .int) (ty := .int) (a0 := (8, .inl (fun _ => 0))) (N' := 8) hx hb (hts (Cond.arrayClass .int) (List.mem_cons_of_mem _ cwd_3)) rfl hK hP hD hS hA (fun _ => rfl) (by decide) (by decide) (by decide) (show 15 + 1 ≤ 28 by decide) (show 412 + 8 ≤ 52994 by decide) (by decide +kernel : decode cX8_init 127 = .ok (.newarray .int, 2)) (fun q127 cA H hK hP hD hS => ?_)
  cases Option.some.inj ((hK.2 3 _ rfl).2.symm.trans (hK.2 0 _ rfl).2)
  replace hK := hK.sub (tys' := [(cI, .int), (cZ, .boolean), (cJ, .long)]) [0, 1, 2] rfl
  have hP : va_P (dC, dI) vwCl [(h0, .inr (8, [.int 0, .ref q7, .ref q15, .int 0, .ref q23, .int 0, .int 0, .int 0, .int 0, .int 0, .int 0, .int 0, .ref q31, .int 0, .ref q39, .int 0, .ref q47, .ref q55, .int 0, .int 0, .ref q63, .ref q71, .ref q79, .int 0, .int 0, .ref q87, .ref q95, .ref q103, .ref q111, .ref q119, .int 0, .int 0, .int 0, .null, .null, .int 0, .null, .null, .int 0, .null, .null, .int 0, .null, .null, .int 0, .int 0, .int 0, .int 0, .int 0, .int 0, .null, .null, .null, .null, .null])), (q7, .inl (cI, 32, .inl (fun _ => 0))), (q15, .inl (cI, 32, .inl (fun _ => 0))), (q23, .inl (cI, 32, .inl (fun _ => 0))), (q31, .inl (cI, 8, .inl (fun _ => 0))), (q39, .inl (cI, 20, .inl (fun _ => 0))), (q47, .inl (cI, 8, .inl (fun _ => 0))), (q55, .inl (cI, 8, .inl (fun _ => 0))), (q63, .inl (cI, 8, .inl (fun _ => 0))), (q71, .inl (cI, 8, .inl (fun _ => 0))), (q79, .inl (cI, 8, .inl (fun _ => 0))), (q87, .inl (cI, 8, .inl (fun _ => 0))), (q95, .inl (cI, 60, .inl (fun _ => 0))), (q103, .inl (cI, 60, .inl (fun _ => 0))), (q111, .inl (cI, 60, .inl (fun _ => 0))), (q119, .inl (cI, 60, .inl (fun _ => 0))), (q127, .inl (cI, 8, .inl (fun _ => 0)))] H := hP
  have hD : va_D A [(h0, .inr (8, [.int 0, .ref q7, .ref q15, .int 0, .ref q23, .int 0, .int 0, .int 0, .int 0, .int 0, .int 0, .int 0, .ref q31, .int 0, .ref q39, .int 0, .ref q47, .ref q55, .int 0, .int 0, .ref q63, .ref q71, .ref q79, .int 0, .int 0, .ref q87, .ref q95, .ref q103, .ref q111, .ref q119, .int 0, .int 0, .int 0, .null, .null, .int 0, .null, .null, .int 0, .null, .null, .int 0, .null, .null, .int 0, .int 0, .int 0, .int 0, .int 0, .int 0, .null, .null, .null, .null, .null])), (q7, .inl (cI, 32, .inl (fun _ => 0))), (q15, .inl (cI, 32, .inl (fun _ => 0))), (q23, .inl (cI, 32, .inl (fun _ => 0))), (q31, .inl (cI, 8, .inl (fun _ => 0))), (q39, .inl (cI, 20, .inl (fun _ => 0))), (q47, .inl (cI, 8, .inl (fun _ => 0))), (q55, .inl (cI, 8, .inl (fun _ => 0))), (q63, .inl (cI, 8, .inl (fun _ => 0))), (q71, .inl (cI, 8, .inl (fun _ => 0))), (q79, .inl (cI, 8, .inl (fun _ => 0))), (q87, .inl (cI, 8, .inl (fun _ => 0))), (q95, .inl (cI, 60, .inl (fun _ => 0))), (q103, .inl (cI, 60, .inl (fun _ => 0))), (q111, .inl (cI, 60, .inl (fun _ => 0))), (q119, .inl (cI, 60, .inl (fun _ => 0))), (q127, .inl (cI, 8, .inl (fun _ => 0)))] := hD
  refine W.widen (k := 16) (n := 420) (by omega) (by omega) ?_
  refine va_putF (D := (dC, dI)) (ci := 8) (v := .ref q127) (ty := .array .int) (C := RX8) (T := TX8) (N := 55) hx hb hts (fun w h => List.mem_cons_of_mem _ (UW_ok 8 (by decide) w h)) tyX8 tyX8_ok nmX8 hown hK hP hD hS 0 rfl rfl 33 (by decide) (hts (.fieldLink RX8 55 "PoloSeasonModel" "own" "[I") (List.mem_cons_of_mem _ (FL_ok (8, 55, 8, 33) (by decide)))) (fun _ h9 => h9) rfl hin rfl (by decide +kernel) rfl rfl (Nat.le_of_ble_eq_true rfl) (by decide +kernel : decode cX8_init 129 = .ok (.putfield 55, 3)) (fun H locs hP hD hS => ?_)
  have hP : va_P (dC, dI) vwCl [(h0, .inr (8, [.int 0, .ref q7, .ref q15, .int 0, .ref q23, .int 0, .int 0, .int 0, .int 0, .int 0, .int 0, .int 0, .ref q31, .int 0, .ref q39, .int 0, .ref q47, .ref q55, .int 0, .int 0, .ref q63, .ref q71, .ref q79, .int 0, .int 0, .ref q87, .ref q95, .ref q103, .ref q111, .ref q119, .int 0, .int 0, .int 0, .ref q127, .null, .int 0, .null, .null, .int 0, .null, .null, .int 0, .null, .null, .int 0, .int 0, .int 0, .int 0, .int 0, .int 0, .null, .null, .null, .null, .null])), (q7, .inl (cI, 32, .inl (fun _ => 0))), (q15, .inl (cI, 32, .inl (fun _ => 0))), (q23, .inl (cI, 32, .inl (fun _ => 0))), (q31, .inl (cI, 8, .inl (fun _ => 0))), (q39, .inl (cI, 20, .inl (fun _ => 0))), (q47, .inl (cI, 8, .inl (fun _ => 0))), (q55, .inl (cI, 8, .inl (fun _ => 0))), (q63, .inl (cI, 8, .inl (fun _ => 0))), (q71, .inl (cI, 8, .inl (fun _ => 0))), (q79, .inl (cI, 8, .inl (fun _ => 0))), (q87, .inl (cI, 8, .inl (fun _ => 0))), (q95, .inl (cI, 60, .inl (fun _ => 0))), (q103, .inl (cI, 60, .inl (fun _ => 0))), (q111, .inl (cI, 60, .inl (fun _ => 0))), (q119, .inl (cI, 60, .inl (fun _ => 0))), (q127, .inl (cI, 8, .inl (fun _ => 0)))] H := hP
  have hD : va_D A [(h0, .inr (8, [.int 0, .ref q7, .ref q15, .int 0, .ref q23, .int 0, .int 0, .int 0, .int 0, .int 0, .int 0, .int 0, .ref q31, .int 0, .ref q39, .int 0, .ref q47, .ref q55, .int 0, .int 0, .ref q63, .ref q71, .ref q79, .int 0, .int 0, .ref q87, .ref q95, .ref q103, .ref q111, .ref q119, .int 0, .int 0, .int 0, .ref q127, .null, .int 0, .null, .null, .int 0, .null, .null, .int 0, .null, .null, .int 0, .int 0, .int 0, .int 0, .int 0, .int 0, .null, .null, .null, .null, .null])), (q7, .inl (cI, 32, .inl (fun _ => 0))), (q15, .inl (cI, 32, .inl (fun _ => 0))), (q23, .inl (cI, 32, .inl (fun _ => 0))), (q31, .inl (cI, 8, .inl (fun _ => 0))), (q39, .inl (cI, 20, .inl (fun _ => 0))), (q47, .inl (cI, 8, .inl (fun _ => 0))), (q55, .inl (cI, 8, .inl (fun _ => 0))), (q63, .inl (cI, 8, .inl (fun _ => 0))), (q71, .inl (cI, 8, .inl (fun _ => 0))), (q79, .inl (cI, 8, .inl (fun _ => 0))), (q87, .inl (cI, 8, .inl (fun _ => 0))), (q95, .inl (cI, 60, .inl (fun _ => 0))), (q103, .inl (cI, 60, .inl (fun _ => 0))), (q111, .inl (cI, 60, .inl (fun _ => 0))), (q119, .inl (cI, 60, .inl (fun _ => 0))), (q127, .inl (cI, 8, .inl (fun _ => 0)))] := hD
  refine lv_aload_n hx hb (by decide +kernel : decode cX8_init 132 = .ok (.aload_n 0, 1)) rfl (lv_at hl 0 rfl) ?_
  refine lv_bipush (v := 8) hx hb (by decide +kernel : decode cX8_init 133 = .ok (.bipush 8, 2)) (by decide) ?_
  refine va_newa (atype := .int) (ty := .int) (a0 := (8, .inl (fun _ => 0))) (N' := 8) hx hb (hts (Cond.arrayClass .int) (List.mem_cons_of_mem _ cwd_3)) rfl hK hP hD hS hA (fun _ => rfl) (by decide) (by decide) (by decide) (show 16 + 1 ≤ 28 by decide) (show 420 + 8 ≤ 52994 by decide) (by decide +kernel : decode cX8_init 135 = .ok (.newarray .int, 2)) (fun q135 cA H hK hP hD hS => ?_)
  cases Option.some.inj ((hK.2 3 _ rfl).2.symm.trans (hK.2 0 _ rfl).2)
  replace hK := hK.sub (tys' := [(cI, .int), (cZ, .boolean), (cJ, .long)]) [0, 1, 2] rfl
  have hP : va_P (dC, dI) vwCl [(h0, .inr (8, [.int 0, .ref q7, .ref q15, .int 0, .ref q23, .int 0, .int 0, .int 0, .int 0, .int 0, .int 0, .int 0, .ref q31, .int 0, .ref q39, .int 0, .ref q47, .ref q55, .int 0, .int 0, .ref q63, .ref q71, .ref q79, .int 0, .int 0, .ref q87, .ref q95, .ref q103, .ref q111, .ref q119, .int 0, .int 0, .int 0, .ref q127, .null, .int 0, .null, .null, .int 0, .null, .null, .int 0, .null, .null, .int 0, .int 0, .int 0, .int 0, .int 0, .int 0, .null, .null, .null, .null, .null])), (q7, .inl (cI, 32, .inl (fun _ => 0))), (q15, .inl (cI, 32, .inl (fun _ => 0))), (q23, .inl (cI, 32, .inl (fun _ => 0))), (q31, .inl (cI, 8, .inl (fun _ => 0))), (q39, .inl (cI, 20, .inl (fun _ => 0))), (q47, .inl (cI, 8, .inl (fun _ => 0))), (q55, .inl (cI, 8, .inl (fun _ => 0))), (q63, .inl (cI, 8, .inl (fun _ => 0))), (q71, .inl (cI, 8, .inl (fun _ => 0))), (q79, .inl (cI, 8, .inl (fun _ => 0))), (q87, .inl (cI, 8, .inl (fun _ => 0))), (q95, .inl (cI, 60, .inl (fun _ => 0))), (q103, .inl (cI, 60, .inl (fun _ => 0))), (q111, .inl (cI, 60, .inl (fun _ => 0))), (q119, .inl (cI, 60, .inl (fun _ => 0))), (q127, .inl (cI, 8, .inl (fun _ => 0))), (q135, .inl (cI, 8, .inl (fun _ => 0)))] H := hP
  have hD : va_D A [(h0, .inr (8, [.int 0, .ref q7, .ref q15, .int 0, .ref q23, .int 0, .int 0, .int 0, .int 0, .int 0, .int 0, .int 0, .ref q31, .int 0, .ref q39, .int 0, .ref q47, .ref q55, .int 0, .int 0, .ref q63, .ref q71, .ref q79, .int 0, .int 0, .ref q87, .ref q95, .ref q103, .ref q111, .ref q119, .int 0, .int 0, .int 0, .ref q127, .null, .int 0, .null, .null, .int 0, .null, .null, .int 0, .null, .null, .int 0, .int 0, .int 0, .int 0, .int 0, .int 0, .null, .null, .null, .null, .null])), (q7, .inl (cI, 32, .inl (fun _ => 0))), (q15, .inl (cI, 32, .inl (fun _ => 0))), (q23, .inl (cI, 32, .inl (fun _ => 0))), (q31, .inl (cI, 8, .inl (fun _ => 0))), (q39, .inl (cI, 20, .inl (fun _ => 0))), (q47, .inl (cI, 8, .inl (fun _ => 0))), (q55, .inl (cI, 8, .inl (fun _ => 0))), (q63, .inl (cI, 8, .inl (fun _ => 0))), (q71, .inl (cI, 8, .inl (fun _ => 0))), (q79, .inl (cI, 8, .inl (fun _ => 0))), (q87, .inl (cI, 8, .inl (fun _ => 0))), (q95, .inl (cI, 60, .inl (fun _ => 0))), (q103, .inl (cI, 60, .inl (fun _ => 0))), (q111, .inl (cI, 60, .inl (fun _ => 0))), (q119, .inl (cI, 60, .inl (fun _ => 0))), (q127, .inl (cI, 8, .inl (fun _ => 0))), (q135, .inl (cI, 8, .inl (fun _ => 0)))] := hD
  refine W.widen (k := 17) (n := 428) (by omega) (by omega) ?_
  refine va_putF (D := (dC, dI)) (ci := 8) (v := .ref q135) (ty := .array .int) (C := RX8) (T := TX8) (N := 55) hx hb hts (fun w h => List.mem_cons_of_mem _ (UW_ok 8 (by decide) w h)) tyX8 tyX8_ok nmX8 hown hK hP hD hS 0 rfl rfl 34 (by decide) (hts (.fieldLink RX8 58 "PoloSeasonModel" "cap" "[I") (List.mem_cons_of_mem _ (FL_ok (8, 58, 8, 34) (by decide)))) (fun _ h9 => h9) rfl hin rfl (by decide +kernel) rfl rfl (Nat.le_of_ble_eq_true rfl) (by decide +kernel : decode cX8_init 137 = .ok (.putfield 58, 3)) (fun H locs hP hD hS => ?_)
  have hP : va_P (dC, dI) vwCl [(h0, .inr (8, [.int 0, .ref q7, .ref q15, .int 0, .ref q23, .int 0, .int 0, .int 0, .int 0, .int 0, .int 0, .int 0, .ref q31, .int 0, .ref q39, .int 0, .ref q47, .ref q55, .int 0, .int 0, .ref q63, .ref q71, .ref q79, .int 0, .int 0, .ref q87, .ref q95, .ref q103, .ref q111, .ref q119, .int 0, .int 0, .int 0, .ref q127, .ref q135, .int 0, .null, .null, .int 0, .null, .null, .int 0, .null, .null, .int 0, .int 0, .int 0, .int 0, .int 0, .int 0, .null, .null, .null, .null, .null])), (q7, .inl (cI, 32, .inl (fun _ => 0))), (q15, .inl (cI, 32, .inl (fun _ => 0))), (q23, .inl (cI, 32, .inl (fun _ => 0))), (q31, .inl (cI, 8, .inl (fun _ => 0))), (q39, .inl (cI, 20, .inl (fun _ => 0))), (q47, .inl (cI, 8, .inl (fun _ => 0))), (q55, .inl (cI, 8, .inl (fun _ => 0))), (q63, .inl (cI, 8, .inl (fun _ => 0))), (q71, .inl (cI, 8, .inl (fun _ => 0))), (q79, .inl (cI, 8, .inl (fun _ => 0))), (q87, .inl (cI, 8, .inl (fun _ => 0))), (q95, .inl (cI, 60, .inl (fun _ => 0))), (q103, .inl (cI, 60, .inl (fun _ => 0))), (q111, .inl (cI, 60, .inl (fun _ => 0))), (q119, .inl (cI, 60, .inl (fun _ => 0))), (q127, .inl (cI, 8, .inl (fun _ => 0))), (q135, .inl (cI, 8, .inl (fun _ => 0)))] H := hP
  have hD : va_D A [(h0, .inr (8, [.int 0, .ref q7, .ref q15, .int 0, .ref q23, .int 0, .int 0, .int 0, .int 0, .int 0, .int 0, .int 0, .ref q31, .int 0, .ref q39, .int 0, .ref q47, .ref q55, .int 0, .int 0, .ref q63, .ref q71, .ref q79, .int 0, .int 0, .ref q87, .ref q95, .ref q103, .ref q111, .ref q119, .int 0, .int 0, .int 0, .ref q127, .ref q135, .int 0, .null, .null, .int 0, .null, .null, .int 0, .null, .null, .int 0, .int 0, .int 0, .int 0, .int 0, .int 0, .null, .null, .null, .null, .null])), (q7, .inl (cI, 32, .inl (fun _ => 0))), (q15, .inl (cI, 32, .inl (fun _ => 0))), (q23, .inl (cI, 32, .inl (fun _ => 0))), (q31, .inl (cI, 8, .inl (fun _ => 0))), (q39, .inl (cI, 20, .inl (fun _ => 0))), (q47, .inl (cI, 8, .inl (fun _ => 0))), (q55, .inl (cI, 8, .inl (fun _ => 0))), (q63, .inl (cI, 8, .inl (fun _ => 0))), (q71, .inl (cI, 8, .inl (fun _ => 0))), (q79, .inl (cI, 8, .inl (fun _ => 0))), (q87, .inl (cI, 8, .inl (fun _ => 0))), (q95, .inl (cI, 60, .inl (fun _ => 0))), (q103, .inl (cI, 60, .inl (fun _ => 0))), (q111, .inl (cI, 60, .inl (fun _ => 0))), (q119, .inl (cI, 60, .inl (fun _ => 0))), (q127, .inl (cI, 8, .inl (fun _ => 0))), (q135, .inl (cI, 8, .inl (fun _ => 0)))] := hD
  refine lv_aload_n hx hb (by decide +kernel : decode cX8_init 140 = .ok (.aload_n 0, 1)) rfl (lv_at hl 0 rfl) ?_
  refine lv_bipush (v := 8) hx hb (by decide +kernel : decode cX8_init 141 = .ok (.bipush 8, 2)) (by decide) ?_
  refine va_newa (atype := .int) (ty := .int) (a0 := (8, .inl (fun _ => 0))) (N' := 8) hx hb (hts (Cond.arrayClass .int) (List.mem_cons_of_mem _ cwd_3)) rfl hK hP hD hS hA (fun _ => rfl) (by decide) (by decide) (by decide) (show 17 + 1 ≤ 28 by decide) (show 428 + 8 ≤ 52994 by decide) (by decide +kernel : decode cX8_init 143 = .ok (.newarray .int, 2)) (fun q143 cA H hK hP hD hS => ?_)
  cases Option.some.inj ((hK.2 3 _ rfl).2.symm.trans (hK.2 0 _ rfl).2)
  replace hK := hK.sub (tys' := [(cI, .int), (cZ, .boolean), (cJ, .long)]) [0, 1, 2] rfl
  have hP : va_P (dC, dI) vwCl [(h0, .inr (8, [.int 0, .ref q7, .ref q15, .int 0, .ref q23, .int 0, .int 0, .int 0, .int 0, .int 0, .int 0, .int 0, .ref q31, .int 0, .ref q39, .int 0, .ref q47, .ref q55, .int 0, .int 0, .ref q63, .ref q71, .ref q79, .int 0, .int 0, .ref q87, .ref q95, .ref q103, .ref q111, .ref q119, .int 0, .int 0, .int 0, .ref q127, .ref q135, .int 0, .null, .null, .int 0, .null, .null, .int 0, .null, .null, .int 0, .int 0, .int 0, .int 0, .int 0, .int 0, .null, .null, .null, .null, .null])), (q7, .inl (cI, 32, .inl (fun _ => 0))), (q15, .inl (cI, 32, .inl (fun _ => 0))), (q23, .inl (cI, 32, .inl (fun _ => 0))), (q31, .inl (cI, 8, .inl (fun _ => 0))), (q39, .inl (cI, 20, .inl (fun _ => 0))), (q47, .inl (cI, 8, .inl (fun _ => 0))), (q55, .inl (cI, 8, .inl (fun _ => 0))), (q63, .inl (cI, 8, .inl (fun _ => 0))), (q71, .inl (cI, 8, .inl (fun _ => 0))), (q79, .inl (cI, 8, .inl (fun _ => 0))), (q87, .inl (cI, 8, .inl (fun _ => 0))), (q95, .inl (cI, 60, .inl (fun _ => 0))), (q103, .inl (cI, 60, .inl (fun _ => 0))), (q111, .inl (cI, 60, .inl (fun _ => 0))), (q119, .inl (cI, 60, .inl (fun _ => 0))), (q127, .inl (cI, 8, .inl (fun _ => 0))), (q135, .inl (cI, 8, .inl (fun _ => 0))), (q143, .inl (cI, 8, .inl (fun _ => 0)))] H := hP
  have hD : va_D A [(h0, .inr (8, [.int 0, .ref q7, .ref q15, .int 0, .ref q23, .int 0, .int 0, .int 0, .int 0, .int 0, .int 0, .int 0, .ref q31, .int 0, .ref q39, .int 0, .ref q47, .ref q55, .int 0, .int 0, .ref q63, .ref q71, .ref q79, .int 0, .int 0, .ref q87, .ref q95, .ref q103, .ref q111, .ref q119, .int 0, .int 0, .int 0, .ref q127, .ref q135, .int 0, .null, .null, .int 0, .null, .null, .int 0, .null, .null, .int 0, .int 0, .int 0, .int 0, .int 0, .int 0, .null, .null, .null, .null, .null])), (q7, .inl (cI, 32, .inl (fun _ => 0))), (q15, .inl (cI, 32, .inl (fun _ => 0))), (q23, .inl (cI, 32, .inl (fun _ => 0))), (q31, .inl (cI, 8, .inl (fun _ => 0))), (q39, .inl (cI, 20, .inl (fun _ => 0))), (q47, .inl (cI, 8, .inl (fun _ => 0))), (q55, .inl (cI, 8, .inl (fun _ => 0))), (q63, .inl (cI, 8, .inl (fun _ => 0))), (q71, .inl (cI, 8, .inl (fun _ => 0))), (q79, .inl (cI, 8, .inl (fun _ => 0))), (q87, .inl (cI, 8, .inl (fun _ => 0))), (q95, .inl (cI, 60, .inl (fun _ => 0))), (q103, .inl (cI, 60, .inl (fun _ => 0))), (q111, .inl (cI, 60, .inl (fun _ => 0))), (q119, .inl (cI, 60, .inl (fun _ => 0))), (q127, .inl (cI, 8, .inl (fun _ => 0))), (q135, .inl (cI, 8, .inl (fun _ => 0))), (q143, .inl (cI, 8, .inl (fun _ => 0)))] := hD
  refine W.widen (k := 18) (n := 436) (by omega) (by omega) ?_
  refine va_putF (D := (dC, dI)) (ci := 8) (v := .ref q143) (ty := .array .int) (C := RX8) (T := TX8) (N := 55) hx hb hts (fun w h => List.mem_cons_of_mem _ (UW_ok 8 (by decide) w h)) tyX8 tyX8_ok nmX8 hown hK hP hD hS 0 rfl rfl 36 (by decide) (hts (.fieldLink RX8 61 "PoloSeasonModel" "share" "[I") (List.mem_cons_of_mem _ (FL_ok (8, 61, 8, 36) (by decide)))) (fun _ h9 => h9) rfl hin rfl (by decide +kernel) rfl rfl (Nat.le_of_ble_eq_true rfl) (by decide +kernel : decode cX8_init 145 = .ok (.putfield 61, 3)) (fun H locs hP hD hS => ?_)
  have hP : va_P (dC, dI) vwCl [(h0, .inr (8, [.int 0, .ref q7, .ref q15, .int 0, .ref q23, .int 0, .int 0, .int 0, .int 0, .int 0, .int 0, .int 0, .ref q31, .int 0, .ref q39, .int 0, .ref q47, .ref q55, .int 0, .int 0, .ref q63, .ref q71, .ref q79, .int 0, .int 0, .ref q87, .ref q95, .ref q103, .ref q111, .ref q119, .int 0, .int 0, .int 0, .ref q127, .ref q135, .int 0, .ref q143, .null, .int 0, .null, .null, .int 0, .null, .null, .int 0, .int 0, .int 0, .int 0, .int 0, .int 0, .null, .null, .null, .null, .null])), (q7, .inl (cI, 32, .inl (fun _ => 0))), (q15, .inl (cI, 32, .inl (fun _ => 0))), (q23, .inl (cI, 32, .inl (fun _ => 0))), (q31, .inl (cI, 8, .inl (fun _ => 0))), (q39, .inl (cI, 20, .inl (fun _ => 0))), (q47, .inl (cI, 8, .inl (fun _ => 0))), (q55, .inl (cI, 8, .inl (fun _ => 0))), (q63, .inl (cI, 8, .inl (fun _ => 0))), (q71, .inl (cI, 8, .inl (fun _ => 0))), (q79, .inl (cI, 8, .inl (fun _ => 0))), (q87, .inl (cI, 8, .inl (fun _ => 0))), (q95, .inl (cI, 60, .inl (fun _ => 0))), (q103, .inl (cI, 60, .inl (fun _ => 0))), (q111, .inl (cI, 60, .inl (fun _ => 0))), (q119, .inl (cI, 60, .inl (fun _ => 0))), (q127, .inl (cI, 8, .inl (fun _ => 0))), (q135, .inl (cI, 8, .inl (fun _ => 0))), (q143, .inl (cI, 8, .inl (fun _ => 0)))] H := hP
  have hD : va_D A [(h0, .inr (8, [.int 0, .ref q7, .ref q15, .int 0, .ref q23, .int 0, .int 0, .int 0, .int 0, .int 0, .int 0, .int 0, .ref q31, .int 0, .ref q39, .int 0, .ref q47, .ref q55, .int 0, .int 0, .ref q63, .ref q71, .ref q79, .int 0, .int 0, .ref q87, .ref q95, .ref q103, .ref q111, .ref q119, .int 0, .int 0, .int 0, .ref q127, .ref q135, .int 0, .ref q143, .null, .int 0, .null, .null, .int 0, .null, .null, .int 0, .int 0, .int 0, .int 0, .int 0, .int 0, .null, .null, .null, .null, .null])), (q7, .inl (cI, 32, .inl (fun _ => 0))), (q15, .inl (cI, 32, .inl (fun _ => 0))), (q23, .inl (cI, 32, .inl (fun _ => 0))), (q31, .inl (cI, 8, .inl (fun _ => 0))), (q39, .inl (cI, 20, .inl (fun _ => 0))), (q47, .inl (cI, 8, .inl (fun _ => 0))), (q55, .inl (cI, 8, .inl (fun _ => 0))), (q63, .inl (cI, 8, .inl (fun _ => 0))), (q71, .inl (cI, 8, .inl (fun _ => 0))), (q79, .inl (cI, 8, .inl (fun _ => 0))), (q87, .inl (cI, 8, .inl (fun _ => 0))), (q95, .inl (cI, 60, .inl (fun _ => 0))), (q103, .inl (cI, 60, .inl (fun _ => 0))), (q111, .inl (cI, 60, .inl (fun _ => 0))), (q119, .inl (cI, 60, .inl (fun _ => 0))), (q127, .inl (cI, 8, .inl (fun _ => 0))), (q135, .inl (cI, 8, .inl (fun _ => 0))), (q143, .inl (cI, 8, .inl (fun _ => 0)))] := hD
  refine lv_aload_n hx hb (by decide +kernel : decode cX8_init 148 = .ok (.aload_n 0, 1)) rfl (lv_at hl 0 rfl) ?_
  refine lv_ldc hx hb hown (hts (Cond.constant RX8 64 52488) (List.mem_cons_of_mem _ cwd_48)) (by decide +kernel : decode cX8_init 149 = .ok (.ldc 64, 2)) ?_
  refine va_newa (atype := .int) (ty := .int) (a0 := (52488, .inl (fun _ => 0))) (N' := 52488) hx hb (hts (Cond.arrayClass .int) (List.mem_cons_of_mem _ cwd_3)) rfl hK hP hD hS hA (fun _ => rfl) (by decide) (by decide) (by decide) (show 18 + 1 ≤ 28 by decide) (show 436 + 52488 ≤ 52994 by decide) (by decide +kernel : decode cX8_init 151 = .ok (.newarray .int, 2)) (fun q151 cA H hK hP hD hS => ?_)
  cases Option.some.inj ((hK.2 3 _ rfl).2.symm.trans (hK.2 0 _ rfl).2)
  replace hK := hK.sub (tys' := [(cI, .int), (cZ, .boolean), (cJ, .long)]) [0, 1, 2] rfl
  have hP : va_P (dC, dI) vwCl [(h0, .inr (8, [.int 0, .ref q7, .ref q15, .int 0, .ref q23, .int 0, .int 0, .int 0, .int 0, .int 0, .int 0, .int 0, .ref q31, .int 0, .ref q39, .int 0, .ref q47, .ref q55, .int 0, .int 0, .ref q63, .ref q71, .ref q79, .int 0, .int 0, .ref q87, .ref q95, .ref q103, .ref q111, .ref q119, .int 0, .int 0, .int 0, .ref q127, .ref q135, .int 0, .ref q143, .null, .int 0, .null, .null, .int 0, .null, .null, .int 0, .int 0, .int 0, .int 0, .int 0, .int 0, .null, .null, .null, .null, .null])), (q7, .inl (cI, 32, .inl (fun _ => 0))), (q15, .inl (cI, 32, .inl (fun _ => 0))), (q23, .inl (cI, 32, .inl (fun _ => 0))), (q31, .inl (cI, 8, .inl (fun _ => 0))), (q39, .inl (cI, 20, .inl (fun _ => 0))), (q47, .inl (cI, 8, .inl (fun _ => 0))), (q55, .inl (cI, 8, .inl (fun _ => 0))), (q63, .inl (cI, 8, .inl (fun _ => 0))), (q71, .inl (cI, 8, .inl (fun _ => 0))), (q79, .inl (cI, 8, .inl (fun _ => 0))), (q87, .inl (cI, 8, .inl (fun _ => 0))), (q95, .inl (cI, 60, .inl (fun _ => 0))), (q103, .inl (cI, 60, .inl (fun _ => 0))), (q111, .inl (cI, 60, .inl (fun _ => 0))), (q119, .inl (cI, 60, .inl (fun _ => 0))), (q127, .inl (cI, 8, .inl (fun _ => 0))), (q135, .inl (cI, 8, .inl (fun _ => 0))), (q143, .inl (cI, 8, .inl (fun _ => 0))), (q151, .inl (cI, 52488, .inl (fun _ => 0)))] H := hP
  have hD : va_D A [(h0, .inr (8, [.int 0, .ref q7, .ref q15, .int 0, .ref q23, .int 0, .int 0, .int 0, .int 0, .int 0, .int 0, .int 0, .ref q31, .int 0, .ref q39, .int 0, .ref q47, .ref q55, .int 0, .int 0, .ref q63, .ref q71, .ref q79, .int 0, .int 0, .ref q87, .ref q95, .ref q103, .ref q111, .ref q119, .int 0, .int 0, .int 0, .ref q127, .ref q135, .int 0, .ref q143, .null, .int 0, .null, .null, .int 0, .null, .null, .int 0, .int 0, .int 0, .int 0, .int 0, .int 0, .null, .null, .null, .null, .null])), (q7, .inl (cI, 32, .inl (fun _ => 0))), (q15, .inl (cI, 32, .inl (fun _ => 0))), (q23, .inl (cI, 32, .inl (fun _ => 0))), (q31, .inl (cI, 8, .inl (fun _ => 0))), (q39, .inl (cI, 20, .inl (fun _ => 0))), (q47, .inl (cI, 8, .inl (fun _ => 0))), (q55, .inl (cI, 8, .inl (fun _ => 0))), (q63, .inl (cI, 8, .inl (fun _ => 0))), (q71, .inl (cI, 8, .inl (fun _ => 0))), (q79, .inl (cI, 8, .inl (fun _ => 0))), (q87, .inl (cI, 8, .inl (fun _ => 0))), (q95, .inl (cI, 60, .inl (fun _ => 0))), (q103, .inl (cI, 60, .inl (fun _ => 0))), (q111, .inl (cI, 60, .inl (fun _ => 0))), (q119, .inl (cI, 60, .inl (fun _ => 0))), (q127, .inl (cI, 8, .inl (fun _ => 0))), (q135, .inl (cI, 8, .inl (fun _ => 0))), (q143, .inl (cI, 8, .inl (fun _ => 0))), (q151, .inl (cI, 52488, .inl (fun _ => 0)))] := hD
  refine W.widen (k := 19) (n := 52924) (by omega) (by omega) ?_
  refine va_putF (D := (dC, dI)) (ci := 8) (v := .ref q151) (ty := .array .int) (C := RX8) (T := TX8) (N := 55) hx hb hts (fun w h => List.mem_cons_of_mem _ (UW_ok 8 (by decide) w h)) tyX8 tyX8_ok nmX8 hown hK hP hD hS 0 rfl rfl 37 (by decide) (hts (.fieldLink RX8 65 "PoloSeasonModel" "shares" "[I") (List.mem_cons_of_mem _ (FL_ok (8, 65, 8, 37) (by decide)))) (fun _ h9 => h9) rfl hin rfl (by decide +kernel) rfl rfl (Nat.le_of_ble_eq_true rfl) (by decide +kernel : decode cX8_init 153 = .ok (.putfield 65, 3)) (fun H locs hP hD hS => ?_)
  have hP : va_P (dC, dI) vwCl [(h0, .inr (8, [.int 0, .ref q7, .ref q15, .int 0, .ref q23, .int 0, .int 0, .int 0, .int 0, .int 0, .int 0, .int 0, .ref q31, .int 0, .ref q39, .int 0, .ref q47, .ref q55, .int 0, .int 0, .ref q63, .ref q71, .ref q79, .int 0, .int 0, .ref q87, .ref q95, .ref q103, .ref q111, .ref q119, .int 0, .int 0, .int 0, .ref q127, .ref q135, .int 0, .ref q143, .ref q151, .int 0, .null, .null, .int 0, .null, .null, .int 0, .int 0, .int 0, .int 0, .int 0, .int 0, .null, .null, .null, .null, .null])), (q7, .inl (cI, 32, .inl (fun _ => 0))), (q15, .inl (cI, 32, .inl (fun _ => 0))), (q23, .inl (cI, 32, .inl (fun _ => 0))), (q31, .inl (cI, 8, .inl (fun _ => 0))), (q39, .inl (cI, 20, .inl (fun _ => 0))), (q47, .inl (cI, 8, .inl (fun _ => 0))), (q55, .inl (cI, 8, .inl (fun _ => 0))), (q63, .inl (cI, 8, .inl (fun _ => 0))), (q71, .inl (cI, 8, .inl (fun _ => 0))), (q79, .inl (cI, 8, .inl (fun _ => 0))), (q87, .inl (cI, 8, .inl (fun _ => 0))), (q95, .inl (cI, 60, .inl (fun _ => 0))), (q103, .inl (cI, 60, .inl (fun _ => 0))), (q111, .inl (cI, 60, .inl (fun _ => 0))), (q119, .inl (cI, 60, .inl (fun _ => 0))), (q127, .inl (cI, 8, .inl (fun _ => 0))), (q135, .inl (cI, 8, .inl (fun _ => 0))), (q143, .inl (cI, 8, .inl (fun _ => 0))), (q151, .inl (cI, 52488, .inl (fun _ => 0)))] H := hP
  have hD : va_D A [(h0, .inr (8, [.int 0, .ref q7, .ref q15, .int 0, .ref q23, .int 0, .int 0, .int 0, .int 0, .int 0, .int 0, .int 0, .ref q31, .int 0, .ref q39, .int 0, .ref q47, .ref q55, .int 0, .int 0, .ref q63, .ref q71, .ref q79, .int 0, .int 0, .ref q87, .ref q95, .ref q103, .ref q111, .ref q119, .int 0, .int 0, .int 0, .ref q127, .ref q135, .int 0, .ref q143, .ref q151, .int 0, .null, .null, .int 0, .null, .null, .int 0, .int 0, .int 0, .int 0, .int 0, .int 0, .null, .null, .null, .null, .null])), (q7, .inl (cI, 32, .inl (fun _ => 0))), (q15, .inl (cI, 32, .inl (fun _ => 0))), (q23, .inl (cI, 32, .inl (fun _ => 0))), (q31, .inl (cI, 8, .inl (fun _ => 0))), (q39, .inl (cI, 20, .inl (fun _ => 0))), (q47, .inl (cI, 8, .inl (fun _ => 0))), (q55, .inl (cI, 8, .inl (fun _ => 0))), (q63, .inl (cI, 8, .inl (fun _ => 0))), (q71, .inl (cI, 8, .inl (fun _ => 0))), (q79, .inl (cI, 8, .inl (fun _ => 0))), (q87, .inl (cI, 8, .inl (fun _ => 0))), (q95, .inl (cI, 60, .inl (fun _ => 0))), (q103, .inl (cI, 60, .inl (fun _ => 0))), (q111, .inl (cI, 60, .inl (fun _ => 0))), (q119, .inl (cI, 60, .inl (fun _ => 0))), (q127, .inl (cI, 8, .inl (fun _ => 0))), (q135, .inl (cI, 8, .inl (fun _ => 0))), (q143, .inl (cI, 8, .inl (fun _ => 0))), (q151, .inl (cI, 52488, .inl (fun _ => 0)))] := hD
  refine lv_aload_n hx hb (by decide +kernel : decode cX8_init 156 = .ok (.aload_n 0, 1)) rfl (lv_at hl 0 rfl) ?_
  refine lv_bipush (v := 8) hx hb (by decide +kernel : decode cX8_init 157 = .ok (.bipush 8, 2)) (by decide) ?_
  refine va_newa (atype := .int) (ty := .int) (a0 := (8, .inl (fun _ => 0))) (N' := 8) hx hb (hts (Cond.arrayClass .int) (List.mem_cons_of_mem _ cwd_3)) rfl hK hP hD hS hA (fun _ => rfl) (by decide) (by decide) (by decide) (show 19 + 1 ≤ 28 by decide) (show 52924 + 8 ≤ 52994 by decide) (by decide +kernel : decode cX8_init 159 = .ok (.newarray .int, 2)) (fun q159 cA H hK hP hD hS => ?_)
  cases Option.some.inj ((hK.2 3 _ rfl).2.symm.trans (hK.2 0 _ rfl).2)
  replace hK := hK.sub (tys' := [(cI, .int), (cZ, .boolean), (cJ, .long)]) [0, 1, 2] rfl
  have hP : va_P (dC, dI) vwCl [(h0, .inr (8, [.int 0, .ref q7, .ref q15, .int 0, .ref q23, .int 0, .int 0, .int 0, .int 0, .int 0, .int 0, .int 0, .ref q31, .int 0, .ref q39, .int 0, .ref q47, .ref q55, .int 0, .int 0, .ref q63, .ref q71, .ref q79, .int 0, .int 0, .ref q87, .ref q95, .ref q103, .ref q111, .ref q119, .int 0, .int 0, .int 0, .ref q127, .ref q135, .int 0, .ref q143, .ref q151, .int 0, .null, .null, .int 0, .null, .null, .int 0, .int 0, .int 0, .int 0, .int 0, .int 0, .null, .null, .null, .null, .null])), (q7, .inl (cI, 32, .inl (fun _ => 0))), (q15, .inl (cI, 32, .inl (fun _ => 0))), (q23, .inl (cI, 32, .inl (fun _ => 0))), (q31, .inl (cI, 8, .inl (fun _ => 0))), (q39, .inl (cI, 20, .inl (fun _ => 0))), (q47, .inl (cI, 8, .inl (fun _ => 0))), (q55, .inl (cI, 8, .inl (fun _ => 0))), (q63, .inl (cI, 8, .inl (fun _ => 0))), (q71, .inl (cI, 8, .inl (fun _ => 0))), (q79, .inl (cI, 8, .inl (fun _ => 0))), (q87, .inl (cI, 8, .inl (fun _ => 0))), (q95, .inl (cI, 60, .inl (fun _ => 0))), (q103, .inl (cI, 60, .inl (fun _ => 0))), (q111, .inl (cI, 60, .inl (fun _ => 0))), (q119, .inl (cI, 60, .inl (fun _ => 0))), (q127, .inl (cI, 8, .inl (fun _ => 0))), (q135, .inl (cI, 8, .inl (fun _ => 0))), (q143, .inl (cI, 8, .inl (fun _ => 0))), (q151, .inl (cI, 52488, .inl (fun _ => 0))), (q159, .inl (cI, 8, .inl (fun _ => 0)))] H := hP
  have hD : va_D A [(h0, .inr (8, [.int 0, .ref q7, .ref q15, .int 0, .ref q23, .int 0, .int 0, .int 0, .int 0, .int 0, .int 0, .int 0, .ref q31, .int 0, .ref q39, .int 0, .ref q47, .ref q55, .int 0, .int 0, .ref q63, .ref q71, .ref q79, .int 0, .int 0, .ref q87, .ref q95, .ref q103, .ref q111, .ref q119, .int 0, .int 0, .int 0, .ref q127, .ref q135, .int 0, .ref q143, .ref q151, .int 0, .null, .null, .int 0, .null, .null, .int 0, .int 0, .int 0, .int 0, .int 0, .int 0, .null, .null, .null, .null, .null])), (q7, .inl (cI, 32, .inl (fun _ => 0))), (q15, .inl (cI, 32, .inl (fun _ => 0))), (q23, .inl (cI, 32, .inl (fun _ => 0))), (q31, .inl (cI, 8, .inl (fun _ => 0))), (q39, .inl (cI, 20, .inl (fun _ => 0))), (q47, .inl (cI, 8, .inl (fun _ => 0))), (q55, .inl (cI, 8, .inl (fun _ => 0))), (q63, .inl (cI, 8, .inl (fun _ => 0))), (q71, .inl (cI, 8, .inl (fun _ => 0))), (q79, .inl (cI, 8, .inl (fun _ => 0))), (q87, .inl (cI, 8, .inl (fun _ => 0))), (q95, .inl (cI, 60, .inl (fun _ => 0))), (q103, .inl (cI, 60, .inl (fun _ => 0))), (q111, .inl (cI, 60, .inl (fun _ => 0))), (q119, .inl (cI, 60, .inl (fun _ => 0))), (q127, .inl (cI, 8, .inl (fun _ => 0))), (q135, .inl (cI, 8, .inl (fun _ => 0))), (q143, .inl (cI, 8, .inl (fun _ => 0))), (q151, .inl (cI, 52488, .inl (fun _ => 0))), (q159, .inl (cI, 8, .inl (fun _ => 0)))] := hD
  refine W.widen (k := 20) (n := 52932) (by omega) (by omega) ?_
  refine va_putF (D := (dC, dI)) (ci := 8) (v := .ref q159) (ty := .array .int) (C := RX8) (T := TX8) (N := 55) hx hb hts (fun w h => List.mem_cons_of_mem _ (UW_ok 8 (by decide) w h)) tyX8 tyX8_ok nmX8 hown hK hP hD hS 0 rfl rfl 39 (by decide) (hts (.fieldLink RX8 68 "PoloSeasonModel" "led" "[I") (List.mem_cons_of_mem _ (FL_ok (8, 68, 8, 39) (by decide)))) (fun _ h9 => h9) rfl hin rfl (by decide +kernel) rfl rfl (Nat.le_of_ble_eq_true rfl) (by decide +kernel : decode cX8_init 161 = .ok (.putfield 68, 3)) (fun H locs hP hD hS => ?_)
  have hP : va_P (dC, dI) vwCl [(h0, .inr (8, [.int 0, .ref q7, .ref q15, .int 0, .ref q23, .int 0, .int 0, .int 0, .int 0, .int 0, .int 0, .int 0, .ref q31, .int 0, .ref q39, .int 0, .ref q47, .ref q55, .int 0, .int 0, .ref q63, .ref q71, .ref q79, .int 0, .int 0, .ref q87, .ref q95, .ref q103, .ref q111, .ref q119, .int 0, .int 0, .int 0, .ref q127, .ref q135, .int 0, .ref q143, .ref q151, .int 0, .ref q159, .null, .int 0, .null, .null, .int 0, .int 0, .int 0, .int 0, .int 0, .int 0, .null, .null, .null, .null, .null])), (q7, .inl (cI, 32, .inl (fun _ => 0))), (q15, .inl (cI, 32, .inl (fun _ => 0))), (q23, .inl (cI, 32, .inl (fun _ => 0))), (q31, .inl (cI, 8, .inl (fun _ => 0))), (q39, .inl (cI, 20, .inl (fun _ => 0))), (q47, .inl (cI, 8, .inl (fun _ => 0))), (q55, .inl (cI, 8, .inl (fun _ => 0))), (q63, .inl (cI, 8, .inl (fun _ => 0))), (q71, .inl (cI, 8, .inl (fun _ => 0))), (q79, .inl (cI, 8, .inl (fun _ => 0))), (q87, .inl (cI, 8, .inl (fun _ => 0))), (q95, .inl (cI, 60, .inl (fun _ => 0))), (q103, .inl (cI, 60, .inl (fun _ => 0))), (q111, .inl (cI, 60, .inl (fun _ => 0))), (q119, .inl (cI, 60, .inl (fun _ => 0))), (q127, .inl (cI, 8, .inl (fun _ => 0))), (q135, .inl (cI, 8, .inl (fun _ => 0))), (q143, .inl (cI, 8, .inl (fun _ => 0))), (q151, .inl (cI, 52488, .inl (fun _ => 0))), (q159, .inl (cI, 8, .inl (fun _ => 0)))] H := hP
  have hD : va_D A [(h0, .inr (8, [.int 0, .ref q7, .ref q15, .int 0, .ref q23, .int 0, .int 0, .int 0, .int 0, .int 0, .int 0, .int 0, .ref q31, .int 0, .ref q39, .int 0, .ref q47, .ref q55, .int 0, .int 0, .ref q63, .ref q71, .ref q79, .int 0, .int 0, .ref q87, .ref q95, .ref q103, .ref q111, .ref q119, .int 0, .int 0, .int 0, .ref q127, .ref q135, .int 0, .ref q143, .ref q151, .int 0, .ref q159, .null, .int 0, .null, .null, .int 0, .int 0, .int 0, .int 0, .int 0, .int 0, .null, .null, .null, .null, .null])), (q7, .inl (cI, 32, .inl (fun _ => 0))), (q15, .inl (cI, 32, .inl (fun _ => 0))), (q23, .inl (cI, 32, .inl (fun _ => 0))), (q31, .inl (cI, 8, .inl (fun _ => 0))), (q39, .inl (cI, 20, .inl (fun _ => 0))), (q47, .inl (cI, 8, .inl (fun _ => 0))), (q55, .inl (cI, 8, .inl (fun _ => 0))), (q63, .inl (cI, 8, .inl (fun _ => 0))), (q71, .inl (cI, 8, .inl (fun _ => 0))), (q79, .inl (cI, 8, .inl (fun _ => 0))), (q87, .inl (cI, 8, .inl (fun _ => 0))), (q95, .inl (cI, 60, .inl (fun _ => 0))), (q103, .inl (cI, 60, .inl (fun _ => 0))), (q111, .inl (cI, 60, .inl (fun _ => 0))), (q119, .inl (cI, 60, .inl (fun _ => 0))), (q127, .inl (cI, 8, .inl (fun _ => 0))), (q135, .inl (cI, 8, .inl (fun _ => 0))), (q143, .inl (cI, 8, .inl (fun _ => 0))), (q151, .inl (cI, 52488, .inl (fun _ => 0))), (q159, .inl (cI, 8, .inl (fun _ => 0)))] := hD
  refine lv_aload_n hx hb (by decide +kernel : decode cX8_init 164 = .ok (.aload_n 0, 1)) rfl (lv_at hl 0 rfl) ?_
  refine lv_bipush (v := 8) hx hb (by decide +kernel : decode cX8_init 165 = .ok (.bipush 8, 2)) (by decide) ?_
  refine va_newa (atype := .int) (ty := .int) (a0 := (8, .inl (fun _ => 0))) (N' := 8) hx hb (hts (Cond.arrayClass .int) (List.mem_cons_of_mem _ cwd_3)) rfl hK hP hD hS hA (fun _ => rfl) (by decide) (by decide) (by decide) (show 20 + 1 ≤ 28 by decide) (show 52932 + 8 ≤ 52994 by decide) (by decide +kernel : decode cX8_init 167 = .ok (.newarray .int, 2)) (fun q167 cA H hK hP hD hS => ?_)
  cases Option.some.inj ((hK.2 3 _ rfl).2.symm.trans (hK.2 0 _ rfl).2)
  replace hK := hK.sub (tys' := [(cI, .int), (cZ, .boolean), (cJ, .long)]) [0, 1, 2] rfl
  have hP : va_P (dC, dI) vwCl [(h0, .inr (8, [.int 0, .ref q7, .ref q15, .int 0, .ref q23, .int 0, .int 0, .int 0, .int 0, .int 0, .int 0, .int 0, .ref q31, .int 0, .ref q39, .int 0, .ref q47, .ref q55, .int 0, .int 0, .ref q63, .ref q71, .ref q79, .int 0, .int 0, .ref q87, .ref q95, .ref q103, .ref q111, .ref q119, .int 0, .int 0, .int 0, .ref q127, .ref q135, .int 0, .ref q143, .ref q151, .int 0, .ref q159, .null, .int 0, .null, .null, .int 0, .int 0, .int 0, .int 0, .int 0, .int 0, .null, .null, .null, .null, .null])), (q7, .inl (cI, 32, .inl (fun _ => 0))), (q15, .inl (cI, 32, .inl (fun _ => 0))), (q23, .inl (cI, 32, .inl (fun _ => 0))), (q31, .inl (cI, 8, .inl (fun _ => 0))), (q39, .inl (cI, 20, .inl (fun _ => 0))), (q47, .inl (cI, 8, .inl (fun _ => 0))), (q55, .inl (cI, 8, .inl (fun _ => 0))), (q63, .inl (cI, 8, .inl (fun _ => 0))), (q71, .inl (cI, 8, .inl (fun _ => 0))), (q79, .inl (cI, 8, .inl (fun _ => 0))), (q87, .inl (cI, 8, .inl (fun _ => 0))), (q95, .inl (cI, 60, .inl (fun _ => 0))), (q103, .inl (cI, 60, .inl (fun _ => 0))), (q111, .inl (cI, 60, .inl (fun _ => 0))), (q119, .inl (cI, 60, .inl (fun _ => 0))), (q127, .inl (cI, 8, .inl (fun _ => 0))), (q135, .inl (cI, 8, .inl (fun _ => 0))), (q143, .inl (cI, 8, .inl (fun _ => 0))), (q151, .inl (cI, 52488, .inl (fun _ => 0))), (q159, .inl (cI, 8, .inl (fun _ => 0))), (q167, .inl (cI, 8, .inl (fun _ => 0)))] H := hP
  have hD : va_D A [(h0, .inr (8, [.int 0, .ref q7, .ref q15, .int 0, .ref q23, .int 0, .int 0, .int 0, .int 0, .int 0, .int 0, .int 0, .ref q31, .int 0, .ref q39, .int 0, .ref q47, .ref q55, .int 0, .int 0, .ref q63, .ref q71, .ref q79, .int 0, .int 0, .ref q87, .ref q95, .ref q103, .ref q111, .ref q119, .int 0, .int 0, .int 0, .ref q127, .ref q135, .int 0, .ref q143, .ref q151, .int 0, .ref q159, .null, .int 0, .null, .null, .int 0, .int 0, .int 0, .int 0, .int 0, .int 0, .null, .null, .null, .null, .null])), (q7, .inl (cI, 32, .inl (fun _ => 0))), (q15, .inl (cI, 32, .inl (fun _ => 0))), (q23, .inl (cI, 32, .inl (fun _ => 0))), (q31, .inl (cI, 8, .inl (fun _ => 0))), (q39, .inl (cI, 20, .inl (fun _ => 0))), (q47, .inl (cI, 8, .inl (fun _ => 0))), (q55, .inl (cI, 8, .inl (fun _ => 0))), (q63, .inl (cI, 8, .inl (fun _ => 0))), (q71, .inl (cI, 8, .inl (fun _ => 0))), (q79, .inl (cI, 8, .inl (fun _ => 0))), (q87, .inl (cI, 8, .inl (fun _ => 0))), (q95, .inl (cI, 60, .inl (fun _ => 0))), (q103, .inl (cI, 60, .inl (fun _ => 0))), (q111, .inl (cI, 60, .inl (fun _ => 0))), (q119, .inl (cI, 60, .inl (fun _ => 0))), (q127, .inl (cI, 8, .inl (fun _ => 0))), (q135, .inl (cI, 8, .inl (fun _ => 0))), (q143, .inl (cI, 8, .inl (fun _ => 0))), (q151, .inl (cI, 52488, .inl (fun _ => 0))), (q159, .inl (cI, 8, .inl (fun _ => 0))), (q167, .inl (cI, 8, .inl (fun _ => 0)))] := hD
  refine W.widen (k := 21) (n := 52940) (by omega) (by omega) ?_
  refine va_putF (D := (dC, dI)) (ci := 8) (v := .ref q167) (ty := .array .int) (C := RX8) (T := TX8) (N := 55) hx hb hts (fun w h => List.mem_cons_of_mem _ (UW_ok 8 (by decide) w h)) tyX8 tyX8_ok nmX8 hown hK hP hD hS 0 rfl rfl 40 (by decide) (hts (.fieldLink RX8 71 "PoloSeasonModel" "bestLed" "[I") (List.mem_cons_of_mem _ (FL_ok (8, 71, 8, 40) (by decide)))) (fun _ h9 => h9) rfl hin rfl (by decide +kernel) rfl rfl (Nat.le_of_ble_eq_true rfl) (by decide +kernel : decode cX8_init 169 = .ok (.putfield 71, 3)) (fun H locs hP hD hS => ?_)
  have hP : va_P (dC, dI) vwCl [(h0, .inr (8, [.int 0, .ref q7, .ref q15, .int 0, .ref q23, .int 0, .int 0, .int 0, .int 0, .int 0, .int 0, .int 0, .ref q31, .int 0, .ref q39, .int 0, .ref q47, .ref q55, .int 0, .int 0, .ref q63, .ref q71, .ref q79, .int 0, .int 0, .ref q87, .ref q95, .ref q103, .ref q111, .ref q119, .int 0, .int 0, .int 0, .ref q127, .ref q135, .int 0, .ref q143, .ref q151, .int 0, .ref q159, .ref q167, .int 0, .null, .null, .int 0, .int 0, .int 0, .int 0, .int 0, .int 0, .null, .null, .null, .null, .null])), (q7, .inl (cI, 32, .inl (fun _ => 0))), (q15, .inl (cI, 32, .inl (fun _ => 0))), (q23, .inl (cI, 32, .inl (fun _ => 0))), (q31, .inl (cI, 8, .inl (fun _ => 0))), (q39, .inl (cI, 20, .inl (fun _ => 0))), (q47, .inl (cI, 8, .inl (fun _ => 0))), (q55, .inl (cI, 8, .inl (fun _ => 0))), (q63, .inl (cI, 8, .inl (fun _ => 0))), (q71, .inl (cI, 8, .inl (fun _ => 0))), (q79, .inl (cI, 8, .inl (fun _ => 0))), (q87, .inl (cI, 8, .inl (fun _ => 0))), (q95, .inl (cI, 60, .inl (fun _ => 0))), (q103, .inl (cI, 60, .inl (fun _ => 0))), (q111, .inl (cI, 60, .inl (fun _ => 0))), (q119, .inl (cI, 60, .inl (fun _ => 0))), (q127, .inl (cI, 8, .inl (fun _ => 0))), (q135, .inl (cI, 8, .inl (fun _ => 0))), (q143, .inl (cI, 8, .inl (fun _ => 0))), (q151, .inl (cI, 52488, .inl (fun _ => 0))), (q159, .inl (cI, 8, .inl (fun _ => 0))), (q167, .inl (cI, 8, .inl (fun _ => 0)))] H := hP
  have hD : va_D A [(h0, .inr (8, [.int 0, .ref q7, .ref q15, .int 0, .ref q23, .int 0, .int 0, .int 0, .int 0, .int 0, .int 0, .int 0, .ref q31, .int 0, .ref q39, .int 0, .ref q47, .ref q55, .int 0, .int 0, .ref q63, .ref q71, .ref q79, .int 0, .int 0, .ref q87, .ref q95, .ref q103, .ref q111, .ref q119, .int 0, .int 0, .int 0, .ref q127, .ref q135, .int 0, .ref q143, .ref q151, .int 0, .ref q159, .ref q167, .int 0, .null, .null, .int 0, .int 0, .int 0, .int 0, .int 0, .int 0, .null, .null, .null, .null, .null])), (q7, .inl (cI, 32, .inl (fun _ => 0))), (q15, .inl (cI, 32, .inl (fun _ => 0))), (q23, .inl (cI, 32, .inl (fun _ => 0))), (q31, .inl (cI, 8, .inl (fun _ => 0))), (q39, .inl (cI, 20, .inl (fun _ => 0))), (q47, .inl (cI, 8, .inl (fun _ => 0))), (q55, .inl (cI, 8, .inl (fun _ => 0))), (q63, .inl (cI, 8, .inl (fun _ => 0))), (q71, .inl (cI, 8, .inl (fun _ => 0))), (q79, .inl (cI, 8, .inl (fun _ => 0))), (q87, .inl (cI, 8, .inl (fun _ => 0))), (q95, .inl (cI, 60, .inl (fun _ => 0))), (q103, .inl (cI, 60, .inl (fun _ => 0))), (q111, .inl (cI, 60, .inl (fun _ => 0))), (q119, .inl (cI, 60, .inl (fun _ => 0))), (q127, .inl (cI, 8, .inl (fun _ => 0))), (q135, .inl (cI, 8, .inl (fun _ => 0))), (q143, .inl (cI, 8, .inl (fun _ => 0))), (q151, .inl (cI, 52488, .inl (fun _ => 0))), (q159, .inl (cI, 8, .inl (fun _ => 0))), (q167, .inl (cI, 8, .inl (fun _ => 0)))] := hD
  refine lv_aload_n hx hb (by decide +kernel : decode cX8_init 172 = .ok (.aload_n 0, 1)) rfl (lv_at hl 0 rfl) ?_
  refine lv_bipush (v := 6) hx hb (by decide +kernel : decode cX8_init 173 = .ok (.bipush 6, 2)) (by decide) ?_
  refine va_newa (atype := .int) (ty := .int) (a0 := (6, .inl (fun _ => 0))) (N' := 6) hx hb (hts (Cond.arrayClass .int) (List.mem_cons_of_mem _ cwd_3)) rfl hK hP hD hS hA (fun _ => rfl) (by decide) (by decide) (by decide) (show 21 + 1 ≤ 28 by decide) (show 52940 + 6 ≤ 52994 by decide) (by decide +kernel : decode cX8_init 175 = .ok (.newarray .int, 2)) (fun q175 cA H hK hP hD hS => ?_)
  cases Option.some.inj ((hK.2 3 _ rfl).2.symm.trans (hK.2 0 _ rfl).2)
  replace hK := hK.sub (tys' := [(cI, .int), (cZ, .boolean), (cJ, .long)]) [0, 1, 2] rfl
  have hP : va_P (dC, dI) vwCl [(h0, .inr (8, [.int 0, .ref q7, .ref q15, .int 0, .ref q23, .int 0, .int 0, .int 0, .int 0, .int 0, .int 0, .int 0, .ref q31, .int 0, .ref q39, .int 0, .ref q47, .ref q55, .int 0, .int 0, .ref q63, .ref q71, .ref q79, .int 0, .int 0, .ref q87, .ref q95, .ref q103, .ref q111, .ref q119, .int 0, .int 0, .int 0, .ref q127, .ref q135, .int 0, .ref q143, .ref q151, .int 0, .ref q159, .ref q167, .int 0, .null, .null, .int 0, .int 0, .int 0, .int 0, .int 0, .int 0, .null, .null, .null, .null, .null])), (q7, .inl (cI, 32, .inl (fun _ => 0))), (q15, .inl (cI, 32, .inl (fun _ => 0))), (q23, .inl (cI, 32, .inl (fun _ => 0))), (q31, .inl (cI, 8, .inl (fun _ => 0))), (q39, .inl (cI, 20, .inl (fun _ => 0))), (q47, .inl (cI, 8, .inl (fun _ => 0))), (q55, .inl (cI, 8, .inl (fun _ => 0))), (q63, .inl (cI, 8, .inl (fun _ => 0))), (q71, .inl (cI, 8, .inl (fun _ => 0))), (q79, .inl (cI, 8, .inl (fun _ => 0))), (q87, .inl (cI, 8, .inl (fun _ => 0))), (q95, .inl (cI, 60, .inl (fun _ => 0))), (q103, .inl (cI, 60, .inl (fun _ => 0))), (q111, .inl (cI, 60, .inl (fun _ => 0))), (q119, .inl (cI, 60, .inl (fun _ => 0))), (q127, .inl (cI, 8, .inl (fun _ => 0))), (q135, .inl (cI, 8, .inl (fun _ => 0))), (q143, .inl (cI, 8, .inl (fun _ => 0))), (q151, .inl (cI, 52488, .inl (fun _ => 0))), (q159, .inl (cI, 8, .inl (fun _ => 0))), (q167, .inl (cI, 8, .inl (fun _ => 0))), (q175, .inl (cI, 6, .inl (fun _ => 0)))] H := hP
  have hD : va_D A [(h0, .inr (8, [.int 0, .ref q7, .ref q15, .int 0, .ref q23, .int 0, .int 0, .int 0, .int 0, .int 0, .int 0, .int 0, .ref q31, .int 0, .ref q39, .int 0, .ref q47, .ref q55, .int 0, .int 0, .ref q63, .ref q71, .ref q79, .int 0, .int 0, .ref q87, .ref q95, .ref q103, .ref q111, .ref q119, .int 0, .int 0, .int 0, .ref q127, .ref q135, .int 0, .ref q143, .ref q151, .int 0, .ref q159, .ref q167, .int 0, .null, .null, .int 0, .int 0, .int 0, .int 0, .int 0, .int 0, .null, .null, .null, .null, .null])), (q7, .inl (cI, 32, .inl (fun _ => 0))), (q15, .inl (cI, 32, .inl (fun _ => 0))), (q23, .inl (cI, 32, .inl (fun _ => 0))), (q31, .inl (cI, 8, .inl (fun _ => 0))), (q39, .inl (cI, 20, .inl (fun _ => 0))), (q47, .inl (cI, 8, .inl (fun _ => 0))), (q55, .inl (cI, 8, .inl (fun _ => 0))), (q63, .inl (cI, 8, .inl (fun _ => 0))), (q71, .inl (cI, 8, .inl (fun _ => 0))), (q79, .inl (cI, 8, .inl (fun _ => 0))), (q87, .inl (cI, 8, .inl (fun _ => 0))), (q95, .inl (cI, 60, .inl (fun _ => 0))), (q103, .inl (cI, 60, .inl (fun _ => 0))), (q111, .inl (cI, 60, .inl (fun _ => 0))), (q119, .inl (cI, 60, .inl (fun _ => 0))), (q127, .inl (cI, 8, .inl (fun _ => 0))), (q135, .inl (cI, 8, .inl (fun _ => 0))), (q143, .inl (cI, 8, .inl (fun _ => 0))), (q151, .inl (cI, 52488, .inl (fun _ => 0))), (q159, .inl (cI, 8, .inl (fun _ => 0))), (q167, .inl (cI, 8, .inl (fun _ => 0))), (q175, .inl (cI, 6, .inl (fun _ => 0)))] := hD
  refine W.widen (k := 22) (n := 52946) (by omega) (by omega) ?_
  refine va_putF (D := (dC, dI)) (ci := 8) (v := .ref q175) (ty := .array .int) (C := RX8) (T := TX8) (N := 55) hx hb hts (fun w h => List.mem_cons_of_mem _ (UW_ok 8 (by decide) w h)) tyX8 tyX8_ok nmX8 hown hK hP hD hS 0 rfl rfl 42 (by decide) (hts (.fieldLink RX8 74 "PoloSeasonModel" "ride" "[I") (List.mem_cons_of_mem _ (FL_ok (8, 74, 8, 42) (by decide)))) (fun _ h9 => h9) rfl hin rfl (by decide +kernel) rfl rfl (Nat.le_of_ble_eq_true rfl) (by decide +kernel : decode cX8_init 177 = .ok (.putfield 74, 3)) (fun H locs hP hD hS => ?_)
  have hP : va_P (dC, dI) vwCl [(h0, .inr (8, [.int 0, .ref q7, .ref q15, .int 0, .ref q23, .int 0, .int 0, .int 0, .int 0, .int 0, .int 0, .int 0, .ref q31, .int 0, .ref q39, .int 0, .ref q47, .ref q55, .int 0, .int 0, .ref q63, .ref q71, .ref q79, .int 0, .int 0, .ref q87, .ref q95, .ref q103, .ref q111, .ref q119, .int 0, .int 0, .int 0, .ref q127, .ref q135, .int 0, .ref q143, .ref q151, .int 0, .ref q159, .ref q167, .int 0, .ref q175, .null, .int 0, .int 0, .int 0, .int 0, .int 0, .int 0, .null, .null, .null, .null, .null])), (q7, .inl (cI, 32, .inl (fun _ => 0))), (q15, .inl (cI, 32, .inl (fun _ => 0))), (q23, .inl (cI, 32, .inl (fun _ => 0))), (q31, .inl (cI, 8, .inl (fun _ => 0))), (q39, .inl (cI, 20, .inl (fun _ => 0))), (q47, .inl (cI, 8, .inl (fun _ => 0))), (q55, .inl (cI, 8, .inl (fun _ => 0))), (q63, .inl (cI, 8, .inl (fun _ => 0))), (q71, .inl (cI, 8, .inl (fun _ => 0))), (q79, .inl (cI, 8, .inl (fun _ => 0))), (q87, .inl (cI, 8, .inl (fun _ => 0))), (q95, .inl (cI, 60, .inl (fun _ => 0))), (q103, .inl (cI, 60, .inl (fun _ => 0))), (q111, .inl (cI, 60, .inl (fun _ => 0))), (q119, .inl (cI, 60, .inl (fun _ => 0))), (q127, .inl (cI, 8, .inl (fun _ => 0))), (q135, .inl (cI, 8, .inl (fun _ => 0))), (q143, .inl (cI, 8, .inl (fun _ => 0))), (q151, .inl (cI, 52488, .inl (fun _ => 0))), (q159, .inl (cI, 8, .inl (fun _ => 0))), (q167, .inl (cI, 8, .inl (fun _ => 0))), (q175, .inl (cI, 6, .inl (fun _ => 0)))] H := hP
  have hD : va_D A [(h0, .inr (8, [.int 0, .ref q7, .ref q15, .int 0, .ref q23, .int 0, .int 0, .int 0, .int 0, .int 0, .int 0, .int 0, .ref q31, .int 0, .ref q39, .int 0, .ref q47, .ref q55, .int 0, .int 0, .ref q63, .ref q71, .ref q79, .int 0, .int 0, .ref q87, .ref q95, .ref q103, .ref q111, .ref q119, .int 0, .int 0, .int 0, .ref q127, .ref q135, .int 0, .ref q143, .ref q151, .int 0, .ref q159, .ref q167, .int 0, .ref q175, .null, .int 0, .int 0, .int 0, .int 0, .int 0, .int 0, .null, .null, .null, .null, .null])), (q7, .inl (cI, 32, .inl (fun _ => 0))), (q15, .inl (cI, 32, .inl (fun _ => 0))), (q23, .inl (cI, 32, .inl (fun _ => 0))), (q31, .inl (cI, 8, .inl (fun _ => 0))), (q39, .inl (cI, 20, .inl (fun _ => 0))), (q47, .inl (cI, 8, .inl (fun _ => 0))), (q55, .inl (cI, 8, .inl (fun _ => 0))), (q63, .inl (cI, 8, .inl (fun _ => 0))), (q71, .inl (cI, 8, .inl (fun _ => 0))), (q79, .inl (cI, 8, .inl (fun _ => 0))), (q87, .inl (cI, 8, .inl (fun _ => 0))), (q95, .inl (cI, 60, .inl (fun _ => 0))), (q103, .inl (cI, 60, .inl (fun _ => 0))), (q111, .inl (cI, 60, .inl (fun _ => 0))), (q119, .inl (cI, 60, .inl (fun _ => 0))), (q127, .inl (cI, 8, .inl (fun _ => 0))), (q135, .inl (cI, 8, .inl (fun _ => 0))), (q143, .inl (cI, 8, .inl (fun _ => 0))), (q151, .inl (cI, 52488, .inl (fun _ => 0))), (q159, .inl (cI, 8, .inl (fun _ => 0))), (q167, .inl (cI, 8, .inl (fun _ => 0))), (q175, .inl (cI, 6, .inl (fun _ => 0)))] := hD
  refine lv_aload_n hx hb (by decide +kernel : decode cX8_init 180 = .ok (.aload_n 0, 1)) rfl (lv_at hl 0 rfl) ?_
  refine lv_bipush (v := 8) hx hb (by decide +kernel : decode cX8_init 181 = .ok (.bipush 8, 2)) (by decide) ?_
  refine va_newa (atype := .int) (ty := .int) (a0 := (8, .inl (fun _ => 0))) (N' := 8) hx hb (hts (Cond.arrayClass .int) (List.mem_cons_of_mem _ cwd_3)) rfl hK hP hD hS hA (fun _ => rfl) (by decide) (by decide) (by decide) (show 22 + 1 ≤ 28 by decide) (show 52946 + 8 ≤ 52994 by decide) (by decide +kernel : decode cX8_init 183 = .ok (.newarray .int, 2)) (fun q183 cA H hK hP hD hS => ?_)
  cases Option.some.inj ((hK.2 3 _ rfl).2.symm.trans (hK.2 0 _ rfl).2)
  replace hK := hK.sub (tys' := [(cI, .int), (cZ, .boolean), (cJ, .long)]) [0, 1, 2] rfl
  have hP : va_P (dC, dI) vwCl [(h0, .inr (8, [.int 0, .ref q7, .ref q15, .int 0, .ref q23, .int 0, .int 0, .int 0, .int 0, .int 0, .int 0, .int 0, .ref q31, .int 0, .ref q39, .int 0, .ref q47, .ref q55, .int 0, .int 0, .ref q63, .ref q71, .ref q79, .int 0, .int 0, .ref q87, .ref q95, .ref q103, .ref q111, .ref q119, .int 0, .int 0, .int 0, .ref q127, .ref q135, .int 0, .ref q143, .ref q151, .int 0, .ref q159, .ref q167, .int 0, .ref q175, .null, .int 0, .int 0, .int 0, .int 0, .int 0, .int 0, .null, .null, .null, .null, .null])), (q7, .inl (cI, 32, .inl (fun _ => 0))), (q15, .inl (cI, 32, .inl (fun _ => 0))), (q23, .inl (cI, 32, .inl (fun _ => 0))), (q31, .inl (cI, 8, .inl (fun _ => 0))), (q39, .inl (cI, 20, .inl (fun _ => 0))), (q47, .inl (cI, 8, .inl (fun _ => 0))), (q55, .inl (cI, 8, .inl (fun _ => 0))), (q63, .inl (cI, 8, .inl (fun _ => 0))), (q71, .inl (cI, 8, .inl (fun _ => 0))), (q79, .inl (cI, 8, .inl (fun _ => 0))), (q87, .inl (cI, 8, .inl (fun _ => 0))), (q95, .inl (cI, 60, .inl (fun _ => 0))), (q103, .inl (cI, 60, .inl (fun _ => 0))), (q111, .inl (cI, 60, .inl (fun _ => 0))), (q119, .inl (cI, 60, .inl (fun _ => 0))), (q127, .inl (cI, 8, .inl (fun _ => 0))), (q135, .inl (cI, 8, .inl (fun _ => 0))), (q143, .inl (cI, 8, .inl (fun _ => 0))), (q151, .inl (cI, 52488, .inl (fun _ => 0))), (q159, .inl (cI, 8, .inl (fun _ => 0))), (q167, .inl (cI, 8, .inl (fun _ => 0))), (q175, .inl (cI, 6, .inl (fun _ => 0))), (q183, .inl (cI, 8, .inl (fun _ => 0)))] H := hP
  have hD : va_D A [(h0, .inr (8, [.int 0, .ref q7, .ref q15, .int 0, .ref q23, .int 0, .int 0, .int 0, .int 0, .int 0, .int 0, .int 0, .ref q31, .int 0, .ref q39, .int 0, .ref q47, .ref q55, .int 0, .int 0, .ref q63, .ref q71, .ref q79, .int 0, .int 0, .ref q87, .ref q95, .ref q103, .ref q111, .ref q119, .int 0, .int 0, .int 0, .ref q127, .ref q135, .int 0, .ref q143, .ref q151, .int 0, .ref q159, .ref q167, .int 0, .ref q175, .null, .int 0, .int 0, .int 0, .int 0, .int 0, .int 0, .null, .null, .null, .null, .null])), (q7, .inl (cI, 32, .inl (fun _ => 0))), (q15, .inl (cI, 32, .inl (fun _ => 0))), (q23, .inl (cI, 32, .inl (fun _ => 0))), (q31, .inl (cI, 8, .inl (fun _ => 0))), (q39, .inl (cI, 20, .inl (fun _ => 0))), (q47, .inl (cI, 8, .inl (fun _ => 0))), (q55, .inl (cI, 8, .inl (fun _ => 0))), (q63, .inl (cI, 8, .inl (fun _ => 0))), (q71, .inl (cI, 8, .inl (fun _ => 0))), (q79, .inl (cI, 8, .inl (fun _ => 0))), (q87, .inl (cI, 8, .inl (fun _ => 0))), (q95, .inl (cI, 60, .inl (fun _ => 0))), (q103, .inl (cI, 60, .inl (fun _ => 0))), (q111, .inl (cI, 60, .inl (fun _ => 0))), (q119, .inl (cI, 60, .inl (fun _ => 0))), (q127, .inl (cI, 8, .inl (fun _ => 0))), (q135, .inl (cI, 8, .inl (fun _ => 0))), (q143, .inl (cI, 8, .inl (fun _ => 0))), (q151, .inl (cI, 52488, .inl (fun _ => 0))), (q159, .inl (cI, 8, .inl (fun _ => 0))), (q167, .inl (cI, 8, .inl (fun _ => 0))), (q175, .inl (cI, 6, .inl (fun _ => 0))), (q183, .inl (cI, 8, .inl (fun _ => 0)))] := hD
  refine W.widen (k := 23) (n := 52954) (by omega) (by omega) ?_
  refine va_putF (D := (dC, dI)) (ci := 8) (v := .ref q183) (ty := .array .int) (C := RX8) (T := TX8) (N := 55) hx hb hts (fun w h => List.mem_cons_of_mem _ (UW_ok 8 (by decide) w h)) tyX8 tyX8_ok nmX8 hown hK hP hD hS 0 rfl rfl 43 (by decide) (hts (.fieldLink RX8 77 "PoloSeasonModel" "used" "[I") (List.mem_cons_of_mem _ (FL_ok (8, 77, 8, 43) (by decide)))) (fun _ h9 => h9) rfl hin rfl (by decide +kernel) rfl rfl (Nat.le_of_ble_eq_true rfl) (by decide +kernel : decode cX8_init 185 = .ok (.putfield 77, 3)) (fun H locs hP hD hS => ?_)
  have hP : va_P (dC, dI) vwCl [(h0, .inr (8, [.int 0, .ref q7, .ref q15, .int 0, .ref q23, .int 0, .int 0, .int 0, .int 0, .int 0, .int 0, .int 0, .ref q31, .int 0, .ref q39, .int 0, .ref q47, .ref q55, .int 0, .int 0, .ref q63, .ref q71, .ref q79, .int 0, .int 0, .ref q87, .ref q95, .ref q103, .ref q111, .ref q119, .int 0, .int 0, .int 0, .ref q127, .ref q135, .int 0, .ref q143, .ref q151, .int 0, .ref q159, .ref q167, .int 0, .ref q175, .ref q183, .int 0, .int 0, .int 0, .int 0, .int 0, .int 0, .null, .null, .null, .null, .null])), (q7, .inl (cI, 32, .inl (fun _ => 0))), (q15, .inl (cI, 32, .inl (fun _ => 0))), (q23, .inl (cI, 32, .inl (fun _ => 0))), (q31, .inl (cI, 8, .inl (fun _ => 0))), (q39, .inl (cI, 20, .inl (fun _ => 0))), (q47, .inl (cI, 8, .inl (fun _ => 0))), (q55, .inl (cI, 8, .inl (fun _ => 0))), (q63, .inl (cI, 8, .inl (fun _ => 0))), (q71, .inl (cI, 8, .inl (fun _ => 0))), (q79, .inl (cI, 8, .inl (fun _ => 0))), (q87, .inl (cI, 8, .inl (fun _ => 0))), (q95, .inl (cI, 60, .inl (fun _ => 0))), (q103, .inl (cI, 60, .inl (fun _ => 0))), (q111, .inl (cI, 60, .inl (fun _ => 0))), (q119, .inl (cI, 60, .inl (fun _ => 0))), (q127, .inl (cI, 8, .inl (fun _ => 0))), (q135, .inl (cI, 8, .inl (fun _ => 0))), (q143, .inl (cI, 8, .inl (fun _ => 0))), (q151, .inl (cI, 52488, .inl (fun _ => 0))), (q159, .inl (cI, 8, .inl (fun _ => 0))), (q167, .inl (cI, 8, .inl (fun _ => 0))), (q175, .inl (cI, 6, .inl (fun _ => 0))), (q183, .inl (cI, 8, .inl (fun _ => 0)))] H := hP
  have hD : va_D A [(h0, .inr (8, [.int 0, .ref q7, .ref q15, .int 0, .ref q23, .int 0, .int 0, .int 0, .int 0, .int 0, .int 0, .int 0, .ref q31, .int 0, .ref q39, .int 0, .ref q47, .ref q55, .int 0, .int 0, .ref q63, .ref q71, .ref q79, .int 0, .int 0, .ref q87, .ref q95, .ref q103, .ref q111, .ref q119, .int 0, .int 0, .int 0, .ref q127, .ref q135, .int 0, .ref q143, .ref q151, .int 0, .ref q159, .ref q167, .int 0, .ref q175, .ref q183, .int 0, .int 0, .int 0, .int 0, .int 0, .int 0, .null, .null, .null, .null, .null])), (q7, .inl (cI, 32, .inl (fun _ => 0))), (q15, .inl (cI, 32, .inl (fun _ => 0))), (q23, .inl (cI, 32, .inl (fun _ => 0))), (q31, .inl (cI, 8, .inl (fun _ => 0))), (q39, .inl (cI, 20, .inl (fun _ => 0))), (q47, .inl (cI, 8, .inl (fun _ => 0))), (q55, .inl (cI, 8, .inl (fun _ => 0))), (q63, .inl (cI, 8, .inl (fun _ => 0))), (q71, .inl (cI, 8, .inl (fun _ => 0))), (q79, .inl (cI, 8, .inl (fun _ => 0))), (q87, .inl (cI, 8, .inl (fun _ => 0))), (q95, .inl (cI, 60, .inl (fun _ => 0))), (q103, .inl (cI, 60, .inl (fun _ => 0))), (q111, .inl (cI, 60, .inl (fun _ => 0))), (q119, .inl (cI, 60, .inl (fun _ => 0))), (q127, .inl (cI, 8, .inl (fun _ => 0))), (q135, .inl (cI, 8, .inl (fun _ => 0))), (q143, .inl (cI, 8, .inl (fun _ => 0))), (q151, .inl (cI, 52488, .inl (fun _ => 0))), (q159, .inl (cI, 8, .inl (fun _ => 0))), (q167, .inl (cI, 8, .inl (fun _ => 0))), (q175, .inl (cI, 6, .inl (fun _ => 0))), (q183, .inl (cI, 8, .inl (fun _ => 0)))] := hD
  refine lv_aload_n hx hb (by decide +kernel : decode cX8_init 188 = .ok (.aload_n 0, 1)) rfl (lv_at hl 0 rfl) ?_
  refine lv_bipush (v := 8) hx hb (by decide +kernel : decode cX8_init 189 = .ok (.bipush 8, 2)) (by decide) ?_
  refine va_newa (atype := .int) (ty := .int) (a0 := (8, .inl (fun _ => 0))) (N' := 8) hx hb (hts (Cond.arrayClass .int) (List.mem_cons_of_mem _ cwd_3)) rfl hK hP hD hS hA (fun _ => rfl) (by decide) (by decide) (by decide) (show 23 + 1 ≤ 28 by decide) (show 52954 + 8 ≤ 52994 by decide) (by decide +kernel : decode cX8_init 191 = .ok (.newarray .int, 2)) (fun q191 cA H hK hP hD hS => ?_)
  cases Option.some.inj ((hK.2 3 _ rfl).2.symm.trans (hK.2 0 _ rfl).2)
  replace hK := hK.sub (tys' := [(cI, .int), (cZ, .boolean), (cJ, .long)]) [0, 1, 2] rfl
  have hP : va_P (dC, dI) vwCl [(h0, .inr (8, [.int 0, .ref q7, .ref q15, .int 0, .ref q23, .int 0, .int 0, .int 0, .int 0, .int 0, .int 0, .int 0, .ref q31, .int 0, .ref q39, .int 0, .ref q47, .ref q55, .int 0, .int 0, .ref q63, .ref q71, .ref q79, .int 0, .int 0, .ref q87, .ref q95, .ref q103, .ref q111, .ref q119, .int 0, .int 0, .int 0, .ref q127, .ref q135, .int 0, .ref q143, .ref q151, .int 0, .ref q159, .ref q167, .int 0, .ref q175, .ref q183, .int 0, .int 0, .int 0, .int 0, .int 0, .int 0, .null, .null, .null, .null, .null])), (q7, .inl (cI, 32, .inl (fun _ => 0))), (q15, .inl (cI, 32, .inl (fun _ => 0))), (q23, .inl (cI, 32, .inl (fun _ => 0))), (q31, .inl (cI, 8, .inl (fun _ => 0))), (q39, .inl (cI, 20, .inl (fun _ => 0))), (q47, .inl (cI, 8, .inl (fun _ => 0))), (q55, .inl (cI, 8, .inl (fun _ => 0))), (q63, .inl (cI, 8, .inl (fun _ => 0))), (q71, .inl (cI, 8, .inl (fun _ => 0))), (q79, .inl (cI, 8, .inl (fun _ => 0))), (q87, .inl (cI, 8, .inl (fun _ => 0))), (q95, .inl (cI, 60, .inl (fun _ => 0))), (q103, .inl (cI, 60, .inl (fun _ => 0))), (q111, .inl (cI, 60, .inl (fun _ => 0))), (q119, .inl (cI, 60, .inl (fun _ => 0))), (q127, .inl (cI, 8, .inl (fun _ => 0))), (q135, .inl (cI, 8, .inl (fun _ => 0))), (q143, .inl (cI, 8, .inl (fun _ => 0))), (q151, .inl (cI, 52488, .inl (fun _ => 0))), (q159, .inl (cI, 8, .inl (fun _ => 0))), (q167, .inl (cI, 8, .inl (fun _ => 0))), (q175, .inl (cI, 6, .inl (fun _ => 0))), (q183, .inl (cI, 8, .inl (fun _ => 0))), (q191, .inl (cI, 8, .inl (fun _ => 0)))] H := hP
  have hD : va_D A [(h0, .inr (8, [.int 0, .ref q7, .ref q15, .int 0, .ref q23, .int 0, .int 0, .int 0, .int 0, .int 0, .int 0, .int 0, .ref q31, .int 0, .ref q39, .int 0, .ref q47, .ref q55, .int 0, .int 0, .ref q63, .ref q71, .ref q79, .int 0, .int 0, .ref q87, .ref q95, .ref q103, .ref q111, .ref q119, .int 0, .int 0, .int 0, .ref q127, .ref q135, .int 0, .ref q143, .ref q151, .int 0, .ref q159, .ref q167, .int 0, .ref q175, .ref q183, .int 0, .int 0, .int 0, .int 0, .int 0, .int 0, .null, .null, .null, .null, .null])), (q7, .inl (cI, 32, .inl (fun _ => 0))), (q15, .inl (cI, 32, .inl (fun _ => 0))), (q23, .inl (cI, 32, .inl (fun _ => 0))), (q31, .inl (cI, 8, .inl (fun _ => 0))), (q39, .inl (cI, 20, .inl (fun _ => 0))), (q47, .inl (cI, 8, .inl (fun _ => 0))), (q55, .inl (cI, 8, .inl (fun _ => 0))), (q63, .inl (cI, 8, .inl (fun _ => 0))), (q71, .inl (cI, 8, .inl (fun _ => 0))), (q79, .inl (cI, 8, .inl (fun _ => 0))), (q87, .inl (cI, 8, .inl (fun _ => 0))), (q95, .inl (cI, 60, .inl (fun _ => 0))), (q103, .inl (cI, 60, .inl (fun _ => 0))), (q111, .inl (cI, 60, .inl (fun _ => 0))), (q119, .inl (cI, 60, .inl (fun _ => 0))), (q127, .inl (cI, 8, .inl (fun _ => 0))), (q135, .inl (cI, 8, .inl (fun _ => 0))), (q143, .inl (cI, 8, .inl (fun _ => 0))), (q151, .inl (cI, 52488, .inl (fun _ => 0))), (q159, .inl (cI, 8, .inl (fun _ => 0))), (q167, .inl (cI, 8, .inl (fun _ => 0))), (q175, .inl (cI, 6, .inl (fun _ => 0))), (q183, .inl (cI, 8, .inl (fun _ => 0))), (q191, .inl (cI, 8, .inl (fun _ => 0)))] := hD
  refine W.widen (k := 24) (n := 52962) (by omega) (by omega) ?_
  refine va_putF (D := (dC, dI)) (ci := 8) (v := .ref q191) (ty := .array .int) (C := RX8) (T := TX8) (N := 55) hx hb hts (fun w h => List.mem_cons_of_mem _ (UW_ok 8 (by decide) w h)) tyX8 tyX8_ok nmX8 hown hK hP hD hS 0 rfl rfl 50 (by decide) (hts (.fieldLink RX8 80 "PoloSeasonModel" "side" "[I") (List.mem_cons_of_mem _ (FL_ok (8, 80, 8, 50) (by decide)))) (fun _ h9 => h9) rfl hin rfl (by decide +kernel) rfl rfl (Nat.le_of_ble_eq_true rfl) (by decide +kernel : decode cX8_init 193 = .ok (.putfield 80, 3)) (fun H locs hP hD hS => ?_)
  have hP : va_P (dC, dI) vwCl [(h0, .inr (8, [.int 0, .ref q7, .ref q15, .int 0, .ref q23, .int 0, .int 0, .int 0, .int 0, .int 0, .int 0, .int 0, .ref q31, .int 0, .ref q39, .int 0, .ref q47, .ref q55, .int 0, .int 0, .ref q63, .ref q71, .ref q79, .int 0, .int 0, .ref q87, .ref q95, .ref q103, .ref q111, .ref q119, .int 0, .int 0, .int 0, .ref q127, .ref q135, .int 0, .ref q143, .ref q151, .int 0, .ref q159, .ref q167, .int 0, .ref q175, .ref q183, .int 0, .int 0, .int 0, .int 0, .int 0, .int 0, .ref q191, .null, .null, .null, .null])), (q7, .inl (cI, 32, .inl (fun _ => 0))), (q15, .inl (cI, 32, .inl (fun _ => 0))), (q23, .inl (cI, 32, .inl (fun _ => 0))), (q31, .inl (cI, 8, .inl (fun _ => 0))), (q39, .inl (cI, 20, .inl (fun _ => 0))), (q47, .inl (cI, 8, .inl (fun _ => 0))), (q55, .inl (cI, 8, .inl (fun _ => 0))), (q63, .inl (cI, 8, .inl (fun _ => 0))), (q71, .inl (cI, 8, .inl (fun _ => 0))), (q79, .inl (cI, 8, .inl (fun _ => 0))), (q87, .inl (cI, 8, .inl (fun _ => 0))), (q95, .inl (cI, 60, .inl (fun _ => 0))), (q103, .inl (cI, 60, .inl (fun _ => 0))), (q111, .inl (cI, 60, .inl (fun _ => 0))), (q119, .inl (cI, 60, .inl (fun _ => 0))), (q127, .inl (cI, 8, .inl (fun _ => 0))), (q135, .inl (cI, 8, .inl (fun _ => 0))), (q143, .inl (cI, 8, .inl (fun _ => 0))), (q151, .inl (cI, 52488, .inl (fun _ => 0))), (q159, .inl (cI, 8, .inl (fun _ => 0))), (q167, .inl (cI, 8, .inl (fun _ => 0))), (q175, .inl (cI, 6, .inl (fun _ => 0))), (q183, .inl (cI, 8, .inl (fun _ => 0))), (q191, .inl (cI, 8, .inl (fun _ => 0)))] H := hP
  have hD : va_D A [(h0, .inr (8, [.int 0, .ref q7, .ref q15, .int 0, .ref q23, .int 0, .int 0, .int 0, .int 0, .int 0, .int 0, .int 0, .ref q31, .int 0, .ref q39, .int 0, .ref q47, .ref q55, .int 0, .int 0, .ref q63, .ref q71, .ref q79, .int 0, .int 0, .ref q87, .ref q95, .ref q103, .ref q111, .ref q119, .int 0, .int 0, .int 0, .ref q127, .ref q135, .int 0, .ref q143, .ref q151, .int 0, .ref q159, .ref q167, .int 0, .ref q175, .ref q183, .int 0, .int 0, .int 0, .int 0, .int 0, .int 0, .ref q191, .null, .null, .null, .null])), (q7, .inl (cI, 32, .inl (fun _ => 0))), (q15, .inl (cI, 32, .inl (fun _ => 0))), (q23, .inl (cI, 32, .inl (fun _ => 0))), (q31, .inl (cI, 8, .inl (fun _ => 0))), (q39, .inl (cI, 20, .inl (fun _ => 0))), (q47, .inl (cI, 8, .inl (fun _ => 0))), (q55, .inl (cI, 8, .inl (fun _ => 0))), (q63, .inl (cI, 8, .inl (fun _ => 0))), (q71, .inl (cI, 8, .inl (fun _ => 0))), (q79, .inl (cI, 8, .inl (fun _ => 0))), (q87, .inl (cI, 8, .inl (fun _ => 0))), (q95, .inl (cI, 60, .inl (fun _ => 0))), (q103, .inl (cI, 60, .inl (fun _ => 0))), (q111, .inl (cI, 60, .inl (fun _ => 0))), (q119, .inl (cI, 60, .inl (fun _ => 0))), (q127, .inl (cI, 8, .inl (fun _ => 0))), (q135, .inl (cI, 8, .inl (fun _ => 0))), (q143, .inl (cI, 8, .inl (fun _ => 0))), (q151, .inl (cI, 52488, .inl (fun _ => 0))), (q159, .inl (cI, 8, .inl (fun _ => 0))), (q167, .inl (cI, 8, .inl (fun _ => 0))), (q175, .inl (cI, 6, .inl (fun _ => 0))), (q183, .inl (cI, 8, .inl (fun _ => 0))), (q191, .inl (cI, 8, .inl (fun _ => 0)))] := hD
  refine lv_aload_n hx hb (by decide +kernel : decode cX8_init 196 = .ok (.aload_n 0, 1)) rfl (lv_at hl 0 rfl) ?_
  refine lv_bipush (v := 8) hx hb (by decide +kernel : decode cX8_init 197 = .ok (.bipush 8, 2)) (by decide) ?_
  refine va_newa (atype := .int) (ty := .int) (a0 := (8, .inl (fun _ => 0))) (N' := 8) hx hb (hts (Cond.arrayClass .int) (List.mem_cons_of_mem _ cwd_3)) rfl hK hP hD hS hA (fun _ => rfl) (by decide) (by decide) (by decide) (show 24 + 1 ≤ 28 by decide) (show 52962 + 8 ≤ 52994 by decide) (by decide +kernel : decode cX8_init 199 = .ok (.newarray .int, 2)) (fun q199 cA H hK hP hD hS => ?_)
  cases Option.some.inj ((hK.2 3 _ rfl).2.symm.trans (hK.2 0 _ rfl).2)
  replace hK := hK.sub (tys' := [(cI, .int), (cZ, .boolean), (cJ, .long)]) [0, 1, 2] rfl
  have hP : va_P (dC, dI) vwCl [(h0, .inr (8, [.int 0, .ref q7, .ref q15, .int 0, .ref q23, .int 0, .int 0, .int 0, .int 0, .int 0, .int 0, .int 0, .ref q31, .int 0, .ref q39, .int 0, .ref q47, .ref q55, .int 0, .int 0, .ref q63, .ref q71, .ref q79, .int 0, .int 0, .ref q87, .ref q95, .ref q103, .ref q111, .ref q119, .int 0, .int 0, .int 0, .ref q127, .ref q135, .int 0, .ref q143, .ref q151, .int 0, .ref q159, .ref q167, .int 0, .ref q175, .ref q183, .int 0, .int 0, .int 0, .int 0, .int 0, .int 0, .ref q191, .null, .null, .null, .null])), (q7, .inl (cI, 32, .inl (fun _ => 0))), (q15, .inl (cI, 32, .inl (fun _ => 0))), (q23, .inl (cI, 32, .inl (fun _ => 0))), (q31, .inl (cI, 8, .inl (fun _ => 0))), (q39, .inl (cI, 20, .inl (fun _ => 0))), (q47, .inl (cI, 8, .inl (fun _ => 0))), (q55, .inl (cI, 8, .inl (fun _ => 0))), (q63, .inl (cI, 8, .inl (fun _ => 0))), (q71, .inl (cI, 8, .inl (fun _ => 0))), (q79, .inl (cI, 8, .inl (fun _ => 0))), (q87, .inl (cI, 8, .inl (fun _ => 0))), (q95, .inl (cI, 60, .inl (fun _ => 0))), (q103, .inl (cI, 60, .inl (fun _ => 0))), (q111, .inl (cI, 60, .inl (fun _ => 0))), (q119, .inl (cI, 60, .inl (fun _ => 0))), (q127, .inl (cI, 8, .inl (fun _ => 0))), (q135, .inl (cI, 8, .inl (fun _ => 0))), (q143, .inl (cI, 8, .inl (fun _ => 0))), (q151, .inl (cI, 52488, .inl (fun _ => 0))), (q159, .inl (cI, 8, .inl (fun _ => 0))), (q167, .inl (cI, 8, .inl (fun _ => 0))), (q175, .inl (cI, 6, .inl (fun _ => 0))), (q183, .inl (cI, 8, .inl (fun _ => 0))), (q191, .inl (cI, 8, .inl (fun _ => 0))), (q199, .inl (cI, 8, .inl (fun _ => 0)))] H := hP
  have hD : va_D A [(h0, .inr (8, [.int 0, .ref q7, .ref q15, .int 0, .ref q23, .int 0, .int 0, .int 0, .int 0, .int 0, .int 0, .int 0, .ref q31, .int 0, .ref q39, .int 0, .ref q47, .ref q55, .int 0, .int 0, .ref q63, .ref q71, .ref q79, .int 0, .int 0, .ref q87, .ref q95, .ref q103, .ref q111, .ref q119, .int 0, .int 0, .int 0, .ref q127, .ref q135, .int 0, .ref q143, .ref q151, .int 0, .ref q159, .ref q167, .int 0, .ref q175, .ref q183, .int 0, .int 0, .int 0, .int 0, .int 0, .int 0, .ref q191, .null, .null, .null, .null])), (q7, .inl (cI, 32, .inl (fun _ => 0))), (q15, .inl (cI, 32, .inl (fun _ => 0))), (q23, .inl (cI, 32, .inl (fun _ => 0))), (q31, .inl (cI, 8, .inl (fun _ => 0))), (q39, .inl (cI, 20, .inl (fun _ => 0))), (q47, .inl (cI, 8, .inl (fun _ => 0))), (q55, .inl (cI, 8, .inl (fun _ => 0))), (q63, .inl (cI, 8, .inl (fun _ => 0))), (q71, .inl (cI, 8, .inl (fun _ => 0))), (q79, .inl (cI, 8, .inl (fun _ => 0))), (q87, .inl (cI, 8, .inl (fun _ => 0))), (q95, .inl (cI, 60, .inl (fun _ => 0))), (q103, .inl (cI, 60, .inl (fun _ => 0))), (q111, .inl (cI, 60, .inl (fun _ => 0))), (q119, .inl (cI, 60, .inl (fun _ => 0))), (q127, .inl (cI, 8, .inl (fun _ => 0))), (q135, .inl (cI, 8, .inl (fun _ => 0))), (q143, .inl (cI, 8, .inl (fun _ => 0))), (q151, .inl (cI, 52488, .inl (fun _ => 0))), (q159, .inl (cI, 8, .inl (fun _ => 0))), (q167, .inl (cI, 8, .inl (fun _ => 0))), (q175, .inl (cI, 6, .inl (fun _ => 0))), (q183, .inl (cI, 8, .inl (fun _ => 0))), (q191, .inl (cI, 8, .inl (fun _ => 0))), (q199, .inl (cI, 8, .inl (fun _ => 0)))] := hD
  refine W.widen (k := 25) (n := 52970) (by omega) (by omega) ?_
  refine va_putF (D := (dC, dI)) (ci := 8) (v := .ref q199) (ty := .array .int) (C := RX8) (T := TX8) (N := 55) hx hb hts (fun w h => List.mem_cons_of_mem _ (UW_ok 8 (by decide) w h)) tyX8 tyX8_ok nmX8 hown hK hP hD hS 0 rfl rfl 51 (by decide) (hts (.fieldLink RX8 83 "PoloSeasonModel" "atX" "[I") (List.mem_cons_of_mem _ (FL_ok (8, 83, 8, 51) (by decide)))) (fun _ h9 => h9) rfl hin rfl (by decide +kernel) rfl rfl (Nat.le_of_ble_eq_true rfl) (by decide +kernel : decode cX8_init 201 = .ok (.putfield 83, 3)) (fun H locs hP hD hS => ?_)
  have hP : va_P (dC, dI) vwCl [(h0, .inr (8, [.int 0, .ref q7, .ref q15, .int 0, .ref q23, .int 0, .int 0, .int 0, .int 0, .int 0, .int 0, .int 0, .ref q31, .int 0, .ref q39, .int 0, .ref q47, .ref q55, .int 0, .int 0, .ref q63, .ref q71, .ref q79, .int 0, .int 0, .ref q87, .ref q95, .ref q103, .ref q111, .ref q119, .int 0, .int 0, .int 0, .ref q127, .ref q135, .int 0, .ref q143, .ref q151, .int 0, .ref q159, .ref q167, .int 0, .ref q175, .ref q183, .int 0, .int 0, .int 0, .int 0, .int 0, .int 0, .ref q191, .ref q199, .null, .null, .null])), (q7, .inl (cI, 32, .inl (fun _ => 0))), (q15, .inl (cI, 32, .inl (fun _ => 0))), (q23, .inl (cI, 32, .inl (fun _ => 0))), (q31, .inl (cI, 8, .inl (fun _ => 0))), (q39, .inl (cI, 20, .inl (fun _ => 0))), (q47, .inl (cI, 8, .inl (fun _ => 0))), (q55, .inl (cI, 8, .inl (fun _ => 0))), (q63, .inl (cI, 8, .inl (fun _ => 0))), (q71, .inl (cI, 8, .inl (fun _ => 0))), (q79, .inl (cI, 8, .inl (fun _ => 0))), (q87, .inl (cI, 8, .inl (fun _ => 0))), (q95, .inl (cI, 60, .inl (fun _ => 0))), (q103, .inl (cI, 60, .inl (fun _ => 0))), (q111, .inl (cI, 60, .inl (fun _ => 0))), (q119, .inl (cI, 60, .inl (fun _ => 0))), (q127, .inl (cI, 8, .inl (fun _ => 0))), (q135, .inl (cI, 8, .inl (fun _ => 0))), (q143, .inl (cI, 8, .inl (fun _ => 0))), (q151, .inl (cI, 52488, .inl (fun _ => 0))), (q159, .inl (cI, 8, .inl (fun _ => 0))), (q167, .inl (cI, 8, .inl (fun _ => 0))), (q175, .inl (cI, 6, .inl (fun _ => 0))), (q183, .inl (cI, 8, .inl (fun _ => 0))), (q191, .inl (cI, 8, .inl (fun _ => 0))), (q199, .inl (cI, 8, .inl (fun _ => 0)))] H := hP
  have hD : va_D A [(h0, .inr (8, [.int 0, .ref q7, .ref q15, .int 0, .ref q23, .int 0, .int 0, .int 0, .int 0, .int 0, .int 0, .int 0, .ref q31, .int 0, .ref q39, .int 0, .ref q47, .ref q55, .int 0, .int 0, .ref q63, .ref q71, .ref q79, .int 0, .int 0, .ref q87, .ref q95, .ref q103, .ref q111, .ref q119, .int 0, .int 0, .int 0, .ref q127, .ref q135, .int 0, .ref q143, .ref q151, .int 0, .ref q159, .ref q167, .int 0, .ref q175, .ref q183, .int 0, .int 0, .int 0, .int 0, .int 0, .int 0, .ref q191, .ref q199, .null, .null, .null])), (q7, .inl (cI, 32, .inl (fun _ => 0))), (q15, .inl (cI, 32, .inl (fun _ => 0))), (q23, .inl (cI, 32, .inl (fun _ => 0))), (q31, .inl (cI, 8, .inl (fun _ => 0))), (q39, .inl (cI, 20, .inl (fun _ => 0))), (q47, .inl (cI, 8, .inl (fun _ => 0))), (q55, .inl (cI, 8, .inl (fun _ => 0))), (q63, .inl (cI, 8, .inl (fun _ => 0))), (q71, .inl (cI, 8, .inl (fun _ => 0))), (q79, .inl (cI, 8, .inl (fun _ => 0))), (q87, .inl (cI, 8, .inl (fun _ => 0))), (q95, .inl (cI, 60, .inl (fun _ => 0))), (q103, .inl (cI, 60, .inl (fun _ => 0))), (q111, .inl (cI, 60, .inl (fun _ => 0))), (q119, .inl (cI, 60, .inl (fun _ => 0))), (q127, .inl (cI, 8, .inl (fun _ => 0))), (q135, .inl (cI, 8, .inl (fun _ => 0))), (q143, .inl (cI, 8, .inl (fun _ => 0))), (q151, .inl (cI, 52488, .inl (fun _ => 0))), (q159, .inl (cI, 8, .inl (fun _ => 0))), (q167, .inl (cI, 8, .inl (fun _ => 0))), (q175, .inl (cI, 6, .inl (fun _ => 0))), (q183, .inl (cI, 8, .inl (fun _ => 0))), (q191, .inl (cI, 8, .inl (fun _ => 0))), (q199, .inl (cI, 8, .inl (fun _ => 0)))] := hD
  refine lv_aload_n hx hb (by decide +kernel : decode cX8_init 204 = .ok (.aload_n 0, 1)) rfl (lv_at hl 0 rfl) ?_
  refine lv_bipush (v := 8) hx hb (by decide +kernel : decode cX8_init 205 = .ok (.bipush 8, 2)) (by decide) ?_
  refine va_newa (atype := .int) (ty := .int) (a0 := (8, .inl (fun _ => 0))) (N' := 8) hx hb (hts (Cond.arrayClass .int) (List.mem_cons_of_mem _ cwd_3)) rfl hK hP hD hS hA (fun _ => rfl) (by decide) (by decide) (by decide) (show 25 + 1 ≤ 28 by decide) (show 52970 + 8 ≤ 52994 by decide) (by decide +kernel : decode cX8_init 207 = .ok (.newarray .int, 2)) (fun q207 cA H hK hP hD hS => ?_)
  cases Option.some.inj ((hK.2 3 _ rfl).2.symm.trans (hK.2 0 _ rfl).2)
  replace hK := hK.sub (tys' := [(cI, .int), (cZ, .boolean), (cJ, .long)]) [0, 1, 2] rfl
  have hP : va_P (dC, dI) vwCl [(h0, .inr (8, [.int 0, .ref q7, .ref q15, .int 0, .ref q23, .int 0, .int 0, .int 0, .int 0, .int 0, .int 0, .int 0, .ref q31, .int 0, .ref q39, .int 0, .ref q47, .ref q55, .int 0, .int 0, .ref q63, .ref q71, .ref q79, .int 0, .int 0, .ref q87, .ref q95, .ref q103, .ref q111, .ref q119, .int 0, .int 0, .int 0, .ref q127, .ref q135, .int 0, .ref q143, .ref q151, .int 0, .ref q159, .ref q167, .int 0, .ref q175, .ref q183, .int 0, .int 0, .int 0, .int 0, .int 0, .int 0, .ref q191, .ref q199, .null, .null, .null])), (q7, .inl (cI, 32, .inl (fun _ => 0))), (q15, .inl (cI, 32, .inl (fun _ => 0))), (q23, .inl (cI, 32, .inl (fun _ => 0))), (q31, .inl (cI, 8, .inl (fun _ => 0))), (q39, .inl (cI, 20, .inl (fun _ => 0))), (q47, .inl (cI, 8, .inl (fun _ => 0))), (q55, .inl (cI, 8, .inl (fun _ => 0))), (q63, .inl (cI, 8, .inl (fun _ => 0))), (q71, .inl (cI, 8, .inl (fun _ => 0))), (q79, .inl (cI, 8, .inl (fun _ => 0))), (q87, .inl (cI, 8, .inl (fun _ => 0))), (q95, .inl (cI, 60, .inl (fun _ => 0))), (q103, .inl (cI, 60, .inl (fun _ => 0))), (q111, .inl (cI, 60, .inl (fun _ => 0))), (q119, .inl (cI, 60, .inl (fun _ => 0))), (q127, .inl (cI, 8, .inl (fun _ => 0))), (q135, .inl (cI, 8, .inl (fun _ => 0))), (q143, .inl (cI, 8, .inl (fun _ => 0))), (q151, .inl (cI, 52488, .inl (fun _ => 0))), (q159, .inl (cI, 8, .inl (fun _ => 0))), (q167, .inl (cI, 8, .inl (fun _ => 0))), (q175, .inl (cI, 6, .inl (fun _ => 0))), (q183, .inl (cI, 8, .inl (fun _ => 0))), (q191, .inl (cI, 8, .inl (fun _ => 0))), (q199, .inl (cI, 8, .inl (fun _ => 0))), (q207, .inl (cI, 8, .inl (fun _ => 0)))] H := hP
  have hD : va_D A [(h0, .inr (8, [.int 0, .ref q7, .ref q15, .int 0, .ref q23, .int 0, .int 0, .int 0, .int 0, .int 0, .int 0, .int 0, .ref q31, .int 0, .ref q39, .int 0, .ref q47, .ref q55, .int 0, .int 0, .ref q63, .ref q71, .ref q79, .int 0, .int 0, .ref q87, .ref q95, .ref q103, .ref q111, .ref q119, .int 0, .int 0, .int 0, .ref q127, .ref q135, .int 0, .ref q143, .ref q151, .int 0, .ref q159, .ref q167, .int 0, .ref q175, .ref q183, .int 0, .int 0, .int 0, .int 0, .int 0, .int 0, .ref q191, .ref q199, .null, .null, .null])), (q7, .inl (cI, 32, .inl (fun _ => 0))), (q15, .inl (cI, 32, .inl (fun _ => 0))), (q23, .inl (cI, 32, .inl (fun _ => 0))), (q31, .inl (cI, 8, .inl (fun _ => 0))), (q39, .inl (cI, 20, .inl (fun _ => 0))), (q47, .inl (cI, 8, .inl (fun _ => 0))), (q55, .inl (cI, 8, .inl (fun _ => 0))), (q63, .inl (cI, 8, .inl (fun _ => 0))), (q71, .inl (cI, 8, .inl (fun _ => 0))), (q79, .inl (cI, 8, .inl (fun _ => 0))), (q87, .inl (cI, 8, .inl (fun _ => 0))), (q95, .inl (cI, 60, .inl (fun _ => 0))), (q103, .inl (cI, 60, .inl (fun _ => 0))), (q111, .inl (cI, 60, .inl (fun _ => 0))), (q119, .inl (cI, 60, .inl (fun _ => 0))), (q127, .inl (cI, 8, .inl (fun _ => 0))), (q135, .inl (cI, 8, .inl (fun _ => 0))), (q143, .inl (cI, 8, .inl (fun _ => 0))), (q151, .inl (cI, 52488, .inl (fun _ => 0))), (q159, .inl (cI, 8, .inl (fun _ => 0))), (q167, .inl (cI, 8, .inl (fun _ => 0))), (q175, .inl (cI, 6, .inl (fun _ => 0))), (q183, .inl (cI, 8, .inl (fun _ => 0))), (q191, .inl (cI, 8, .inl (fun _ => 0))), (q199, .inl (cI, 8, .inl (fun _ => 0))), (q207, .inl (cI, 8, .inl (fun _ => 0)))] := hD
  refine W.widen (k := 26) (n := 52978) (by omega) (by omega) ?_
  refine va_putF (D := (dC, dI)) (ci := 8) (v := .ref q207) (ty := .array .int) (C := RX8) (T := TX8) (N := 55) hx hb hts (fun w h => List.mem_cons_of_mem _ (UW_ok 8 (by decide) w h)) tyX8 tyX8_ok nmX8 hown hK hP hD hS 0 rfl rfl 52 (by decide) (hts (.fieldLink RX8 86 "PoloSeasonModel" "atY" "[I") (List.mem_cons_of_mem _ (FL_ok (8, 86, 8, 52) (by decide)))) (fun _ h9 => h9) rfl hin rfl (by decide +kernel) rfl rfl (Nat.le_of_ble_eq_true rfl) (by decide +kernel : decode cX8_init 209 = .ok (.putfield 86, 3)) (fun H locs hP hD hS => ?_)
  have hP : va_P (dC, dI) vwCl [(h0, .inr (8, [.int 0, .ref q7, .ref q15, .int 0, .ref q23, .int 0, .int 0, .int 0, .int 0, .int 0, .int 0, .int 0, .ref q31, .int 0, .ref q39, .int 0, .ref q47, .ref q55, .int 0, .int 0, .ref q63, .ref q71, .ref q79, .int 0, .int 0, .ref q87, .ref q95, .ref q103, .ref q111, .ref q119, .int 0, .int 0, .int 0, .ref q127, .ref q135, .int 0, .ref q143, .ref q151, .int 0, .ref q159, .ref q167, .int 0, .ref q175, .ref q183, .int 0, .int 0, .int 0, .int 0, .int 0, .int 0, .ref q191, .ref q199, .ref q207, .null, .null])), (q7, .inl (cI, 32, .inl (fun _ => 0))), (q15, .inl (cI, 32, .inl (fun _ => 0))), (q23, .inl (cI, 32, .inl (fun _ => 0))), (q31, .inl (cI, 8, .inl (fun _ => 0))), (q39, .inl (cI, 20, .inl (fun _ => 0))), (q47, .inl (cI, 8, .inl (fun _ => 0))), (q55, .inl (cI, 8, .inl (fun _ => 0))), (q63, .inl (cI, 8, .inl (fun _ => 0))), (q71, .inl (cI, 8, .inl (fun _ => 0))), (q79, .inl (cI, 8, .inl (fun _ => 0))), (q87, .inl (cI, 8, .inl (fun _ => 0))), (q95, .inl (cI, 60, .inl (fun _ => 0))), (q103, .inl (cI, 60, .inl (fun _ => 0))), (q111, .inl (cI, 60, .inl (fun _ => 0))), (q119, .inl (cI, 60, .inl (fun _ => 0))), (q127, .inl (cI, 8, .inl (fun _ => 0))), (q135, .inl (cI, 8, .inl (fun _ => 0))), (q143, .inl (cI, 8, .inl (fun _ => 0))), (q151, .inl (cI, 52488, .inl (fun _ => 0))), (q159, .inl (cI, 8, .inl (fun _ => 0))), (q167, .inl (cI, 8, .inl (fun _ => 0))), (q175, .inl (cI, 6, .inl (fun _ => 0))), (q183, .inl (cI, 8, .inl (fun _ => 0))), (q191, .inl (cI, 8, .inl (fun _ => 0))), (q199, .inl (cI, 8, .inl (fun _ => 0))), (q207, .inl (cI, 8, .inl (fun _ => 0)))] H := hP
  have hD : va_D A [(h0, .inr (8, [.int 0, .ref q7, .ref q15, .int 0, .ref q23, .int 0, .int 0, .int 0, .int 0, .int 0, .int 0, .int 0, .ref q31, .int 0, .ref q39, .int 0, .ref q47, .ref q55, .int 0, .int 0, .ref q63, .ref q71, .ref q79, .int 0, .int 0, .ref q87, .ref q95, .ref q103, .ref q111, .ref q119, .int 0, .int 0, .int 0, .ref q127, .ref q135, .int 0, .ref q143, .ref q151, .int 0, .ref q159, .ref q167, .int 0, .ref q175, .ref q183, .int 0, .int 0, .int 0, .int 0, .int 0, .int 0, .ref q191, .ref q199, .ref q207, .null, .null])), (q7, .inl (cI, 32, .inl (fun _ => 0))), (q15, .inl (cI, 32, .inl (fun _ => 0))), (q23, .inl (cI, 32, .inl (fun _ => 0))), (q31, .inl (cI, 8, .inl (fun _ => 0))), (q39, .inl (cI, 20, .inl (fun _ => 0))), (q47, .inl (cI, 8, .inl (fun _ => 0))), (q55, .inl (cI, 8, .inl (fun _ => 0))), (q63, .inl (cI, 8, .inl (fun _ => 0))), (q71, .inl (cI, 8, .inl (fun _ => 0))), (q79, .inl (cI, 8, .inl (fun _ => 0))), (q87, .inl (cI, 8, .inl (fun _ => 0))), (q95, .inl (cI, 60, .inl (fun _ => 0))), (q103, .inl (cI, 60, .inl (fun _ => 0))), (q111, .inl (cI, 60, .inl (fun _ => 0))), (q119, .inl (cI, 60, .inl (fun _ => 0))), (q127, .inl (cI, 8, .inl (fun _ => 0))), (q135, .inl (cI, 8, .inl (fun _ => 0))), (q143, .inl (cI, 8, .inl (fun _ => 0))), (q151, .inl (cI, 52488, .inl (fun _ => 0))), (q159, .inl (cI, 8, .inl (fun _ => 0))), (q167, .inl (cI, 8, .inl (fun _ => 0))), (q175, .inl (cI, 6, .inl (fun _ => 0))), (q183, .inl (cI, 8, .inl (fun _ => 0))), (q191, .inl (cI, 8, .inl (fun _ => 0))), (q199, .inl (cI, 8, .inl (fun _ => 0))), (q207, .inl (cI, 8, .inl (fun _ => 0)))] := hD
  refine lv_aload_n hx hb (by decide +kernel : decode cX8_init 212 = .ok (.aload_n 0, 1)) rfl (lv_at hl 0 rfl) ?_
  refine lv_bipush (v := 8) hx hb (by decide +kernel : decode cX8_init 213 = .ok (.bipush 8, 2)) (by decide) ?_
  refine va_newa (atype := .int) (ty := .int) (a0 := (8, .inl (fun _ => 0))) (N' := 8) hx hb (hts (Cond.arrayClass .int) (List.mem_cons_of_mem _ cwd_3)) rfl hK hP hD hS hA (fun _ => rfl) (by decide) (by decide) (by decide) (show 26 + 1 ≤ 28 by decide) (show 52978 + 8 ≤ 52994 by decide) (by decide +kernel : decode cX8_init 215 = .ok (.newarray .int, 2)) (fun q215 cA H hK hP hD hS => ?_)
  cases Option.some.inj ((hK.2 3 _ rfl).2.symm.trans (hK.2 0 _ rfl).2)
  replace hK := hK.sub (tys' := [(cI, .int), (cZ, .boolean), (cJ, .long)]) [0, 1, 2] rfl
  have hP : va_P (dC, dI) vwCl [(h0, .inr (8, [.int 0, .ref q7, .ref q15, .int 0, .ref q23, .int 0, .int 0, .int 0, .int 0, .int 0, .int 0, .int 0, .ref q31, .int 0, .ref q39, .int 0, .ref q47, .ref q55, .int 0, .int 0, .ref q63, .ref q71, .ref q79, .int 0, .int 0, .ref q87, .ref q95, .ref q103, .ref q111, .ref q119, .int 0, .int 0, .int 0, .ref q127, .ref q135, .int 0, .ref q143, .ref q151, .int 0, .ref q159, .ref q167, .int 0, .ref q175, .ref q183, .int 0, .int 0, .int 0, .int 0, .int 0, .int 0, .ref q191, .ref q199, .ref q207, .null, .null])), (q7, .inl (cI, 32, .inl (fun _ => 0))), (q15, .inl (cI, 32, .inl (fun _ => 0))), (q23, .inl (cI, 32, .inl (fun _ => 0))), (q31, .inl (cI, 8, .inl (fun _ => 0))), (q39, .inl (cI, 20, .inl (fun _ => 0))), (q47, .inl (cI, 8, .inl (fun _ => 0))), (q55, .inl (cI, 8, .inl (fun _ => 0))), (q63, .inl (cI, 8, .inl (fun _ => 0))), (q71, .inl (cI, 8, .inl (fun _ => 0))), (q79, .inl (cI, 8, .inl (fun _ => 0))), (q87, .inl (cI, 8, .inl (fun _ => 0))), (q95, .inl (cI, 60, .inl (fun _ => 0))), (q103, .inl (cI, 60, .inl (fun _ => 0))), (q111, .inl (cI, 60, .inl (fun _ => 0))), (q119, .inl (cI, 60, .inl (fun _ => 0))), (q127, .inl (cI, 8, .inl (fun _ => 0))), (q135, .inl (cI, 8, .inl (fun _ => 0))), (q143, .inl (cI, 8, .inl (fun _ => 0))), (q151, .inl (cI, 52488, .inl (fun _ => 0))), (q159, .inl (cI, 8, .inl (fun _ => 0))), (q167, .inl (cI, 8, .inl (fun _ => 0))), (q175, .inl (cI, 6, .inl (fun _ => 0))), (q183, .inl (cI, 8, .inl (fun _ => 0))), (q191, .inl (cI, 8, .inl (fun _ => 0))), (q199, .inl (cI, 8, .inl (fun _ => 0))), (q207, .inl (cI, 8, .inl (fun _ => 0))), (q215, .inl (cI, 8, .inl (fun _ => 0)))] H := hP
  have hD : va_D A [(h0, .inr (8, [.int 0, .ref q7, .ref q15, .int 0, .ref q23, .int 0, .int 0, .int 0, .int 0, .int 0, .int 0, .int 0, .ref q31, .int 0, .ref q39, .int 0, .ref q47, .ref q55, .int 0, .int 0, .ref q63, .ref q71, .ref q79, .int 0, .int 0, .ref q87, .ref q95, .ref q103, .ref q111, .ref q119, .int 0, .int 0, .int 0, .ref q127, .ref q135, .int 0, .ref q143, .ref q151, .int 0, .ref q159, .ref q167, .int 0, .ref q175, .ref q183, .int 0, .int 0, .int 0, .int 0, .int 0, .int 0, .ref q191, .ref q199, .ref q207, .null, .null])), (q7, .inl (cI, 32, .inl (fun _ => 0))), (q15, .inl (cI, 32, .inl (fun _ => 0))), (q23, .inl (cI, 32, .inl (fun _ => 0))), (q31, .inl (cI, 8, .inl (fun _ => 0))), (q39, .inl (cI, 20, .inl (fun _ => 0))), (q47, .inl (cI, 8, .inl (fun _ => 0))), (q55, .inl (cI, 8, .inl (fun _ => 0))), (q63, .inl (cI, 8, .inl (fun _ => 0))), (q71, .inl (cI, 8, .inl (fun _ => 0))), (q79, .inl (cI, 8, .inl (fun _ => 0))), (q87, .inl (cI, 8, .inl (fun _ => 0))), (q95, .inl (cI, 60, .inl (fun _ => 0))), (q103, .inl (cI, 60, .inl (fun _ => 0))), (q111, .inl (cI, 60, .inl (fun _ => 0))), (q119, .inl (cI, 60, .inl (fun _ => 0))), (q127, .inl (cI, 8, .inl (fun _ => 0))), (q135, .inl (cI, 8, .inl (fun _ => 0))), (q143, .inl (cI, 8, .inl (fun _ => 0))), (q151, .inl (cI, 52488, .inl (fun _ => 0))), (q159, .inl (cI, 8, .inl (fun _ => 0))), (q167, .inl (cI, 8, .inl (fun _ => 0))), (q175, .inl (cI, 6, .inl (fun _ => 0))), (q183, .inl (cI, 8, .inl (fun _ => 0))), (q191, .inl (cI, 8, .inl (fun _ => 0))), (q199, .inl (cI, 8, .inl (fun _ => 0))), (q207, .inl (cI, 8, .inl (fun _ => 0))), (q215, .inl (cI, 8, .inl (fun _ => 0)))] := hD
  refine W.widen (k := 27) (n := 52986) (by omega) (by omega) ?_
  refine va_putF (D := (dC, dI)) (ci := 8) (v := .ref q215) (ty := .array .int) (C := RX8) (T := TX8) (N := 55) hx hb hts (fun w h => List.mem_cons_of_mem _ (UW_ok 8 (by decide) w h)) tyX8 tyX8_ok nmX8 hown hK hP hD hS 0 rfl rfl 53 (by decide) (hts (.fieldLink RX8 89 "PoloSeasonModel" "goX" "[I") (List.mem_cons_of_mem _ (FL_ok (8, 89, 8, 53) (by decide)))) (fun _ h9 => h9) rfl hin rfl (by decide +kernel) rfl rfl (Nat.le_of_ble_eq_true rfl) (by decide +kernel : decode cX8_init 217 = .ok (.putfield 89, 3)) (fun H locs hP hD hS => ?_)
  have hP : va_P (dC, dI) vwCl [(h0, .inr (8, [.int 0, .ref q7, .ref q15, .int 0, .ref q23, .int 0, .int 0, .int 0, .int 0, .int 0, .int 0, .int 0, .ref q31, .int 0, .ref q39, .int 0, .ref q47, .ref q55, .int 0, .int 0, .ref q63, .ref q71, .ref q79, .int 0, .int 0, .ref q87, .ref q95, .ref q103, .ref q111, .ref q119, .int 0, .int 0, .int 0, .ref q127, .ref q135, .int 0, .ref q143, .ref q151, .int 0, .ref q159, .ref q167, .int 0, .ref q175, .ref q183, .int 0, .int 0, .int 0, .int 0, .int 0, .int 0, .ref q191, .ref q199, .ref q207, .ref q215, .null])), (q7, .inl (cI, 32, .inl (fun _ => 0))), (q15, .inl (cI, 32, .inl (fun _ => 0))), (q23, .inl (cI, 32, .inl (fun _ => 0))), (q31, .inl (cI, 8, .inl (fun _ => 0))), (q39, .inl (cI, 20, .inl (fun _ => 0))), (q47, .inl (cI, 8, .inl (fun _ => 0))), (q55, .inl (cI, 8, .inl (fun _ => 0))), (q63, .inl (cI, 8, .inl (fun _ => 0))), (q71, .inl (cI, 8, .inl (fun _ => 0))), (q79, .inl (cI, 8, .inl (fun _ => 0))), (q87, .inl (cI, 8, .inl (fun _ => 0))), (q95, .inl (cI, 60, .inl (fun _ => 0))), (q103, .inl (cI, 60, .inl (fun _ => 0))), (q111, .inl (cI, 60, .inl (fun _ => 0))), (q119, .inl (cI, 60, .inl (fun _ => 0))), (q127, .inl (cI, 8, .inl (fun _ => 0))), (q135, .inl (cI, 8, .inl (fun _ => 0))), (q143, .inl (cI, 8, .inl (fun _ => 0))), (q151, .inl (cI, 52488, .inl (fun _ => 0))), (q159, .inl (cI, 8, .inl (fun _ => 0))), (q167, .inl (cI, 8, .inl (fun _ => 0))), (q175, .inl (cI, 6, .inl (fun _ => 0))), (q183, .inl (cI, 8, .inl (fun _ => 0))), (q191, .inl (cI, 8, .inl (fun _ => 0))), (q199, .inl (cI, 8, .inl (fun _ => 0))), (q207, .inl (cI, 8, .inl (fun _ => 0))), (q215, .inl (cI, 8, .inl (fun _ => 0)))] H := hP
  have hD : va_D A [(h0, .inr (8, [.int 0, .ref q7, .ref q15, .int 0, .ref q23, .int 0, .int 0, .int 0, .int 0, .int 0, .int 0, .int 0, .ref q31, .int 0, .ref q39, .int 0, .ref q47, .ref q55, .int 0, .int 0, .ref q63, .ref q71, .ref q79, .int 0, .int 0, .ref q87, .ref q95, .ref q103, .ref q111, .ref q119, .int 0, .int 0, .int 0, .ref q127, .ref q135, .int 0, .ref q143, .ref q151, .int 0, .ref q159, .ref q167, .int 0, .ref q175, .ref q183, .int 0, .int 0, .int 0, .int 0, .int 0, .int 0, .ref q191, .ref q199, .ref q207, .ref q215, .null])), (q7, .inl (cI, 32, .inl (fun _ => 0))), (q15, .inl (cI, 32, .inl (fun _ => 0))), (q23, .inl (cI, 32, .inl (fun _ => 0))), (q31, .inl (cI, 8, .inl (fun _ => 0))), (q39, .inl (cI, 20, .inl (fun _ => 0))), (q47, .inl (cI, 8, .inl (fun _ => 0))), (q55, .inl (cI, 8, .inl (fun _ => 0))), (q63, .inl (cI, 8, .inl (fun _ => 0))), (q71, .inl (cI, 8, .inl (fun _ => 0))), (q79, .inl (cI, 8, .inl (fun _ => 0))), (q87, .inl (cI, 8, .inl (fun _ => 0))), (q95, .inl (cI, 60, .inl (fun _ => 0))), (q103, .inl (cI, 60, .inl (fun _ => 0))), (q111, .inl (cI, 60, .inl (fun _ => 0))), (q119, .inl (cI, 60, .inl (fun _ => 0))), (q127, .inl (cI, 8, .inl (fun _ => 0))), (q135, .inl (cI, 8, .inl (fun _ => 0))), (q143, .inl (cI, 8, .inl (fun _ => 0))), (q151, .inl (cI, 52488, .inl (fun _ => 0))), (q159, .inl (cI, 8, .inl (fun _ => 0))), (q167, .inl (cI, 8, .inl (fun _ => 0))), (q175, .inl (cI, 6, .inl (fun _ => 0))), (q183, .inl (cI, 8, .inl (fun _ => 0))), (q191, .inl (cI, 8, .inl (fun _ => 0))), (q199, .inl (cI, 8, .inl (fun _ => 0))), (q207, .inl (cI, 8, .inl (fun _ => 0))), (q215, .inl (cI, 8, .inl (fun _ => 0)))] := hD
  refine lv_aload_n hx hb (by decide +kernel : decode cX8_init 220 = .ok (.aload_n 0, 1)) rfl (lv_at hl 0 rfl) ?_
  refine lv_bipush (v := 8) hx hb (by decide +kernel : decode cX8_init 221 = .ok (.bipush 8, 2)) (by decide) ?_
  refine va_newa (atype := .int) (ty := .int) (a0 := (8, .inl (fun _ => 0))) (N' := 8) hx hb (hts (Cond.arrayClass .int) (List.mem_cons_of_mem _ cwd_3)) rfl hK hP hD hS hA (fun _ => rfl) (by decide) (by decide) (by decide) (show 27 + 1 ≤ 28 by decide) (show 52986 + 8 ≤ 52994 by decide) (by decide +kernel : decode cX8_init 223 = .ok (.newarray .int, 2)) (fun q223 cA H hK hP hD hS => ?_)
  cases Option.some.inj ((hK.2 3 _ rfl).2.symm.trans (hK.2 0 _ rfl).2)
  replace hK := hK.sub (tys' := [(cI, .int), (cZ, .boolean), (cJ, .long)]) [0, 1, 2] rfl
  have hP : va_P (dC, dI) vwCl [(h0, .inr (8, [.int 0, .ref q7, .ref q15, .int 0, .ref q23, .int 0, .int 0, .int 0, .int 0, .int 0, .int 0, .int 0, .ref q31, .int 0, .ref q39, .int 0, .ref q47, .ref q55, .int 0, .int 0, .ref q63, .ref q71, .ref q79, .int 0, .int 0, .ref q87, .ref q95, .ref q103, .ref q111, .ref q119, .int 0, .int 0, .int 0, .ref q127, .ref q135, .int 0, .ref q143, .ref q151, .int 0, .ref q159, .ref q167, .int 0, .ref q175, .ref q183, .int 0, .int 0, .int 0, .int 0, .int 0, .int 0, .ref q191, .ref q199, .ref q207, .ref q215, .null])), (q7, .inl (cI, 32, .inl (fun _ => 0))), (q15, .inl (cI, 32, .inl (fun _ => 0))), (q23, .inl (cI, 32, .inl (fun _ => 0))), (q31, .inl (cI, 8, .inl (fun _ => 0))), (q39, .inl (cI, 20, .inl (fun _ => 0))), (q47, .inl (cI, 8, .inl (fun _ => 0))), (q55, .inl (cI, 8, .inl (fun _ => 0))), (q63, .inl (cI, 8, .inl (fun _ => 0))), (q71, .inl (cI, 8, .inl (fun _ => 0))), (q79, .inl (cI, 8, .inl (fun _ => 0))), (q87, .inl (cI, 8, .inl (fun _ => 0))), (q95, .inl (cI, 60, .inl (fun _ => 0))), (q103, .inl (cI, 60, .inl (fun _ => 0))), (q111, .inl (cI, 60, .inl (fun _ => 0))), (q119, .inl (cI, 60, .inl (fun _ => 0))), (q127, .inl (cI, 8, .inl (fun _ => 0))), (q135, .inl (cI, 8, .inl (fun _ => 0))), (q143, .inl (cI, 8, .inl (fun _ => 0))), (q151, .inl (cI, 52488, .inl (fun _ => 0))), (q159, .inl (cI, 8, .inl (fun _ => 0))), (q167, .inl (cI, 8, .inl (fun _ => 0))), (q175, .inl (cI, 6, .inl (fun _ => 0))), (q183, .inl (cI, 8, .inl (fun _ => 0))), (q191, .inl (cI, 8, .inl (fun _ => 0))), (q199, .inl (cI, 8, .inl (fun _ => 0))), (q207, .inl (cI, 8, .inl (fun _ => 0))), (q215, .inl (cI, 8, .inl (fun _ => 0))), (q223, .inl (cI, 8, .inl (fun _ => 0)))] H := hP
  have hD : va_D A [(h0, .inr (8, [.int 0, .ref q7, .ref q15, .int 0, .ref q23, .int 0, .int 0, .int 0, .int 0, .int 0, .int 0, .int 0, .ref q31, .int 0, .ref q39, .int 0, .ref q47, .ref q55, .int 0, .int 0, .ref q63, .ref q71, .ref q79, .int 0, .int 0, .ref q87, .ref q95, .ref q103, .ref q111, .ref q119, .int 0, .int 0, .int 0, .ref q127, .ref q135, .int 0, .ref q143, .ref q151, .int 0, .ref q159, .ref q167, .int 0, .ref q175, .ref q183, .int 0, .int 0, .int 0, .int 0, .int 0, .int 0, .ref q191, .ref q199, .ref q207, .ref q215, .null])), (q7, .inl (cI, 32, .inl (fun _ => 0))), (q15, .inl (cI, 32, .inl (fun _ => 0))), (q23, .inl (cI, 32, .inl (fun _ => 0))), (q31, .inl (cI, 8, .inl (fun _ => 0))), (q39, .inl (cI, 20, .inl (fun _ => 0))), (q47, .inl (cI, 8, .inl (fun _ => 0))), (q55, .inl (cI, 8, .inl (fun _ => 0))), (q63, .inl (cI, 8, .inl (fun _ => 0))), (q71, .inl (cI, 8, .inl (fun _ => 0))), (q79, .inl (cI, 8, .inl (fun _ => 0))), (q87, .inl (cI, 8, .inl (fun _ => 0))), (q95, .inl (cI, 60, .inl (fun _ => 0))), (q103, .inl (cI, 60, .inl (fun _ => 0))), (q111, .inl (cI, 60, .inl (fun _ => 0))), (q119, .inl (cI, 60, .inl (fun _ => 0))), (q127, .inl (cI, 8, .inl (fun _ => 0))), (q135, .inl (cI, 8, .inl (fun _ => 0))), (q143, .inl (cI, 8, .inl (fun _ => 0))), (q151, .inl (cI, 52488, .inl (fun _ => 0))), (q159, .inl (cI, 8, .inl (fun _ => 0))), (q167, .inl (cI, 8, .inl (fun _ => 0))), (q175, .inl (cI, 6, .inl (fun _ => 0))), (q183, .inl (cI, 8, .inl (fun _ => 0))), (q191, .inl (cI, 8, .inl (fun _ => 0))), (q199, .inl (cI, 8, .inl (fun _ => 0))), (q207, .inl (cI, 8, .inl (fun _ => 0))), (q215, .inl (cI, 8, .inl (fun _ => 0))), (q223, .inl (cI, 8, .inl (fun _ => 0)))] := hD
  refine W.widen (k := 28) (n := 52994) (by omega) (by omega) ?_
  refine va_putF (D := (dC, dI)) (ci := 8) (v := .ref q223) (ty := .array .int) (C := RX8) (T := TX8) (N := 55) hx hb hts (fun w h => List.mem_cons_of_mem _ (UW_ok 8 (by decide) w h)) tyX8 tyX8_ok nmX8 hown hK hP hD hS 0 rfl rfl 54 (by decide) (hts (.fieldLink RX8 92 "PoloSeasonModel" "goY" "[I") (List.mem_cons_of_mem _ (FL_ok (8, 92, 8, 54) (by decide)))) (fun _ h9 => h9) rfl hin rfl (by decide +kernel) rfl rfl (Nat.le_of_ble_eq_true rfl) (by decide +kernel : decode cX8_init 225 = .ok (.putfield 92, 3)) (fun H locs hP hD hS => ?_)
  have hP : va_P (dC, dI) vwCl [(h0, .inr (8, [.int 0, .ref q7, .ref q15, .int 0, .ref q23, .int 0, .int 0, .int 0, .int 0, .int 0, .int 0, .int 0, .ref q31, .int 0, .ref q39, .int 0, .ref q47, .ref q55, .int 0, .int 0, .ref q63, .ref q71, .ref q79, .int 0, .int 0, .ref q87, .ref q95, .ref q103, .ref q111, .ref q119, .int 0, .int 0, .int 0, .ref q127, .ref q135, .int 0, .ref q143, .ref q151, .int 0, .ref q159, .ref q167, .int 0, .ref q175, .ref q183, .int 0, .int 0, .int 0, .int 0, .int 0, .int 0, .ref q191, .ref q199, .ref q207, .ref q215, .ref q223])), (q7, .inl (cI, 32, .inl (fun _ => 0))), (q15, .inl (cI, 32, .inl (fun _ => 0))), (q23, .inl (cI, 32, .inl (fun _ => 0))), (q31, .inl (cI, 8, .inl (fun _ => 0))), (q39, .inl (cI, 20, .inl (fun _ => 0))), (q47, .inl (cI, 8, .inl (fun _ => 0))), (q55, .inl (cI, 8, .inl (fun _ => 0))), (q63, .inl (cI, 8, .inl (fun _ => 0))), (q71, .inl (cI, 8, .inl (fun _ => 0))), (q79, .inl (cI, 8, .inl (fun _ => 0))), (q87, .inl (cI, 8, .inl (fun _ => 0))), (q95, .inl (cI, 60, .inl (fun _ => 0))), (q103, .inl (cI, 60, .inl (fun _ => 0))), (q111, .inl (cI, 60, .inl (fun _ => 0))), (q119, .inl (cI, 60, .inl (fun _ => 0))), (q127, .inl (cI, 8, .inl (fun _ => 0))), (q135, .inl (cI, 8, .inl (fun _ => 0))), (q143, .inl (cI, 8, .inl (fun _ => 0))), (q151, .inl (cI, 52488, .inl (fun _ => 0))), (q159, .inl (cI, 8, .inl (fun _ => 0))), (q167, .inl (cI, 8, .inl (fun _ => 0))), (q175, .inl (cI, 6, .inl (fun _ => 0))), (q183, .inl (cI, 8, .inl (fun _ => 0))), (q191, .inl (cI, 8, .inl (fun _ => 0))), (q199, .inl (cI, 8, .inl (fun _ => 0))), (q207, .inl (cI, 8, .inl (fun _ => 0))), (q215, .inl (cI, 8, .inl (fun _ => 0))), (q223, .inl (cI, 8, .inl (fun _ => 0)))] H := hP
  have hD : va_D A [(h0, .inr (8, [.int 0, .ref q7, .ref q15, .int 0, .ref q23, .int 0, .int 0, .int 0, .int 0, .int 0, .int 0, .int 0, .ref q31, .int 0, .ref q39, .int 0, .ref q47, .ref q55, .int 0, .int 0, .ref q63, .ref q71, .ref q79, .int 0, .int 0, .ref q87, .ref q95, .ref q103, .ref q111, .ref q119, .int 0, .int 0, .int 0, .ref q127, .ref q135, .int 0, .ref q143, .ref q151, .int 0, .ref q159, .ref q167, .int 0, .ref q175, .ref q183, .int 0, .int 0, .int 0, .int 0, .int 0, .int 0, .ref q191, .ref q199, .ref q207, .ref q215, .ref q223])), (q7, .inl (cI, 32, .inl (fun _ => 0))), (q15, .inl (cI, 32, .inl (fun _ => 0))), (q23, .inl (cI, 32, .inl (fun _ => 0))), (q31, .inl (cI, 8, .inl (fun _ => 0))), (q39, .inl (cI, 20, .inl (fun _ => 0))), (q47, .inl (cI, 8, .inl (fun _ => 0))), (q55, .inl (cI, 8, .inl (fun _ => 0))), (q63, .inl (cI, 8, .inl (fun _ => 0))), (q71, .inl (cI, 8, .inl (fun _ => 0))), (q79, .inl (cI, 8, .inl (fun _ => 0))), (q87, .inl (cI, 8, .inl (fun _ => 0))), (q95, .inl (cI, 60, .inl (fun _ => 0))), (q103, .inl (cI, 60, .inl (fun _ => 0))), (q111, .inl (cI, 60, .inl (fun _ => 0))), (q119, .inl (cI, 60, .inl (fun _ => 0))), (q127, .inl (cI, 8, .inl (fun _ => 0))), (q135, .inl (cI, 8, .inl (fun _ => 0))), (q143, .inl (cI, 8, .inl (fun _ => 0))), (q151, .inl (cI, 52488, .inl (fun _ => 0))), (q159, .inl (cI, 8, .inl (fun _ => 0))), (q167, .inl (cI, 8, .inl (fun _ => 0))), (q175, .inl (cI, 6, .inl (fun _ => 0))), (q183, .inl (cI, 8, .inl (fun _ => 0))), (q191, .inl (cI, 8, .inl (fun _ => 0))), (q199, .inl (cI, 8, .inl (fun _ => 0))), (q207, .inl (cI, 8, .inl (fun _ => 0))), (q215, .inl (cI, 8, .inl (fun _ => 0))), (q223, .inl (cI, 8, .inl (fun _ => 0)))] := hD
  refine lv_iconst (v := 0) hx hb (by decide +kernel : decode cX8_init 228 = .ok (.iconst 0, 1)) (by decide) ?_
  refine lv_istore_n (lv' := [(1, .int 0), (0, .ref h0)]) hx hb (by decide +kernel : decode cX8_init 229 = .ok (.istore_n 1, 1)) rfl hl (by decide) rfl (fun ls hl => ?_)
  have key : ∀ (n i : Nat), i + n = 32 → ∀ (f : Nat → Int32) (H : Heap) (locs : List Loc) (ls : Array Slot), va_P (dC, dI) vwCl [(h0, .inr (8, [.int 0, .ref q7, .ref q15, .int 0, .ref q23, .int 0, .int 0, .int 0, .int 0, .int 0, .int 0, .int 0, .ref q31, .int 0, .ref q39, .int 0, .ref q47, .ref q55, .int 0, .int 0, .ref q63, .ref q71, .ref q79, .int 0, .int 0, .ref q87, .ref q95, .ref q103, .ref q111, .ref q119, .int 0, .int 0, .int 0, .ref q127, .ref q135, .int 0, .ref q143, .ref q151, .int 0, .ref q159, .ref q167, .int 0, .ref q175, .ref q183, .int 0, .int 0, .int 0, .int 0, .int 0, .int 0, .ref q191, .ref q199, .ref q207, .ref q215, .ref q223])), (q7, .inl (cI, 32, .inl (fun _ => 0))), (q15, .inl (cI, 32, .inl f)), (q23, .inl (cI, 32, .inl (fun _ => 0))), (q31, .inl (cI, 8, .inl (fun _ => 0))), (q39, .inl (cI, 20, .inl (fun _ => 0))), (q47, .inl (cI, 8, .inl (fun _ => 0))), (q55, .inl (cI, 8, .inl (fun _ => 0))), (q63, .inl (cI, 8, .inl (fun _ => 0))), (q71, .inl (cI, 8, .inl (fun _ => 0))), (q79, .inl (cI, 8, .inl (fun _ => 0))), (q87, .inl (cI, 8, .inl (fun _ => 0))), (q95, .inl (cI, 60, .inl (fun _ => 0))), (q103, .inl (cI, 60, .inl (fun _ => 0))), (q111, .inl (cI, 60, .inl (fun _ => 0))), (q119, .inl (cI, 60, .inl (fun _ => 0))), (q127, .inl (cI, 8, .inl (fun _ => 0))), (q135, .inl (cI, 8, .inl (fun _ => 0))), (q143, .inl (cI, 8, .inl (fun _ => 0))), (q151, .inl (cI, 52488, .inl (fun _ => 0))), (q159, .inl (cI, 8, .inl (fun _ => 0))), (q167, .inl (cI, 8, .inl (fun _ => 0))), (q175, .inl (cI, 6, .inl (fun _ => 0))), (q183, .inl (cI, 8, .inl (fun _ => 0))), (q191, .inl (cI, 8, .inl (fun _ => 0))), (q199, .inl (cI, 8, .inl (fun _ => 0))), (q207, .inl (cI, 8, .inl (fun _ => 0))), (q215, .inl (cI, 8, .inl (fun _ => 0))), (q223, .inl (cI, 8, .inl (fun _ => 0)))] H → va_D A [(h0, .inr (8, [.int 0, .ref q7, .ref q15, .int 0, .ref q23, .int 0, .int 0, .int 0, .int 0, .int 0, .int 0, .int 0, .ref q31, .int 0, .ref q39, .int 0, .ref q47, .ref q55, .int 0, .int 0, .ref q63, .ref q71, .ref q79, .int 0, .int 0, .ref q87, .ref q95, .ref q103, .ref q111, .ref q119, .int 0, .int 0, .int 0, .ref q127, .ref q135, .int 0, .ref q143, .ref q151, .int 0, .ref q159, .ref q167, .int 0, .ref q175, .ref q183, .int 0, .int 0, .int 0, .int 0, .int 0, .int 0, .ref q191, .ref q199, .ref q207, .ref q215, .ref q223])), (q7, .inl (cI, 32, .inl (fun _ => 0))), (q15, .inl (cI, 32, .inl f)), (q23, .inl (cI, 32, .inl (fun _ => 0))), (q31, .inl (cI, 8, .inl (fun _ => 0))), (q39, .inl (cI, 20, .inl (fun _ => 0))), (q47, .inl (cI, 8, .inl (fun _ => 0))), (q55, .inl (cI, 8, .inl (fun _ => 0))), (q63, .inl (cI, 8, .inl (fun _ => 0))), (q71, .inl (cI, 8, .inl (fun _ => 0))), (q79, .inl (cI, 8, .inl (fun _ => 0))), (q87, .inl (cI, 8, .inl (fun _ => 0))), (q95, .inl (cI, 60, .inl (fun _ => 0))), (q103, .inl (cI, 60, .inl (fun _ => 0))), (q111, .inl (cI, 60, .inl (fun _ => 0))), (q119, .inl (cI, 60, .inl (fun _ => 0))), (q127, .inl (cI, 8, .inl (fun _ => 0))), (q135, .inl (cI, 8, .inl (fun _ => 0))), (q143, .inl (cI, 8, .inl (fun _ => 0))), (q151, .inl (cI, 52488, .inl (fun _ => 0))), (q159, .inl (cI, 8, .inl (fun _ => 0))), (q167, .inl (cI, 8, .inl (fun _ => 0))), (q175, .inl (cI, 6, .inl (fun _ => 0))), (q183, .inl (cI, 8, .inl (fun _ => 0))), (q191, .inl (cI, 8, .inl (fun _ => 0))), (q199, .inl (cI, 8, .inl (fun _ => 0))), (q207, .inl (cI, 8, .inl (fun _ => 0))), (q215, .inl (cI, 8, .inl (fun _ => 0))), (q223, .inl (cI, 8, .inl (fun _ => 0)))] → va_S A s.heap H locs → lv_has ls 2 [(1, .int (nI i)), (0, .ref h0)] → (f = fun j => if j < i then -1 else 0) → W p l e (headSpec (wsOf 120) ({ frames := 1, cells := 28, slots := 52994, locals := 12 })).room s m #[Value.ref h0] below meth c H locs 28 52994 (MQ below (va_Qv (fun _ : Unit => True) (fun _ t => ∃ q7 q15 q23 q31 q39 q47 q55 q63 q71 q79 q87 q95 q103 q111 q119 q127 q135 q143 q151 q159 q167 q175 q183 q191 q199 q207 q215 q223 : Nat, va_P (dC, dI) vwCl [(h0, .inr (8, [.int 0, .ref q7, .ref q15, .int 0, .ref q23, .int 0, .int 0, .int 0, .int 0, .int 0, .int 0, .int 0, .ref q31, .int 0, .ref q39, .int 0, .ref q47, .ref q55, .int 0, .int 0, .ref q63, .ref q71, .ref q79, .int 0, .int 0, .ref q87, .ref q95, .ref q103, .ref q111, .ref q119, .int 0, .int 0, .int 0, .ref q127, .ref q135, .int 0, .ref q143, .ref q151, .int 0, .ref q159, .ref q167, .int 0, .ref q175, .ref q183, .int 0, .int 0, .int 0, .int 0, .int 0, .int 0, .ref q191, .ref q199, .ref q207, .ref q215, .ref q223])), (q7, .inl (cI, 32, .inl (fun _ => 0))), (q15, .inl (cI, 32, .inl (fun j => if j < 32 then -1 else 0))), (q23, .inl (cI, 32, .inl (fun _ => 0))), (q31, .inl (cI, 8, .inl (fun _ => 0))), (q39, .inl (cI, 20, .inl (fun _ => 0))), (q47, .inl (cI, 8, .inl (fun _ => 0))), (q55, .inl (cI, 8, .inl (fun _ => 0))), (q63, .inl (cI, 8, .inl (fun _ => 0))), (q71, .inl (cI, 8, .inl (fun _ => 0))), (q79, .inl (cI, 8, .inl (fun _ => 0))), (q87, .inl (cI, 8, .inl (fun _ => 0))), (q95, .inl (cI, 60, .inl (fun _ => 0))), (q103, .inl (cI, 60, .inl (fun _ => 0))), (q111, .inl (cI, 60, .inl (fun _ => 0))), (q119, .inl (cI, 60, .inl (fun _ => 0))), (q127, .inl (cI, 8, .inl (fun _ => 0))), (q135, .inl (cI, 8, .inl (fun _ => 0))), (q143, .inl (cI, 8, .inl (fun _ => 0))), (q151, .inl (cI, 52488, .inl (fun _ => 0))), (q159, .inl (cI, 8, .inl (fun _ => 0))), (q167, .inl (cI, 8, .inl (fun _ => 0))), (q175, .inl (cI, 6, .inl (fun _ => 0))), (q183, .inl (cI, 8, .inl (fun _ => 0))), (q191, .inl (cI, 8, .inl (fun _ => 0))), (q199, .inl (cI, 8, .inl (fun _ => 0))), (q207, .inl (cI, 8, .inl (fun _ => 0))), (q215, .inl (cI, 8, .inl (fun _ => 0))), (q223, .inl (cI, 8, .inl (fun _ => 0)))] t.heap ∧ va_D A [(h0, .inr (8, [.int 0, .ref q7, .ref q15, .int 0, .ref q23, .int 0, .int 0, .int 0, .int 0, .int 0, .int 0, .int 0, .ref q31, .int 0, .ref q39, .int 0, .ref q47, .ref q55, .int 0, .int 0, .ref q63, .ref q71, .ref q79, .int 0, .int 0, .ref q87, .ref q95, .ref q103, .ref q111, .ref q119, .int 0, .int 0, .int 0, .ref q127, .ref q135, .int 0, .ref q143, .ref q151, .int 0, .ref q159, .ref q167, .int 0, .ref q175, .ref q183, .int 0, .int 0, .int 0, .int 0, .int 0, .int 0, .ref q191, .ref q199, .ref q207, .ref q215, .ref q223])), (q7, .inl (cI, 32, .inl (fun _ => 0))), (q15, .inl (cI, 32, .inl (fun j => if j < 32 then -1 else 0))), (q23, .inl (cI, 32, .inl (fun _ => 0))), (q31, .inl (cI, 8, .inl (fun _ => 0))), (q39, .inl (cI, 20, .inl (fun _ => 0))), (q47, .inl (cI, 8, .inl (fun _ => 0))), (q55, .inl (cI, 8, .inl (fun _ => 0))), (q63, .inl (cI, 8, .inl (fun _ => 0))), (q71, .inl (cI, 8, .inl (fun _ => 0))), (q79, .inl (cI, 8, .inl (fun _ => 0))), (q87, .inl (cI, 8, .inl (fun _ => 0))), (q95, .inl (cI, 60, .inl (fun _ => 0))), (q103, .inl (cI, 60, .inl (fun _ => 0))), (q111, .inl (cI, 60, .inl (fun _ => 0))), (q119, .inl (cI, 60, .inl (fun _ => 0))), (q127, .inl (cI, 8, .inl (fun _ => 0))), (q135, .inl (cI, 8, .inl (fun _ => 0))), (q143, .inl (cI, 8, .inl (fun _ => 0))), (q151, .inl (cI, 52488, .inl (fun _ => 0))), (q159, .inl (cI, 8, .inl (fun _ => 0))), (q167, .inl (cI, 8, .inl (fun _ => 0))), (q175, .inl (cI, 6, .inl (fun _ => 0))), (q183, .inl (cI, 8, .inl (fun _ => 0))), (q191, .inl (cI, 8, .inl (fun _ => 0))), (q199, .inl (cI, 8, .inl (fun _ => 0))), (q207, .inl (cI, 8, .inl (fun _ => 0))), (q215, .inl (cI, 8, .inl (fun _ => 0))), (q223, .inl (cI, 8, .inl (fun _ => 0)))]) A) #[Value.ref h0] s 28 52994 A) (F0 m 230 ls []) := by
    intro n
    induction n with
    | zero =>
      intro i hi f H locs ls hP hD hS hl hf
      refine lv_iload_n hx hb (by decide +kernel : decode cX8_init 230 = .ok (.iload_n 1, 1)) rfl (lv_at hl 0 rfl) ?_
      refine lv_bipush (v := 32) hx hb (by decide +kernel : decode cX8_init 231 = .ok (.bipush 32, 2)) (by decide) ?_
      refine lv_icmp_ge (tgt := 249) hx hb (by decide +kernel : decode cX8_init 233 = .ok (.if_icmp .ge 16, 3)) (by decide) (fun _ => ?_) (fun h => absurd (show (32 : Int32) ≤ nI i by rw [show i = 32 by omega]; decide) h)
      have hf : f = fun j => if j < 32 then -1 else 0 := by rw [hf, show i = 32 by omega]
      subst hf
      have hP9 := hP.sub (ws' := [(h0, .inr (8, [.int 0, .ref q7, .ref q15, .int 0, .ref q23, .int 0, .int 0, .int 0, .int 0, .int 0, .int 0, .int 0, .ref q31, .int 0, .ref q39, .int 0, .ref q47, .ref q55, .int 0, .int 0, .ref q63, .ref q71, .ref q79, .int 0, .int 0, .ref q87, .ref q95, .ref q103, .ref q111, .ref q119, .int 0, .int 0, .int 0, .ref q127, .ref q135, .int 0, .ref q143, .ref q151, .int 0, .ref q159, .ref q167, .int 0, .ref q175, .ref q183, .int 0, .int 0, .int 0, .int 0, .int 0, .int 0, .ref q191, .ref q199, .ref q207, .ref q215, .ref q223])), (q7, .inl (cI, 32, .inl (fun _ => 0))), (q15, .inl (cI, 32, .inl (fun j => if j < 32 then -1 else 0))), (q23, .inl (cI, 32, .inl (fun _ => 0))), (q31, .inl (cI, 8, .inl (fun _ => 0))), (q39, .inl (cI, 20, .inl (fun _ => 0))), (q47, .inl (cI, 8, .inl (fun _ => 0))), (q55, .inl (cI, 8, .inl (fun _ => 0))), (q63, .inl (cI, 8, .inl (fun _ => 0))), (q71, .inl (cI, 8, .inl (fun _ => 0))), (q79, .inl (cI, 8, .inl (fun _ => 0))), (q87, .inl (cI, 8, .inl (fun _ => 0))), (q95, .inl (cI, 60, .inl (fun _ => 0))), (q103, .inl (cI, 60, .inl (fun _ => 0))), (q111, .inl (cI, 60, .inl (fun _ => 0))), (q119, .inl (cI, 60, .inl (fun _ => 0))), (q127, .inl (cI, 8, .inl (fun _ => 0))), (q135, .inl (cI, 8, .inl (fun _ => 0))), (q143, .inl (cI, 8, .inl (fun _ => 0))), (q151, .inl (cI, 52488, .inl (fun _ => 0))), (q159, .inl (cI, 8, .inl (fun _ => 0))), (q167, .inl (cI, 8, .inl (fun _ => 0))), (q175, .inl (cI, 6, .inl (fun _ => 0))), (q183, .inl (cI, 8, .inl (fun _ => 0))), (q191, .inl (cI, 8, .inl (fun _ => 0))), (q199, .inl (cI, 8, .inl (fun _ => 0))), (q207, .inl (cI, 8, .inl (fun _ => 0))), (q215, .inl (cI, 8, .inl (fun _ => 0))), (q223, .inl (cI, 8, .inl (fun _ => 0)))]) [0, 1, 2, 3, 4, 5, 6, 7, 8, 9, 10, 11, 12, 13, 14, 15, 16, 17, 18, 19, 20, 21, 22, 23, 24, 25, 26, 27, 28] rfl
      have hD9 := hD.sub (ws' := [(h0, .inr (8, [.int 0, .ref q7, .ref q15, .int 0, .ref q23, .int 0, .int 0, .int 0, .int 0, .int 0, .int 0, .int 0, .ref q31, .int 0, .ref q39, .int 0, .ref q47, .ref q55, .int 0, .int 0, .ref q63, .ref q71, .ref q79, .int 0, .int 0, .ref q87, .ref q95, .ref q103, .ref q111, .ref q119, .int 0, .int 0, .int 0, .ref q127, .ref q135, .int 0, .ref q143, .ref q151, .int 0, .ref q159, .ref q167, .int 0, .ref q175, .ref q183, .int 0, .int 0, .int 0, .int 0, .int 0, .int 0, .ref q191, .ref q199, .ref q207, .ref q215, .ref q223])), (q7, .inl (cI, 32, .inl (fun _ => 0))), (q15, .inl (cI, 32, .inl (fun j => if j < 32 then -1 else 0))), (q23, .inl (cI, 32, .inl (fun _ => 0))), (q31, .inl (cI, 8, .inl (fun _ => 0))), (q39, .inl (cI, 20, .inl (fun _ => 0))), (q47, .inl (cI, 8, .inl (fun _ => 0))), (q55, .inl (cI, 8, .inl (fun _ => 0))), (q63, .inl (cI, 8, .inl (fun _ => 0))), (q71, .inl (cI, 8, .inl (fun _ => 0))), (q79, .inl (cI, 8, .inl (fun _ => 0))), (q87, .inl (cI, 8, .inl (fun _ => 0))), (q95, .inl (cI, 60, .inl (fun _ => 0))), (q103, .inl (cI, 60, .inl (fun _ => 0))), (q111, .inl (cI, 60, .inl (fun _ => 0))), (q119, .inl (cI, 60, .inl (fun _ => 0))), (q127, .inl (cI, 8, .inl (fun _ => 0))), (q135, .inl (cI, 8, .inl (fun _ => 0))), (q143, .inl (cI, 8, .inl (fun _ => 0))), (q151, .inl (cI, 52488, .inl (fun _ => 0))), (q159, .inl (cI, 8, .inl (fun _ => 0))), (q167, .inl (cI, 8, .inl (fun _ => 0))), (q175, .inl (cI, 6, .inl (fun _ => 0))), (q183, .inl (cI, 8, .inl (fun _ => 0))), (q191, .inl (cI, 8, .inl (fun _ => 0))), (q199, .inl (cI, 8, .inl (fun _ => 0))), (q207, .inl (cI, 8, .inl (fun _ => 0))), (q215, .inl (cI, 8, .inl (fun _ => 0))), (q223, .inl (cI, 8, .inl (fun _ => 0)))]) [0, 1, 2, 3, 4, 5, 6, 7, 8, 9, 10, 11, 12, 13, 14, 15, 16, 17, 18, 19, 20, 21, 22, 23, 24, 25, 26, 27, 28] (by decide) rfl
      refine W.widen (k := 28) (n := 52994) (by decide) (by decide) ?_
      exact W.vret hx hb hr (fun t ht hW => ⟨⟨(), rfl, trivial, q7, q15, q23, q31, q39, q47, q55, q63, q71, q79, q87, q95, q103, q111, q119, q127, q135, q143, q151, q159, q167, q175, q183, q191, q199, q207, q215, q223, by rw [ht]; exact hP9, hD9⟩, hS.F ht⟩) hS.2.2 (by decide +kernel : decode cX8_init 249 = .ok (.return_, 1))
    | succ n ih =>
      intro i hi f H locs ls hP hD hS hl hf
      refine lv_iload_n hx hb (by decide +kernel : decode cX8_init 230 = .ok (.iload_n 1, 1)) rfl (lv_at hl 0 rfl) ?_
      refine lv_bipush (v := 32) hx hb (by decide +kernel : decode cX8_init 231 = .ok (.bipush 32, 2)) (by decide) ?_
      refine lv_icmp_ge (tgt := 249) hx hb (by decide +kernel : decode cX8_init 233 = .ok (.if_icmp .ge 16, 3)) (by decide) (fun h => absurd h (nI_ge (a := i) (b := 32) (by omega) (by decide))) (fun _ => ?_)
      refine lv_aload_n hx hb (by decide +kernel : decode cX8_init 236 = .ok (.aload_n 0, 1)) rfl (lv_at hl 1 rfl) ?_
      refine va_get (D := (dC, dI)) (ci := 8) (v := .ref q15) (C := RX8) (T := TX8) (N := 55) hx hb hts (fun w h => List.mem_cons_of_mem _ (UW_ok 8 (by decide) w h)) hown hK hP 0 rfl rfl 2 (by decide) (hts (.fieldLink RX8 13 "PoloSeasonModel" "teamOf" "[I") (List.mem_cons_of_mem _ (FL_ok (8, 13, 8, 2) (by decide)))) (fun _ h9 => h9) rfl (by decide +kernel : decode cX8_init 237 = .ok (.getfield 13, 3)) ?_
      refine lv_iload_n hx hb (by decide +kernel : decode cX8_init 240 = .ok (.iload_n 1, 1)) rfl (lv_at hl 0 rfl) ?_
      refine lv_iconst (v := -1) hx hb (by decide +kernel : decode cX8_init 241 = .ok (.iconst (-1), 1)) (by decide) ?_
      refine va_iast hx hb hK hP hD hS 2 0 rfl rfl (vp_in_nI (by omega) (by decide)) (by decide +kernel : decode cX8_init 242 = .ok (.iastore, 1)) (fun H locs hP hD hS => ?_)
      refine lv_iinc (v := nI (i + 1)) (lv' := [(1, .int (nI (i + 1))), (0, .ref h0)]) hx hb (by decide +kernel : decode cX8_init 243 = .ok (.iinc 1 1, 3)) hl (k := 0) rfl (by rw [← nI_1]; rfl) (by decide) rfl (fun ls hl => ?_)
      refine lv_goto (tgt := 230) hx hb (by decide +kernel : decode cX8_init 246 = .ok (.goto (-16), 3)) (by decide) ?_
      refine ih (i + 1) (by omega) _ H locs ls hP hD hS hl ?_
      rw [nI_clamp (by omega)]
      funext j
      simp only [upd, hf]
      by_cases h1 : j = i
      · rw [if_pos h1, if_pos (by omega)]
      · rw [if_neg h1]
        by_cases h2 : j < i
        · rw [if_pos h2, if_pos (by omega)]
        · rw [if_neg h2, if_neg (by omega)]
  refine W.widen (k := 28) (n := 52994) (by decide) (by decide) ?_
  exact key 32 0 rfl (fun _ => 0) H locs ls hP hD hS hl (by funext j; simp)
end
