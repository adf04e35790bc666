section
-- ===== PART A: goes FIRST, ahead of the names: the tables' words, and 'selects' of the private methods out of them =====
/-- a private method of a class that the tables say can be made, by its rows of tables_1 -/
def lw_okq (q : MethodName × Nat) : Prop := (q.1.cls ≠ "java/lang/invoke/MethodHandle" ∧ q.1.cls ≠ "java/lang/invoke/VarHandle") ∧ Cond.instantiable q.1.cls q.2 ∈ tables_1 ∧ Cond.privateMethod q.1 ∈ tables_1 ∧ Cond.instanceMethod q.1 ∈ tables_1
theorem lw_p0 : lw_okq (⟨"WonBySeats", "whyNotTaken", "(IIII)I"⟩, 10) := ⟨⟨by decide +kernel, by decide +kernel⟩, List.mem_of_getElem? (i := 16) (by decide +kernel), List.mem_of_getElem? (i := 315) (by decide +kernel), List.mem_of_getElem? (i := 316) (by decide +kernel)⟩
theorem lw_p1 : lw_okq (⟨"WonBySeats", "failed", "(I)I"⟩, 10) := ⟨⟨by decide +kernel, by decide +kernel⟩, List.mem_of_getElem? (i := 16) (by decide +kernel), List.mem_of_getElem? (i := 329) (by decide +kernel), List.mem_of_getElem? (i := 330) (by decide +kernel)⟩
theorem lw_p2 : lw_okq (⟨"WonBySeats$Town", "clear", "()V"⟩, 10) := ⟨⟨by decide +kernel, by decide +kernel⟩, List.mem_of_getElem? (i := 44) (by decide +kernel), List.mem_of_getElem? (i := 357) (by decide +kernel), List.mem_of_getElem? (i := 358) (by decide +kernel)⟩
theorem lw_p3 : lw_okq (⟨"WonBySeats$Town", "settle", "(I)V"⟩, 10) := ⟨⟨by decide +kernel, by decide +kernel⟩, List.mem_of_getElem? (i := 44) (by decide +kernel), List.mem_of_getElem? (i := 367) (by decide +kernel), List.mem_of_getElem? (i := 368) (by decide +kernel)⟩
theorem lw_p4 : lw_okq (⟨"WonBySeats", "runOnce", "()I"⟩, 10) := ⟨⟨by decide +kernel, by decide +kernel⟩, List.mem_of_getElem? (i := 16) (by decide +kernel), List.mem_of_getElem? (i := 422) (by decide +kernel), List.mem_of_getElem? (i := 423) (by decide +kernel)⟩
theorem lw_p5 : lw_okq (⟨"WonBySeats$Hall", "sayings", "(III)I"⟩, 6) := ⟨⟨by decide +kernel, by decide +kernel⟩, List.mem_of_getElem? (i := 108) (by decide +kernel), List.mem_of_getElem? (i := 457) (by decide +kernel), List.mem_of_getElem? (i := 458) (by decide +kernel)⟩
theorem lw_p6 : lw_okq (⟨"WonBySeats$Hall", "seatsFor", "(II)I"⟩, 6) := ⟨⟨by decide +kernel, by decide +kernel⟩, List.mem_of_getElem? (i := 108) (by decide +kernel), List.mem_of_getElem? (i := 463) (by decide +kernel), List.mem_of_getElem? (i := 464) (by decide +kernel)⟩
theorem lw_p7 : lw_okq (⟨"WonBySeats$Hall", "seated", "(II)I"⟩, 6) := ⟨⟨by decide +kernel, by decide +kernel⟩, List.mem_of_getElem? (i := 108) (by decide +kernel), List.mem_of_getElem? (i := 467) (by decide +kernel), List.mem_of_getElem? (i := 468) (by decide +kernel)⟩
theorem lw_p8 : lw_okq (⟨"WonBySeats$Hall", "winnersFirst", "(I)I"⟩, 6) := ⟨⟨by decide +kernel, by decide +kernel⟩, List.mem_of_getElem? (i := 108) (by decide +kernel), List.mem_of_getElem? (i := 474) (by decide +kernel), List.mem_of_getElem? (i := 475) (by decide +kernel)⟩
theorem lw_p9 : lw_okq (⟨"WonBySeats$Hall", "inTurn", "(I)I"⟩, 6) := ⟨⟨by decide +kernel, by decide +kernel⟩, List.mem_of_getElem? (i := 108) (by decide +kernel), List.mem_of_getElem? (i := 478) (by decide +kernel), List.mem_of_getElem? (i := 479) (by decide +kernel)⟩
theorem lw_p10 : lw_okq (⟨"WonBySeats$Faction", "voteFromAll", "(III)I"⟩, 6) := ⟨⟨by decide +kernel, by decide +kernel⟩, List.mem_of_getElem? (i := 201) (by decide +kernel), List.mem_of_getElem? (i := 531) (by decide +kernel), List.mem_of_getElem? (i := 532) (by decide +kernel)⟩
theorem lw_p11 : lw_okq (⟨"WonBySeats$Faction", "reach", "(II)V"⟩, 6) := ⟨⟨by decide +kernel, by decide +kernel⟩, List.mem_of_getElem? (i := 201) (by decide +kernel), List.mem_of_getElem? (i := 538) (by decide +kernel), List.mem_of_getElem? (i := 539) (by decide +kernel)⟩
theorem lw_p12 : lw_okq (⟨"WonBySeats$Orders", "mattersToPut", "()I"⟩, 5) := ⟨⟨by decide +kernel, by decide +kernel⟩, List.mem_of_getElem? (i := 226) (by decide +kernel), List.mem_of_getElem? (i := 556) (by decide +kernel), List.mem_of_getElem? (i := 557) (by decide +kernel)⟩
theorem lw_p13 : lw_okq (⟨"WonBySeats$Orders", "countFrom", "(IIII)I"⟩, 5) := ⟨⟨by decide +kernel, by decide +kernel⟩, List.mem_of_getElem? (i := 226) (by decide +kernel), List.mem_of_getElem? (i := 561) (by decide +kernel), List.mem_of_getElem? (i := 562) (by decide +kernel)⟩
theorem lw_p14 : lw_okq (⟨"WonBySeats$Orders", "keepFirst", "(II)V"⟩, 5) := ⟨⟨by decide +kernel, by decide +kernel⟩, List.mem_of_getElem? (i := 226) (by decide +kernel), List.mem_of_getElem? (i := 568) (by decide +kernel), List.mem_of_getElem? (i := 569) (by decide +kernel)⟩
theorem lw_p15 : lw_okq (⟨"WonBySeats$Lot", "countSets", "()V"⟩, 7) := ⟨⟨by decide +kernel, by decide +kernel⟩, List.mem_of_getElem? (i := 249) (by decide +kernel), List.mem_of_getElem? (i := 595) (by decide +kernel), List.mem_of_getElem? (i := 596) (by decide +kernel)⟩
def lw_privs_1 : List (MethodName × Nat) := [(⟨"WonBySeats", "whyNotTaken", "(IIII)I"⟩, 10), (⟨"WonBySeats", "failed", "(I)I"⟩, 10), (⟨"WonBySeats$Town", "clear", "()V"⟩, 10), (⟨"WonBySeats$Town", "settle", "(I)V"⟩, 10), (⟨"WonBySeats", "runOnce", "()I"⟩, 10), (⟨"WonBySeats$Hall", "sayings", "(III)I"⟩, 6), (⟨"WonBySeats$Hall", "seatsFor", "(II)I"⟩, 6), (⟨"WonBySeats$Hall", "seated", "(II)I"⟩, 6), (⟨"WonBySeats$Hall", "winnersFirst", "(I)I"⟩, 6), (⟨"WonBySeats$Hall", "inTurn", "(I)I"⟩, 6), (⟨"WonBySeats$Faction", "voteFromAll", "(III)I"⟩, 6), (⟨"WonBySeats$Faction", "reach", "(II)V"⟩, 6), (⟨"WonBySeats$Orders", "mattersToPut", "()I"⟩, 5), (⟨"WonBySeats$Orders", "countFrom", "(IIII)I"⟩, 5), (⟨"WonBySeats$Orders", "keepFirst", "(II)V"⟩, 5), (⟨"WonBySeats$Lot", "countSets", "()V"⟩, 7)]
theorem lw_r1 : ∀ q ∈ lw_privs_1, lw_okq q := List.forall_mem_cons.mpr ⟨lw_p0, List.forall_mem_cons.mpr ⟨lw_p1, List.forall_mem_cons.mpr ⟨lw_p2, List.forall_mem_cons.mpr ⟨lw_p3, List.forall_mem_cons.mpr ⟨lw_p4, List.forall_mem_cons.mpr ⟨lw_p5, List.forall_mem_cons.mpr ⟨lw_p6, List.forall_mem_cons.mpr ⟨lw_p7, List.forall_mem_cons.mpr ⟨lw_p8, List.forall_mem_cons.mpr ⟨lw_p9, List.forall_mem_cons.mpr ⟨lw_p10, List.forall_mem_cons.mpr ⟨lw_p11, List.forall_mem_cons.mpr ⟨lw_p12, List.forall_mem_cons.mpr ⟨lw_p13, List.forall_mem_cons.mpr ⟨lw_p14, List.forall_mem_cons.mpr ⟨lw_p15, fun _ h => absurd h List.not_mem_nil⟩⟩⟩⟩⟩⟩⟩⟩⟩⟩⟩⟩⟩⟩⟩⟩
theorem lw_p16 : lw_okq (⟨"WonBySeats$Lot", "voteOfAllSets", "(I)J"⟩, 7) := ⟨⟨by decide +kernel, by decide +kernel⟩, List.mem_of_getElem? (i := 249) (by decide +kernel), List.mem_of_getElem? (i := 603) (by decide +kernel), List.mem_of_getElem? (i := 604) (by decide +kernel)⟩
theorem lw_p17 : lw_okq (⟨"WonBySeats$Orders", "isOpenFrom", "(III)Z"⟩, 5) := ⟨⟨by decide +kernel, by decide +kernel⟩, List.mem_of_getElem? (i := 226) (by decide +kernel), List.mem_of_getElem? (i := 636) (by decide +kernel), List.mem_of_getElem? (i := 637) (by decide +kernel)⟩
theorem lw_p18 : lw_okq (⟨"WonBySeats", "tellAsHonest", "(I)I"⟩, 10) := ⟨⟨by decide +kernel, by decide +kernel⟩, List.mem_of_getElem? (i := 16) (by decide +kernel), List.mem_of_getElem? (i := 679) (by decide +kernel), List.mem_of_getElem? (i := 680) (by decide +kernel)⟩
theorem lw_p19 : lw_okq (⟨"WonBySeats", "leave", "(I)V"⟩, 10) := ⟨⟨by decide +kernel, by decide +kernel⟩, List.mem_of_getElem? (i := 16) (by decide +kernel), List.mem_of_getElem? (i := 683) (by decide +kernel), List.mem_of_getElem? (i := 684) (by decide +kernel)⟩
theorem lw_p20 : lw_okq (⟨"WonBySeats", "tellAsFollower", "(I)I"⟩, 10) := ⟨⟨by decide +kernel, by decide +kernel⟩, List.mem_of_getElem? (i := 16) (by decide +kernel), List.mem_of_getElem? (i := 687) (by decide +kernel), List.mem_of_getElem? (i := 688) (by decide +kernel)⟩
theorem lw_p21 : lw_okq (⟨"WonBySeats", "tellAsContrary", "(I)I"⟩, 10) := ⟨⟨by decide +kernel, by decide +kernel⟩, List.mem_of_getElem? (i := 16) (by decide +kernel), List.mem_of_getElem? (i := 691) (by decide +kernel), List.mem_of_getElem? (i := 692) (by decide +kernel)⟩
theorem lw_p22 : lw_okq (⟨"WonBySeatsModel", "against", "(IIII)I"⟩, 44) := ⟨⟨by decide +kernel, by decide +kernel⟩, List.mem_of_getElem? (i := 715) (by decide +kernel), List.mem_of_getElem? (i := 868) (by decide +kernel), List.mem_of_getElem? (i := 869) (by decide +kernel)⟩
theorem lw_p23 : lw_okq (⟨"WonBySeatsModel", "fails", "(I)I"⟩, 44) := ⟨⟨by decide +kernel, by decide +kernel⟩, List.mem_of_getElem? (i := 715) (by decide +kernel), List.mem_of_getElem? (i := 872) (by decide +kernel), List.mem_of_getElem? (i := 873) (by decide +kernel)⟩
theorem lw_p24 : lw_okq (⟨"WonBySeatsModel", "readTown", "(I)Z"⟩, 44) := ⟨⟨by decide +kernel, by decide +kernel⟩, List.mem_of_getElem? (i := 715) (by decide +kernel), List.mem_of_getElem? (i := 876) (by decide +kernel), List.mem_of_getElem? (i := 877) (by decide +kernel)⟩
theorem lw_p25 : lw_okq (⟨"WonBySeatsModel", "isCode", "(II)Z"⟩, 44) := ⟨⟨by decide +kernel, by decide +kernel⟩, List.mem_of_getElem? (i := 715) (by decide +kernel), List.mem_of_getElem? (i := 880) (by decide +kernel), List.mem_of_getElem? (i := 881) (by decide +kernel)⟩
theorem lw_p26 : lw_okq (⟨"WonBySeatsModel", "readOne", "(I)Z"⟩, 44) := ⟨⟨by decide +kernel, by decide +kernel⟩, List.mem_of_getElem? (i := 715) (by decide +kernel), List.mem_of_getElem? (i := 884) (by decide +kernel), List.mem_of_getElem? (i := 885) (by decide +kernel)⟩
theorem lw_p27 : lw_okq (⟨"WonBySeatsModel", "isOne", "(I)Z"⟩, 44) := ⟨⟨by decide +kernel, by decide +kernel⟩, List.mem_of_getElem? (i := 715) (by decide +kernel), List.mem_of_getElem? (i := 892) (by decide +kernel), List.mem_of_getElem? (i := 893) (by decide +kernel)⟩
theorem lw_p28 : lw_okq (⟨"WonBySeatsModel", "isMatter", "(I)Z"⟩, 44) := ⟨⟨by decide +kernel, by decide +kernel⟩, List.mem_of_getElem? (i := 715) (by decide +kernel), List.mem_of_getElem? (i := 896) (by decide +kernel), List.mem_of_getElem? (i := 897) (by decide +kernel)⟩
theorem lw_p29 : lw_okq (⟨"WonBySeatsModel", "isTown", "()Z"⟩, 44) := ⟨⟨by decide +kernel, by decide +kernel⟩, List.mem_of_getElem? (i := 715) (by decide +kernel), List.mem_of_getElem? (i := 908) (by decide +kernel), List.mem_of_getElem? (i := 909) (by decide +kernel)⟩
theorem lw_p30 : lw_okq (⟨"WonBySeatsModel", "goFirst", "()V"⟩, 44) := ⟨⟨by decide +kernel, by decide +kernel⟩, List.mem_of_getElem? (i := 715) (by decide +kernel), List.mem_of_getElem? (i := 924) (by decide +kernel), List.mem_of_getElem? (i := 925) (by decide +kernel)⟩
theorem lw_p31 : lw_okq (⟨"WonBySeatsModel", "layHall", "()V"⟩, 44) := ⟨⟨by decide +kernel, by decide +kernel⟩, List.mem_of_getElem? (i := 715) (by decide +kernel), List.mem_of_getElem? (i := 928) (by decide +kernel), List.mem_of_getElem? (i := 929) (by decide +kernel)⟩
def lw_privs_2 : List (MethodName × Nat) := [(⟨"WonBySeats$Lot", "voteOfAllSets", "(I)J"⟩, 7), (⟨"WonBySeats$Orders", "isOpenFrom", "(III)Z"⟩, 5), (⟨"WonBySeats", "tellAsHonest", "(I)I"⟩, 10), (⟨"WonBySeats", "leave", "(I)V"⟩, 10), (⟨"WonBySeats", "tellAsFollower", "(I)I"⟩, 10), (⟨"WonBySeats", "tellAsContrary", "(I)I"⟩, 10), (⟨"WonBySeatsModel", "against", "(IIII)I"⟩, 44), (⟨"WonBySeatsModel", "fails", "(I)I"⟩, 44), (⟨"WonBySeatsModel", "readTown", "(I)Z"⟩, 44), (⟨"WonBySeatsModel", "isCode", "(II)Z"⟩, 44), (⟨"WonBySeatsModel", "readOne", "(I)Z"⟩, 44), (⟨"WonBySeatsModel", "isOne", "(I)Z"⟩, 44), (⟨"WonBySeatsModel", "isMatter", "(I)Z"⟩, 44), (⟨"WonBySeatsModel", "isTown", "()Z"⟩, 44), (⟨"WonBySeatsModel", "goFirst", "()V"⟩, 44), (⟨"WonBySeatsModel", "layHall", "()V"⟩, 44)]
theorem lw_r2 : ∀ q ∈ lw_privs_2, lw_okq q := List.forall_mem_cons.mpr ⟨lw_p16, List.forall_mem_cons.mpr ⟨lw_p17, List.forall_mem_cons.mpr ⟨lw_p18, List.forall_mem_cons.mpr ⟨lw_p19, List.forall_mem_cons.mpr ⟨lw_p20, List.forall_mem_cons.mpr ⟨lw_p21, List.forall_mem_cons.mpr ⟨lw_p22, List.forall_mem_cons.mpr ⟨lw_p23, List.forall_mem_cons.mpr ⟨lw_p24, List.forall_mem_cons.mpr ⟨lw_p25, List.forall_mem_cons.mpr ⟨lw_p26, List.forall_mem_cons.mpr ⟨lw_p27, List.forall_mem_cons.mpr ⟨lw_p28, List.forall_mem_cons.mpr ⟨lw_p29, List.forall_mem_cons.mpr ⟨lw_p30, List.forall_mem_cons.mpr ⟨lw_p31, fun _ h => absurd h List.not_mem_nil⟩⟩⟩⟩⟩⟩⟩⟩⟩⟩⟩⟩⟩⟩⟩⟩
theorem lw_p32 : lw_okq (⟨"WonBySeatsModel", "everyone", "()I"⟩, 44) := ⟨⟨by decide +kernel, by decide +kernel⟩, List.mem_of_getElem? (i := 715) (by decide +kernel), List.mem_of_getElem? (i := 932) (by decide +kernel), List.mem_of_getElem? (i := 933) (by decide +kernel)⟩
theorem lw_p33 : lw_okq (⟨"WonBySeatsModel", "goRun", "([II)V"⟩, 44) := ⟨⟨by decide +kernel, by decide +kernel⟩, List.mem_of_getElem? (i := 715) (by decide +kernel), List.mem_of_getElem? (i := 936) (by decide +kernel), List.mem_of_getElem? (i := 937) (by decide +kernel)⟩
theorem lw_p34 : lw_okq (⟨"WonBySeatsModel", "goOn", "(III)V"⟩, 44) := ⟨⟨by decide +kernel, by decide +kernel⟩, List.mem_of_getElem? (i := 715) (by decide +kernel), List.mem_of_getElem? (i := 940) (by decide +kernel), List.mem_of_getElem? (i := 941) (by decide +kernel)⟩
theorem lw_p35 : lw_okq (⟨"WonBySeatsModel", "passBy", "()V"⟩, 44) := ⟨⟨by decide +kernel, by decide +kernel⟩, List.mem_of_getElem? (i := 715) (by decide +kernel), List.mem_of_getElem? (i := 944) (by decide +kernel), List.mem_of_getElem? (i := 945) (by decide +kernel)⟩
theorem lw_p36 : lw_okq (⟨"WonBySeatsModel", "poll", "(III)V"⟩, 44) := ⟨⟨by decide +kernel, by decide +kernel⟩, List.mem_of_getElem? (i := 715) (by decide +kernel), List.mem_of_getElem? (i := 948) (by decide +kernel), List.mem_of_getElem? (i := 949) (by decide +kernel)⟩
theorem lw_p37 : lw_okq (⟨"WonBySeatsModel", "says", "(IIII)Z"⟩, 44) := ⟨⟨by decide +kernel, by decide +kernel⟩, List.mem_of_getElem? (i := 715) (by decide +kernel), List.mem_of_getElem? (i := 952) (by decide +kernel), List.mem_of_getElem? (i := 953) (by decide +kernel)⟩
theorem lw_p38 : lw_okq (⟨"WonBySeatsModel", "seatAnew", "()V"⟩, 44) := ⟨⟨by decide +kernel, by decide +kernel⟩, List.mem_of_getElem? (i := 715) (by decide +kernel), List.mem_of_getElem? (i := 956) (by decide +kernel), List.mem_of_getElem? (i := 957) (by decide +kernel)⟩
theorem lw_p39 : lw_okq (⟨"WonBySeatsModel", "seatWinners", "()V"⟩, 44) := ⟨⟨by decide +kernel, by decide +kernel⟩, List.mem_of_getElem? (i := 715) (by decide +kernel), List.mem_of_getElem? (i := 960) (by decide +kernel), List.mem_of_getElem? (i := 961) (by decide +kernel)⟩
theorem lw_p40 : lw_okq (⟨"WonBySeatsModel", "seatRound", "()V"⟩, 44) := ⟨⟨by decide +kernel, by decide +kernel⟩, List.mem_of_getElem? (i := 715) (by decide +kernel), List.mem_of_getElem? (i := 964) (by decide +kernel), List.mem_of_getElem? (i := 965) (by decide +kernel)⟩
theorem lw_p41 : lw_okq (⟨"WonBySeatsModel", "placeOf", "(I)I"⟩, 44) := ⟨⟨by decide +kernel, by decide +kernel⟩, List.mem_of_getElem? (i := 715) (by decide +kernel), List.mem_of_getElem? (i := 972) (by decide +kernel), List.mem_of_getElem? (i := 973) (by decide +kernel)⟩
theorem lw_p42 : lw_okq (⟨"WonBySeatsModel", "findRing", "()V"⟩, 44) := ⟨⟨by decide +kernel, by decide +kernel⟩, List.mem_of_getElem? (i := 715) (by decide +kernel), List.mem_of_getElem? (i := 984) (by decide +kernel), List.mem_of_getElem? (i := 985) (by decide +kernel)⟩
theorem lw_p43 : lw_okq (⟨"WonBySeatsModel", "stateNow", "()I"⟩, 44) := ⟨⟨by decide +kernel, by decide +kernel⟩, List.mem_of_getElem? (i := 715) (by decide +kernel), List.mem_of_getElem? (i := 988) (by decide +kernel), List.mem_of_getElem? (i := 989) (by decide +kernel)⟩
theorem lw_p44 : lw_okq (⟨"WonBySeatsModel", "findSway", "(II)I"⟩, 44) := ⟨⟨by decide +kernel, by decide +kernel⟩, List.mem_of_getElem? (i := 715) (by decide +kernel), List.mem_of_getElem? (i := 1003) (by decide +kernel), List.mem_of_getElem? (i := 1004) (by decide +kernel)⟩
theorem lw_p45 : lw_okq (⟨"WonBySeatsModel", "keepAhead", "(II)V"⟩, 44) := ⟨⟨by decide +kernel, by decide +kernel⟩, List.mem_of_getElem? (i := 715) (by decide +kernel), List.mem_of_getElem? (i := 1007) (by decide +kernel), List.mem_of_getElem? (i := 1008) (by decide +kernel)⟩
theorem lw_p46 : lw_okq (⟨"WonBySeatsModel", "lies", "(III)I"⟩, 44) := ⟨⟨by decide +kernel, by decide +kernel⟩, List.mem_of_getElem? (i := 715) (by decide +kernel), List.mem_of_getElem? (i := 1015) (by decide +kernel), List.mem_of_getElem? (i := 1016) (by decide +kernel)⟩
theorem lw_p47 : lw_okq (⟨"WonBySeatsModel", "firstRow", "()V"⟩, 44) := ⟨⟨by decide +kernel, by decide +kernel⟩, List.mem_of_getElem? (i := 715) (by decide +kernel), List.mem_of_getElem? (i := 1023) (by decide +kernel), List.mem_of_getElem? (i := 1024) (by decide +kernel)⟩
def lw_privs_3 : List (MethodName × Nat) := [(⟨"WonBySeatsModel", "everyone", "()I"⟩, 44), (⟨"WonBySeatsModel", "goRun", "([II)V"⟩, 44), (⟨"WonBySeatsModel", "goOn", "(III)V"⟩, 44), (⟨"WonBySeatsModel", "passBy", "()V"⟩, 44), (⟨"WonBySeatsModel", "poll", "(III)V"⟩, 44), (⟨"WonBySeatsModel", "says", "(IIII)Z"⟩, 44), (⟨"WonBySeatsModel", "seatAnew", "()V"⟩, 44), (⟨"WonBySeatsModel", "seatWinners", "()V"⟩, 44), (⟨"WonBySeatsModel", "seatRound", "()V"⟩, 44), (⟨"WonBySeatsModel", "placeOf", "(I)I"⟩, 44), (⟨"WonBySeatsModel", "findRing", "()V"⟩, 44), (⟨"WonBySeatsModel", "stateNow", "()I"⟩, 44), (⟨"WonBySeatsModel", "findSway", "(II)I"⟩, 44), (⟨"WonBySeatsModel", "keepAhead", "(II)V"⟩, 44), (⟨"WonBySeatsModel", "lies", "(III)I"⟩, 44), (⟨"WonBySeatsModel", "firstRow", "()V"⟩, 44)]
theorem lw_r3 : ∀ q ∈ lw_privs_3, lw_okq q := List.forall_mem_cons.mpr ⟨lw_p32, List.forall_mem_cons.mpr ⟨lw_p33, List.forall_mem_cons.mpr ⟨lw_p34, List.forall_mem_cons.mpr ⟨lw_p35, List.forall_mem_cons.mpr ⟨lw_p36, List.forall_mem_cons.mpr ⟨lw_p37, List.forall_mem_cons.mpr ⟨lw_p38, List.forall_mem_cons.mpr ⟨lw_p39, List.forall_mem_cons.mpr ⟨lw_p40, List.forall_mem_cons.mpr ⟨lw_p41, List.forall_mem_cons.mpr ⟨lw_p42, List.forall_mem_cons.mpr ⟨lw_p43, List.forall_mem_cons.mpr ⟨lw_p44, List.forall_mem_cons.mpr ⟨lw_p45, List.forall_mem_cons.mpr ⟨lw_p46, List.forall_mem_cons.mpr ⟨lw_p47, fun _ h => absurd h List.not_mem_nil⟩⟩⟩⟩⟩⟩⟩⟩⟩⟩⟩⟩⟩⟩⟩⟩
theorem lw_p48 : lw_okq (⟨"WonBySeatsModel", "exchange", "(II)V"⟩, 44) := ⟨⟨by decide +kernel, by decide +kernel⟩, List.mem_of_getElem? (i := 715) (by decide +kernel), List.mem_of_getElem? (i := 1027) (by decide +kernel), List.mem_of_getElem? (i := 1028) (by decide +kernel)⟩
theorem lw_p49 : lw_okq (⟨"WonBySeatsModel", "outcomeInOrder", "(I)I"⟩, 44) := ⟨⟨by decide +kernel, by decide +kernel⟩, List.mem_of_getElem? (i := 715) (by decide +kernel), List.mem_of_getElem? (i := 1031) (by decide +kernel), List.mem_of_getElem? (i := 1032) (by decide +kernel)⟩
theorem lw_p50 : lw_okq (⟨"WonBySeatsModel", "nextRow", "()Z"⟩, 44) := ⟨⟨by decide +kernel, by decide +kernel⟩, List.mem_of_getElem? (i := 715) (by decide +kernel), List.mem_of_getElem? (i := 1035) (by decide +kernel), List.mem_of_getElem? (i := 1036) (by decide +kernel)⟩
theorem lw_p51 : lw_okq (⟨"WonBySeatsModel", "allWays", "()J"⟩, 44) := ⟨⟨by decide +kernel, by decide +kernel⟩, List.mem_of_getElem? (i := 715) (by decide +kernel), List.mem_of_getElem? (i := 1048) (by decide +kernel), List.mem_of_getElem? (i := 1049) (by decide +kernel)⟩
theorem lw_p52 : lw_okq (⟨"WonBySeatsModel", "goLot", "(IJ)V"⟩, 44) := ⟨⟨by decide +kernel, by decide +kernel⟩, List.mem_of_getElem? (i := 715) (by decide +kernel), List.mem_of_getElem? (i := 1058) (by decide +kernel), List.mem_of_getElem? (i := 1059) (by decide +kernel)⟩
theorem lw_p53 : lw_okq (⟨"WonBySeatsModel", "clearNext", "()V"⟩, 44) := ⟨⟨by decide +kernel, by decide +kernel⟩, List.mem_of_getElem? (i := 715) (by decide +kernel), List.mem_of_getElem? (i := 1062) (by decide +kernel), List.mem_of_getElem? (i := 1063) (by decide +kernel)⟩
theorem lw_p54 : lw_okq (⟨"WonBySeatsModel", "drawSeats", "(JJ)V"⟩, 44) := ⟨⟨by decide +kernel, by decide +kernel⟩, List.mem_of_getElem? (i := 715) (by decide +kernel), List.mem_of_getElem? (i := 1066) (by decide +kernel), List.mem_of_getElem? (i := 1067) (by decide +kernel)⟩
theorem lw_p55 : lw_okq (⟨"WonBySeatsModel", "isOnceShut", "()Z"⟩, 44) := ⟨⟨by decide +kernel, by decide +kernel⟩, List.mem_of_getElem? (i := 715) (by decide +kernel), List.mem_of_getElem? (i := 1081) (by decide +kernel), List.mem_of_getElem? (i := 1082) (by decide +kernel)⟩
theorem lw_p56 : lw_okq (⟨"WonBySeatsModel", "lost", "(I)J"⟩, 44) := ⟨⟨by decide +kernel, by decide +kernel⟩, List.mem_of_getElem? (i := 715) (by decide +kernel), List.mem_of_getElem? (i := 1101) (by decide +kernel), List.mem_of_getElem? (i := 1102) (by decide +kernel)⟩
theorem lw_p57 : lw_okq (⟨"WonBySeatsModel", "begins", "(I)V"⟩, 44) := ⟨⟨by decide +kernel, by decide +kernel⟩, List.mem_of_getElem? (i := 715) (by decide +kernel), List.mem_of_getElem? (i := 1113) (by decide +kernel), List.mem_of_getElem? (i := 1114) (by decide +kernel)⟩
def lw_privs_4 : List (MethodName × Nat) := [(⟨"WonBySeatsModel", "exchange", "(II)V"⟩, 44), (⟨"WonBySeatsModel", "outcomeInOrder", "(I)I"⟩, 44), (⟨"WonBySeatsModel", "nextRow", "()Z"⟩, 44), (⟨"WonBySeatsModel", "allWays", "()J"⟩, 44), (⟨"WonBySeatsModel", "goLot", "(IJ)V"⟩, 44), (⟨"WonBySeatsModel", "clearNext", "()V"⟩, 44), (⟨"WonBySeatsModel", "drawSeats", "(JJ)V"⟩, 44), (⟨"WonBySeatsModel", "isOnceShut", "()Z"⟩, 44), (⟨"WonBySeatsModel", "lost", "(I)J"⟩, 44), (⟨"WonBySeatsModel", "begins", "(I)V"⟩, 44)]
theorem lw_r4 : ∀ q ∈ lw_privs_4, lw_okq q := List.forall_mem_cons.mpr ⟨lw_p48, List.forall_mem_cons.mpr ⟨lw_p49, List.forall_mem_cons.mpr ⟨lw_p50, List.forall_mem_cons.mpr ⟨lw_p51, List.forall_mem_cons.mpr ⟨lw_p52, List.forall_mem_cons.mpr ⟨lw_p53, List.forall_mem_cons.mpr ⟨lw_p54, List.forall_mem_cons.mpr ⟨lw_p55, List.forall_mem_cons.mpr ⟨lw_p56, List.forall_mem_cons.mpr ⟨lw_p57, fun _ h => absurd h List.not_mem_nil⟩⟩⟩⟩⟩⟩⟩⟩⟩⟩
def lw_privs : List (MethodName × Nat) := lw_privs_1 ++ (lw_privs_2 ++ (lw_privs_3 ++ (lw_privs_4)))
def lw_tbl : List Cond := k2_sels lw_privs ++ tables_1
theorem lw_privs_ok : ∀ q ∈ lw_privs, lw_okq q := by
  show ∀ q ∈ lw_privs_1 ++ (lw_privs_2 ++ (lw_privs_3 ++ (lw_privs_4))), lw_okq q
  exact List.forall_mem_append.mpr ⟨lw_r1, List.forall_mem_append.mpr ⟨lw_r2, List.forall_mem_append.mpr ⟨lw_r3, lw_r4⟩⟩⟩
end
section
def RX0 : String := "WonBySeats$Course"
def TX0 : u_T := fun k => match k with
  | 0 => ("WonBySeats$Course", "town", "LWonBySeats$Town;", true)
  | 1 => ("WonBySeats$Course", "hall", "LWonBySeats$Hall;", true)
  | 2 => ("WonBySeats$Course", "sitting", "[I", true)
  | 3 => ("WonBySeats$Course", "said", "[I", true)
  | 4 => ("WonBySeats$Course", "outcome", "[I", true)
  | 5 => ("WonBySeats$Course", "seats", "[I", true)
  | _ => ("WonBySeats$Course", "kept", "[I", true)
def tyX0 : Nat → FieldType := fun k => match k with
  | 0 => .object "WonBySeats$Town"
  | 1 => .object "WonBySeats$Hall"
  | 2 => .array .int
  | 3 => .array .int
  | 4 => .array .int
  | 5 => .array .int
  | _ => .array .int
abbrev wsX00 : List Cond := u_ws RX0 TX0 7
theorem nmX0 : ∀ a, a < 7 → ∀ b, b < 7 → a ≠ b → (TX0 a).2.1 ≠ (TX0 b).2.1 := by decide +kernel
theorem tyX0_ok : ∀ k, k < 7 → parseFieldDescriptor (TX0 k).2.2.1 = some (tyX0 k) := by decide +kernel
abbrev cX0_init : ByteArray := prog_2_method_1_code
def yX0_init : MethodName := ⟨RX0, "<init>", "(LWonBySeats$Town;LWonBySeats$Hall;)V"⟩
abbrev cX0_go : ByteArray := prog_2_method_2_code
def yX0_go : MethodName := ⟨RX0, "go", "(II)I"⟩
abbrev cX0_keepOutcome : ByteArray := prog_2_method_3_code
def yX0_keepOutcome : MethodName := ⟨RX0, "keepOutcome", "()V"⟩
abbrev cX0_countChanged : ByteArray := prog_2_method_4_code
def yX0_countChanged : MethodName := ⟨RX0, "countChanged", "()I"⟩
abbrev cX0_hasSeatsAsIn : ByteArray := prog_2_method_5_code
def yX0_hasSeatsAsIn : MethodName := ⟨RX0, "hasSeatsAsIn", "(LWonBySeats$Sheet;I)Z"⟩
def RX1 : String := "WonBySeats$Faction"
def TX1 : u_T := fun k => match k with
  | 0 => ("WonBySeats$Faction", "town", "LWonBySeats$Town;", true)
  | 1 => ("WonBySeats$Faction", "hall", "LWonBySeats$Hall;", true)
  | 2 => ("WonBySeats$Faction", "moments", "[I", true)
  | 3 => ("WonBySeats$Faction", "costs", "[I", true)
  | 4 => ("WonBySeats$Faction", "laterMoments", "[I", true)
  | _ => ("WonBySeats$Faction", "laterCosts", "[I", true)
def tyX1 : Nat → FieldType := fun k => match k with
  | 0 => .object "WonBySeats$Town"
  | 1 => .object "WonBySeats$Hall"
  | 2 => .array .int
  | 3 => .array .int
  | 4 => .array .int
  | _ => .array .int
abbrev wsX10 : List Cond := u_ws RX1 TX1 6
theorem nmX1 : ∀ a, a < 6 → ∀ b, b < 6 → a ≠ b → (TX1 a).2.1 ≠ (TX1 b).2.1 := by decide +kernel
theorem tyX1_ok : ∀ k, k < 6 → parseFieldDescriptor (TX1 k).2.2.1 = some (tyX1 k) := by decide +kernel
abbrev cX1_init : ByteArray := prog_3_method_1_code
def yX1_init : MethodName := ⟨RX1, "<init>", "(LWonBySeats$Town;LWonBySeats$Hall;)V"⟩
abbrev cX1_fewestSayings : ByteArray := prog_3_method_2_code
def yX1_fewestSayings : MethodName := ⟨RX1, "fewestSayings", "(II)I"⟩
abbrev cX1_voteFromAll : ByteArray := prog_3_method_3_code
def yX1_voteFromAll : MethodName := ⟨RX1, "voteFromAll", "(III)I"⟩
abbrev cX1_reach : ByteArray := prog_3_method_4_code
def yX1_reach : MethodName := ⟨RX1, "reach", "(II)V"⟩
abbrev cX1_isFewer : ByteArray := prog_3_method_5_code
def yX1_isFewer : MethodName := ⟨RX1, "isFewer", "(II)Z"⟩
def RX2 : String := "WonBySeats$Hall"
def TX2 : u_T := fun k => match k with
  | 0 => ("WonBySeats$Hall", "town", "LWonBySeats$Town;", true)
  | 1 => ("WonBySeats$Hall", "measure", "I", false)
  | 2 => ("WonBySeats$Hall", "law", "I", false)
  | 3 => ("WonBySeats$Hall", "said", "I", false)
  | 4 => ("WonBySeats$Hall", "outcome", "I", false)
  | _ => ("WonBySeats$Hall", "seats", "I", false)
def tyX2 : Nat → FieldType := fun k => match k with
  | 0 => .object "WonBySeats$Town"
  | 1 => .int
  | 2 => .int
  | 3 => .int
  | 4 => .int
  | _ => .int
abbrev wsX20 : List Cond := u_ws RX2 TX2 6
theorem nmX2 : ∀ a, a < 6 → ∀ b, b < 6 → a ≠ b → (TX2 a).2.1 ≠ (TX2 b).2.1 := by decide +kernel
theorem tyX2_ok : ∀ k, k < 6 → parseFieldDescriptor (TX2 k).2.2.1 = some (tyX2 k) := by decide +kernel
abbrev cX2_init : ByteArray := prog_4_method_1_code
def yX2_init : MethodName := ⟨RX2, "<init>", "(LWonBySeats$Town;)V"⟩
abbrev cX2_useRules : ByteArray := prog_4_method_2_code
def yX2_useRules : MethodName := ⟨RX2, "useRules", "(II)V"⟩
abbrev cX2_useOwnRules : ByteArray := prog_4_method_3_code
def yX2_useOwnRules : MethodName := ⟨RX2, "useOwnRules", "()V"⟩
abbrev cX2_opening : ByteArray := prog_4_method_4_code
def yX2_opening : MethodName := ⟨RX2, "opening", "()I"⟩
abbrev cX2_sittingAt : ByteArray := prog_4_method_5_code
def yX2_sittingAt : MethodName := ⟨RX2, "sittingAt", "(I)I"⟩
abbrev cX2_slotOf : ByteArray := prog_4_method_6_code
def yX2_slotOf : MethodName := ⟨RX2, "slotOf", "(I)I"⟩
abbrev cX2_step : ByteArray := prog_4_method_7_code
def yX2_step : MethodName := ⟨RX2, "step", "(III)I"⟩
abbrev cX2_sayings : ByteArray := prog_4_method_8_code
def yX2_sayings : MethodName := ⟨RX2, "sayings", "(III)I"⟩
abbrev cX2_seatsFor : ByteArray := prog_4_method_9_code
def yX2_seatsFor : MethodName := ⟨RX2, "seatsFor", "(II)I"⟩
abbrev cX2_seated : ByteArray := prog_4_method_10_code
def yX2_seated : MethodName := ⟨RX2, "seated", "(II)I"⟩
abbrev cX2_winnersFirst : ByteArray := prog_4_method_11_code
def yX2_winnersFirst : MethodName := ⟨RX2, "winnersFirst", "(I)I"⟩
abbrev cX2_inTurn : ByteArray := prog_4_method_12_code
def yX2_inTurn : MethodName := ⟨RX2, "inTurn", "(I)I"⟩
abbrev cX2_firstOf : ByteArray := prog_4_method_13_code
def yX2_firstOf : MethodName := ⟨RX2, "firstOf", "(II)I"⟩
def RX3 : String := "WonBySeats$Lot"
def TX3 : u_T := fun k => match k with
  | 0 => ("WonBySeats$Lot", "town", "LWonBySeats$Town;", true)
  | 1 => ("WonBySeats$Lot", "hall", "LWonBySeats$Hall;", true)
  | 2 => ("WonBySeats$Lot", "setsOf", "[I", true)
  | 3 => ("WonBySeats$Lot", "weights", "[J", true)
  | 4 => ("WonBySeats$Lot", "laterWeights", "[J", true)
  | 5 => ("WonBySeats$Lot", "upper", "J", false)
  | _ => ("WonBySeats$Lot", "lower", "J", false)
def tyX3 : Nat → FieldType := fun k => match k with
  | 0 => .object "WonBySeats$Town"
  | 1 => .object "WonBySeats$Hall"
  | 2 => .array .int
  | 3 => .array .long
  | 4 => .array .long
  | 5 => .long
  | _ => .long
abbrev wsX30 : List Cond := u_ws RX3 TX3 7
theorem nmX3 : ∀ a, a < 7 → ∀ b, b < 7 → a ≠ b → (TX3 a).2.1 ≠ (TX3 b).2.1 := by decide +kernel
theorem tyX3_ok : ∀ k, k < 7 → parseFieldDescriptor (TX3 k).2.2.1 = some (tyX3 k) := by decide +kernel
abbrev cX3_init : ByteArray := prog_5_method_1_code
def yX3_init : MethodName := ⟨RX3, "<init>", "(LWonBySeats$Town;LWonBySeats$Hall;)V"⟩
abbrev cX3_drawAll : ByteArray := prog_5_method_2_code
def yX3_drawAll : MethodName := ⟨RX3, "drawAll", "()V"⟩
abbrev cX3_countSets : ByteArray := prog_5_method_3_code
def yX3_countSets : MethodName := ⟨RX3, "countSets", "()V"⟩
abbrev cX3_voteOfAllSets : ByteArray := prog_5_method_4_code
def yX3_voteOfAllSets : MethodName := ⟨RX3, "voteOfAllSets", "(I)J"⟩
abbrev cX3_commonDivisor : ByteArray := prog_5_method_5_code
def yX3_commonDivisor : MethodName := ⟨RX3, "commonDivisor", "(JJ)J"⟩
def RX4 : String := "WonBySeats$Orders"
def TX4 : u_T := fun k => match k with
  | 0 => ("WonBySeats$Orders", "town", "LWonBySeats$Town;", true)
  | 1 => ("WonBySeats$Orders", "hall", "LWonBySeats$Hall;", true)
  | 2 => ("WonBySeats$Orders", "row", "[I", true)
  | 3 => ("WonBySeats$Orders", "found", "Z", false)
  | _ => ("WonBySeats$Orders", "first", "[I", true)
def tyX4 : Nat → FieldType := fun k => match k with
  | 0 => .object "WonBySeats$Town"
  | 1 => .object "WonBySeats$Hall"
  | 2 => .array .int
  | 3 => .boolean
  | _ => .array .int
abbrev wsX40 : List Cond := u_ws RX4 TX4 5
theorem nmX4 : ∀ a, a < 5 → ∀ b, b < 5 → a ≠ b → (TX4 a).2.1 ≠ (TX4 b).2.1 := by decide +kernel
theorem tyX4_ok : ∀ k, k < 5 → parseFieldDescriptor (TX4 k).2.2.1 = some (tyX4 k) := by decide +kernel
abbrev cX4_init : ByteArray := prog_6_method_1_code
def yX4_init : MethodName := ⟨RX4, "<init>", "(LWonBySeats$Town;LWonBySeats$Hall;)V"⟩
abbrev cX4_countWonByYes : ByteArray := prog_6_method_2_code
def yX4_countWonByYes : MethodName := ⟨RX4, "countWonByYes", "(I)I"⟩
abbrev cX4_isNeverShut : ByteArray := prog_6_method_3_code
def yX4_isNeverShut : MethodName := ⟨RX4, "isNeverShut", "()Z"⟩
abbrev cX4_mattersToPut : ByteArray := prog_6_method_4_code
def yX4_mattersToPut : MethodName := ⟨RX4, "mattersToPut", "()I"⟩
abbrev cX4_countFrom : ByteArray := prog_6_method_5_code
def yX4_countFrom : MethodName := ⟨RX4, "countFrom", "(IIII)I"⟩
abbrev cX4_keepFirst : ByteArray := prog_6_method_6_code
def yX4_keepFirst : MethodName := ⟨RX4, "keepFirst", "(II)V"⟩
abbrev cX4_isOpenFrom : ByteArray := prog_6_method_7_code
def yX4_isOpenFrom : MethodName := ⟨RX4, "isOpenFrom", "(III)Z"⟩
def RX5 : String := "WonBySeats$Ring"
def TX5 : u_T := fun k => match k with
  | 0 => ("WonBySeats$Ring", "hall", "LWonBySeats$Hall;", true)
  | 1 => ("WonBySeats$Ring", "course", "LWonBySeats$Course;", true)
  | 2 => ("WonBySeats$Ring", "begunAt", "[I", true)
  | 3 => ("WonBySeats$Ring", "start", "I", false)
  | 4 => ("WonBySeats$Ring", "tail", "I", false)
  | _ => ("WonBySeats$Ring", "length", "I", false)
def tyX5 : Nat → FieldType := fun k => match k with
  | 0 => .object "WonBySeats$Hall"
  | 1 => .object "WonBySeats$Course"
  | 2 => .array .int
  | 3 => .int
  | 4 => .int
  | _ => .int
abbrev wsX50 : List Cond := u_ws RX5 TX5 6
theorem nmX5 : ∀ a, a < 6 → ∀ b, b < 6 → a ≠ b → (TX5 a).2.1 ≠ (TX5 b).2.1 := by decide +kernel
theorem tyX5_ok : ∀ k, k < 6 → parseFieldDescriptor (TX5 k).2.2.1 = some (tyX5 k) := by decide +kernel
abbrev cX5_init : ByteArray := prog_7_method_1_code
def yX5_init : MethodName := ⟨RX5, "<init>", "(LWonBySeats$Hall;LWonBySeats$Course;)V"⟩
abbrev cX5_find : ByteArray := prog_7_method_2_code
def yX5_find : MethodName := ⟨RX5, "find", "()V"⟩
abbrev cX5_timesWonByYes : ByteArray := prog_7_method_3_code
def yX5_timesWonByYes : MethodName := ⟨RX5, "timesWonByYes", "(I)I"⟩
def RX6 : String := "WonBySeats$Sheet"
def TX6 : u_T := fun k => match k with
  | 0 => ("WonBySeats$Sheet", "cells", "[I", true)
  | 1 => ("WonBySeats$Sheet", "length", "I", false)
  | _ => ("WonBySeats$Sheet", "sort", "I", false)
def tyX6 : Nat → FieldType := fun k => match k with
  | 0 => .array .int
  | 1 => .int
  | _ => .int
abbrev wsX60 : List Cond := u_ws RX6 TX6 3
theorem nmX6 : ∀ a, a < 3 → ∀ b, b < 3 → a ≠ b → (TX6 a).2.1 ≠ (TX6 b).2.1 := by decide +kernel
theorem tyX6_ok : ∀ k, k < 3 → parseFieldDescriptor (TX6 k).2.2.1 = some (tyX6 k) := by decide +kernel
abbrev cX6_init : ByteArray := prog_8_method_1_code
def yX6_init : MethodName := ⟨RX6, "<init>", "()V"⟩
abbrev cX6_hasRow : ByteArray := prog_8_method_2_code
def yX6_hasRow : MethodName := ⟨RX6, "hasRow", "()Z"⟩
abbrev cX6_renew : ByteArray := prog_8_method_3_code
def yX6_renew : MethodName := ⟨RX6, "renew", "(II)V"⟩
abbrev cX6_clear : ByteArray := prog_8_method_4_code
def yX6_clear : MethodName := ⟨RX6, "clear", "()V"⟩
abbrev cX6_hasCells : ByteArray := prog_8_method_5_code
def yX6_hasCells : MethodName := ⟨RX6, "hasCells", "(II)Z"⟩
abbrev cX6_at : ByteArray := prog_8_method_6_code
def yX6_at : MethodName := ⟨RX6, "at", "(I)I"⟩
abbrev cX6_store : ByteArray := prog_8_method_7_code
def yX6_store : MethodName := ⟨RX6, "store", "(II)V"⟩
def RX7 : String := "WonBySeats$Town"
def TX7 : u_T := fun k => match k with
  | 0 => ("WonBySeats$Town", "people", "I", false)
  | 1 => ("WonBySeats$Town", "matters", "I", false)
  | 2 => ("WonBySeats$Town", "measure", "I", false)
  | 3 => ("WonBySeats$Town", "law", "I", false)
  | 4 => ("WonBySeats$Town", "items", "I", false)
  | 5 => ("WonBySeats$Town", "contraries", "I", false)
  | 6 => ("WonBySeats$Town", "benders", "I", false)
  | 7 => ("WonBySeats$Town", "kinds", "[I", true)
  | 8 => ("WonBySeats$Town", "wishes", "[I", true)
  | _ => ("WonBySeats$Town", "agenda", "[I", true)
def tyX7 : Nat → FieldType := fun k => match k with
  | 0 => .int
  | 1 => .int
  | 2 => .int
  | 3 => .int
  | 4 => .int
  | 5 => .int
  | 6 => .int
  | 7 => .array .int
  | 8 => .array .int
  | _ => .array .int
abbrev wsX70 : List Cond := u_ws RX7 TX7 10
theorem nmX7 : ∀ a, a < 10 → ∀ b, b < 10 → a ≠ b → (TX7 a).2.1 ≠ (TX7 b).2.1 := by decide +kernel
theorem tyX7_ok : ∀ k, k < 10 → parseFieldDescriptor (TX7 k).2.2.1 = some (tyX7 k) := by decide +kernel
abbrev cX7_init : ByteArray := prog_9_method_1_code
def yX7_init : MethodName := ⟨RX7, "<init>", "()V"⟩
abbrev cX7_stands : ByteArray := prog_9_method_2_code
def yX7_stands : MethodName := ⟨RX7, "stands", "()Z"⟩
abbrev cX7_hasOne : ByteArray := prog_9_method_3_code
def yX7_hasOne : MethodName := ⟨RX7, "hasOne", "(I)Z"⟩
abbrev cX7_hasMatter : ByteArray := prog_9_method_4_code
def yX7_hasMatter : MethodName := ⟨RX7, "hasMatter", "(I)Z"⟩
abbrev cX7_everybody : ByteArray := prog_9_method_5_code
def yX7_everybody : MethodName := ⟨RX7, "everybody", "()I"⟩
abbrev cX7_wishesYes : ByteArray := prog_9_method_6_code
def yX7_wishesYes : MethodName := ⟨RX7, "wishesYes", "(II)Z"⟩
abbrev cX7_placeOf : ByteArray := prog_9_method_7_code
def yX7_placeOf : MethodName := ⟨RX7, "placeOf", "(I)I"⟩
abbrev cX7_firstFault : ByteArray := prog_9_method_8_code
def yX7_firstFault : MethodName := ⟨RX7, "firstFault", "(LWonBySeats$Sheet;II)I"⟩
abbrev cX7_isDigitOfMatters : ByteArray := prog_9_method_9_code
def yX7_isDigitOfMatters : MethodName := ⟨RX7, "isDigitOfMatters", "(I)Z"⟩
abbrev cX7_goesOn : ByteArray := prog_9_method_10_code
def yX7_goesOn : MethodName := ⟨RX7, "goesOn", "(II)Z"⟩
abbrev cX7_kindOf : ByteArray := prog_9_method_11_code
def yX7_kindOf : MethodName := ⟨RX7, "kindOf", "(I)I"⟩
abbrev cX7_found : ByteArray := prog_9_method_12_code
def yX7_found : MethodName := ⟨RX7, "found", "(LWonBySeats$Sheet;II)V"⟩
abbrev cX7_clear : ByteArray := prog_9_method_13_code
def yX7_clear : MethodName := ⟨RX7, "clear", "()V"⟩
abbrev cX7_settle : ByteArray := prog_9_method_14_code
def yX7_settle : MethodName := ⟨RX7, "settle", "(I)V"⟩
abbrev cX7_takeAgenda : ByteArray := prog_9_method_15_code
def yX7_takeAgenda : MethodName := ⟨RX7, "takeAgenda", "(LWonBySeats$Sheet;II)I"⟩
def RX8 : String := "WonBySeats"
def TX8 : u_T := fun k => match k with
  | 0 => ("WonBySeats", "sheets", "[LWonBySeats$Sheet;", true)
  | 1 => ("WonBySeats", "town", "LWonBySeats$Town;", true)
  | 2 => ("WonBySeats", "hall", "LWonBySeats$Hall;", true)
  | 3 => ("WonBySeats", "course", "LWonBySeats$Course;", true)
  | 4 => ("WonBySeats", "ring", "LWonBySeats$Ring;", true)
  | 5 => ("WonBySeats", "faction", "LWonBySeats$Faction;", true)
  | 6 => ("WonBySeats", "orderly", "LWonBySeats$Orders;", true)
  | 7 => ("WonBySeats", "drawing", "LWonBySeats$Lot;", true)
  | 8 => ("WonBySeats", "trace", "I", false)
  | _ => ("WonBySeats", "fault", "I", false)
def tyX8 : Nat → FieldType := fun k => match k with
  | 0 => .array (.object "WonBySeats$Sheet")
  | 1 => .object "WonBySeats$Town"
  | 2 => .object "WonBySeats$Hall"
  | 3 => .object "WonBySeats$Course"
  | 4 => .object "WonBySeats$Ring"
  | 5 => .object "WonBySeats$Faction"
  | 6 => .object "WonBySeats$Orders"
  | 7 => .object "WonBySeats$Lot"
  | 8 => .int
  | _ => .int
abbrev wsX80 : List Cond := u_ws RX8 TX8 10
theorem nmX8 : ∀ a, a < 10 → ∀ b, b < 10 → a ≠ b → (TX8 a).2.1 ≠ (TX8 b).2.1 := by decide +kernel
theorem tyX8_ok : ∀ k, k < 10 → parseFieldDescriptor (TX8 k).2.2.1 = some (tyX8 k) := by decide +kernel
abbrev cX8_init : ByteArray := prog_1_method_1_code
def yX8_init : MethodName := ⟨RX8, "<init>", "()V"⟩
abbrev cX8_town : ByteArray := prog_1_method_2_code
def yX8_town : MethodName := ⟨RX8, "town", "(IIII)I"⟩
abbrev cX8_ofOne : ByteArray := prog_1_method_3_code
def yX8_ofOne : MethodName := ⟨RX8, "ofOne", "(II)I"⟩
abbrev cX8_wish : ByteArray := prog_1_method_4_code
def yX8_wish : MethodName := ⟨RX8, "wish", "(IIZ)I"⟩
abbrev cX8_measure : ByteArray := prog_1_method_5_code
def yX8_measure : MethodName := ⟨RX8, "measure", "(I)I"⟩
abbrev cX8_law : ByteArray := prog_1_method_6_code
def yX8_law : MethodName := ⟨RX8, "law", "(I)I"⟩
abbrev cX8_agenda : ByteArray := prog_1_method_7_code
def yX8_agenda : MethodName := ⟨RX8, "agenda", "(IIII)I"⟩
abbrev cX8_vote : ByteArray := prog_1_method_8_code
def yX8_vote : MethodName := ⟨RX8, "vote", "(II)I"⟩
abbrev cX8_decided : ByteArray := prog_1_method_9_code
def yX8_decided : MethodName := ⟨RX8, "decided", "(I)I"⟩
abbrev cX8_sits : ByteArray := prog_1_method_10_code
def yX8_sits : MethodName := ⟨RX8, "sits", "()I"⟩
abbrev cX8_ever : ByteArray := prog_1_method_11_code
def yX8_ever : MethodName := ⟨RX8, "ever", "(I)I"⟩
abbrev cX8_often : ByteArray := prog_1_method_12_code
def yX8_often : MethodName := ⟨RX8, "often", "(I)I"⟩
abbrev cX8_sway : ByteArray := prog_1_method_13_code
def yX8_sway : MethodName := ⟨RX8, "sway", "(II)I"⟩
abbrev cX8_orders : ByteArray := prog_1_method_14_code
def yX8_orders : MethodName := ⟨RX8, "orders", "(II)I"⟩
abbrev cX8_key : ByteArray := prog_1_method_15_code
def yX8_key : MethodName := ⟨RX8, "key", "(I)I"⟩
abbrev cX8_lot : ByteArray := prog_1_method_16_code
def yX8_lot : MethodName := ⟨RX8, "lot", "(I)J"⟩
abbrev cX8_fits : ByteArray := prog_1_method_17_code
def yX8_fits : MethodName := ⟨RX8, "fits", "(III)I"⟩
abbrev cX8_safe : ByteArray := prog_1_method_18_code
def yX8_safe : MethodName := ⟨RX8, "safe", "()I"⟩
abbrev cX8_sheet : ByteArray := prog_1_method_19_code
def yX8_sheet : MethodName := ⟨RX8, "sheet", "(III)I"⟩
abbrev cX8_lose : ByteArray := prog_1_method_20_code
def yX8_lose : MethodName := ⟨RX8, "lose", "(I)I"⟩
abbrev cX8_put : ByteArray := prog_1_method_21_code
def yX8_put : MethodName := ⟨RX8, "put", "(III)I"⟩
abbrev cX8_cell : ByteArray := prog_1_method_22_code
def yX8_cell : MethodName := ⟨RX8, "cell", "(III)J"⟩
abbrev cX8_copy : ByteArray := prog_1_method_23_code
def yX8_copy : MethodName := ⟨RX8, "copy", "(IIIII)I"⟩
abbrev cX8_tell : ByteArray := prog_1_method_24_code
def yX8_tell : MethodName := ⟨RX8, "tell", "(I)I"⟩
abbrev cX8_swear : ByteArray := prog_1_method_25_code
def yX8_swear : MethodName := ⟨RX8, "swear", "(I)I"⟩
abbrev cX8_as : ByteArray := prog_1_method_26_code
def yX8_as : MethodName := ⟨RX8, "as", "(II)I"⟩
abbrev cX8_trace : ByteArray := prog_1_method_27_code
def yX8_trace : MethodName := ⟨RX8, "trace", "()I"⟩
abbrev cX8_fault : ByteArray := prog_1_method_28_code
def yX8_fault : MethodName := ⟨RX8, "fault", "()I"⟩
abbrev cX8_many : ByteArray := prog_1_method_29_code
def yX8_many : MethodName := ⟨RX8, "many", "(I)I"⟩
abbrev cX8_isSheet : ByteArray := prog_1_method_30_code
def yX8_isSheet : MethodName := ⟨RX8, "isSheet", "(I)Z"⟩
abbrev cX8_isSort : ByteArray := prog_1_method_31_code
def yX8_isSort : MethodName := ⟨RX8, "isSort", "(I)Z"⟩
abbrev cX8_ruleBit : ByteArray := prog_1_method_32_code
def yX8_ruleBit : MethodName := ⟨RX8, "ruleBit", "(II)I"⟩
abbrev cX8_failed : ByteArray := prog_1_method_33_code
def yX8_failed : MethodName := ⟨RX8, "failed", "(I)I"⟩
abbrev cX8_whyNotTaken : ByteArray := prog_1_method_34_code
def yX8_whyNotTaken : MethodName := ⟨RX8, "whyNotTaken", "(IIII)I"⟩
abbrev cX8_runOnce : ByteArray := prog_1_method_35_code
def yX8_runOnce : MethodName := ⟨RX8, "runOnce", "()I"⟩
abbrev cX8_leave : ByteArray := prog_1_method_36_code
def yX8_leave : MethodName := ⟨RX8, "leave", "(I)V"⟩
abbrev cX8_tellAsHonest : ByteArray := prog_1_method_37_code
def yX8_tellAsHonest : MethodName := ⟨RX8, "tellAsHonest", "(I)I"⟩
abbrev cX8_tellAsFollower : ByteArray := prog_1_method_38_code
def yX8_tellAsFollower : MethodName := ⟨RX8, "tellAsFollower", "(I)I"⟩
abbrev cX8_tellAsContrary : ByteArray := prog_1_method_39_code
def yX8_tellAsContrary : MethodName := ⟨RX8, "tellAsContrary", "(I)I"⟩
def RX9 : String := "WonBySeatsModel"
def TX9 : u_T := fun k => match k with
  | 0 => ("WonBySeatsModel", "fault", "I", false)
  | 1 => ("WonBySeatsModel", "trace", "I", false)
  | 2 => ("WonBySeatsModel", "sorts", "[I", true)
  | 3 => ("WonBySeatsModel", "sheetLong", "[I", true)
  | 4 => ("WonBySeatsModel", "cells", "[I", true)
  | 5 => ("WonBySeatsModel", "people", "I", false)
  | 6 => ("WonBySeatsModel", "matters", "I", false)
  | 7 => ("WonBySeatsModel", "kind", "[I", true)
  | 8 => ("WonBySeatsModel", "wishes", "[I", true)
  | 9 => ("WonBySeatsModel", "measure", "I", false)
  | 10 => ("WonBySeatsModel", "law", "I", false)
  | 11 => ("WonBySeatsModel", "agendaLong", "I", false)
  | 12 => ("WonBySeatsModel", "agenda", "[I", true)
  | 13 => ("WonBySeatsModel", "at", "I", false)
  | 14 => ("WonBySeatsModel", "readPeople", "I", false)
  | 15 => ("WonBySeatsModel", "readMatters", "I", false)
  | 16 => ("WonBySeatsModel", "readKind", "[I", true)
  | 17 => ("WonBySeatsModel", "readWishes", "[I", true)
  | 18 => ("WonBySeatsModel", "hall", "I", false)
  | 19 => ("WonBySeatsModel", "isShut", "Z", false)
  | 20 => ("WonBySeatsModel", "lastSeat", "I", false)
  | 21 => ("WonBySeatsModel", "byMeasure", "I", false)
  | 22 => ("WonBySeatsModel", "byLaw", "I", false)
  | 23 => ("WonBySeatsModel", "sat", "I", false)
  | 24 => ("WonBySeatsModel", "yes", "I", false)
  | 25 => ("WonBySeatsModel", "outcome", "I", false)
  | 26 => ("WonBySeatsModel", "seats", "I", false)
  | 27 => ("WonBySeatsModel", "ranSat", "[I", true)
  | 28 => ("WonBySeatsModel", "ranYes", "[I", true)
  | 29 => ("WonBySeatsModel", "ranOutcome", "[I", true)
  | 30 => ("WonBySeatsModel", "ranSeats", "[I", true)
  | 31 => ("WonBySeatsModel", "beganAt", "[I", true)
  | 32 => ("WonBySeatsModel", "tail", "I", false)
  | 33 => ("WonBySeatsModel", "ring", "I", false)
  | 34 => ("WonBySeatsModel", "keptHall", "[I", true)
  | 35 => ("WonBySeatsModel", "keptShut", "[Z", true)
  | 36 => ("WonBySeatsModel", "keptLast", "[I", true)
  | 37 => ("WonBySeatsModel", "keptCost", "[I", true)
  | 38 => ("WonBySeatsModel", "way", "[I", true)
  | 39 => ("WonBySeatsModel", "order", "[I", true)
  | 40 => ("WonBySeatsModel", "firstOrder", "[I", true)
  | 41 => ("WonBySeatsModel", "keptOutcome", "[I", true)
  | 42 => ("WonBySeatsModel", "ways", "[J", true)
  | _ => ("WonBySeatsModel", "next", "[J", true)
def tyX9 : Nat → FieldType := fun k => match k with
  | 0 => .int
  | 1 => .int
  | 2 => .array .int
  | 3 => .array .int
  | 4 => .array .int
  | 5 => .int
  | 6 => .int
  | 7 => .array .int
  | 8 => .array .int
  | 9 => .int
  | 10 => .int
  | 11 => .int
  | 12 => .array .int
  | 13 => .int
  | 14 => .int
  | 15 => .int
  | 16 => .array .int
  | 17 => .array .int
  | 18 => .int
  | 19 => .boolean
  | 20 => .int
  | 21 => .int
  | 22 => .int
  | 23 => .int
  | 24 => .int
  | 25 => .int
  | 26 => .int
  | 27 => .array .int
  | 28 => .array .int
  | 29 => .array .int
  | 30 => .array .int
  | 31 => .array .int
  | 32 => .int
  | 33 => .int
  | 34 => .array .int
  | 35 => .array .boolean
  | 36 => .array .int
  | 37 => .array .int
  | 38 => .array .int
  | 39 => .array .int
  | 40 => .array .int
  | 41 => .array .int
  | 42 => .array .long
  | _ => .array .long
abbrev wsX90 : List Cond := u_ws RX9 TX9 44
theorem nmX9 : ∀ a, a < 44 → ∀ b, b < 44 → a ≠ b → (TX9 a).2.1 ≠ (TX9 b).2.1 := by decide +kernel
theorem tyX9_ok : ∀ k, k < 44 → parseFieldDescriptor (TX9 k).2.2.1 = some (tyX9 k) := by decide +kernel
abbrev cX9_init : ByteArray := prog_11_method_1_code
def yX9_init : MethodName := ⟨RX9, "<init>", "()V"⟩
abbrev cX9_fails : ByteArray := prog_11_method_3_code
def yX9_fails : MethodName := ⟨RX9, "fails", "(I)I"⟩
abbrev cX9_lost : ByteArray := prog_11_method_4_code
def yX9_lost : MethodName := ⟨RX9, "lost", "(I)J"⟩
abbrev cX9_within : ByteArray := prog_11_method_5_code
def yX9_within : MethodName := ⟨RX9, "within", "(III)Z"⟩
abbrev cX9_share : ByteArray := prog_11_method_6_code
def yX9_share : MethodName := ⟨RX9, "share", "(JJI)J"⟩
abbrev cX9_bits : ByteArray := prog_11_method_7_code
def yX9_bits : MethodName := ⟨RX9, "bits", "(I)I"⟩
abbrev cX9_isSheet : ByteArray := prog_11_method_8_code
def yX9_isSheet : MethodName := ⟨RX9, "isSheet", "(I)Z"⟩
abbrev cX9_isSort : ByteArray := prog_11_method_9_code
def yX9_isSort : MethodName := ⟨RX9, "isSort", "(I)Z"⟩
abbrev cX9_against : ByteArray := prog_11_method_10_code
def yX9_against : MethodName := ⟨RX9, "against", "(IIII)I"⟩
abbrev cX9_isTown : ByteArray := prog_11_method_11_code
def yX9_isTown : MethodName := ⟨RX9, "isTown", "()Z"⟩
abbrev cX9_isOne : ByteArray := prog_11_method_12_code
def yX9_isOne : MethodName := ⟨RX9, "isOne", "(I)Z"⟩
abbrev cX9_isMatter : ByteArray := prog_11_method_13_code
def yX9_isMatter : MethodName := ⟨RX9, "isMatter", "(I)Z"⟩
abbrev cX9_isCode : ByteArray := prog_11_method_14_code
def yX9_isCode : MethodName := ⟨RX9, "isCode", "(II)Z"⟩
abbrev cX9_town : ByteArray := prog_11_method_15_code
def yX9_town : MethodName := ⟨RX9, "town", "(IIII)I"⟩
abbrev cX9_readTown : ByteArray := prog_11_method_16_code
def yX9_readTown : MethodName := ⟨RX9, "readTown", "(I)Z"⟩
abbrev cX9_readOne : ByteArray := prog_11_method_17_code
def yX9_readOne : MethodName := ⟨RX9, "readOne", "(I)Z"⟩
abbrev cX9_ofOne : ByteArray := prog_11_method_18_code
def yX9_ofOne : MethodName := ⟨RX9, "ofOne", "(II)I"⟩
abbrev cX9_wish : ByteArray := prog_11_method_19_code
def yX9_wish : MethodName := ⟨RX9, "wish", "(IIZ)I"⟩
abbrev cX9_measure : ByteArray := prog_11_method_20_code
def yX9_measure : MethodName := ⟨RX9, "measure", "(I)I"⟩
abbrev cX9_law : ByteArray := prog_11_method_21_code
def yX9_law : MethodName := ⟨RX9, "law", "(I)I"⟩
abbrev cX9_agenda : ByteArray := prog_11_method_22_code
def yX9_agenda : MethodName := ⟨RX9, "agenda", "(IIII)I"⟩
abbrev cX9_everyone : ByteArray := prog_11_method_23_code
def yX9_everyone : MethodName := ⟨RX9, "everyone", "()I"⟩
abbrev cX9_layHall : ByteArray := prog_11_method_24_code
def yX9_layHall : MethodName := ⟨RX9, "layHall", "()V"⟩
abbrev cX9_says : ByteArray := prog_11_method_25_code
def yX9_says : MethodName := ⟨RX9, "says", "(IIII)Z"⟩
abbrev cX9_poll : ByteArray := prog_11_method_26_code
def yX9_poll : MethodName := ⟨RX9, "poll", "(III)V"⟩
abbrev cX9_passBy : ByteArray := prog_11_method_27_code
def yX9_passBy : MethodName := ⟨RX9, "passBy", "()V"⟩
abbrev cX9_seatAnew : ByteArray := prog_11_method_28_code
def yX9_seatAnew : MethodName := ⟨RX9, "seatAnew", "()V"⟩
abbrev cX9_seatWinners : ByteArray := prog_11_method_29_code
def yX9_seatWinners : MethodName := ⟨RX9, "seatWinners", "()V"⟩
abbrev cX9_seatRound : ByteArray := prog_11_method_30_code
def yX9_seatRound : MethodName := ⟨RX9, "seatRound", "()V"⟩
abbrev cX9_goOn : ByteArray := prog_11_method_31_code
def yX9_goOn : MethodName := ⟨RX9, "goOn", "(III)V"⟩
abbrev cX9_goRun : ByteArray := prog_11_method_32_code
def yX9_goRun : MethodName := ⟨RX9, "goRun", "([II)V"⟩
abbrev cX9_goFirst : ByteArray := prog_11_method_33_code
def yX9_goFirst : MethodName := ⟨RX9, "goFirst", "()V"⟩
abbrev cX9_vote : ByteArray := prog_11_method_34_code
def yX9_vote : MethodName := ⟨RX9, "vote", "(II)I"⟩
abbrev cX9_placeOf : ByteArray := prog_11_method_35_code
def yX9_placeOf : MethodName := ⟨RX9, "placeOf", "(I)I"⟩
abbrev cX9_decided : ByteArray := prog_11_method_36_code
def yX9_decided : MethodName := ⟨RX9, "decided", "(I)I"⟩
abbrev cX9_sits : ByteArray := prog_11_method_37_code
def yX9_sits : MethodName := ⟨RX9, "sits", "()I"⟩
abbrev cX9_stateNow : ByteArray := prog_11_method_38_code
def yX9_stateNow : MethodName := ⟨RX9, "stateNow", "()I"⟩
abbrev cX9_findRing : ByteArray := prog_11_method_39_code
def yX9_findRing : MethodName := ⟨RX9, "findRing", "()V"⟩
abbrev cX9_ever : ByteArray := prog_11_method_40_code
def yX9_ever : MethodName := ⟨RX9, "ever", "(I)I"⟩
abbrev cX9_often : ByteArray := prog_11_method_41_code
def yX9_often : MethodName := ⟨RX9, "often", "(I)I"⟩
abbrev cX9_spread : ByteArray := prog_11_method_42_code
def yX9_spread : MethodName := ⟨RX9, "spread", "(II)I"⟩
abbrev cX9_lies : ByteArray := prog_11_method_43_code
def yX9_lies : MethodName := ⟨RX9, "lies", "(III)I"⟩
abbrev cX9_keepAhead : ByteArray := prog_11_method_44_code
def yX9_keepAhead : MethodName := ⟨RX9, "keepAhead", "(II)V"⟩
abbrev cX9_findSway : ByteArray := prog_11_method_45_code
def yX9_findSway : MethodName := ⟨RX9, "findSway", "(II)I"⟩
abbrev cX9_sway : ByteArray := prog_11_method_46_code
def yX9_sway : MethodName := ⟨RX9, "sway", "(II)I"⟩
abbrev cX9_firstRow : ByteArray := prog_11_method_47_code
def yX9_firstRow : MethodName := ⟨RX9, "firstRow", "()V"⟩
abbrev cX9_exchange : ByteArray := prog_11_method_48_code
def yX9_exchange : MethodName := ⟨RX9, "exchange", "(II)V"⟩
abbrev cX9_nextRow : ByteArray := prog_11_method_49_code
def yX9_nextRow : MethodName := ⟨RX9, "nextRow", "()Z"⟩
abbrev cX9_outcomeInOrder : ByteArray := prog_11_method_50_code
def yX9_outcomeInOrder : MethodName := ⟨RX9, "outcomeInOrder", "(I)I"⟩
abbrev cX9_orders : ByteArray := prog_11_method_51_code
def yX9_orders : MethodName := ⟨RX9, "orders", "(II)I"⟩
abbrev cX9_key : ByteArray := prog_11_method_52_code
def yX9_key : MethodName := ⟨RX9, "key", "(I)I"⟩
abbrev cX9_choose : ByteArray := prog_11_method_53_code
def yX9_choose : MethodName := ⟨RX9, "choose", "(II)J"⟩
abbrev cX9_allWays : ByteArray := prog_11_method_54_code
def yX9_allWays : MethodName := ⟨RX9, "allWays", "()J"⟩
abbrev cX9_leastCommon : ByteArray := prog_11_method_55_code
def yX9_leastCommon : MethodName := ⟨RX9, "leastCommon", "(JJ)J"⟩
abbrev cX9_clearNext : ByteArray := prog_11_method_56_code
def yX9_clearNext : MethodName := ⟨RX9, "clearNext", "()V"⟩
abbrev cX9_drawSeats : ByteArray := prog_11_method_57_code
def yX9_drawSeats : MethodName := ⟨RX9, "drawSeats", "(JJ)V"⟩
abbrev cX9_goLot : ByteArray := prog_11_method_58_code
def yX9_goLot : MethodName := ⟨RX9, "goLot", "(IJ)V"⟩
abbrev cX9_lot : ByteArray := prog_11_method_59_code
def yX9_lot : MethodName := ⟨RX9, "lot", "(I)J"⟩
abbrev cX9_fits : ByteArray := prog_11_method_60_code
def yX9_fits : MethodName := ⟨RX9, "fits", "(III)I"⟩
abbrev cX9_isOnceShut : ByteArray := prog_11_method_61_code
def yX9_isOnceShut : MethodName := ⟨RX9, "isOnceShut", "()Z"⟩
abbrev cX9_safe : ByteArray := prog_11_method_62_code
def yX9_safe : MethodName := ⟨RX9, "safe", "()I"⟩
abbrev cX9_sheet : ByteArray := prog_11_method_63_code
def yX9_sheet : MethodName := ⟨RX9, "sheet", "(III)I"⟩
abbrev cX9_lose : ByteArray := prog_11_method_64_code
def yX9_lose : MethodName := ⟨RX9, "lose", "(I)I"⟩
abbrev cX9_put : ByteArray := prog_11_method_65_code
def yX9_put : MethodName := ⟨RX9, "put", "(III)I"⟩
abbrev cX9_cell : ByteArray := prog_11_method_66_code
def yX9_cell : MethodName := ⟨RX9, "cell", "(III)J"⟩
abbrev cX9_copy : ByteArray := prog_11_method_67_code
def yX9_copy : MethodName := ⟨RX9, "copy", "(IIIII)I"⟩
abbrev cX9_begins : ByteArray := prog_11_method_68_code
def yX9_begins : MethodName := ⟨RX9, "begins", "(I)V"⟩
abbrev cX9_tell : ByteArray := prog_11_method_69_code
def yX9_tell : MethodName := ⟨RX9, "tell", "(I)I"⟩
abbrev cX9_swear : ByteArray := prog_11_method_70_code
def yX9_swear : MethodName := ⟨RX9, "swear", "(I)I"⟩
abbrev cX9_as : ByteArray := prog_11_method_71_code
def yX9_as : MethodName := ⟨RX9, "as", "(II)I"⟩
abbrev cX9_trace : ByteArray := prog_11_method_72_code
def yX9_trace : MethodName := ⟨RX9, "trace", "()I"⟩
abbrev cX9_fault : ByteArray := prog_11_method_73_code
def yX9_fault : MethodName := ⟨RX9, "fault", "()I"⟩
abbrev cX9_many : ByteArray := prog_11_method_74_code
def yX9_many : MethodName := ⟨RX9, "many", "(I)I"⟩
def RJ6 : String := "java/lang/Integer"
def TJ6 : u_T := fun k => match k with
  | _ => ("", "", "", false)
def tyJ6 : Nat → FieldType := fun k => match k with
  | _ => .int
abbrev wsJ60 : List Cond := u_ws RJ6 TJ6 0
theorem nmJ6 : ∀ a, a < 0 → ∀ b, b < 0 → a ≠ b → (TJ6 a).2.1 ≠ (TJ6 b).2.1 := by decide +kernel
theorem tyJ6_ok : ∀ k, k < 0 → parseFieldDescriptor (TJ6 k).2.2.1 = some (tyJ6 k) := by decide +kernel
abbrev cJ6_bitCount_0f7a4 : ByteArray := prog_12_method_49_code
def yJ6_bitCount_0f7a4 : MethodName := ⟨RJ6, "bitCount", "(I)I"⟩
def RJ9 : String := "java/lang/Math"
def TJ9 : u_T := fun k => match k with
  | _ => ("", "", "", false)
def tyJ9 : Nat → FieldType := fun k => match k with
  | _ => .int
abbrev wsJ90 : List Cond := u_ws RJ9 TJ9 0
theorem nmJ9 : ∀ a, a < 0 → ∀ b, b < 0 → a ≠ b → (TJ9 a).2.1 ≠ (TJ9 b).2.1 := by decide +kernel
theorem tyJ9_ok : ∀ k, k < 0 → parseFieldDescriptor (TJ9 k).2.2.1 = some (tyJ9 k) := by decide +kernel
abbrev cJ9_max_7cf53 : ByteArray := prog_13_method_65_code
def yJ9_max_7cf53 : MethodName := ⟨RJ9, "max", "(II)I"⟩
abbrev cJ9_min_7cf53 : ByteArray := prog_13_method_69_code
def yJ9_min_7cf53 : MethodName := ⟨RJ9, "min", "(II)I"⟩
def RJ10 : String := "java/lang/System"
def TJ10 : u_T := fun k => match k with
  | _ => ("", "", "", false)
def tyJ10 : Nat → FieldType := fun k => match k with
  | _ => .int
abbrev wsJ100 : List Cond := u_ws RJ10 TJ10 0
theorem nmJ10 : ∀ a, a < 0 → ∀ b, b < 0 → a ≠ b → (TJ10 a).2.1 ≠ (TJ10 b).2.1 := by decide +kernel
theorem tyJ10_ok : ∀ k, k < 0 → parseFieldDescriptor (TJ10 k).2.2.1 = some (tyJ10 k) := by decide +kernel
def RJ7 : String := "java/util/Arrays"
def TJ7 : u_T := fun k => match k with
  | _ => ("", "", "", false)
def tyJ7 : Nat → FieldType := fun k => match k with
  | _ => .int
abbrev wsJ70 : List Cond := u_ws RJ7 TJ7 0
theorem nmJ7 : ∀ a, a < 0 → ∀ b, b < 0 → a ≠ b → (TJ7 a).2.1 ≠ (TJ7 b).2.1 := by decide +kernel
theorem tyJ7_ok : ∀ k, k < 0 → parseFieldDescriptor (TJ7 k).2.2.1 = some (tyJ7 k) := by decide +kernel
abbrev cJ7_fill_d0a16 : ByteArray := prog_15_method_101_code
def yJ7_fill_d0a16 : MethodName := ⟨RJ7, "fill", "([JJ)V"⟩
abbrev cJ7_fill_53178 : ByteArray := prog_15_method_103_code
def yJ7_fill_53178 : MethodName := ⟨RJ7, "fill", "([II)V"⟩
def RL : String := "WonBySeatsLaw"
abbrev cL_law : ByteArray := code
def yL_law : MethodName := ⟨RL, "law", "([I)Z"⟩
theorem inX0 : ∀ w ∈ wsX00, w ∈ lw_tbl := by decide +kernel
theorem inX1 : ∀ w ∈ wsX10, w ∈ lw_tbl := by decide +kernel
theorem inX2 : ∀ w ∈ wsX20, w ∈ lw_tbl := by decide +kernel
theorem inX3 : ∀ w ∈ wsX30, w ∈ lw_tbl := by decide +kernel
theorem inX4 : ∀ w ∈ wsX40, w ∈ lw_tbl := by decide +kernel
theorem inX5 : ∀ w ∈ wsX50, w ∈ lw_tbl := by decide +kernel
theorem inX6 : ∀ w ∈ wsX60, w ∈ lw_tbl := by decide +kernel
theorem inX7 : ∀ w ∈ wsX70, w ∈ lw_tbl := by decide +kernel
theorem inX8 : ∀ w ∈ wsX80, w ∈ lw_tbl := by decide +kernel
theorem inX9 : ∀ w ∈ wsX90, w ∈ lw_tbl := by decide +kernel
abbrev vwCl : List vw_C := [(RX0, TX0, 7), (RX1, TX1, 6), (RX2, TX2, 6), (RX3, TX3, 7), (RX4, TX4, 5), (RX5, TX5, 6), (RX6, TX6, 3), (RX7, TX7, 10), (RX8, TX8, 10), (RX9, TX9, 44)]
end
section
theorem dX0_init_0 : decode cX0_init 0 = .ok (.aload_n 0, 1) := by decide +kernel
theorem dX0_init_1 : decode cX0_init 1 = .ok (.invokespecial 3, 3) := by decide +kernel
theorem dX0_init_4 : decode cX0_init 4 = .ok (.aload_n 0, 1) := by decide +kernel
theorem dX0_init_5 : decode cX0_init 5 = .ok (.bipush 6, 2) := by decide +kernel
theorem dX0_init_7 : decode cX0_init 7 = .ok (.newarray .int, 2) := by decide +kernel
theorem dX0_init_9 : decode cX0_init 9 = .ok (.putfield 9, 3) := by decide +kernel
theorem dX0_init_12 : decode cX0_init 12 = .ok (.aload_n 0, 1) := by decide +kernel
theorem dX0_init_13 : decode cX0_init 13 = .ok (.bipush 6, 2) := by decide +kernel
theorem dX0_init_15 : decode cX0_init 15 = .ok (.newarray .int, 2) := by decide +kernel
theorem dX0_init_17 : decode cX0_init 17 = .ok (.putfield 15, 3) := by decide +kernel
theorem dX0_init_20 : decode cX0_init 20 = .ok (.aload_n 0, 1) := by decide +kernel
theorem dX0_init_21 : decode cX0_init 21 = .ok (.bipush 6, 2) := by decide +kernel
theorem dX0_init_23 : decode cX0_init 23 = .ok (.newarray .int, 2) := by decide +kernel
theorem dX0_init_25 : decode cX0_init 25 = .ok (.putfield 18, 3) := by decide +kernel
theorem dX0_init_28 : decode cX0_init 28 = .ok (.aload_n 0, 1) := by decide +kernel
theorem dX0_init_29 : decode cX0_init 29 = .ok (.bipush 6, 2) := by decide +kernel
theorem dX0_init_31 : decode cX0_init 31 = .ok (.newarray .int, 2) := by decide +kernel
theorem dX0_init_33 : decode cX0_init 33 = .ok (.putfield 21, 3) := by decide +kernel
theorem dX0_init_36 : decode cX0_init 36 = .ok (.aload_n 0, 1) := by decide +kernel
theorem dX0_init_37 : decode cX0_init 37 = .ok (.bipush 6, 2) := by decide +kernel
theorem dX0_init_39 : decode cX0_init 39 = .ok (.newarray .int, 2) := by decide +kernel
theorem dX0_init_41 : decode cX0_init 41 = .ok (.putfield 24, 3) := by decide +kernel
theorem dX0_init_44 : decode cX0_init 44 = .ok (.aload_n 0, 1) := by decide +kernel
theorem dX0_init_45 : decode cX0_init 45 = .ok (.aload_n 1, 1) := by decide +kernel
theorem dX0_init_46 : decode cX0_init 46 = .ok (.putfield 27, 3) := by decide +kernel
theorem dX0_init_49 : decode cX0_init 49 = .ok (.aload_n 0, 1) := by decide +kernel
theorem dX0_init_50 : decode cX0_init 50 = .ok (.aload_n 2, 1) := by decide +kernel
theorem dX0_init_51 : decode cX0_init 51 = .ok (.putfield 31, 3) := by decide +kernel
theorem dX0_init_54 : decode cX0_init 54 = .ok (.return_, 1) := by decide +kernel
theorem dX0_go_0 : decode cX0_go 0 = .ok (.iload_n 1, 1) := by decide +kernel
theorem dX0_go_1 : decode cX0_go 1 = .ok (.istore_n 3, 1) := by decide +kernel
theorem dX0_go_2 : decode cX0_go 2 = .ok (.iconst 0, 1) := by decide +kernel
theorem dX0_go_3 : decode cX0_go 3 = .ok (.istore 4, 2) := by decide +kernel
theorem dX0_go_5 : decode cX0_go 5 = .ok (.iload 4, 2) := by decide +kernel
theorem dX0_go_7 : decode cX0_go 7 = .ok (.aload_n 0, 1) := by decide +kernel
theorem dX0_go_8 : decode cX0_go 8 = .ok (.getfield 27, 3) := by decide +kernel
theorem dX0_go_11 : decode cX0_go 11 = .ok (.getfield 35, 3) := by decide +kernel
theorem dX0_go_14 : decode cX0_go 14 = .ok (.if_icmp .ge 92, 3) := by decide +kernel
theorem dX0_go_17 : decode cX0_go 17 = .ok (.aload_n 0, 1) := by decide +kernel
theorem dX0_go_18 : decode cX0_go 18 = .ok (.getfield 9, 3) := by decide +kernel
theorem dX0_go_21 : decode cX0_go 21 = .ok (.iload 4, 2) := by decide +kernel
theorem dX0_go_23 : decode cX0_go 23 = .ok (.iload_n 3, 1) := by decide +kernel
theorem dX0_go_24 : decode cX0_go 24 = .ok (.invokestatic 41, 3) := by decide +kernel
theorem dX0_go_27 : decode cX0_go 27 = .ok (.iastore, 1) := by decide +kernel
theorem dX0_go_28 : decode cX0_go 28 = .ok (.aload_n 0, 1) := by decide +kernel
theorem dX0_go_29 : decode cX0_go 29 = .ok (.getfield 31, 3) := by decide +kernel
theorem dX0_go_32 : decode cX0_go 32 = .ok (.iload_n 3, 1) := by decide +kernel
theorem dX0_go_33 : decode cX0_go 33 = .ok (.aload_n 0, 1) := by decide +kernel
theorem dX0_go_34 : decode cX0_go 34 = .ok (.getfield 27, 3) := by decide +kernel
theorem dX0_go_37 : decode cX0_go 37 = .ok (.getfield 47, 3) := by decide +kernel
theorem dX0_go_40 : decode cX0_go 40 = .ok (.aload_n 0, 1) := by decide +kernel
theorem dX0_go_41 : decode cX0_go 41 = .ok (.getfield 27, 3) := by decide +kernel
theorem dX0_go_44 : decode cX0_go 44 = .ok (.getfield 50, 3) := by decide +kernel
theorem dX0_go_47 : decode cX0_go 47 = .ok (.iload 4, 2) := by decide +kernel
theorem dX0_go_49 : decode cX0_go 49 = .ok (.iaload, 1) := by decide +kernel
theorem dX0_go_50 : decode cX0_go 50 = .ok (.iaload, 1) := by decide +kernel
theorem dX0_go_51 : decode cX0_go 51 = .ok (.iload_n 2, 1) := by decide +kernel
theorem dX0_go_52 : decode cX0_go 52 = .ok (.ixor, 1) := by decide +kernel
theorem dX0_go_53 : decode cX0_go 53 = .ok (.iconst 0, 1) := by decide +kernel
theorem dX0_go_54 : decode cX0_go 54 = .ok (.invokevirtual 53, 3) := by decide +kernel
theorem dX0_go_57 : decode cX0_go 57 = .ok (.istore_n 3, 1) := by decide +kernel
theorem dX0_go_58 : decode cX0_go 58 = .ok (.aload_n 0, 1) := by decide +kernel
theorem dX0_go_59 : decode cX0_go 59 = .ok (.getfield 15, 3) := by decide +kernel
theorem dX0_go_62 : decode cX0_go 62 = .ok (.iload 4, 2) := by decide +kernel
theorem dX0_go_64 : decode cX0_go 64 = .ok (.aload_n 0, 1) := by decide +kernel
theorem dX0_go_65 : decode cX0_go 65 = .ok (.getfield 31, 3) := by decide +kernel
theorem dX0_go_68 : decode cX0_go 68 = .ok (.getfield 57, 3) := by decide +kernel
theorem dX0_go_71 : decode cX0_go 71 = .ok (.iastore, 1) := by decide +kernel
theorem dX0_go_72 : decode cX0_go 72 = .ok (.aload_n 0, 1) := by decide +kernel
theorem dX0_go_73 : decode cX0_go 73 = .ok (.getfield 18, 3) := by decide +kernel
theorem dX0_go_76 : decode cX0_go 76 = .ok (.iload 4, 2) := by decide +kernel
theorem dX0_go_78 : decode cX0_go 78 = .ok (.aload_n 0, 1) := by decide +kernel
theorem dX0_go_79 : decode cX0_go 79 = .ok (.getfield 31, 3) := by decide +kernel
theorem dX0_go_82 : decode cX0_go 82 = .ok (.getfield 59, 3) := by decide +kernel
theorem dX0_go_85 : decode cX0_go 85 = .ok (.iastore, 1) := by decide +kernel
theorem dX0_go_86 : decode cX0_go 86 = .ok (.aload_n 0, 1) := by decide +kernel
theorem dX0_go_87 : decode cX0_go 87 = .ok (.getfield 21, 3) := by decide +kernel
theorem dX0_go_90 : decode cX0_go 90 = .ok (.iload 4, 2) := by decide +kernel
theorem dX0_go_92 : decode cX0_go 92 = .ok (.aload_n 0, 1) := by decide +kernel
theorem dX0_go_93 : decode cX0_go 93 = .ok (.getfield 31, 3) := by decide +kernel
theorem dX0_go_96 : decode cX0_go 96 = .ok (.getfield 61, 3) := by decide +kernel
theorem dX0_go_99 : decode cX0_go 99 = .ok (.iastore, 1) := by decide +kernel
theorem dX0_go_100 : decode cX0_go 100 = .ok (.iinc 4 1, 3) := by decide +kernel
theorem dX0_go_103 : decode cX0_go 103 = .ok (.goto (-98), 3) := by decide +kernel
theorem dX0_go_106 : decode cX0_go 106 = .ok (.iload_n 3, 1) := by decide +kernel
theorem dX0_go_107 : decode cX0_go 107 = .ok (.ireturn, 1) := by decide +kernel
theorem dX0_keepOutcome_0 : decode cX0_keepOutcome 0 = .ok (.aload_n 0, 1) := by decide +kernel
theorem dX0_keepOutcome_1 : decode cX0_keepOutcome 1 = .ok (.getfield 18, 3) := by decide +kernel
theorem dX0_keepOutcome_4 : decode cX0_keepOutcome 4 = .ok (.iconst 0, 1) := by decide +kernel
theorem dX0_keepOutcome_5 : decode cX0_keepOutcome 5 = .ok (.aload_n 0, 1) := by decide +kernel
theorem dX0_keepOutcome_6 : decode cX0_keepOutcome 6 = .ok (.getfield 24, 3) := by decide +kernel
theorem dX0_keepOutcome_9 : decode cX0_keepOutcome 9 = .ok (.iconst 0, 1) := by decide +kernel
theorem dX0_keepOutcome_10 : decode cX0_keepOutcome 10 = .ok (.bipush 6, 2) := by decide +kernel
theorem dX0_keepOutcome_12 : decode cX0_keepOutcome 12 = .ok (.invokestatic 63, 3) := by decide +kernel
theorem dX0_keepOutcome_15 : decode cX0_keepOutcome 15 = .ok (.return_, 1) := by decide +kernel
theorem dX0_countChanged_0 : decode cX0_countChanged 0 = .ok (.iconst 0, 1) := by decide +kernel
theorem dX0_countChanged_1 : decode cX0_countChanged 1 = .ok (.istore_n 1, 1) := by decide +kernel
theorem dX0_countChanged_2 : decode cX0_countChanged 2 = .ok (.iconst 0, 1) := by decide +kernel
theorem dX0_countChanged_3 : decode cX0_countChanged 3 = .ok (.istore_n 2, 1) := by decide +kernel
theorem dX0_countChanged_4 : decode cX0_countChanged 4 = .ok (.iload_n 2, 1) := by decide +kernel
theorem dX0_countChanged_5 : decode cX0_countChanged 5 = .ok (.aload_n 0, 1) := by decide +kernel
theorem dX0_countChanged_6 : decode cX0_countChanged 6 = .ok (.getfield 27, 3) := by decide +kernel
theorem dX0_countChanged_9 : decode cX0_countChanged 9 = .ok (.getfield 35, 3) := by decide +kernel
theorem dX0_countChanged_12 : decode cX0_countChanged 12 = .ok (.if_icmp .ge 27, 3) := by decide +kernel
theorem dX0_countChanged_15 : decode cX0_countChanged 15 = .ok (.aload_n 0, 1) := by decide +kernel
theorem dX0_countChanged_16 : decode cX0_countChanged 16 = .ok (.getfield 18, 3) := by decide +kernel
theorem dX0_countChanged_19 : decode cX0_countChanged 19 = .ok (.iload_n 2, 1) := by decide +kernel
theorem dX0_countChanged_20 : decode cX0_countChanged 20 = .ok (.iaload, 1) := by decide +kernel
theorem dX0_countChanged_21 : decode cX0_countChanged 21 = .ok (.aload_n 0, 1) := by decide +kernel
theorem dX0_countChanged_22 : decode cX0_countChanged 22 = .ok (.getfield 24, 3) := by decide +kernel
theorem dX0_countChanged_25 : decode cX0_countChanged 25 = .ok (.iload_n 2, 1) := by decide +kernel
theorem dX0_countChanged_26 : decode cX0_countChanged 26 = .ok (.iaload, 1) := by decide +kernel
theorem dX0_countChanged_27 : decode cX0_countChanged 27 = .ok (.if_icmp .eq 6, 3) := by decide +kernel
theorem dX0_countChanged_30 : decode cX0_countChanged 30 = .ok (.iinc 1 1, 3) := by decide +kernel
theorem dX0_countChanged_33 : decode cX0_countChanged 33 = .ok (.iinc 2 1, 3) := by decide +kernel
theorem dX0_countChanged_36 : decode cX0_countChanged 36 = .ok (.goto (-32), 3) := by decide +kernel
theorem dX0_countChanged_39 : decode cX0_countChanged 39 = .ok (.iload_n 1, 1) := by decide +kernel
theorem dX0_countChanged_40 : decode cX0_countChanged 40 = .ok (.ireturn, 1) := by decide +kernel
theorem dX0_hasSeatsAsIn_0 : decode cX0_hasSeatsAsIn 0 = .ok (.iconst 0, 1) := by decide +kernel
theorem dX0_hasSeatsAsIn_1 : decode cX0_hasSeatsAsIn 1 = .ok (.istore_n 3, 1) := by decide +kernel
theorem dX0_hasSeatsAsIn_2 : decode cX0_hasSeatsAsIn 2 = .ok (.iload_n 3, 1) := by decide +kernel
theorem dX0_hasSeatsAsIn_3 : decode cX0_hasSeatsAsIn 3 = .ok (.aload_n 0, 1) := by decide +kernel
theorem dX0_hasSeatsAsIn_4 : decode cX0_hasSeatsAsIn 4 = .ok (.getfield 27, 3) := by decide +kernel
theorem dX0_hasSeatsAsIn_7 : decode cX0_hasSeatsAsIn 7 = .ok (.getfield 35, 3) := by decide +kernel
theorem dX0_hasSeatsAsIn_10 : decode cX0_hasSeatsAsIn 10 = .ok (.if_icmp .ge 27, 3) := by decide +kernel
theorem dX0_hasSeatsAsIn_13 : decode cX0_hasSeatsAsIn 13 = .ok (.aload_n 0, 1) := by decide +kernel
theorem dX0_hasSeatsAsIn_14 : decode cX0_hasSeatsAsIn 14 = .ok (.getfield 21, 3) := by decide +kernel
theorem dX0_hasSeatsAsIn_17 : decode cX0_hasSeatsAsIn 17 = .ok (.iload_n 3, 1) := by decide +kernel
theorem dX0_hasSeatsAsIn_18 : decode cX0_hasSeatsAsIn 18 = .ok (.iaload, 1) := by decide +kernel
theorem dX0_hasSeatsAsIn_19 : decode cX0_hasSeatsAsIn 19 = .ok (.aload_n 1, 1) := by decide +kernel
theorem dX0_hasSeatsAsIn_20 : decode cX0_hasSeatsAsIn 20 = .ok (.iload_n 2, 1) := by decide +kernel
theorem dX0_hasSeatsAsIn_21 : decode cX0_hasSeatsAsIn 21 = .ok (.iload_n 3, 1) := by decide +kernel
theorem dX0_hasSeatsAsIn_22 : decode cX0_hasSeatsAsIn 22 = .ok (.iadd, 1) := by decide +kernel
theorem dX0_hasSeatsAsIn_23 : decode cX0_hasSeatsAsIn 23 = .ok (.invokevirtual 69, 3) := by decide +kernel
theorem dX0_hasSeatsAsIn_26 : decode cX0_hasSeatsAsIn 26 = .ok (.if_icmp .eq 5, 3) := by decide +kernel
theorem dX0_hasSeatsAsIn_29 : decode cX0_hasSeatsAsIn 29 = .ok (.iconst 0, 1) := by decide +kernel
theorem dX0_hasSeatsAsIn_30 : decode cX0_hasSeatsAsIn 30 = .ok (.ireturn, 1) := by decide +kernel
theorem dX0_hasSeatsAsIn_31 : decode cX0_hasSeatsAsIn 31 = .ok (.iinc 3 1, 3) := by decide +kernel
theorem dX0_hasSeatsAsIn_34 : decode cX0_hasSeatsAsIn 34 = .ok (.goto (-32), 3) := by decide +kernel
theorem dX0_hasSeatsAsIn_37 : decode cX0_hasSeatsAsIn 37 = .ok (.iconst 1, 1) := by decide +kernel
theorem dX0_hasSeatsAsIn_38 : decode cX0_hasSeatsAsIn 38 = .ok (.ireturn, 1) := by decide +kernel
theorem dX1_init_0 : decode cX1_init 0 = .ok (.aload_n 0, 1) := by decide +kernel
theorem dX1_init_1 : decode cX1_init 1 = .ok (.invokespecial 3, 3) := by decide +kernel
theorem dX1_init_4 : decode cX1_init 4 = .ok (.aload_n 0, 1) := by decide +kernel
theorem dX1_init_5 : decode cX1_init 5 = .ok (.sipush 256, 3) := by decide +kernel
theorem dX1_init_8 : decode cX1_init 8 = .ok (.newarray .int, 2) := by decide +kernel
theorem dX1_init_10 : decode cX1_init 10 = .ok (.putfield 9, 3) := by decide +kernel
theorem dX1_init_13 : decode cX1_init 13 = .ok (.aload_n 0, 1) := by decide +kernel
theorem dX1_init_14 : decode cX1_init 14 = .ok (.sipush 256, 3) := by decide +kernel
theorem dX1_init_17 : decode cX1_init 17 = .ok (.newarray .int, 2) := by decide +kernel
theorem dX1_init_19 : decode cX1_init 19 = .ok (.putfield 15, 3) := by decide +kernel
theorem dX1_init_22 : decode cX1_init 22 = .ok (.aload_n 0, 1) := by decide +kernel
theorem dX1_init_23 : decode cX1_init 23 = .ok (.sipush 256, 3) := by decide +kernel
theorem dX1_init_26 : decode cX1_init 26 = .ok (.newarray .int, 2) := by decide +kernel
theorem dX1_init_28 : decode cX1_init 28 = .ok (.putfield 18, 3) := by decide +kernel
theorem dX1_init_31 : decode cX1_init 31 = .ok (.aload_n 0, 1) := by decide +kernel
theorem dX1_init_32 : decode cX1_init 32 = .ok (.sipush 256, 3) := by decide +kernel
theorem dX1_init_35 : decode cX1_init 35 = .ok (.newarray .int, 2) := by decide +kernel
theorem dX1_init_37 : decode cX1_init 37 = .ok (.putfield 21, 3) := by decide +kernel
theorem dX1_init_40 : decode cX1_init 40 = .ok (.aload_n 0, 1) := by decide +kernel
theorem dX1_init_41 : decode cX1_init 41 = .ok (.aload_n 1, 1) := by decide +kernel
theorem dX1_init_42 : decode cX1_init 42 = .ok (.putfield 24, 3) := by decide +kernel
theorem dX1_init_45 : decode cX1_init 45 = .ok (.aload_n 0, 1) := by decide +kernel
theorem dX1_init_46 : decode cX1_init 46 = .ok (.aload_n 2, 1) := by decide +kernel
theorem dX1_init_47 : decode cX1_init 47 = .ok (.putfield 28, 3) := by decide +kernel
theorem dX1_init_50 : decode cX1_init 50 = .ok (.return_, 1) := by decide +kernel
theorem dX1_fewestSayings_0 : decode cX1_fewestSayings 0 = .ok (.aload_n 0, 1) := by decide +kernel
theorem dX1_fewestSayings_1 : decode cX1_fewestSayings 1 = .ok (.getfield 15, 3) := by decide +kernel
theorem dX1_fewestSayings_4 : decode cX1_fewestSayings 4 = .ok (.iconst (-1), 1) := by decide +kernel
theorem dX1_fewestSayings_5 : decode cX1_fewestSayings 5 = .ok (.invokestatic 32, 3) := by decide +kernel
theorem dX1_fewestSayings_8 : decode cX1_fewestSayings 8 = .ok (.aload_n 0, 1) := by decide +kernel
theorem dX1_fewestSayings_9 : decode cX1_fewestSayings 9 = .ok (.getfield 28, 3) := by decide +kernel
theorem dX1_fewestSayings_12 : decode cX1_fewestSayings 12 = .ok (.invokevirtual 38, 3) := by decide +kernel
theorem dX1_fewestSayings_15 : decode cX1_fewestSayings 15 = .ok (.istore_n 3, 1) := by decide +kernel
theorem dX1_fewestSayings_16 : decode cX1_fewestSayings 16 = .ok (.aload_n 0, 1) := by decide +kernel
theorem dX1_fewestSayings_17 : decode cX1_fewestSayings 17 = .ok (.getfield 9, 3) := by decide +kernel
theorem dX1_fewestSayings_20 : decode cX1_fewestSayings 20 = .ok (.aload_n 0, 1) := by decide +kernel
theorem dX1_fewestSayings_21 : decode cX1_fewestSayings 21 = .ok (.getfield 28, 3) := by decide +kernel
theorem dX1_fewestSayings_24 : decode cX1_fewestSayings 24 = .ok (.iload_n 3, 1) := by decide +kernel
theorem dX1_fewestSayings_25 : decode cX1_fewestSayings 25 = .ok (.invokevirtual 44, 3) := by decide +kernel
theorem dX1_fewestSayings_28 : decode cX1_fewestSayings 28 = .ok (.iload_n 3, 1) := by decide +kernel
theorem dX1_fewestSayings_29 : decode cX1_fewestSayings 29 = .ok (.iastore, 1) := by decide +kernel
theorem dX1_fewestSayings_30 : decode cX1_fewestSayings 30 = .ok (.aload_n 0, 1) := by decide +kernel
theorem dX1_fewestSayings_31 : decode cX1_fewestSayings 31 = .ok (.getfield 15, 3) := by decide +kernel
theorem dX1_fewestSayings_34 : decode cX1_fewestSayings 34 = .ok (.aload_n 0, 1) := by decide +kernel
theorem dX1_fewestSayings_35 : decode cX1_fewestSayings 35 = .ok (.getfield 28, 3) := by decide +kernel
theorem dX1_fewestSayings_38 : decode cX1_fewestSayings 38 = .ok (.iload_n 3, 1) := by decide +kernel
theorem dX1_fewestSayings_39 : decode cX1_fewestSayings 39 = .ok (.invokevirtual 44, 3) := by decide +kernel
theorem dX1_fewestSayings_42 : decode cX1_fewestSayings 42 = .ok (.iconst 0, 1) := by decide +kernel
theorem dX1_fewestSayings_43 : decode cX1_fewestSayings 43 = .ok (.iastore, 1) := by decide +kernel
theorem dX1_fewestSayings_44 : decode cX1_fewestSayings 44 = .ok (.iconst (-1), 1) := by decide +kernel
theorem dX1_fewestSayings_45 : decode cX1_fewestSayings 45 = .ok (.istore 4, 2) := by decide +kernel
theorem dX1_fewestSayings_47 : decode cX1_fewestSayings 47 = .ok (.iconst 0, 1) := by decide +kernel
theorem dX1_fewestSayings_48 : decode cX1_fewestSayings 48 = .ok (.istore 5, 2) := by decide +kernel
theorem dX1_fewestSayings_50 : decode cX1_fewestSayings 50 = .ok (.iload 5, 2) := by decide +kernel
theorem dX1_fewestSayings_52 : decode cX1_fewestSayings 52 = .ok (.aload_n 0, 1) := by decide +kernel
theorem dX1_fewestSayings_53 : decode cX1_fewestSayings 53 = .ok (.getfield 24, 3) := by decide +kernel
theorem dX1_fewestSayings_56 : decode cX1_fewestSayings 56 = .ok (.getfield 48, 3) := by decide +kernel
theorem dX1_fewestSayings_59 : decode cX1_fewestSayings 59 = .ok (.if_icmp .ge 35, 3) := by decide +kernel
theorem dX1_fewestSayings_62 : decode cX1_fewestSayings 62 = .ok (.aload_n 0, 1) := by decide +kernel
theorem dX1_fewestSayings_63 : decode cX1_fewestSayings 63 = .ok (.aload_n 0, 1) := by decide +kernel
theorem dX1_fewestSayings_64 : decode cX1_fewestSayings 64 = .ok (.getfield 24, 3) := by decide +kernel
theorem dX1_fewestSayings_67 : decode cX1_fewestSayings 67 = .ok (.getfield 54, 3) := by decide +kernel
theorem dX1_fewestSayings_70 : decode cX1_fewestSayings 70 = .ok (.aload_n 0, 1) := by decide +kernel
theorem dX1_fewestSayings_71 : decode cX1_fewestSayings 71 = .ok (.getfield 24, 3) := by decide +kernel
theorem dX1_fewestSayings_74 : decode cX1_fewestSayings 74 = .ok (.getfield 57, 3) := by decide +kernel
theorem dX1_fewestSayings_77 : decode cX1_fewestSayings 77 = .ok (.iload 5, 2) := by decide +kernel
theorem dX1_fewestSayings_79 : decode cX1_fewestSayings 79 = .ok (.iaload, 1) := by decide +kernel
theorem dX1_fewestSayings_80 : decode cX1_fewestSayings 80 = .ok (.iaload, 1) := by decide +kernel
theorem dX1_fewestSayings_81 : decode cX1_fewestSayings 81 = .ok (.iload_n 1, 1) := by decide +kernel
theorem dX1_fewestSayings_82 : decode cX1_fewestSayings 82 = .ok (.iload_n 2, 1) := by decide +kernel
theorem dX1_fewestSayings_83 : decode cX1_fewestSayings 83 = .ok (.invokevirtual 60, 3) := by decide +kernel
theorem dX1_fewestSayings_86 : decode cX1_fewestSayings 86 = .ok (.istore 4, 2) := by decide +kernel
theorem dX1_fewestSayings_88 : decode cX1_fewestSayings 88 = .ok (.iinc 5 1, 3) := by decide +kernel
theorem dX1_fewestSayings_91 : decode cX1_fewestSayings 91 = .ok (.goto (-41), 3) := by decide +kernel
theorem dX1_fewestSayings_94 : decode cX1_fewestSayings 94 = .ok (.iload 4, 2) := by decide +kernel
theorem dX1_fewestSayings_96 : decode cX1_fewestSayings 96 = .ok (.iconst (-1), 1) := by decide +kernel
theorem dX1_fewestSayings_97 : decode cX1_fewestSayings 97 = .ok (.if_icmp .ne 8, 3) := by decide +kernel
theorem dX1_fewestSayings_100 : decode cX1_fewestSayings 100 = .ok (.bipush (-9), 2) := by decide +kernel
theorem dX1_fewestSayings_102 : decode cX1_fewestSayings 102 = .ok (.goto 5, 3) := by decide +kernel
theorem dX1_fewestSayings_105 : decode cX1_fewestSayings 105 = .ok (.iload 4, 2) := by decide +kernel
theorem dX1_fewestSayings_107 : decode cX1_fewestSayings 107 = .ok (.ireturn, 1) := by decide +kernel
theorem dX1_voteFromAll_0 : decode cX1_voteFromAll 0 = .ok (.aload_n 0, 1) := by decide +kernel
theorem dX1_voteFromAll_1 : decode cX1_voteFromAll 1 = .ok (.getfield 21, 3) := by decide +kernel
theorem dX1_voteFromAll_4 : decode cX1_voteFromAll 4 = .ok (.iconst (-1), 1) := by decide +kernel
theorem dX1_voteFromAll_5 : decode cX1_voteFromAll 5 = .ok (.invokestatic 32, 3) := by decide +kernel
theorem dX1_voteFromAll_8 : decode cX1_voteFromAll 8 = .ok (.iconst (-1), 1) := by decide +kernel
theorem dX1_voteFromAll_9 : decode cX1_voteFromAll 9 = .ok (.istore 4, 2) := by decide +kernel
theorem dX1_voteFromAll_11 : decode cX1_voteFromAll 11 = .ok (.iconst 0, 1) := by decide +kernel
theorem dX1_voteFromAll_12 : decode cX1_voteFromAll 12 = .ok (.istore 5, 2) := by decide +kernel
theorem dX1_voteFromAll_14 : decode cX1_voteFromAll 14 = .ok (.iload 5, 2) := by decide +kernel
theorem dX1_voteFromAll_16 : decode cX1_voteFromAll 16 = .ok (.sipush 256, 3) := by decide +kernel
theorem dX1_voteFromAll_19 : decode cX1_voteFromAll 19 = .ok (.if_icmp .ge 141, 3) := by decide +kernel
theorem dX1_voteFromAll_22 : decode cX1_voteFromAll 22 = .ok (.aload_n 0, 1) := by decide +kernel
theorem dX1_voteFromAll_23 : decode cX1_voteFromAll 23 = .ok (.getfield 15, 3) := by decide +kernel
theorem dX1_voteFromAll_26 : decode cX1_voteFromAll 26 = .ok (.iload 5, 2) := by decide +kernel
theorem dX1_voteFromAll_28 : decode cX1_voteFromAll 28 = .ok (.iaload, 1) := by decide +kernel
theorem dX1_voteFromAll_29 : decode cX1_voteFromAll 29 = .ok (.iconst (-1), 1) := by decide +kernel
theorem dX1_voteFromAll_30 : decode cX1_voteFromAll 30 = .ok (.if_icmp .eq 124, 3) := by decide +kernel
theorem dX1_voteFromAll_33 : decode cX1_voteFromAll 33 = .ok (.iload_n 2, 1) := by decide +kernel
theorem dX1_voteFromAll_34 : decode cX1_voteFromAll 34 = .ok (.aload_n 0, 1) := by decide +kernel
theorem dX1_voteFromAll_35 : decode cX1_voteFromAll 35 = .ok (.getfield 9, 3) := by decide +kernel
theorem dX1_voteFromAll_38 : decode cX1_voteFromAll 38 = .ok (.iload 5, 2) := by decide +kernel
theorem dX1_voteFromAll_40 : decode cX1_voteFromAll 40 = .ok (.iaload, 1) := by decide +kernel
theorem dX1_voteFromAll_41 : decode cX1_voteFromAll 41 = .ok (.invokestatic 64, 3) := by decide +kernel
theorem dX1_voteFromAll_44 : decode cX1_voteFromAll 44 = .ok (.iand, 1) := by decide +kernel
theorem dX1_voteFromAll_45 : decode cX1_voteFromAll 45 = .ok (.istore 6, 2) := by decide +kernel
theorem dX1_voteFromAll_47 : decode cX1_voteFromAll 47 = .ok (.iload 6, 2) := by decide +kernel
theorem dX1_voteFromAll_49 : decode cX1_voteFromAll 49 = .ok (.istore 7, 2) := by decide +kernel
theorem dX1_voteFromAll_51 : decode cX1_voteFromAll 51 = .ok (.iconst 0, 1) := by decide +kernel
theorem dX1_voteFromAll_52 : decode cX1_voteFromAll 52 = .ok (.istore 8, 2) := by decide +kernel
theorem dX1_voteFromAll_54 : decode cX1_voteFromAll 54 = .ok (.iload 8, 2) := by decide +kernel
theorem dX1_voteFromAll_56 : decode cX1_voteFromAll 56 = .ok (.bipush 8, 2) := by decide +kernel
theorem dX1_voteFromAll_58 : decode cX1_voteFromAll 58 = .ok (.if_icmp .ge 96, 3) := by decide +kernel
theorem dX1_voteFromAll_61 : decode cX1_voteFromAll 61 = .ok (.aload_n 0, 1) := by decide +kernel
theorem dX1_voteFromAll_62 : decode cX1_voteFromAll 62 = .ok (.getfield 15, 3) := by decide +kernel
theorem dX1_voteFromAll_65 : decode cX1_voteFromAll 65 = .ok (.iload 5, 2) := by decide +kernel
theorem dX1_voteFromAll_67 : decode cX1_voteFromAll 67 = .ok (.iaload, 1) := by decide +kernel
theorem dX1_voteFromAll_68 : decode cX1_voteFromAll 68 = .ok (.iload 7, 2) := by decide +kernel
theorem dX1_voteFromAll_70 : decode cX1_voteFromAll 70 = .ok (.invokestatic 67, 3) := by decide +kernel
theorem dX1_voteFromAll_73 : decode cX1_voteFromAll 73 = .ok (.iadd, 1) := by decide +kernel
theorem dX1_voteFromAll_74 : decode cX1_voteFromAll 74 = .ok (.istore 9, 2) := by decide +kernel
theorem dX1_voteFromAll_76 : decode cX1_voteFromAll 76 = .ok (.aload_n 0, 1) := by decide +kernel
theorem dX1_voteFromAll_77 : decode cX1_voteFromAll 77 = .ok (.getfield 28, 3) := by decide +kernel
theorem dX1_voteFromAll_80 : decode cX1_voteFromAll 80 = .ok (.aload_n 0, 1) := by decide +kernel
theorem dX1_voteFromAll_81 : decode cX1_voteFromAll 81 = .ok (.getfield 9, 3) := by decide +kernel
theorem dX1_voteFromAll_84 : decode cX1_voteFromAll 84 = .ok (.iload 5, 2) := by decide +kernel
theorem dX1_voteFromAll_86 : decode cX1_voteFromAll 86 = .ok (.iaload, 1) := by decide +kernel
theorem dX1_voteFromAll_87 : decode cX1_voteFromAll 87 = .ok (.iload_n 1, 1) := by decide +kernel
theorem dX1_voteFromAll_88 : decode cX1_voteFromAll 88 = .ok (.iload 7, 2) := by decide +kernel
theorem dX1_voteFromAll_90 : decode cX1_voteFromAll 90 = .ok (.ixor, 1) := by decide +kernel
theorem dX1_voteFromAll_91 : decode cX1_voteFromAll 91 = .ok (.iload 6, 2) := by decide +kernel
theorem dX1_voteFromAll_93 : decode cX1_voteFromAll 93 = .ok (.invokevirtual 72, 3) := by decide +kernel
theorem dX1_voteFromAll_96 : decode cX1_voteFromAll 96 = .ok (.istore 10, 2) := by decide +kernel
theorem dX1_voteFromAll_98 : decode cX1_voteFromAll 98 = .ok (.aload_n 0, 1) := by decide +kernel
theorem dX1_voteFromAll_99 : decode cX1_voteFromAll 99 = .ok (.iload 10, 2) := by decide +kernel
theorem dX1_voteFromAll_101 : decode cX1_voteFromAll 101 = .ok (.iload 9, 2) := by decide +kernel
theorem dX1_voteFromAll_103 : decode cX1_voteFromAll 103 = .ok (.invokevirtual 75, 3) := by decide +kernel
theorem dX1_voteFromAll_106 : decode cX1_voteFromAll 106 = .ok (.aload_n 0, 1) := by decide +kernel
theorem dX1_voteFromAll_107 : decode cX1_voteFromAll 107 = .ok (.getfield 28, 3) := by decide +kernel
theorem dX1_voteFromAll_110 : decode cX1_voteFromAll 110 = .ok (.getfield 79, 3) := by decide +kernel
theorem dX1_voteFromAll_113 : decode cX1_voteFromAll 113 = .ok (.iload_n 3, 1) := by decide +kernel
theorem dX1_voteFromAll_114 : decode cX1_voteFromAll 114 = .ok (.if_icmp .ne 17, 3) := by decide +kernel
theorem dX1_voteFromAll_117 : decode cX1_voteFromAll 117 = .ok (.iload 9, 2) := by decide +kernel
theorem dX1_voteFromAll_119 : decode cX1_voteFromAll 119 = .ok (.iload 4, 2) := by decide +kernel
theorem dX1_voteFromAll_121 : decode cX1_voteFromAll 121 = .ok (.invokestatic 82, 3) := by decide +kernel
theorem dX1_voteFromAll_124 : decode cX1_voteFromAll 124 = .ok (.ifCond .eq 7, 3) := by decide +kernel
theorem dX1_voteFromAll_127 : decode cX1_voteFromAll 127 = .ok (.iload 9, 2) := by decide +kernel
theorem dX1_voteFromAll_129 : decode cX1_voteFromAll 129 = .ok (.istore 4, 2) := by decide +kernel
theorem dX1_voteFromAll_131 : decode cX1_voteFromAll 131 = .ok (.iload 7, 2) := by decide +kernel
theorem dX1_voteFromAll_133 : decode cX1_voteFromAll 133 = .ok (.ifCond .ne 6, 3) := by decide +kernel
theorem dX1_voteFromAll_136 : decode cX1_voteFromAll 136 = .ok (.goto 18, 3) := by decide +kernel
theorem dX1_voteFromAll_139 : decode cX1_voteFromAll 139 = .ok (.iload 7, 2) := by decide +kernel
theorem dX1_voteFromAll_141 : decode cX1_voteFromAll 141 = .ok (.iconst 1, 1) := by decide +kernel
theorem dX1_voteFromAll_142 : decode cX1_voteFromAll 142 = .ok (.isub, 1) := by decide +kernel
theorem dX1_voteFromAll_143 : decode cX1_voteFromAll 143 = .ok (.iload 6, 2) := by decide +kernel
theorem dX1_voteFromAll_145 : decode cX1_voteFromAll 145 = .ok (.iand, 1) := by decide +kernel
theorem dX1_voteFromAll_146 : decode cX1_voteFromAll 146 = .ok (.istore 7, 2) := by decide +kernel
theorem dX1_voteFromAll_148 : decode cX1_voteFromAll 148 = .ok (.iinc 8 1, 3) := by decide +kernel
theorem dX1_voteFromAll_151 : decode cX1_voteFromAll 151 = .ok (.goto (-97), 3) := by decide +kernel
theorem dX1_voteFromAll_154 : decode cX1_voteFromAll 154 = .ok (.iinc 5 1, 3) := by decide +kernel
theorem dX1_voteFromAll_157 : decode cX1_voteFromAll 157 = .ok (.goto (-143), 3) := by decide +kernel
theorem dX1_voteFromAll_160 : decode cX1_voteFromAll 160 = .ok (.aload_n 0, 1) := by decide +kernel
theorem dX1_voteFromAll_161 : decode cX1_voteFromAll 161 = .ok (.getfield 18, 3) := by decide +kernel
theorem dX1_voteFromAll_164 : decode cX1_voteFromAll 164 = .ok (.iconst 0, 1) := by decide +kernel
theorem dX1_voteFromAll_165 : decode cX1_voteFromAll 165 = .ok (.aload_n 0, 1) := by decide +kernel
theorem dX1_voteFromAll_166 : decode cX1_voteFromAll 166 = .ok (.getfield 9, 3) := by decide +kernel
theorem dX1_voteFromAll_169 : decode cX1_voteFromAll 169 = .ok (.iconst 0, 1) := by decide +kernel
theorem dX1_voteFromAll_170 : decode cX1_voteFromAll 170 = .ok (.sipush 256, 3) := by decide +kernel
theorem dX1_voteFromAll_173 : decode cX1_voteFromAll 173 = .ok (.invokestatic 86, 3) := by decide +kernel
theorem dX1_voteFromAll_176 : decode cX1_voteFromAll 176 = .ok (.aload_n 0, 1) := by decide +kernel
theorem dX1_voteFromAll_177 : decode cX1_voteFromAll 177 = .ok (.getfield 21, 3) := by decide +kernel
theorem dX1_voteFromAll_180 : decode cX1_voteFromAll 180 = .ok (.iconst 0, 1) := by decide +kernel
theorem dX1_voteFromAll_181 : decode cX1_voteFromAll 181 = .ok (.aload_n 0, 1) := by decide +kernel
theorem dX1_voteFromAll_182 : decode cX1_voteFromAll 182 = .ok (.getfield 15, 3) := by decide +kernel
theorem dX1_voteFromAll_185 : decode cX1_voteFromAll 185 = .ok (.iconst 0, 1) := by decide +kernel
theorem dX1_voteFromAll_186 : decode cX1_voteFromAll 186 = .ok (.sipush 256, 3) := by decide +kernel
theorem dX1_voteFromAll_189 : decode cX1_voteFromAll 189 = .ok (.invokestatic 86, 3) := by decide +kernel
theorem dX1_voteFromAll_192 : decode cX1_voteFromAll 192 = .ok (.iload 4, 2) := by decide +kernel
theorem dX1_voteFromAll_194 : decode cX1_voteFromAll 194 = .ok (.ireturn, 1) := by decide +kernel
theorem dX1_reach_0 : decode cX1_reach 0 = .ok (.aload_n 0, 1) := by decide +kernel
theorem dX1_reach_1 : decode cX1_reach 1 = .ok (.getfield 28, 3) := by decide +kernel
theorem dX1_reach_4 : decode cX1_reach 4 = .ok (.iload_n 1, 1) := by decide +kernel
theorem dX1_reach_5 : decode cX1_reach 5 = .ok (.invokevirtual 44, 3) := by decide +kernel
theorem dX1_reach_8 : decode cX1_reach 8 = .ok (.istore_n 3, 1) := by decide +kernel
theorem dX1_reach_9 : decode cX1_reach 9 = .ok (.iload_n 2, 1) := by decide +kernel
theorem dX1_reach_10 : decode cX1_reach 10 = .ok (.aload_n 0, 1) := by decide +kernel
theorem dX1_reach_11 : decode cX1_reach 11 = .ok (.getfield 21, 3) := by decide +kernel
theorem dX1_reach_14 : decode cX1_reach 14 = .ok (.iload_n 3, 1) := by decide +kernel
theorem dX1_reach_15 : decode cX1_reach 15 = .ok (.iaload, 1) := by decide +kernel
theorem dX1_reach_16 : decode cX1_reach 16 = .ok (.invokestatic 82, 3) := by decide +kernel
theorem dX1_reach_19 : decode cX1_reach 19 = .ok (.ifCond .eq 17, 3) := by decide +kernel
theorem dX1_reach_22 : decode cX1_reach 22 = .ok (.aload_n 0, 1) := by decide +kernel
theorem dX1_reach_23 : decode cX1_reach 23 = .ok (.getfield 21, 3) := by decide +kernel
theorem dX1_reach_26 : decode cX1_reach 26 = .ok (.iload_n 3, 1) := by decide +kernel
theorem dX1_reach_27 : decode cX1_reach 27 = .ok (.iload_n 2, 1) := by decide +kernel
theorem dX1_reach_28 : decode cX1_reach 28 = .ok (.iastore, 1) := by decide +kernel
theorem dX1_reach_29 : decode cX1_reach 29 = .ok (.aload_n 0, 1) := by decide +kernel
theorem dX1_reach_30 : decode cX1_reach 30 = .ok (.getfield 18, 3) := by decide +kernel
theorem dX1_reach_33 : decode cX1_reach 33 = .ok (.iload_n 3, 1) := by decide +kernel
theorem dX1_reach_34 : decode cX1_reach 34 = .ok (.iload_n 1, 1) := by decide +kernel
theorem dX1_reach_35 : decode cX1_reach 35 = .ok (.iastore, 1) := by decide +kernel
theorem dX1_reach_36 : decode cX1_reach 36 = .ok (.return_, 1) := by decide +kernel
theorem dX1_isFewer_0 : decode cX1_isFewer 0 = .ok (.iload_n 1, 1) := by decide +kernel
theorem dX1_isFewer_1 : decode cX1_isFewer 1 = .ok (.iconst (-1), 1) := by decide +kernel
theorem dX1_isFewer_2 : decode cX1_isFewer 2 = .ok (.if_icmp .eq 8, 3) := by decide +kernel
theorem dX1_isFewer_5 : decode cX1_isFewer 5 = .ok (.iload_n 0, 1) := by decide +kernel
theorem dX1_isFewer_6 : decode cX1_isFewer 6 = .ok (.iload_n 1, 1) := by decide +kernel
theorem dX1_isFewer_7 : decode cX1_isFewer 7 = .ok (.if_icmp .ge 7, 3) := by decide +kernel
theorem dX1_isFewer_10 : decode cX1_isFewer 10 = .ok (.iconst 1, 1) := by decide +kernel
theorem dX1_isFewer_11 : decode cX1_isFewer 11 = .ok (.goto 4, 3) := by decide +kernel
theorem dX1_isFewer_14 : decode cX1_isFewer 14 = .ok (.iconst 0, 1) := by decide +kernel
theorem dX1_isFewer_15 : decode cX1_isFewer 15 = .ok (.ireturn, 1) := by decide +kernel
theorem dX2_init_0 : decode cX2_init 0 = .ok (.aload_n 0, 1) := by decide +kernel
theorem dX2_init_1 : decode cX2_init 1 = .ok (.invokespecial 3, 3) := by decide +kernel
theorem dX2_init_4 : decode cX2_init 4 = .ok (.aload_n 0, 1) := by decide +kernel
theorem dX2_init_5 : decode cX2_init 5 = .ok (.aload_n 1, 1) := by decide +kernel
theorem dX2_init_6 : decode cX2_init 6 = .ok (.putfield 9, 3) := by decide +kernel
theorem dX2_init_9 : decode cX2_init 9 = .ok (.return_, 1) := by decide +kernel
theorem dX2_useRules_0 : decode cX2_useRules 0 = .ok (.aload_n 0, 1) := by decide +kernel
theorem dX2_useRules_1 : decode cX2_useRules 1 = .ok (.iload_n 1, 1) := by decide +kernel
theorem dX2_useRules_2 : decode cX2_useRules 2 = .ok (.putfield 15, 3) := by decide +kernel
theorem dX2_useRules_5 : decode cX2_useRules 5 = .ok (.aload_n 0, 1) := by decide +kernel
theorem dX2_useRules_6 : decode cX2_useRules 6 = .ok (.iload_n 2, 1) := by decide +kernel
theorem dX2_useRules_7 : decode cX2_useRules 7 = .ok (.putfield 19, 3) := by decide +kernel
theorem dX2_useRules_10 : decode cX2_useRules 10 = .ok (.return_, 1) := by decide +kernel
theorem dX2_useOwnRules_0 : decode cX2_useOwnRules 0 = .ok (.aload_n 0, 1) := by decide +kernel
theorem dX2_useOwnRules_1 : decode cX2_useOwnRules 1 = .ok (.aload_n 0, 1) := by decide +kernel
theorem dX2_useOwnRules_2 : decode cX2_useOwnRules 2 = .ok (.getfield 9, 3) := by decide +kernel
theorem dX2_useOwnRules_5 : decode cX2_useOwnRules 5 = .ok (.getfield 22, 3) := by decide +kernel
theorem dX2_useOwnRules_8 : decode cX2_useOwnRules 8 = .ok (.aload_n 0, 1) := by decide +kernel
theorem dX2_useOwnRules_9 : decode cX2_useOwnRules 9 = .ok (.getfield 9, 3) := by decide +kernel
theorem dX2_useOwnRules_12 : decode cX2_useOwnRules 12 = .ok (.getfield 25, 3) := by decide +kernel
theorem dX2_useOwnRules_15 : decode cX2_useOwnRules 15 = .ok (.invokevirtual 26, 3) := by decide +kernel
theorem dX2_useOwnRules_18 : decode cX2_useOwnRules 18 = .ok (.return_, 1) := by decide +kernel
theorem dX2_opening_0 : decode cX2_opening 0 = .ok (.aload_n 0, 1) := by decide +kernel
theorem dX2_opening_1 : decode cX2_opening 1 = .ok (.getfield 9, 3) := by decide +kernel
theorem dX2_opening_4 : decode cX2_opening 4 = .ok (.getfield 30, 3) := by decide +kernel
theorem dX2_opening_7 : decode cX2_opening 7 = .ok (.iconst 1, 1) := by decide +kernel
theorem dX2_opening_8 : decode cX2_opening 8 = .ok (.isub, 1) := by decide +kernel
theorem dX2_opening_9 : decode cX2_opening 9 = .ok (.iconst 0, 1) := by decide +kernel
theorem dX2_opening_10 : decode cX2_opening 10 = .ok (.invokestatic 33, 3) := by decide +kernel
theorem dX2_opening_13 : decode cX2_opening 13 = .ok (.sipush 256, 3) := by decide +kernel
theorem dX2_opening_16 : decode cX2_opening 16 = .ok (.imul, 1) := by decide +kernel
theorem dX2_opening_17 : decode cX2_opening 17 = .ok (.aload_n 0, 1) := by decide +kernel
theorem dX2_opening_18 : decode cX2_opening 18 = .ok (.getfield 9, 3) := by decide +kernel
theorem dX2_opening_21 : decode cX2_opening 21 = .ok (.invokevirtual 39, 3) := by decide +kernel
theorem dX2_opening_24 : decode cX2_opening 24 = .ok (.iadd, 1) := by decide +kernel
theorem dX2_opening_25 : decode cX2_opening 25 = .ok (.ireturn, 1) := by decide +kernel
theorem dX2_sittingAt_0 : decode cX2_sittingAt 0 = .ok (.iload_n 0, 1) := by decide +kernel
theorem dX2_sittingAt_1 : decode cX2_sittingAt 1 = .ok (.sipush 255, 3) := by decide +kernel
theorem dX2_sittingAt_4 : decode cX2_sittingAt 4 = .ok (.iand, 1) := by decide +kernel
theorem dX2_sittingAt_5 : decode cX2_sittingAt 5 = .ok (.ireturn, 1) := by decide +kernel
theorem dX2_slotOf_0 : decode cX2_slotOf 0 = .ok (.iload_n 1, 1) := by decide +kernel
theorem dX2_slotOf_1 : decode cX2_slotOf 1 = .ok (.invokestatic 43, 3) := by decide +kernel
theorem dX2_slotOf_4 : decode cX2_slotOf 4 = .ok (.istore_n 2, 1) := by decide +kernel
theorem dX2_slotOf_5 : decode cX2_slotOf 5 = .ok (.aload_n 0, 1) := by decide +kernel
theorem dX2_slotOf_6 : decode cX2_slotOf 6 = .ok (.getfield 19, 3) := by decide +kernel
theorem dX2_slotOf_9 : decode cX2_slotOf 9 = .ok (.iconst 2, 1) := by decide +kernel
theorem dX2_slotOf_10 : decode cX2_slotOf 10 = .ok (.if_icmp .ne 21, 3) := by decide +kernel
theorem dX2_slotOf_13 : decode cX2_slotOf 13 = .ok (.iload_n 1, 1) := by decide +kernel
theorem dX2_slotOf_14 : decode cX2_slotOf 14 = .ok (.sipush 256, 3) := by decide +kernel
theorem dX2_slotOf_17 : decode cX2_slotOf 17 = .ok (.idiv, 1) := by decide +kernel
theorem dX2_slotOf_18 : decode cX2_slotOf 18 = .ok (.iconst 2, 1) := by decide +kernel
theorem dX2_slotOf_19 : decode cX2_slotOf 19 = .ok (.imul, 1) := by decide +kernel
theorem dX2_slotOf_20 : decode cX2_slotOf 20 = .ok (.bipush 8, 2) := by decide +kernel
theorem dX2_slotOf_22 : decode cX2_slotOf 22 = .ok (.imul, 1) := by decide +kernel
theorem dX2_slotOf_23 : decode cX2_slotOf 23 = .ok (.iload_n 2, 1) := by decide +kernel
theorem dX2_slotOf_24 : decode cX2_slotOf 24 = .ok (.invokestatic 47, 3) := by decide +kernel
theorem dX2_slotOf_27 : decode cX2_slotOf 27 = .ok (.iadd, 1) := by decide +kernel
theorem dX2_slotOf_28 : decode cX2_slotOf 28 = .ok (.goto 4, 3) := by decide +kernel
theorem dX2_slotOf_31 : decode cX2_slotOf 31 = .ok (.iload_n 2, 1) := by decide +kernel
theorem dX2_slotOf_32 : decode cX2_slotOf 32 = .ok (.ireturn, 1) := by decide +kernel
theorem dX2_step_0 : decode cX2_step 0 = .ok (.iload_n 1, 1) := by decide +kernel
theorem dX2_step_1 : decode cX2_step 1 = .ok (.invokestatic 43, 3) := by decide +kernel
theorem dX2_step_4 : decode cX2_step 4 = .ok (.istore 4, 2) := by decide +kernel
theorem dX2_step_6 : decode cX2_step 6 = .ok (.iload 4, 2) := by decide +kernel
theorem dX2_step_8 : decode cX2_step 8 = .ok (.ifCond .ne 35, 3) := by decide +kernel
theorem dX2_step_11 : decode cX2_step 11 = .ok (.aload_n 0, 1) := by decide +kernel
theorem dX2_step_12 : decode cX2_step 12 = .ok (.iconst 0, 1) := by decide +kernel
theorem dX2_step_13 : decode cX2_step 13 = .ok (.putfield 52, 3) := by decide +kernel
theorem dX2_step_16 : decode cX2_step 16 = .ok (.aload_n 0, 1) := by decide +kernel
theorem dX2_step_17 : decode cX2_step 17 = .ok (.bipush (-6), 2) := by decide +kernel
theorem dX2_step_19 : decode cX2_step 19 = .ok (.putfield 55, 3) := by decide +kernel
theorem dX2_step_22 : decode cX2_step 22 = .ok (.aload_n 0, 1) := by decide +kernel
theorem dX2_step_23 : decode cX2_step 23 = .ok (.aload_n 0, 1) := by decide +kernel
theorem dX2_step_24 : decode cX2_step 24 = .ok (.getfield 9, 3) := by decide +kernel
theorem dX2_step_27 : decode cX2_step 27 = .ok (.getfield 30, 3) := by decide +kernel
theorem dX2_step_30 : decode cX2_step 30 = .ok (.putfield 58, 3) := by decide +kernel
theorem dX2_step_33 : decode cX2_step 33 = .ok (.iload_n 1, 1) := by decide +kernel
theorem dX2_step_34 : decode cX2_step 34 = .ok (.aload_n 0, 1) := by decide +kernel
theorem dX2_step_35 : decode cX2_step 35 = .ok (.getfield 9, 3) := by decide +kernel
theorem dX2_step_38 : decode cX2_step 38 = .ok (.invokevirtual 39, 3) := by decide +kernel
theorem dX2_step_41 : decode cX2_step 41 = .ok (.ior, 1) := by decide +kernel
theorem dX2_step_42 : decode cX2_step 42 = .ok (.ireturn, 1) := by decide +kernel
theorem dX2_step_43 : decode cX2_step 43 = .ok (.aload_n 0, 1) := by decide +kernel
theorem dX2_step_44 : decode cX2_step 44 = .ok (.aload_n 0, 1) := by decide +kernel
theorem dX2_step_45 : decode cX2_step 45 = .ok (.iload 4, 2) := by decide +kernel
theorem dX2_step_47 : decode cX2_step 47 = .ok (.iload_n 2, 1) := by decide +kernel
theorem dX2_step_48 : decode cX2_step 48 = .ok (.iload_n 3, 1) := by decide +kernel
theorem dX2_step_49 : decode cX2_step 49 = .ok (.invokevirtual 61, 3) := by decide +kernel
theorem dX2_step_52 : decode cX2_step 52 = .ok (.putfield 52, 3) := by decide +kernel
theorem dX2_step_55 : decode cX2_step 55 = .ok (.aload_n 0, 1) := by decide +kernel
theorem dX2_step_56 : decode cX2_step 56 = .ok (.getfield 52, 3) := by decide +kernel
theorem dX2_step_59 : decode cX2_step 59 = .ok (.invokestatic 47, 3) := by decide +kernel
theorem dX2_step_62 : decode cX2_step 62 = .ok (.istore 5, 2) := by decide +kernel
theorem dX2_step_64 : decode cX2_step 64 = .ok (.iload 4, 2) := by decide +kernel
theorem dX2_step_66 : decode cX2_step 66 = .ok (.invokestatic 47, 3) := by decide +kernel
theorem dX2_step_69 : decode cX2_step 69 = .ok (.iload 5, 2) := by decide +kernel
theorem dX2_step_71 : decode cX2_step 71 = .ok (.isub, 1) := by decide +kernel
theorem dX2_step_72 : decode cX2_step 72 = .ok (.istore 6, 2) := by decide +kernel
theorem dX2_step_74 : decode cX2_step 74 = .ok (.aload_n 0, 1) := by decide +kernel
theorem dX2_step_75 : decode cX2_step 75 = .ok (.iload 5, 2) := by decide +kernel
theorem dX2_step_77 : decode cX2_step 77 = .ok (.iload 6, 2) := by decide +kernel
theorem dX2_step_79 : decode cX2_step 79 = .ok (.if_icmp .ne 8, 3) := by decide +kernel
theorem dX2_step_82 : decode cX2_step 82 = .ok (.bipush (-5), 2) := by decide +kernel
theorem dX2_step_84 : decode cX2_step 84 = .ok (.goto 15, 3) := by decide +kernel
theorem dX2_step_87 : decode cX2_step 87 = .ok (.iload 5, 2) := by decide +kernel
theorem dX2_step_89 : decode cX2_step 89 = .ok (.iload 6, 2) := by decide +kernel
theorem dX2_step_91 : decode cX2_step 91 = .ok (.if_icmp .le 7, 3) := by decide +kernel
theorem dX2_step_94 : decode cX2_step 94 = .ok (.iconst 1, 1) := by decide +kernel
theorem dX2_step_95 : decode cX2_step 95 = .ok (.goto 4, 3) := by decide +kernel
theorem dX2_step_98 : decode cX2_step 98 = .ok (.iconst 0, 1) := by decide +kernel
theorem dX2_step_99 : decode cX2_step 99 = .ok (.putfield 55, 3) := by decide +kernel
theorem dX2_step_102 : decode cX2_step 102 = .ok (.aload_n 0, 1) := by decide +kernel
theorem dX2_step_103 : decode cX2_step 103 = .ok (.iload 5, 2) := by decide +kernel
theorem dX2_step_105 : decode cX2_step 105 = .ok (.iload 6, 2) := by decide +kernel
theorem dX2_step_107 : decode cX2_step 107 = .ok (.if_icmp .ne 7, 3) := by decide +kernel
theorem dX2_step_110 : decode cX2_step 110 = .ok (.iconst 0, 1) := by decide +kernel
theorem dX2_step_111 : decode cX2_step 111 = .ok (.goto 31, 3) := by decide +kernel
theorem dX2_step_114 : decode cX2_step 114 = .ok (.aload_n 0, 1) := by decide +kernel
theorem dX2_step_115 : decode cX2_step 115 = .ok (.iload 5, 2) := by decide +kernel
theorem dX2_step_117 : decode cX2_step 117 = .ok (.iload 6, 2) := by decide +kernel
theorem dX2_step_119 : decode cX2_step 119 = .ok (.invokestatic 33, 3) := by decide +kernel
theorem dX2_step_122 : decode cX2_step 122 = .ok (.iload 5, 2) := by decide +kernel
theorem dX2_step_124 : decode cX2_step 124 = .ok (.iload 6, 2) := by decide +kernel
theorem dX2_step_126 : decode cX2_step 126 = .ok (.invokestatic 65, 3) := by decide +kernel
theorem dX2_step_129 : decode cX2_step 129 = .ok (.invokevirtual 68, 3) := by decide +kernel
theorem dX2_step_132 : decode cX2_step 132 = .ok (.aload_n 0, 1) := by decide +kernel
theorem dX2_step_133 : decode cX2_step 133 = .ok (.getfield 9, 3) := by decide +kernel
theorem dX2_step_136 : decode cX2_step 136 = .ok (.getfield 30, 3) := by decide +kernel
theorem dX2_step_139 : decode cX2_step 139 = .ok (.invokestatic 65, 3) := by decide +kernel
theorem dX2_step_142 : decode cX2_step 142 = .ok (.putfield 58, 3) := by decide +kernel
theorem dX2_step_145 : decode cX2_step 145 = .ok (.aload_n 0, 1) := by decide +kernel
theorem dX2_step_146 : decode cX2_step 146 = .ok (.iload 4, 2) := by decide +kernel
theorem dX2_step_148 : decode cX2_step 148 = .ok (.iload_n 1, 1) := by decide +kernel
theorem dX2_step_149 : decode cX2_step 149 = .ok (.sipush 256, 3) := by decide +kernel
theorem dX2_step_152 : decode cX2_step 152 = .ok (.idiv, 1) := by decide +kernel
theorem dX2_step_153 : decode cX2_step 153 = .ok (.invokevirtual 71, 3) := by decide +kernel
theorem dX2_step_156 : decode cX2_step 156 = .ok (.ireturn, 1) := by decide +kernel
theorem dX2_sayings_0 : decode cX2_sayings 0 = .ok (.aload_n 0, 1) := by decide +kernel
theorem dX2_sayings_1 : decode cX2_sayings 1 = .ok (.getfield 9, 3) := by decide +kernel
theorem dX2_sayings_4 : decode cX2_sayings 4 = .ok (.getfield 74, 3) := by decide +kernel
theorem dX2_sayings_7 : decode cX2_sayings 7 = .ok (.iload_n 3, 1) := by decide +kernel
theorem dX2_sayings_8 : decode cX2_sayings 8 = .ok (.iconst (-1), 1) := by decide +kernel
theorem dX2_sayings_9 : decode cX2_sayings 9 = .ok (.ixor, 1) := by decide +kernel
theorem dX2_sayings_10 : decode cX2_sayings 10 = .ok (.iand, 1) := by decide +kernel
theorem dX2_sayings_11 : decode cX2_sayings 11 = .ok (.istore 4, 2) := by decide +kernel
theorem dX2_sayings_13 : decode cX2_sayings 13 = .ok (.iconst 0, 1) := by decide +kernel
theorem dX2_sayings_14 : decode cX2_sayings 14 = .ok (.istore 5, 2) := by decide +kernel
theorem dX2_sayings_16 : decode cX2_sayings 16 = .ok (.iconst 0, 1) := by decide +kernel
theorem dX2_sayings_17 : decode cX2_sayings 17 = .ok (.istore 6, 2) := by decide +kernel
theorem dX2_sayings_19 : decode cX2_sayings 19 = .ok (.iconst 0, 1) := by decide +kernel
theorem dX2_sayings_20 : decode cX2_sayings 20 = .ok (.istore 7, 2) := by decide +kernel
theorem dX2_sayings_22 : decode cX2_sayings 22 = .ok (.iload 7, 2) := by decide +kernel
theorem dX2_sayings_24 : decode cX2_sayings 24 = .ok (.aload_n 0, 1) := by decide +kernel
theorem dX2_sayings_25 : decode cX2_sayings 25 = .ok (.getfield 9, 3) := by decide +kernel
theorem dX2_sayings_28 : decode cX2_sayings 28 = .ok (.getfield 30, 3) := by decide +kernel
theorem dX2_sayings_31 : decode cX2_sayings 31 = .ok (.if_icmp .ge 118, 3) := by decide +kernel
theorem dX2_sayings_34 : decode cX2_sayings 34 = .ok (.iconst 1, 1) := by decide +kernel
theorem dX2_sayings_35 : decode cX2_sayings 35 = .ok (.iload 7, 2) := by decide +kernel
theorem dX2_sayings_37 : decode cX2_sayings 37 = .ok (.ishl, 1) := by decide +kernel
theorem dX2_sayings_38 : decode cX2_sayings 38 = .ok (.istore 8, 2) := by decide +kernel
theorem dX2_sayings_40 : decode cX2_sayings 40 = .ok (.iload_n 1, 1) := by decide +kernel
theorem dX2_sayings_41 : decode cX2_sayings 41 = .ok (.iload 8, 2) := by decide +kernel
theorem dX2_sayings_43 : decode cX2_sayings 43 = .ok (.iand, 1) := by decide +kernel
theorem dX2_sayings_44 : decode cX2_sayings 44 = .ok (.ifCond .eq 99, 3) := by decide +kernel
theorem dX2_sayings_47 : decode cX2_sayings 47 = .ok (.iload_n 2, 1) := by decide +kernel
theorem dX2_sayings_48 : decode cX2_sayings 48 = .ok (.iload 8, 2) := by decide +kernel
theorem dX2_sayings_50 : decode cX2_sayings 50 = .ok (.iand, 1) := by decide +kernel
theorem dX2_sayings_51 : decode cX2_sayings 51 = .ok (.ifCond .eq 7, 3) := by decide +kernel
theorem dX2_sayings_54 : decode cX2_sayings 54 = .ok (.iconst 1, 1) := by decide +kernel
theorem dX2_sayings_55 : decode cX2_sayings 55 = .ok (.goto 4, 3) := by decide +kernel
theorem dX2_sayings_58 : decode cX2_sayings 58 = .ok (.iconst 0, 1) := by decide +kernel
theorem dX2_sayings_59 : decode cX2_sayings 59 = .ok (.istore 9, 2) := by decide +kernel
theorem dX2_sayings_61 : decode cX2_sayings 61 = .ok (.iload 6, 2) := by decide +kernel
theorem dX2_sayings_63 : decode cX2_sayings 63 = .ok (.ifCond .eq 49, 3) := by decide +kernel
theorem dX2_sayings_66 : decode cX2_sayings 66 = .ok (.iload 4, 2) := by decide +kernel
theorem dX2_sayings_68 : decode cX2_sayings 68 = .ok (.iload 8, 2) := by decide +kernel
theorem dX2_sayings_70 : decode cX2_sayings 70 = .ok (.iand, 1) := by decide +kernel
theorem dX2_sayings_71 : decode cX2_sayings 71 = .ok (.ifCond .eq 41, 3) := by decide +kernel
theorem dX2_sayings_74 : decode cX2_sayings 74 = .ok (.iload 6, 2) := by decide +kernel
theorem dX2_sayings_76 : decode cX2_sayings 76 = .ok (.ifCond .le 7, 3) := by decide +kernel
theorem dX2_sayings_79 : decode cX2_sayings 79 = .ok (.iconst 1, 1) := by decide +kernel
theorem dX2_sayings_80 : decode cX2_sayings 80 = .ok (.goto 4, 3) := by decide +kernel
theorem dX2_sayings_83 : decode cX2_sayings 83 = .ok (.iconst 0, 1) := by decide +kernel
theorem dX2_sayings_84 : decode cX2_sayings 84 = .ok (.aload_n 0, 1) := by decide +kernel
theorem dX2_sayings_85 : decode cX2_sayings 85 = .ok (.getfield 9, 3) := by decide +kernel
theorem dX2_sayings_88 : decode cX2_sayings 88 = .ok (.getfield 77, 3) := by decide +kernel
theorem dX2_sayings_91 : decode cX2_sayings 91 = .ok (.iload 8, 2) := by decide +kernel
theorem dX2_sayings_93 : decode cX2_sayings 93 = .ok (.iand, 1) := by decide +kernel
theorem dX2_sayings_94 : decode cX2_sayings 94 = .ok (.ifCond .eq 7, 3) := by decide +kernel
theorem dX2_sayings_97 : decode cX2_sayings 97 = .ok (.iconst 1, 1) := by decide +kernel
theorem dX2_sayings_98 : decode cX2_sayings 98 = .ok (.goto 4, 3) := by decide +kernel
theorem dX2_sayings_101 : decode cX2_sayings 101 = .ok (.iconst 0, 1) := by decide +kernel
theorem dX2_sayings_102 : decode cX2_sayings 102 = .ok (.if_icmp .eq 7, 3) := by decide +kernel
theorem dX2_sayings_105 : decode cX2_sayings 105 = .ok (.iconst 1, 1) := by decide +kernel
theorem dX2_sayings_106 : decode cX2_sayings 106 = .ok (.goto 4, 3) := by decide +kernel
theorem dX2_sayings_109 : decode cX2_sayings 109 = .ok (.iconst 0, 1) := by decide +kernel
theorem dX2_sayings_110 : decode cX2_sayings 110 = .ok (.istore 9, 2) := by decide +kernel
theorem dX2_sayings_112 : decode cX2_sayings 112 = .ok (.iload 5, 2) := by decide +kernel
theorem dX2_sayings_114 : decode cX2_sayings 114 = .ok (.iload 9, 2) := by decide +kernel
theorem dX2_sayings_116 : decode cX2_sayings 116 = .ok (.ifCond .eq 8, 3) := by decide +kernel
theorem dX2_sayings_119 : decode cX2_sayings 119 = .ok (.iload 8, 2) := by decide +kernel
theorem dX2_sayings_121 : decode cX2_sayings 121 = .ok (.goto 4, 3) := by decide +kernel
theorem dX2_sayings_124 : decode cX2_sayings 124 = .ok (.iconst 0, 1) := by decide +kernel
theorem dX2_sayings_125 : decode cX2_sayings 125 = .ok (.ior, 1) := by decide +kernel
theorem dX2_sayings_126 : decode cX2_sayings 126 = .ok (.istore 5, 2) := by decide +kernel
theorem dX2_sayings_128 : decode cX2_sayings 128 = .ok (.iload 6, 2) := by decide +kernel
theorem dX2_sayings_130 : decode cX2_sayings 130 = .ok (.iload 9, 2) := by decide +kernel
theorem dX2_sayings_132 : decode cX2_sayings 132 = .ok (.ifCond .eq 7, 3) := by decide +kernel
theorem dX2_sayings_135 : decode cX2_sayings 135 = .ok (.iconst 1, 1) := by decide +kernel
theorem dX2_sayings_136 : decode cX2_sayings 136 = .ok (.goto 4, 3) := by decide +kernel
theorem dX2_sayings_139 : decode cX2_sayings 139 = .ok (.iconst (-1), 1) := by decide +kernel
theorem dX2_sayings_140 : decode cX2_sayings 140 = .ok (.iadd, 1) := by decide +kernel
theorem dX2_sayings_141 : decode cX2_sayings 141 = .ok (.istore 6, 2) := by decide +kernel
theorem dX2_sayings_143 : decode cX2_sayings 143 = .ok (.iinc 7 1, 3) := by decide +kernel
theorem dX2_sayings_146 : decode cX2_sayings 146 = .ok (.goto (-124), 3) := by decide +kernel
theorem dX2_sayings_149 : decode cX2_sayings 149 = .ok (.iload 5, 2) := by decide +kernel
theorem dX2_sayings_151 : decode cX2_sayings 151 = .ok (.ireturn, 1) := by decide +kernel
theorem dX2_seatsFor_0 : decode cX2_seatsFor 0 = .ok (.aload_n 0, 1) := by decide +kernel
theorem dX2_seatsFor_1 : decode cX2_seatsFor 1 = .ok (.getfield 15, 3) := by decide +kernel
theorem dX2_seatsFor_4 : decode cX2_seatsFor 4 = .ok (.tableswitch 36 0 2 #[28, 32, 34], 28) := by decide +kernel
theorem dX2_seatsFor_32 : decode cX2_seatsFor 32 = .ok (.iload_n 1, 1) := by decide +kernel
theorem dX2_seatsFor_33 : decode cX2_seatsFor 33 = .ok (.iload_n 2, 1) := by decide +kernel
theorem dX2_seatsFor_34 : decode cX2_seatsFor 34 = .ok (.isub, 1) := by decide +kernel
theorem dX2_seatsFor_35 : decode cX2_seatsFor 35 = .ok (.ireturn, 1) := by decide +kernel
theorem dX2_seatsFor_36 : decode cX2_seatsFor 36 = .ok (.iload_n 1, 1) := by decide +kernel
theorem dX2_seatsFor_37 : decode cX2_seatsFor 37 = .ok (.ireturn, 1) := by decide +kernel
theorem dX2_seatsFor_38 : decode cX2_seatsFor 38 = .ok (.iload_n 2, 1) := by decide +kernel
theorem dX2_seatsFor_39 : decode cX2_seatsFor 39 = .ok (.ireturn, 1) := by decide +kernel
theorem dX2_seatsFor_40 : decode cX2_seatsFor 40 = .ok (.iconst 2, 1) := by decide +kernel
theorem dX2_seatsFor_41 : decode cX2_seatsFor 41 = .ok (.iload_n 1, 1) := by decide +kernel
theorem dX2_seatsFor_42 : decode cX2_seatsFor 42 = .ok (.iload_n 2, 1) := by decide +kernel
theorem dX2_seatsFor_43 : decode cX2_seatsFor 43 = .ok (.isub, 1) := by decide +kernel
theorem dX2_seatsFor_44 : decode cX2_seatsFor 44 = .ok (.imul, 1) := by decide +kernel
theorem dX2_seatsFor_45 : decode cX2_seatsFor 45 = .ok (.ireturn, 1) := by decide +kernel
theorem dX2_seated_0 : decode cX2_seated 0 = .ok (.aload_n 0, 1) := by decide +kernel
theorem dX2_seated_1 : decode cX2_seated 1 = .ok (.getfield 58, 3) := by decide +kernel
theorem dX2_seated_4 : decode cX2_seated 4 = .ok (.ifCond .ne 9, 3) := by decide +kernel
theorem dX2_seated_7 : decode cX2_seated 7 = .ok (.iload_n 2, 1) := by decide +kernel
theorem dX2_seated_8 : decode cX2_seated 8 = .ok (.sipush 256, 3) := by decide +kernel
theorem dX2_seated_11 : decode cX2_seated 11 = .ok (.imul, 1) := by decide +kernel
theorem dX2_seated_12 : decode cX2_seated 12 = .ok (.ireturn, 1) := by decide +kernel
theorem dX2_seated_13 : decode cX2_seated 13 = .ok (.aload_n 0, 1) := by decide +kernel
theorem dX2_seated_14 : decode cX2_seated 14 = .ok (.getfield 19, 3) := by decide +kernel
theorem dX2_seated_17 : decode cX2_seated 17 = .ok (.lookupswitch 60 #[(0, 27), (1, 48)], 27) := by decide +kernel
theorem dX2_seated_44 : decode cX2_seated 44 = .ok (.iload_n 2, 1) := by decide +kernel
theorem dX2_seated_45 : decode cX2_seated 45 = .ok (.sipush 256, 3) := by decide +kernel
theorem dX2_seated_48 : decode cX2_seated 48 = .ok (.imul, 1) := by decide +kernel
theorem dX2_seated_49 : decode cX2_seated 49 = .ok (.aload_n 0, 1) := by decide +kernel
theorem dX2_seated_50 : decode cX2_seated 50 = .ok (.getfield 9, 3) := by decide +kernel
theorem dX2_seated_53 : decode cX2_seated 53 = .ok (.invokevirtual 39, 3) := by decide +kernel
theorem dX2_seated_56 : decode cX2_seated 56 = .ok (.aload_n 0, 1) := by decide +kernel
theorem dX2_seated_57 : decode cX2_seated 57 = .ok (.getfield 58, 3) := by decide +kernel
theorem dX2_seated_60 : decode cX2_seated 60 = .ok (.invokestatic 80, 3) := by decide +kernel
theorem dX2_seated_63 : decode cX2_seated 63 = .ok (.iadd, 1) := by decide +kernel
theorem dX2_seated_64 : decode cX2_seated 64 = .ok (.ireturn, 1) := by decide +kernel
theorem dX2_seated_65 : decode cX2_seated 65 = .ok (.iload_n 2, 1) := by decide +kernel
theorem dX2_seated_66 : decode cX2_seated 66 = .ok (.sipush 256, 3) := by decide +kernel
theorem dX2_seated_69 : decode cX2_seated 69 = .ok (.imul, 1) := by decide +kernel
theorem dX2_seated_70 : decode cX2_seated 70 = .ok (.aload_n 0, 1) := by decide +kernel
theorem dX2_seated_71 : decode cX2_seated 71 = .ok (.iload_n 1, 1) := by decide +kernel
theorem dX2_seated_72 : decode cX2_seated 72 = .ok (.invokevirtual 83, 3) := by decide +kernel
theorem dX2_seated_75 : decode cX2_seated 75 = .ok (.iadd, 1) := by decide +kernel
theorem dX2_seated_76 : decode cX2_seated 76 = .ok (.ireturn, 1) := by decide +kernel
theorem dX2_seated_77 : decode cX2_seated 77 = .ok (.aload_n 0, 1) := by decide +kernel
theorem dX2_seated_78 : decode cX2_seated 78 = .ok (.iload_n 2, 1) := by decide +kernel
theorem dX2_seated_79 : decode cX2_seated 79 = .ok (.invokevirtual 86, 3) := by decide +kernel
theorem dX2_seated_82 : decode cX2_seated 82 = .ok (.ireturn, 1) := by decide +kernel
theorem dX2_winnersFirst_0 : decode cX2_winnersFirst 0 = .ok (.aload_n 0, 1) := by decide +kernel
theorem dX2_winnersFirst_1 : decode cX2_winnersFirst 1 = .ok (.getfield 55, 3) := by decide +kernel
theorem dX2_winnersFirst_4 : decode cX2_winnersFirst 4 = .ok (.iconst 1, 1) := by decide +kernel
theorem dX2_winnersFirst_5 : decode cX2_winnersFirst 5 = .ok (.if_icmp .ne 10, 3) := by decide +kernel
theorem dX2_winnersFirst_8 : decode cX2_winnersFirst 8 = .ok (.aload_n 0, 1) := by decide +kernel
theorem dX2_winnersFirst_9 : decode cX2_winnersFirst 9 = .ok (.getfield 52, 3) := by decide +kernel
theorem dX2_winnersFirst_12 : decode cX2_winnersFirst 12 = .ok (.goto 11, 3) := by decide +kernel
theorem dX2_winnersFirst_15 : decode cX2_winnersFirst 15 = .ok (.iload_n 1, 1) := by decide +kernel
theorem dX2_winnersFirst_16 : decode cX2_winnersFirst 16 = .ok (.aload_n 0, 1) := by decide +kernel
theorem dX2_winnersFirst_17 : decode cX2_winnersFirst 17 = .ok (.getfield 52, 3) := by decide +kernel
theorem dX2_winnersFirst_20 : decode cX2_winnersFirst 20 = .ok (.iconst (-1), 1) := by decide +kernel
theorem dX2_winnersFirst_21 : decode cX2_winnersFirst 21 = .ok (.ixor, 1) := by decide +kernel
theorem dX2_winnersFirst_22 : decode cX2_winnersFirst 22 = .ok (.iand, 1) := by decide +kernel
theorem dX2_winnersFirst_23 : decode cX2_winnersFirst 23 = .ok (.istore_n 2, 1) := by decide +kernel
theorem dX2_winnersFirst_24 : decode cX2_winnersFirst 24 = .ok (.iload_n 2, 1) := by decide +kernel
theorem dX2_winnersFirst_25 : decode cX2_winnersFirst 25 = .ok (.aload_n 0, 1) := by decide +kernel
theorem dX2_winnersFirst_26 : decode cX2_winnersFirst 26 = .ok (.getfield 58, 3) := by decide +kernel
theorem dX2_winnersFirst_29 : decode cX2_winnersFirst 29 = .ok (.invokestatic 80, 3) := by decide +kernel
theorem dX2_winnersFirst_32 : decode cX2_winnersFirst 32 = .ok (.istore_n 3, 1) := by decide +kernel
theorem dX2_winnersFirst_33 : decode cX2_winnersFirst 33 = .ok (.iload_n 3, 1) := by decide +kernel
theorem dX2_winnersFirst_34 : decode cX2_winnersFirst 34 = .ok (.iload_n 1, 1) := by decide +kernel
theorem dX2_winnersFirst_35 : decode cX2_winnersFirst 35 = .ok (.iload_n 2, 1) := by decide +kernel
theorem dX2_winnersFirst_36 : decode cX2_winnersFirst 36 = .ok (.iconst (-1), 1) := by decide +kernel
theorem dX2_winnersFirst_37 : decode cX2_winnersFirst 37 = .ok (.ixor, 1) := by decide +kernel
theorem dX2_winnersFirst_38 : decode cX2_winnersFirst 38 = .ok (.iand, 1) := by decide +kernel
theorem dX2_winnersFirst_39 : decode cX2_winnersFirst 39 = .ok (.aload_n 0, 1) := by decide +kernel
theorem dX2_winnersFirst_40 : decode cX2_winnersFirst 40 = .ok (.getfield 58, 3) := by decide +kernel
theorem dX2_winnersFirst_43 : decode cX2_winnersFirst 43 = .ok (.iload_n 3, 1) := by decide +kernel
theorem dX2_winnersFirst_44 : decode cX2_winnersFirst 44 = .ok (.invokestatic 47, 3) := by decide +kernel
theorem dX2_winnersFirst_47 : decode cX2_winnersFirst 47 = .ok (.isub, 1) := by decide +kernel
theorem dX2_winnersFirst_48 : decode cX2_winnersFirst 48 = .ok (.invokestatic 80, 3) := by decide +kernel
theorem dX2_winnersFirst_51 : decode cX2_winnersFirst 51 = .ok (.ior, 1) := by decide +kernel
theorem dX2_winnersFirst_52 : decode cX2_winnersFirst 52 = .ok (.istore_n 3, 1) := by decide +kernel
theorem dX2_winnersFirst_53 : decode cX2_winnersFirst 53 = .ok (.iload_n 3, 1) := by decide +kernel
theorem dX2_winnersFirst_54 : decode cX2_winnersFirst 54 = .ok (.aload_n 0, 1) := by decide +kernel
theorem dX2_winnersFirst_55 : decode cX2_winnersFirst 55 = .ok (.getfield 9, 3) := by decide +kernel
theorem dX2_winnersFirst_58 : decode cX2_winnersFirst 58 = .ok (.invokevirtual 39, 3) := by decide +kernel
theorem dX2_winnersFirst_61 : decode cX2_winnersFirst 61 = .ok (.iload_n 1, 1) := by decide +kernel
theorem dX2_winnersFirst_62 : decode cX2_winnersFirst 62 = .ok (.iconst (-1), 1) := by decide +kernel
theorem dX2_winnersFirst_63 : decode cX2_winnersFirst 63 = .ok (.ixor, 1) := by decide +kernel
theorem dX2_winnersFirst_64 : decode cX2_winnersFirst 64 = .ok (.iand, 1) := by decide +kernel
theorem dX2_winnersFirst_65 : decode cX2_winnersFirst 65 = .ok (.aload_n 0, 1) := by decide +kernel
theorem dX2_winnersFirst_66 : decode cX2_winnersFirst 66 = .ok (.getfield 58, 3) := by decide +kernel
theorem dX2_winnersFirst_69 : decode cX2_winnersFirst 69 = .ok (.iload_n 3, 1) := by decide +kernel
theorem dX2_winnersFirst_70 : decode cX2_winnersFirst 70 = .ok (.invokestatic 47, 3) := by decide +kernel
theorem dX2_winnersFirst_73 : decode cX2_winnersFirst 73 = .ok (.isub, 1) := by decide +kernel
theorem dX2_winnersFirst_74 : decode cX2_winnersFirst 74 = .ok (.invokestatic 80, 3) := by decide +kernel
theorem dX2_winnersFirst_77 : decode cX2_winnersFirst 77 = .ok (.ior, 1) := by decide +kernel
theorem dX2_winnersFirst_78 : decode cX2_winnersFirst 78 = .ok (.ireturn, 1) := by decide +kernel
theorem dX2_inTurn_0 : decode cX2_inTurn 0 = .ok (.iconst 0, 1) := by decide +kernel
theorem dX2_inTurn_1 : decode cX2_inTurn 1 = .ok (.istore_n 2, 1) := by decide +kernel
theorem dX2_inTurn_2 : decode cX2_inTurn 2 = .ok (.iconst 0, 1) := by decide +kernel
theorem dX2_inTurn_3 : decode cX2_inTurn 3 = .ok (.istore_n 3, 1) := by decide +kernel
theorem dX2_inTurn_4 : decode cX2_inTurn 4 = .ok (.iload_n 3, 1) := by decide +kernel
theorem dX2_inTurn_5 : decode cX2_inTurn 5 = .ok (.aload_n 0, 1) := by decide +kernel
theorem dX2_inTurn_6 : decode cX2_inTurn 6 = .ok (.getfield 58, 3) := by decide +kernel
theorem dX2_inTurn_9 : decode cX2_inTurn 9 = .ok (.if_icmp .ge 36, 3) := by decide +kernel
theorem dX2_inTurn_12 : decode cX2_inTurn 12 = .ok (.iload_n 1, 1) := by decide +kernel
theorem dX2_inTurn_13 : decode cX2_inTurn 13 = .ok (.iconst 1, 1) := by decide +kernel
theorem dX2_inTurn_14 : decode cX2_inTurn 14 = .ok (.iadd, 1) := by decide +kernel
theorem dX2_inTurn_15 : decode cX2_inTurn 15 = .ok (.aload_n 0, 1) := by decide +kernel
theorem dX2_inTurn_16 : decode cX2_inTurn 16 = .ok (.getfield 9, 3) := by decide +kernel
theorem dX2_inTurn_19 : decode cX2_inTurn 19 = .ok (.getfield 30, 3) := by decide +kernel
theorem dX2_inTurn_22 : decode cX2_inTurn 22 = .ok (.if_icmp .ge 9, 3) := by decide +kernel
theorem dX2_inTurn_25 : decode cX2_inTurn 25 = .ok (.iload_n 1, 1) := by decide +kernel
theorem dX2_inTurn_26 : decode cX2_inTurn 26 = .ok (.iconst 1, 1) := by decide +kernel
theorem dX2_inTurn_27 : decode cX2_inTurn 27 = .ok (.iadd, 1) := by decide +kernel
theorem dX2_inTurn_28 : decode cX2_inTurn 28 = .ok (.goto 4, 3) := by decide +kernel
theorem dX2_inTurn_31 : decode cX2_inTurn 31 = .ok (.iconst 0, 1) := by decide +kernel
theorem dX2_inTurn_32 : decode cX2_inTurn 32 = .ok (.istore_n 1, 1) := by decide +kernel
theorem dX2_inTurn_33 : decode cX2_inTurn 33 = .ok (.iload_n 2, 1) := by decide +kernel
theorem dX2_inTurn_34 : decode cX2_inTurn 34 = .ok (.iconst 1, 1) := by decide +kernel
theorem dX2_inTurn_35 : decode cX2_inTurn 35 = .ok (.iload_n 1, 1) := by decide +kernel
theorem dX2_inTurn_36 : decode cX2_inTurn 36 = .ok (.ishl, 1) := by decide +kernel
theorem dX2_inTurn_37 : decode cX2_inTurn 37 = .ok (.ior, 1) := by decide +kernel
theorem dX2_inTurn_38 : decode cX2_inTurn 38 = .ok (.istore_n 2, 1) := by decide +kernel
theorem dX2_inTurn_39 : decode cX2_inTurn 39 = .ok (.iinc 3 1, 3) := by decide +kernel
theorem dX2_inTurn_42 : decode cX2_inTurn 42 = .ok (.goto (-38), 3) := by decide +kernel
theorem dX2_inTurn_45 : decode cX2_inTurn 45 = .ok (.iload_n 1, 1) := by decide +kernel
theorem dX2_inTurn_46 : decode cX2_inTurn 46 = .ok (.sipush 256, 3) := by decide +kernel
theorem dX2_inTurn_49 : decode cX2_inTurn 49 = .ok (.imul, 1) := by decide +kernel
theorem dX2_inTurn_50 : decode cX2_inTurn 50 = .ok (.iload_n 2, 1) := by decide +kernel
theorem dX2_inTurn_51 : decode cX2_inTurn 51 = .ok (.iadd, 1) := by decide +kernel
theorem dX2_inTurn_52 : decode cX2_inTurn 52 = .ok (.ireturn, 1) := by decide +kernel
theorem dX2_firstOf_0 : decode cX2_firstOf 0 = .ok (.iconst 0, 1) := by decide +kernel
theorem dX2_firstOf_1 : decode cX2_firstOf 1 = .ok (.istore_n 2, 1) := by decide +kernel
theorem dX2_firstOf_2 : decode cX2_firstOf 2 = .ok (.iconst 0, 1) := by decide +kernel
theorem dX2_firstOf_3 : decode cX2_firstOf 3 = .ok (.istore_n 3, 1) := by decide +kernel
theorem dX2_firstOf_4 : decode cX2_firstOf 4 = .ok (.iload_n 3, 1) := by decide +kernel
theorem dX2_firstOf_5 : decode cX2_firstOf 5 = .ok (.bipush 8, 2) := by decide +kernel
theorem dX2_firstOf_7 : decode cX2_firstOf 7 = .ok (.if_icmp .ge 33, 3) := by decide +kernel
theorem dX2_firstOf_10 : decode cX2_firstOf 10 = .ok (.iload_n 1, 1) := by decide +kernel
theorem dX2_firstOf_11 : decode cX2_firstOf 11 = .ok (.ifCond .le 29, 3) := by decide +kernel
theorem dX2_firstOf_14 : decode cX2_firstOf 14 = .ok (.iload_n 0, 1) := by decide +kernel
theorem dX2_firstOf_15 : decode cX2_firstOf 15 = .ok (.iconst 1, 1) := by decide +kernel
theorem dX2_firstOf_16 : decode cX2_firstOf 16 = .ok (.iload_n 3, 1) := by decide +kernel
theorem dX2_firstOf_17 : decode cX2_firstOf 17 = .ok (.ishl, 1) := by decide +kernel
theorem dX2_firstOf_18 : decode cX2_firstOf 18 = .ok (.iand, 1) := by decide +kernel
theorem dX2_firstOf_19 : decode cX2_firstOf 19 = .ok (.istore 4, 2) := by decide +kernel
theorem dX2_firstOf_21 : decode cX2_firstOf 21 = .ok (.iload 4, 2) := by decide +kernel
theorem dX2_firstOf_23 : decode cX2_firstOf 23 = .ok (.ifCond .eq 11, 3) := by decide +kernel
theorem dX2_firstOf_26 : decode cX2_firstOf 26 = .ok (.iload_n 2, 1) := by decide +kernel
theorem dX2_firstOf_27 : decode cX2_firstOf 27 = .ok (.iload 4, 2) := by decide +kernel
theorem dX2_firstOf_29 : decode cX2_firstOf 29 = .ok (.ior, 1) := by decide +kernel
theorem dX2_firstOf_30 : decode cX2_firstOf 30 = .ok (.istore_n 2, 1) := by decide +kernel
theorem dX2_firstOf_31 : decode cX2_firstOf 31 = .ok (.iinc 1 (-1), 3) := by decide +kernel
theorem dX2_firstOf_34 : decode cX2_firstOf 34 = .ok (.iinc 3 1, 3) := by decide +kernel
theorem dX2_firstOf_37 : decode cX2_firstOf 37 = .ok (.goto (-33), 3) := by decide +kernel
theorem dX2_firstOf_40 : decode cX2_firstOf 40 = .ok (.iload_n 2, 1) := by decide +kernel
theorem dX2_firstOf_41 : decode cX2_firstOf 41 = .ok (.ireturn, 1) := by decide +kernel
theorem dX3_init_0 : decode cX3_init 0 = .ok (.aload_n 0, 1) := by decide +kernel
theorem dX3_init_1 : decode cX3_init 1 = .ok (.invokespecial 3, 3) := by decide +kernel
theorem dX3_init_4 : decode cX3_init 4 = .ok (.aload_n 0, 1) := by decide +kernel
theorem dX3_init_5 : decode cX3_init 5 = .ok (.bipush 9, 2) := by decide +kernel
theorem dX3_init_7 : decode cX3_init 7 = .ok (.newarray .int, 2) := by decide +kernel
theorem dX3_init_9 : decode cX3_init 9 = .ok (.putfield 9, 3) := by decide +kernel
theorem dX3_init_12 : decode cX3_init 12 = .ok (.aload_n 0, 1) := by decide +kernel
theorem dX3_init_13 : decode cX3_init 13 = .ok (.bipush 9, 2) := by decide +kernel
theorem dX3_init_15 : decode cX3_init 15 = .ok (.newarray .long, 2) := by decide +kernel
theorem dX3_init_17 : decode cX3_init 17 = .ok (.putfield 15, 3) := by decide +kernel
theorem dX3_init_20 : decode cX3_init 20 = .ok (.aload_n 0, 1) := by decide +kernel
theorem dX3_init_21 : decode cX3_init 21 = .ok (.bipush 9, 2) := by decide +kernel
theorem dX3_init_23 : decode cX3_init 23 = .ok (.newarray .long, 2) := by decide +kernel
theorem dX3_init_25 : decode cX3_init 25 = .ok (.putfield 19, 3) := by decide +kernel
theorem dX3_init_28 : decode cX3_init 28 = .ok (.aload_n 0, 1) := by decide +kernel
theorem dX3_init_29 : decode cX3_init 29 = .ok (.aload_n 1, 1) := by decide +kernel
theorem dX3_init_30 : decode cX3_init 30 = .ok (.putfield 22, 3) := by decide +kernel
theorem dX3_init_33 : decode cX3_init 33 = .ok (.aload_n 0, 1) := by decide +kernel
theorem dX3_init_34 : decode cX3_init 34 = .ok (.aload_n 2, 1) := by decide +kernel
theorem dX3_init_35 : decode cX3_init 35 = .ok (.putfield 26, 3) := by decide +kernel
theorem dX3_init_38 : decode cX3_init 38 = .ok (.return_, 1) := by decide +kernel
theorem dX3_drawAll_0 : decode cX3_drawAll 0 = .ok (.aload_n 0, 1) := by decide +kernel
theorem dX3_drawAll_1 : decode cX3_drawAll 1 = .ok (.invokevirtual 30, 3) := by decide +kernel
theorem dX3_drawAll_4 : decode cX3_drawAll 4 = .ok (.aload_n 0, 1) := by decide +kernel
theorem dX3_drawAll_5 : decode cX3_drawAll 5 = .ok (.getfield 15, 3) := by decide +kernel
theorem dX3_drawAll_8 : decode cX3_drawAll 8 = .ok (.lconst 0, 1) := by decide +kernel
theorem dX3_drawAll_9 : decode cX3_drawAll 9 = .ok (.invokestatic 33, 3) := by decide +kernel
theorem dX3_drawAll_12 : decode cX3_drawAll 12 = .ok (.aload_n 0, 1) := by decide +kernel
theorem dX3_drawAll_13 : decode cX3_drawAll 13 = .ok (.getfield 15, 3) := by decide +kernel
theorem dX3_drawAll_16 : decode cX3_drawAll 16 = .ok (.aload_n 0, 1) := by decide +kernel
theorem dX3_drawAll_17 : decode cX3_drawAll 17 = .ok (.getfield 22, 3) := by decide +kernel
theorem dX3_drawAll_20 : decode cX3_drawAll 20 = .ok (.getfield 39, 3) := by decide +kernel
theorem dX3_drawAll_23 : decode cX3_drawAll 23 = .ok (.lconst 1, 1) := by decide +kernel
theorem dX3_drawAll_24 : decode cX3_drawAll 24 = .ok (.lastore, 1) := by decide +kernel
theorem dX3_drawAll_25 : decode cX3_drawAll 25 = .ok (.lconst 1, 1) := by decide +kernel
theorem dX3_drawAll_26 : decode cX3_drawAll 26 = .ok (.lstore_n 1, 1) := by decide +kernel
theorem dX3_drawAll_27 : decode cX3_drawAll 27 = .ok (.lconst 0, 1) := by decide +kernel
theorem dX3_drawAll_28 : decode cX3_drawAll 28 = .ok (.lstore_n 3, 1) := by decide +kernel
theorem dX3_drawAll_29 : decode cX3_drawAll 29 = .ok (.iconst 0, 1) := by decide +kernel
theorem dX3_drawAll_30 : decode cX3_drawAll 30 = .ok (.istore 5, 2) := by decide +kernel
theorem dX3_drawAll_32 : decode cX3_drawAll 32 = .ok (.iload 5, 2) := by decide +kernel
theorem dX3_drawAll_34 : decode cX3_drawAll 34 = .ok (.aload_n 0, 1) := by decide +kernel
theorem dX3_drawAll_35 : decode cX3_drawAll 35 = .ok (.getfield 22, 3) := by decide +kernel
theorem dX3_drawAll_38 : decode cX3_drawAll 38 = .ok (.getfield 45, 3) := by decide +kernel
theorem dX3_drawAll_41 : decode cX3_drawAll 41 = .ok (.if_icmp .ge 38, 3) := by decide +kernel
theorem dX3_drawAll_44 : decode cX3_drawAll 44 = .ok (.aload_n 0, 1) := by decide +kernel
theorem dX3_drawAll_45 : decode cX3_drawAll 45 = .ok (.aload_n 0, 1) := by decide +kernel
theorem dX3_drawAll_46 : decode cX3_drawAll 46 = .ok (.getfield 22, 3) := by decide +kernel
theorem dX3_drawAll_49 : decode cX3_drawAll 49 = .ok (.getfield 48, 3) := by decide +kernel
theorem dX3_drawAll_52 : decode cX3_drawAll 52 = .ok (.aload_n 0, 1) := by decide +kernel
theorem dX3_drawAll_53 : decode cX3_drawAll 53 = .ok (.getfield 22, 3) := by decide +kernel
theorem dX3_drawAll_56 : decode cX3_drawAll 56 = .ok (.getfield 51, 3) := by decide +kernel
theorem dX3_drawAll_59 : decode cX3_drawAll 59 = .ok (.iload 5, 2) := by decide +kernel
theorem dX3_drawAll_61 : decode cX3_drawAll 61 = .ok (.iaload, 1) := by decide +kernel
theorem dX3_drawAll_62 : decode cX3_drawAll 62 = .ok (.iaload, 1) := by decide +kernel
theorem dX3_drawAll_63 : decode cX3_drawAll 63 = .ok (.invokevirtual 54, 3) := by decide +kernel
theorem dX3_drawAll_66 : decode cX3_drawAll 66 = .ok (.lstore_n 3, 1) := by decide +kernel
theorem dX3_drawAll_67 : decode cX3_drawAll 67 = .ok (.lload_n 1, 1) := by decide +kernel
theorem dX3_drawAll_68 : decode cX3_drawAll 68 = .ok (.ldc2_w 58, 3) := by decide +kernel
theorem dX3_drawAll_71 : decode cX3_drawAll 71 = .ok (.lmul, 1) := by decide +kernel
theorem dX3_drawAll_72 : decode cX3_drawAll 72 = .ok (.lstore_n 1, 1) := by decide +kernel
theorem dX3_drawAll_73 : decode cX3_drawAll 73 = .ok (.iinc 5 1, 3) := by decide +kernel
theorem dX3_drawAll_76 : decode cX3_drawAll 76 = .ok (.goto (-44), 3) := by decide +kernel
theorem dX3_drawAll_79 : decode cX3_drawAll 79 = .ok (.lload_n 1, 1) := by decide +kernel
theorem dX3_drawAll_80 : decode cX3_drawAll 80 = .ok (.lload_n 3, 1) := by decide +kernel
theorem dX3_drawAll_81 : decode cX3_drawAll 81 = .ok (.invokestatic 60, 3) := by decide +kernel
theorem dX3_drawAll_84 : decode cX3_drawAll 84 = .ok (.lstore 5, 2) := by decide +kernel
theorem dX3_drawAll_86 : decode cX3_drawAll 86 = .ok (.aload_n 0, 1) := by decide +kernel
theorem dX3_drawAll_87 : decode cX3_drawAll 87 = .ok (.lload 5, 2) := by decide +kernel
theorem dX3_drawAll_89 : decode cX3_drawAll 89 = .ok (.lconst 0, 1) := by decide +kernel
theorem dX3_drawAll_90 : decode cX3_drawAll 90 = .ok (.lcmp, 1) := by decide +kernel
theorem dX3_drawAll_91 : decode cX3_drawAll 91 = .ok (.ifCond .ne 7, 3) := by decide +kernel
theorem dX3_drawAll_94 : decode cX3_drawAll 94 = .ok (.lload_n 3, 1) := by decide +kernel
theorem dX3_drawAll_95 : decode cX3_drawAll 95 = .ok (.goto 7, 3) := by decide +kernel
theorem dX3_drawAll_98 : decode cX3_drawAll 98 = .ok (.lload_n 3, 1) := by decide +kernel
theorem dX3_drawAll_99 : decode cX3_drawAll 99 = .ok (.lload 5, 2) := by decide +kernel
theorem dX3_drawAll_101 : decode cX3_drawAll 101 = .ok (.ldiv, 1) := by decide +kernel
theorem dX3_drawAll_102 : decode cX3_drawAll 102 = .ok (.putfield 64, 3) := by decide +kernel
theorem dX3_drawAll_105 : decode cX3_drawAll 105 = .ok (.aload_n 0, 1) := by decide +kernel
theorem dX3_drawAll_106 : decode cX3_drawAll 106 = .ok (.lload 5, 2) := by decide +kernel
theorem dX3_drawAll_108 : decode cX3_drawAll 108 = .ok (.lconst 0, 1) := by decide +kernel
theorem dX3_drawAll_109 : decode cX3_drawAll 109 = .ok (.lcmp, 1) := by decide +kernel
theorem dX3_drawAll_110 : decode cX3_drawAll 110 = .ok (.ifCond .ne 7, 3) := by decide +kernel
theorem dX3_drawAll_113 : decode cX3_drawAll 113 = .ok (.lload_n 1, 1) := by decide +kernel
theorem dX3_drawAll_114 : decode cX3_drawAll 114 = .ok (.goto 7, 3) := by decide +kernel
theorem dX3_drawAll_117 : decode cX3_drawAll 117 = .ok (.lload_n 1, 1) := by decide +kernel
theorem dX3_drawAll_118 : decode cX3_drawAll 118 = .ok (.lload 5, 2) := by decide +kernel
theorem dX3_drawAll_120 : decode cX3_drawAll 120 = .ok (.ldiv, 1) := by decide +kernel
theorem dX3_drawAll_121 : decode cX3_drawAll 121 = .ok (.putfield 68, 3) := by decide +kernel
theorem dX3_drawAll_124 : decode cX3_drawAll 124 = .ok (.return_, 1) := by decide +kernel
theorem dX3_countSets_0 : decode cX3_countSets 0 = .ok (.aload_n 0, 1) := by decide +kernel
theorem dX3_countSets_1 : decode cX3_countSets 1 = .ok (.getfield 9, 3) := by decide +kernel
theorem dX3_countSets_4 : decode cX3_countSets 4 = .ok (.iconst 0, 1) := by decide +kernel
theorem dX3_countSets_5 : decode cX3_countSets 5 = .ok (.invokestatic 71, 3) := by decide +kernel
theorem dX3_countSets_8 : decode cX3_countSets 8 = .ok (.aload_n 0, 1) := by decide +kernel
theorem dX3_countSets_9 : decode cX3_countSets 9 = .ok (.getfield 9, 3) := by decide +kernel
theorem dX3_countSets_12 : decode cX3_countSets 12 = .ok (.iconst 0, 1) := by decide +kernel
theorem dX3_countSets_13 : decode cX3_countSets 13 = .ok (.iconst 1, 1) := by decide +kernel
theorem dX3_countSets_14 : decode cX3_countSets 14 = .ok (.iastore, 1) := by decide +kernel
theorem dX3_countSets_15 : decode cX3_countSets 15 = .ok (.iconst 0, 1) := by decide +kernel
theorem dX3_countSets_16 : decode cX3_countSets 16 = .ok (.istore_n 1, 1) := by decide +kernel
theorem dX3_countSets_17 : decode cX3_countSets 17 = .ok (.iload_n 1, 1) := by decide +kernel
theorem dX3_countSets_18 : decode cX3_countSets 18 = .ok (.aload_n 0, 1) := by decide +kernel
theorem dX3_countSets_19 : decode cX3_countSets 19 = .ok (.getfield 22, 3) := by decide +kernel
theorem dX3_countSets_22 : decode cX3_countSets 22 = .ok (.getfield 39, 3) := by decide +kernel
theorem dX3_countSets_25 : decode cX3_countSets 25 = .ok (.if_icmp .ge 40, 3) := by decide +kernel
theorem dX3_countSets_28 : decode cX3_countSets 28 = .ok (.iload_n 1, 1) := by decide +kernel
theorem dX3_countSets_29 : decode cX3_countSets 29 = .ok (.iconst 1, 1) := by decide +kernel
theorem dX3_countSets_30 : decode cX3_countSets 30 = .ok (.iadd, 1) := by decide +kernel
theorem dX3_countSets_31 : decode cX3_countSets 31 = .ok (.istore_n 2, 1) := by decide +kernel
theorem dX3_countSets_32 : decode cX3_countSets 32 = .ok (.iload_n 2, 1) := by decide +kernel
theorem dX3_countSets_33 : decode cX3_countSets 33 = .ok (.ifCond .le 26, 3) := by decide +kernel
theorem dX3_countSets_36 : decode cX3_countSets 36 = .ok (.aload_n 0, 1) := by decide +kernel
theorem dX3_countSets_37 : decode cX3_countSets 37 = .ok (.getfield 9, 3) := by decide +kernel
theorem dX3_countSets_40 : decode cX3_countSets 40 = .ok (.iload_n 2, 1) := by decide +kernel
theorem dX3_countSets_41 : decode cX3_countSets 41 = .ok (.dup2, 1) := by decide +kernel
theorem dX3_countSets_42 : decode cX3_countSets 42 = .ok (.iaload, 1) := by decide +kernel
theorem dX3_countSets_43 : decode cX3_countSets 43 = .ok (.aload_n 0, 1) := by decide +kernel
theorem dX3_countSets_44 : decode cX3_countSets 44 = .ok (.getfield 9, 3) := by decide +kernel
theorem dX3_countSets_47 : decode cX3_countSets 47 = .ok (.iload_n 2, 1) := by decide +kernel
theorem dX3_countSets_48 : decode cX3_countSets 48 = .ok (.iconst 1, 1) := by decide +kernel
theorem dX3_countSets_49 : decode cX3_countSets 49 = .ok (.isub, 1) := by decide +kernel
theorem dX3_countSets_50 : decode cX3_countSets 50 = .ok (.iaload, 1) := by decide +kernel
theorem dX3_countSets_51 : decode cX3_countSets 51 = .ok (.iadd, 1) := by decide +kernel
theorem dX3_countSets_52 : decode cX3_countSets 52 = .ok (.iastore, 1) := by decide +kernel
theorem dX3_countSets_53 : decode cX3_countSets 53 = .ok (.iinc 2 (-1), 3) := by decide +kernel
theorem dX3_countSets_56 : decode cX3_countSets 56 = .ok (.goto (-24), 3) := by decide +kernel
theorem dX3_countSets_59 : decode cX3_countSets 59 = .ok (.iinc 1 1, 3) := by decide +kernel
theorem dX3_countSets_62 : decode cX3_countSets 62 = .ok (.goto (-45), 3) := by decide +kernel
theorem dX3_countSets_65 : decode cX3_countSets 65 = .ok (.return_, 1) := by decide +kernel
theorem dX3_voteOfAllSets_0 : decode cX3_voteOfAllSets 0 = .ok (.aload_n 0, 1) := by decide +kernel
theorem dX3_voteOfAllSets_1 : decode cX3_voteOfAllSets 1 = .ok (.getfield 19, 3) := by decide +kernel
theorem dX3_voteOfAllSets_4 : decode cX3_voteOfAllSets 4 = .ok (.lconst 0, 1) := by decide +kernel
theorem dX3_voteOfAllSets_5 : decode cX3_voteOfAllSets 5 = .ok (.invokestatic 33, 3) := by decide +kernel
theorem dX3_voteOfAllSets_8 : decode cX3_voteOfAllSets 8 = .ok (.lconst 0, 1) := by decide +kernel
theorem dX3_voteOfAllSets_9 : decode cX3_voteOfAllSets 9 = .ok (.lstore_n 2, 1) := by decide +kernel
theorem dX3_voteOfAllSets_10 : decode cX3_voteOfAllSets 10 = .ok (.iconst 0, 1) := by decide +kernel
theorem dX3_voteOfAllSets_11 : decode cX3_voteOfAllSets 11 = .ok (.istore 4, 2) := by decide +kernel
theorem dX3_voteOfAllSets_13 : decode cX3_voteOfAllSets 13 = .ok (.iload 4, 2) := by decide +kernel
theorem dX3_voteOfAllSets_15 : decode cX3_voteOfAllSets 15 = .ok (.aload_n 0, 1) := by decide +kernel
theorem dX3_voteOfAllSets_16 : decode cX3_voteOfAllSets 16 = .ok (.getfield 22, 3) := by decide +kernel
theorem dX3_voteOfAllSets_19 : decode cX3_voteOfAllSets 19 = .ok (.invokevirtual 74, 3) := by decide +kernel
theorem dX3_voteOfAllSets_22 : decode cX3_voteOfAllSets 22 = .ok (.if_icmp .gt 109, 3) := by decide +kernel
theorem dX3_voteOfAllSets_25 : decode cX3_voteOfAllSets 25 = .ok (.iload 4, 2) := by decide +kernel
theorem dX3_voteOfAllSets_27 : decode cX3_voteOfAllSets 27 = .ok (.invokestatic 78, 3) := by decide +kernel
theorem dX3_voteOfAllSets_30 : decode cX3_voteOfAllSets 30 = .ok (.istore 5, 2) := by decide +kernel
theorem dX3_voteOfAllSets_32 : decode cX3_voteOfAllSets 32 = .ok (.aload_n 0, 1) := by decide +kernel
theorem dX3_voteOfAllSets_33 : decode cX3_voteOfAllSets 33 = .ok (.getfield 15, 3) := by decide +kernel
theorem dX3_voteOfAllSets_36 : decode cX3_voteOfAllSets 36 = .ok (.iload 5, 2) := by decide +kernel
theorem dX3_voteOfAllSets_38 : decode cX3_voteOfAllSets 38 = .ok (.laload, 1) := by decide +kernel
theorem dX3_voteOfAllSets_39 : decode cX3_voteOfAllSets 39 = .ok (.lconst 0, 1) := by decide +kernel
theorem dX3_voteOfAllSets_40 : decode cX3_voteOfAllSets 40 = .ok (.lcmp, 1) := by decide +kernel
theorem dX3_voteOfAllSets_41 : decode cX3_voteOfAllSets 41 = .ok (.ifCond .eq 84, 3) := by decide +kernel
theorem dX3_voteOfAllSets_44 : decode cX3_voteOfAllSets 44 = .ok (.aload_n 0, 1) := by decide +kernel
theorem dX3_voteOfAllSets_45 : decode cX3_voteOfAllSets 45 = .ok (.getfield 9, 3) := by decide +kernel
theorem dX3_voteOfAllSets_48 : decode cX3_voteOfAllSets 48 = .ok (.iload 5, 2) := by decide +kernel
theorem dX3_voteOfAllSets_50 : decode cX3_voteOfAllSets 50 = .ok (.iaload, 1) := by decide +kernel
theorem dX3_voteOfAllSets_51 : decode cX3_voteOfAllSets 51 = .ok (.ifCond .eq 74, 3) := by decide +kernel
theorem dX3_voteOfAllSets_54 : decode cX3_voteOfAllSets 54 = .ok (.aload_n 0, 1) := by decide +kernel
theorem dX3_voteOfAllSets_55 : decode cX3_voteOfAllSets 55 = .ok (.getfield 15, 3) := by decide +kernel
theorem dX3_voteOfAllSets_58 : decode cX3_voteOfAllSets 58 = .ok (.iload 5, 2) := by decide +kernel
theorem dX3_voteOfAllSets_60 : decode cX3_voteOfAllSets 60 = .ok (.laload, 1) := by decide +kernel
theorem dX3_voteOfAllSets_61 : decode cX3_voteOfAllSets 61 = .ok (.sipush 840, 3) := by decide +kernel
theorem dX3_voteOfAllSets_64 : decode cX3_voteOfAllSets 64 = .ok (.aload_n 0, 1) := by decide +kernel
theorem dX3_voteOfAllSets_65 : decode cX3_voteOfAllSets 65 = .ok (.getfield 9, 3) := by decide +kernel
theorem dX3_voteOfAllSets_68 : decode cX3_voteOfAllSets 68 = .ok (.iload 5, 2) := by decide +kernel
theorem dX3_voteOfAllSets_70 : decode cX3_voteOfAllSets 70 = .ok (.iaload, 1) := by decide +kernel
theorem dX3_voteOfAllSets_71 : decode cX3_voteOfAllSets 71 = .ok (.idiv, 1) := by decide +kernel
theorem dX3_voteOfAllSets_72 : decode cX3_voteOfAllSets 72 = .ok (.i2l, 1) := by decide +kernel
theorem dX3_voteOfAllSets_73 : decode cX3_voteOfAllSets 73 = .ok (.lmul, 1) := by decide +kernel
theorem dX3_voteOfAllSets_74 : decode cX3_voteOfAllSets 74 = .ok (.lstore 6, 2) := by decide +kernel
theorem dX3_voteOfAllSets_76 : decode cX3_voteOfAllSets 76 = .ok (.aload_n 0, 1) := by decide +kernel
theorem dX3_voteOfAllSets_77 : decode cX3_voteOfAllSets 77 = .ok (.getfield 26, 3) := by decide +kernel
theorem dX3_voteOfAllSets_80 : decode cX3_voteOfAllSets 80 = .ok (.iload 4, 2) := by decide +kernel
theorem dX3_voteOfAllSets_82 : decode cX3_voteOfAllSets 82 = .ok (.iload_n 1, 1) := by decide +kernel
theorem dX3_voteOfAllSets_83 : decode cX3_voteOfAllSets 83 = .ok (.iconst 0, 1) := by decide +kernel
theorem dX3_voteOfAllSets_84 : decode cX3_voteOfAllSets 84 = .ok (.invokevirtual 84, 3) := by decide +kernel
theorem dX3_voteOfAllSets_87 : decode cX3_voteOfAllSets 87 = .ok (.pop, 1) := by decide +kernel
theorem dX3_voteOfAllSets_88 : decode cX3_voteOfAllSets 88 = .ok (.aload_n 0, 1) := by decide +kernel
theorem dX3_voteOfAllSets_89 : decode cX3_voteOfAllSets 89 = .ok (.getfield 19, 3) := by decide +kernel
theorem dX3_voteOfAllSets_92 : decode cX3_voteOfAllSets 92 = .ok (.aload_n 0, 1) := by decide +kernel
theorem dX3_voteOfAllSets_93 : decode cX3_voteOfAllSets 93 = .ok (.getfield 26, 3) := by decide +kernel
theorem dX3_voteOfAllSets_96 : decode cX3_voteOfAllSets 96 = .ok (.getfield 90, 3) := by decide +kernel
theorem dX3_voteOfAllSets_99 : decode cX3_voteOfAllSets 99 = .ok (.dup2, 1) := by decide +kernel
theorem dX3_voteOfAllSets_100 : decode cX3_voteOfAllSets 100 = .ok (.laload, 1) := by decide +kernel
theorem dX3_voteOfAllSets_101 : decode cX3_voteOfAllSets 101 = .ok (.lload 6, 2) := by decide +kernel
theorem dX3_voteOfAllSets_103 : decode cX3_voteOfAllSets 103 = .ok (.ladd, 1) := by decide +kernel
theorem dX3_voteOfAllSets_104 : decode cX3_voteOfAllSets 104 = .ok (.lastore, 1) := by decide +kernel
theorem dX3_voteOfAllSets_105 : decode cX3_voteOfAllSets 105 = .ok (.lload_n 2, 1) := by decide +kernel
theorem dX3_voteOfAllSets_106 : decode cX3_voteOfAllSets 106 = .ok (.aload_n 0, 1) := by decide +kernel
theorem dX3_voteOfAllSets_107 : decode cX3_voteOfAllSets 107 = .ok (.getfield 26, 3) := by decide +kernel
theorem dX3_voteOfAllSets_110 : decode cX3_voteOfAllSets 110 = .ok (.getfield 93, 3) := by decide +kernel
theorem dX3_voteOfAllSets_113 : decode cX3_voteOfAllSets 113 = .ok (.iconst 1, 1) := by decide +kernel
theorem dX3_voteOfAllSets_114 : decode cX3_voteOfAllSets 114 = .ok (.if_icmp .ne 8, 3) := by decide +kernel
theorem dX3_voteOfAllSets_117 : decode cX3_voteOfAllSets 117 = .ok (.lload 6, 2) := by decide +kernel
theorem dX3_voteOfAllSets_119 : decode cX3_voteOfAllSets 119 = .ok (.goto 4, 3) := by decide +kernel
theorem dX3_voteOfAllSets_122 : decode cX3_voteOfAllSets 122 = .ok (.lconst 0, 1) := by decide +kernel
theorem dX3_voteOfAllSets_123 : decode cX3_voteOfAllSets 123 = .ok (.ladd, 1) := by decide +kernel
theorem dX3_voteOfAllSets_124 : decode cX3_voteOfAllSets 124 = .ok (.lstore_n 2, 1) := by decide +kernel
theorem dX3_voteOfAllSets_125 : decode cX3_voteOfAllSets 125 = .ok (.iinc 4 1, 3) := by decide +kernel
theorem dX3_voteOfAllSets_128 : decode cX3_voteOfAllSets 128 = .ok (.goto (-115), 3) := by decide +kernel
theorem dX3_voteOfAllSets_131 : decode cX3_voteOfAllSets 131 = .ok (.aload_n 0, 1) := by decide +kernel
theorem dX3_voteOfAllSets_132 : decode cX3_voteOfAllSets 132 = .ok (.getfield 19, 3) := by decide +kernel
theorem dX3_voteOfAllSets_135 : decode cX3_voteOfAllSets 135 = .ok (.iconst 0, 1) := by decide +kernel
theorem dX3_voteOfAllSets_136 : decode cX3_voteOfAllSets 136 = .ok (.aload_n 0, 1) := by decide +kernel
theorem dX3_voteOfAllSets_137 : decode cX3_voteOfAllSets 137 = .ok (.getfield 15, 3) := by decide +kernel
theorem dX3_voteOfAllSets_140 : decode cX3_voteOfAllSets 140 = .ok (.iconst 0, 1) := by decide +kernel
theorem dX3_voteOfAllSets_141 : decode cX3_voteOfAllSets 141 = .ok (.bipush 9, 2) := by decide +kernel
theorem dX3_voteOfAllSets_143 : decode cX3_voteOfAllSets 143 = .ok (.invokestatic 96, 3) := by decide +kernel
theorem dX3_voteOfAllSets_146 : decode cX3_voteOfAllSets 146 = .ok (.lload_n 2, 1) := by decide +kernel
theorem dX3_voteOfAllSets_147 : decode cX3_voteOfAllSets 147 = .ok (.lreturn, 1) := by decide +kernel
theorem dX3_commonDivisor_0 : decode cX3_commonDivisor 0 = .ok (.iconst 0, 1) := by decide +kernel
theorem dX3_commonDivisor_1 : decode cX3_commonDivisor 1 = .ok (.istore 4, 2) := by decide +kernel
theorem dX3_commonDivisor_3 : decode cX3_commonDivisor 3 = .ok (.iload 4, 2) := by decide +kernel
theorem dX3_commonDivisor_5 : decode cX3_commonDivisor 5 = .ok (.sipush 200, 3) := by decide +kernel
theorem dX3_commonDivisor_8 : decode cX3_commonDivisor 8 = .ok (.if_icmp .ge 25, 3) := by decide +kernel
theorem dX3_commonDivisor_11 : decode cX3_commonDivisor 11 = .ok (.lload_n 2, 1) := by decide +kernel
theorem dX3_commonDivisor_12 : decode cX3_commonDivisor 12 = .ok (.lconst 0, 1) := by decide +kernel
theorem dX3_commonDivisor_13 : decode cX3_commonDivisor 13 = .ok (.lcmp, 1) := by decide +kernel
theorem dX3_commonDivisor_14 : decode cX3_commonDivisor 14 = .ok (.ifCond .eq 19, 3) := by decide +kernel
theorem dX3_commonDivisor_17 : decode cX3_commonDivisor 17 = .ok (.lload_n 0, 1) := by decide +kernel
theorem dX3_commonDivisor_18 : decode cX3_commonDivisor 18 = .ok (.lload_n 2, 1) := by decide +kernel
theorem dX3_commonDivisor_19 : decode cX3_commonDivisor 19 = .ok (.lrem, 1) := by decide +kernel
theorem dX3_commonDivisor_20 : decode cX3_commonDivisor 20 = .ok (.lstore 5, 2) := by decide +kernel
theorem dX3_commonDivisor_22 : decode cX3_commonDivisor 22 = .ok (.lload_n 2, 1) := by decide +kernel
theorem dX3_commonDivisor_23 : decode cX3_commonDivisor 23 = .ok (.lstore_n 0, 1) := by decide +kernel
theorem dX3_commonDivisor_24 : decode cX3_commonDivisor 24 = .ok (.lload 5, 2) := by decide +kernel
theorem dX3_commonDivisor_26 : decode cX3_commonDivisor 26 = .ok (.lstore_n 2, 1) := by decide +kernel
theorem dX3_commonDivisor_27 : decode cX3_commonDivisor 27 = .ok (.iinc 4 1, 3) := by decide +kernel
theorem dX3_commonDivisor_30 : decode cX3_commonDivisor 30 = .ok (.goto (-27), 3) := by decide +kernel
theorem dX3_commonDivisor_33 : decode cX3_commonDivisor 33 = .ok (.lload_n 0, 1) := by decide +kernel
theorem dX3_commonDivisor_34 : decode cX3_commonDivisor 34 = .ok (.lreturn, 1) := by decide +kernel
theorem dX4_init_0 : decode cX4_init 0 = .ok (.aload_n 0, 1) := by decide +kernel
theorem dX4_init_1 : decode cX4_init 1 = .ok (.invokespecial 3, 3) := by decide +kernel
theorem dX4_init_4 : decode cX4_init 4 = .ok (.aload_n 0, 1) := by decide +kernel
theorem dX4_init_5 : decode cX4_init 5 = .ok (.bipush 6, 2) := by decide +kernel
theorem dX4_init_7 : decode cX4_init 7 = .ok (.newarray .int, 2) := by decide +kernel
theorem dX4_init_9 : decode cX4_init 9 = .ok (.putfield 9, 3) := by decide +kernel
theorem dX4_init_12 : decode cX4_init 12 = .ok (.aload_n 0, 1) := by decide +kernel
theorem dX4_init_13 : decode cX4_init 13 = .ok (.bipush 6, 2) := by decide +kernel
theorem dX4_init_15 : decode cX4_init 15 = .ok (.newarray .int, 2) := by decide +kernel
theorem dX4_init_17 : decode cX4_init 17 = .ok (.putfield 15, 3) := by decide +kernel
theorem dX4_init_20 : decode cX4_init 20 = .ok (.aload_n 0, 1) := by decide +kernel
theorem dX4_init_21 : decode cX4_init 21 = .ok (.aload_n 1, 1) := by decide +kernel
theorem dX4_init_22 : decode cX4_init 22 = .ok (.putfield 18, 3) := by decide +kernel
theorem dX4_init_25 : decode cX4_init 25 = .ok (.aload_n 0, 1) := by decide +kernel
theorem dX4_init_26 : decode cX4_init 26 = .ok (.aload_n 2, 1) := by decide +kernel
theorem dX4_init_27 : decode cX4_init 27 = .ok (.putfield 22, 3) := by decide +kernel
theorem dX4_init_30 : decode cX4_init 30 = .ok (.return_, 1) := by decide +kernel
theorem dX4_countWonByYes_0 : decode cX4_countWonByYes 0 = .ok (.aload_n 0, 1) := by decide +kernel
theorem dX4_countWonByYes_1 : decode cX4_countWonByYes 1 = .ok (.iconst 0, 1) := by decide +kernel
theorem dX4_countWonByYes_2 : decode cX4_countWonByYes 2 = .ok (.putfield 26, 3) := by decide +kernel
theorem dX4_countWonByYes_5 : decode cX4_countWonByYes 5 = .ok (.aload_n 0, 1) := by decide +kernel
theorem dX4_countWonByYes_6 : decode cX4_countWonByYes 6 = .ok (.iconst 0, 1) := by decide +kernel
theorem dX4_countWonByYes_7 : decode cX4_countWonByYes 7 = .ok (.aload_n 0, 1) := by decide +kernel
theorem dX4_countWonByYes_8 : decode cX4_countWonByYes 8 = .ok (.invokevirtual 30, 3) := by decide +kernel
theorem dX4_countWonByYes_11 : decode cX4_countWonByYes 11 = .ok (.aload_n 0, 1) := by decide +kernel
theorem dX4_countWonByYes_12 : decode cX4_countWonByYes 12 = .ok (.getfield 22, 3) := by decide +kernel
theorem dX4_countWonByYes_15 : decode cX4_countWonByYes 15 = .ok (.invokevirtual 34, 3) := by decide +kernel
theorem dX4_countWonByYes_18 : decode cX4_countWonByYes 18 = .ok (.iload_n 1, 1) := by decide +kernel
theorem dX4_countWonByYes_19 : decode cX4_countWonByYes 19 = .ok (.invokevirtual 39, 3) := by decide +kernel
theorem dX4_countWonByYes_22 : decode cX4_countWonByYes 22 = .ok (.ireturn, 1) := by decide +kernel
theorem dX4_isNeverShut_0 : decode cX4_isNeverShut 0 = .ok (.aload_n 0, 1) := by decide +kernel
theorem dX4_isNeverShut_1 : decode cX4_isNeverShut 1 = .ok (.iconst 0, 1) := by decide +kernel
theorem dX4_isNeverShut_2 : decode cX4_isNeverShut 2 = .ok (.aload_n 0, 1) := by decide +kernel
theorem dX4_isNeverShut_3 : decode cX4_isNeverShut 3 = .ok (.invokevirtual 30, 3) := by decide +kernel
theorem dX4_isNeverShut_6 : decode cX4_isNeverShut 6 = .ok (.aload_n 0, 1) := by decide +kernel
theorem dX4_isNeverShut_7 : decode cX4_isNeverShut 7 = .ok (.getfield 22, 3) := by decide +kernel
theorem dX4_isNeverShut_10 : decode cX4_isNeverShut 10 = .ok (.invokevirtual 34, 3) := by decide +kernel
theorem dX4_isNeverShut_13 : decode cX4_isNeverShut 13 = .ok (.invokevirtual 43, 3) := by decide +kernel
theorem dX4_isNeverShut_16 : decode cX4_isNeverShut 16 = .ok (.ireturn, 1) := by decide +kernel
theorem dX4_mattersToPut_0 : decode cX4_mattersToPut 0 = .ok (.iconst 0, 1) := by decide +kernel
theorem dX4_mattersToPut_1 : decode cX4_mattersToPut 1 = .ok (.istore_n 1, 1) := by decide +kernel
theorem dX4_mattersToPut_2 : decode cX4_mattersToPut 2 = .ok (.iconst 0, 1) := by decide +kernel
theorem dX4_mattersToPut_3 : decode cX4_mattersToPut 3 = .ok (.istore_n 2, 1) := by decide +kernel
theorem dX4_mattersToPut_4 : decode cX4_mattersToPut 4 = .ok (.iload_n 2, 1) := by decide +kernel
theorem dX4_mattersToPut_5 : decode cX4_mattersToPut 5 = .ok (.aload_n 0, 1) := by decide +kernel
theorem dX4_mattersToPut_6 : decode cX4_mattersToPut 6 = .ok (.getfield 18, 3) := by decide +kernel
theorem dX4_mattersToPut_9 : decode cX4_mattersToPut 9 = .ok (.getfield 47, 3) := by decide +kernel
theorem dX4_mattersToPut_12 : decode cX4_mattersToPut 12 = .ok (.if_icmp .ge 23, 3) := by decide +kernel
theorem dX4_mattersToPut_15 : decode cX4_mattersToPut 15 = .ok (.iload_n 1, 1) := by decide +kernel
theorem dX4_mattersToPut_16 : decode cX4_mattersToPut 16 = .ok (.iconst 1, 1) := by decide +kernel
theorem dX4_mattersToPut_17 : decode cX4_mattersToPut 17 = .ok (.aload_n 0, 1) := by decide +kernel
theorem dX4_mattersToPut_18 : decode cX4_mattersToPut 18 = .ok (.getfield 18, 3) := by decide +kernel
theorem dX4_mattersToPut_21 : decode cX4_mattersToPut 21 = .ok (.getfield 53, 3) := by decide +kernel
theorem dX4_mattersToPut_24 : decode cX4_mattersToPut 24 = .ok (.iload_n 2, 1) := by decide +kernel
theorem dX4_mattersToPut_25 : decode cX4_mattersToPut 25 = .ok (.iaload, 1) := by decide +kernel
theorem dX4_mattersToPut_26 : decode cX4_mattersToPut 26 = .ok (.ishl, 1) := by decide +kernel
theorem dX4_mattersToPut_27 : decode cX4_mattersToPut 27 = .ok (.ior, 1) := by decide +kernel
theorem dX4_mattersToPut_28 : decode cX4_mattersToPut 28 = .ok (.istore_n 1, 1) := by decide +kernel
theorem dX4_mattersToPut_29 : decode cX4_mattersToPut 29 = .ok (.iinc 2 1, 3) := by decide +kernel
theorem dX4_mattersToPut_32 : decode cX4_mattersToPut 32 = .ok (.goto (-28), 3) := by decide +kernel
theorem dX4_mattersToPut_35 : decode cX4_mattersToPut 35 = .ok (.iload_n 1, 1) := by decide +kernel
theorem dX4_mattersToPut_36 : decode cX4_mattersToPut 36 = .ok (.ireturn, 1) := by decide +kernel
theorem dX4_countFrom_0 : decode cX4_countFrom 0 = .ok (.iload_n 1, 1) := by decide +kernel
theorem dX4_countFrom_1 : decode cX4_countFrom 1 = .ok (.aload_n 0, 1) := by decide +kernel
theorem dX4_countFrom_2 : decode cX4_countFrom 2 = .ok (.getfield 18, 3) := by decide +kernel
theorem dX4_countFrom_5 : decode cX4_countFrom 5 = .ok (.getfield 47, 3) := by decide +kernel
theorem dX4_countFrom_8 : decode cX4_countFrom 8 = .ok (.if_icmp .lt 5, 3) := by decide +kernel
theorem dX4_countFrom_11 : decode cX4_countFrom 11 = .ok (.iconst 0, 1) := by decide +kernel
theorem dX4_countFrom_12 : decode cX4_countFrom 12 = .ok (.ireturn, 1) := by decide +kernel
theorem dX4_countFrom_13 : decode cX4_countFrom 13 = .ok (.iconst 0, 1) := by decide +kernel
theorem dX4_countFrom_14 : decode cX4_countFrom 14 = .ok (.istore 5, 2) := by decide +kernel
theorem dX4_countFrom_16 : decode cX4_countFrom 16 = .ok (.iconst 0, 1) := by decide +kernel
theorem dX4_countFrom_17 : decode cX4_countFrom 17 = .ok (.istore 6, 2) := by decide +kernel
theorem dX4_countFrom_19 : decode cX4_countFrom 19 = .ok (.iload 6, 2) := by decide +kernel
theorem dX4_countFrom_21 : decode cX4_countFrom 21 = .ok (.aload_n 0, 1) := by decide +kernel
theorem dX4_countFrom_22 : decode cX4_countFrom 22 = .ok (.getfield 18, 3) := by decide +kernel
theorem dX4_countFrom_25 : decode cX4_countFrom 25 = .ok (.getfield 56, 3) := by decide +kernel
theorem dX4_countFrom_28 : decode cX4_countFrom 28 = .ok (.if_icmp .ge 123, 3) := by decide +kernel
theorem dX4_countFrom_31 : decode cX4_countFrom 31 = .ok (.iload_n 2, 1) := by decide +kernel
theorem dX4_countFrom_32 : decode cX4_countFrom 32 = .ok (.iload 6, 2) := by decide +kernel
theorem dX4_countFrom_34 : decode cX4_countFrom 34 = .ok (.ishr, 1) := by decide +kernel
theorem dX4_countFrom_35 : decode cX4_countFrom 35 = .ok (.iconst 1, 1) := by decide +kernel
theorem dX4_countFrom_36 : decode cX4_countFrom 36 = .ok (.iand, 1) := by decide +kernel
theorem dX4_countFrom_37 : decode cX4_countFrom 37 = .ok (.ifCond .eq 108, 3) := by decide +kernel
theorem dX4_countFrom_40 : decode cX4_countFrom 40 = .ok (.aload_n 0, 1) := by decide +kernel
theorem dX4_countFrom_41 : decode cX4_countFrom 41 = .ok (.getfield 9, 3) := by decide +kernel
theorem dX4_countFrom_44 : decode cX4_countFrom 44 = .ok (.iload_n 1, 1) := by decide +kernel
theorem dX4_countFrom_45 : decode cX4_countFrom 45 = .ok (.iload 6, 2) := by decide +kernel
theorem dX4_countFrom_47 : decode cX4_countFrom 47 = .ok (.iastore, 1) := by decide +kernel
theorem dX4_countFrom_48 : decode cX4_countFrom 48 = .ok (.iload_n 2, 1) := by decide +kernel
theorem dX4_countFrom_49 : decode cX4_countFrom 49 = .ok (.iconst 1, 1) := by decide +kernel
theorem dX4_countFrom_50 : decode cX4_countFrom 50 = .ok (.iload 6, 2) := by decide +kernel
theorem dX4_countFrom_52 : decode cX4_countFrom 52 = .ok (.ishl, 1) := by decide +kernel
theorem dX4_countFrom_53 : decode cX4_countFrom 53 = .ok (.iconst (-1), 1) := by decide +kernel
theorem dX4_countFrom_54 : decode cX4_countFrom 54 = .ok (.ixor, 1) := by decide +kernel
theorem dX4_countFrom_55 : decode cX4_countFrom 55 = .ok (.iand, 1) := by decide +kernel
theorem dX4_countFrom_56 : decode cX4_countFrom 56 = .ok (.istore 7, 2) := by decide +kernel
theorem dX4_countFrom_58 : decode cX4_countFrom 58 = .ok (.aload_n 0, 1) := by decide +kernel
theorem dX4_countFrom_59 : decode cX4_countFrom 59 = .ok (.getfield 22, 3) := by decide +kernel
theorem dX4_countFrom_62 : decode cX4_countFrom 62 = .ok (.iload_n 3, 1) := by decide +kernel
theorem dX4_countFrom_63 : decode cX4_countFrom 63 = .ok (.aload_n 0, 1) := by decide +kernel
theorem dX4_countFrom_64 : decode cX4_countFrom 64 = .ok (.getfield 18, 3) := by decide +kernel
theorem dX4_countFrom_67 : decode cX4_countFrom 67 = .ok (.getfield 59, 3) := by decide +kernel
theorem dX4_countFrom_70 : decode cX4_countFrom 70 = .ok (.iload 6, 2) := by decide +kernel
theorem dX4_countFrom_72 : decode cX4_countFrom 72 = .ok (.iaload, 1) := by decide +kernel
theorem dX4_countFrom_73 : decode cX4_countFrom 73 = .ok (.iconst 0, 1) := by decide +kernel
theorem dX4_countFrom_74 : decode cX4_countFrom 74 = .ok (.invokevirtual 62, 3) := by decide +kernel
theorem dX4_countFrom_77 : decode cX4_countFrom 77 = .ok (.istore 8, 2) := by decide +kernel
theorem dX4_countFrom_79 : decode cX4_countFrom 79 = .ok (.iload 6, 2) := by decide +kernel
theorem dX4_countFrom_81 : decode cX4_countFrom 81 = .ok (.iload 4, 2) := by decide +kernel
theorem dX4_countFrom_83 : decode cX4_countFrom 83 = .ok (.if_icmp .eq 24, 3) := by decide +kernel
theorem dX4_countFrom_86 : decode cX4_countFrom 86 = .ok (.iload 5, 2) := by decide +kernel
theorem dX4_countFrom_88 : decode cX4_countFrom 88 = .ok (.aload_n 0, 1) := by decide +kernel
theorem dX4_countFrom_89 : decode cX4_countFrom 89 = .ok (.iload_n 1, 1) := by decide +kernel
theorem dX4_countFrom_90 : decode cX4_countFrom 90 = .ok (.iconst 1, 1) := by decide +kernel
theorem dX4_countFrom_91 : decode cX4_countFrom 91 = .ok (.iadd, 1) := by decide +kernel
theorem dX4_countFrom_92 : decode cX4_countFrom 92 = .ok (.iload 7, 2) := by decide +kernel
theorem dX4_countFrom_94 : decode cX4_countFrom 94 = .ok (.iload 8, 2) := by decide +kernel
theorem dX4_countFrom_96 : decode cX4_countFrom 96 = .ok (.iload 4, 2) := by decide +kernel
theorem dX4_countFrom_98 : decode cX4_countFrom 98 = .ok (.invokevirtual 39, 3) := by decide +kernel
theorem dX4_countFrom_101 : decode cX4_countFrom 101 = .ok (.iadd, 1) := by decide +kernel
theorem dX4_countFrom_102 : decode cX4_countFrom 102 = .ok (.istore 5, 2) := by decide +kernel
theorem dX4_countFrom_104 : decode cX4_countFrom 104 = .ok (.goto 41, 3) := by decide +kernel
theorem dX4_countFrom_107 : decode cX4_countFrom 107 = .ok (.aload_n 0, 1) := by decide +kernel
theorem dX4_countFrom_108 : decode cX4_countFrom 108 = .ok (.getfield 22, 3) := by decide +kernel
theorem dX4_countFrom_111 : decode cX4_countFrom 111 = .ok (.getfield 66, 3) := by decide +kernel
theorem dX4_countFrom_114 : decode cX4_countFrom 114 = .ok (.iconst 1, 1) := by decide +kernel
theorem dX4_countFrom_115 : decode cX4_countFrom 115 = .ok (.if_icmp .ne 30, 3) := by decide +kernel
theorem dX4_countFrom_118 : decode cX4_countFrom 118 = .ok (.iload 5, 2) := by decide +kernel
theorem dX4_countFrom_120 : decode cX4_countFrom 120 = .ok (.getstatic 69, 3) := by decide +kernel
theorem dX4_countFrom_123 : decode cX4_countFrom 123 = .ok (.aload_n 0, 1) := by decide +kernel
theorem dX4_countFrom_124 : decode cX4_countFrom 124 = .ok (.getfield 18, 3) := by decide +kernel
theorem dX4_countFrom_127 : decode cX4_countFrom 127 = .ok (.getfield 47, 3) := by decide +kernel
theorem dX4_countFrom_130 : decode cX4_countFrom 130 = .ok (.iload_n 1, 1) := by decide +kernel
theorem dX4_countFrom_131 : decode cX4_countFrom 131 = .ok (.isub, 1) := by decide +kernel
theorem dX4_countFrom_132 : decode cX4_countFrom 132 = .ok (.iconst 1, 1) := by decide +kernel
theorem dX4_countFrom_133 : decode cX4_countFrom 133 = .ok (.isub, 1) := by decide +kernel
theorem dX4_countFrom_134 : decode cX4_countFrom 134 = .ok (.iaload, 1) := by decide +kernel
theorem dX4_countFrom_135 : decode cX4_countFrom 135 = .ok (.iadd, 1) := by decide +kernel
theorem dX4_countFrom_136 : decode cX4_countFrom 136 = .ok (.istore 5, 2) := by decide +kernel
theorem dX4_countFrom_138 : decode cX4_countFrom 138 = .ok (.aload_n 0, 1) := by decide +kernel
theorem dX4_countFrom_139 : decode cX4_countFrom 139 = .ok (.iload_n 1, 1) := by decide +kernel
theorem dX4_countFrom_140 : decode cX4_countFrom 140 = .ok (.iload 7, 2) := by decide +kernel
theorem dX4_countFrom_142 : decode cX4_countFrom 142 = .ok (.invokevirtual 72, 3) := by decide +kernel
theorem dX4_countFrom_145 : decode cX4_countFrom 145 = .ok (.iinc 6 1, 3) := by decide +kernel
theorem dX4_countFrom_148 : decode cX4_countFrom 148 = .ok (.goto (-129), 3) := by decide +kernel
theorem dX4_countFrom_151 : decode cX4_countFrom 151 = .ok (.iload 5, 2) := by decide +kernel
theorem dX4_countFrom_153 : decode cX4_countFrom 153 = .ok (.ireturn, 1) := by decide +kernel
theorem dX4_keepFirst_0 : decode cX4_keepFirst 0 = .ok (.aload_n 0, 1) := by decide +kernel
theorem dX4_keepFirst_1 : decode cX4_keepFirst 1 = .ok (.getfield 26, 3) := by decide +kernel
theorem dX4_keepFirst_4 : decode cX4_keepFirst 4 = .ok (.ifCond .eq 4, 3) := by decide +kernel
theorem dX4_keepFirst_7 : decode cX4_keepFirst 7 = .ok (.return_, 1) := by decide +kernel
theorem dX4_keepFirst_8 : decode cX4_keepFirst 8 = .ok (.aload_n 0, 1) := by decide +kernel
theorem dX4_keepFirst_9 : decode cX4_keepFirst 9 = .ok (.iconst 1, 1) := by decide +kernel
theorem dX4_keepFirst_10 : decode cX4_keepFirst 10 = .ok (.putfield 26, 3) := by decide +kernel
theorem dX4_keepFirst_13 : decode cX4_keepFirst 13 = .ok (.aload_n 0, 1) := by decide +kernel
theorem dX4_keepFirst_14 : decode cX4_keepFirst 14 = .ok (.getfield 9, 3) := by decide +kernel
theorem dX4_keepFirst_17 : decode cX4_keepFirst 17 = .ok (.iconst 0, 1) := by decide +kernel
theorem dX4_keepFirst_18 : decode cX4_keepFirst 18 = .ok (.aload_n 0, 1) := by decide +kernel
theorem dX4_keepFirst_19 : decode cX4_keepFirst 19 = .ok (.getfield 15, 3) := by decide +kernel
theorem dX4_keepFirst_22 : decode cX4_keepFirst 22 = .ok (.iconst 0, 1) := by decide +kernel
theorem dX4_keepFirst_23 : decode cX4_keepFirst 23 = .ok (.iload_n 1, 1) := by decide +kernel
theorem dX4_keepFirst_24 : decode cX4_keepFirst 24 = .ok (.iconst 1, 1) := by decide +kernel
theorem dX4_keepFirst_25 : decode cX4_keepFirst 25 = .ok (.iadd, 1) := by decide +kernel
theorem dX4_keepFirst_26 : decode cX4_keepFirst 26 = .ok (.invokestatic 76, 3) := by decide +kernel
theorem dX4_keepFirst_29 : decode cX4_keepFirst 29 = .ok (.iload_n 1, 1) := by decide +kernel
theorem dX4_keepFirst_30 : decode cX4_keepFirst 30 = .ok (.iconst 1, 1) := by decide +kernel
theorem dX4_keepFirst_31 : decode cX4_keepFirst 31 = .ok (.iadd, 1) := by decide +kernel
theorem dX4_keepFirst_32 : decode cX4_keepFirst 32 = .ok (.istore_n 3, 1) := by decide +kernel
theorem dX4_keepFirst_33 : decode cX4_keepFirst 33 = .ok (.iconst 0, 1) := by decide +kernel
theorem dX4_keepFirst_34 : decode cX4_keepFirst 34 = .ok (.istore 4, 2) := by decide +kernel
theorem dX4_keepFirst_36 : decode cX4_keepFirst 36 = .ok (.iload 4, 2) := by decide +kernel
theorem dX4_keepFirst_38 : decode cX4_keepFirst 38 = .ok (.aload_n 0, 1) := by decide +kernel
theorem dX4_keepFirst_39 : decode cX4_keepFirst 39 = .ok (.getfield 18, 3) := by decide +kernel
theorem dX4_keepFirst_42 : decode cX4_keepFirst 42 = .ok (.getfield 56, 3) := by decide +kernel
theorem dX4_keepFirst_45 : decode cX4_keepFirst 45 = .ok (.if_icmp .ge 35, 3) := by decide +kernel
theorem dX4_keepFirst_48 : decode cX4_keepFirst 48 = .ok (.iload_n 3, 1) := by decide +kernel
theorem dX4_keepFirst_49 : decode cX4_keepFirst 49 = .ok (.bipush 6, 2) := by decide +kernel
theorem dX4_keepFirst_51 : decode cX4_keepFirst 51 = .ok (.if_icmp .ge 29, 3) := by decide +kernel
theorem dX4_keepFirst_54 : decode cX4_keepFirst 54 = .ok (.iload_n 2, 1) := by decide +kernel
theorem dX4_keepFirst_55 : decode cX4_keepFirst 55 = .ok (.iload 4, 2) := by decide +kernel
theorem dX4_keepFirst_57 : decode cX4_keepFirst 57 = .ok (.ishr, 1) := by decide +kernel
theorem dX4_keepFirst_58 : decode cX4_keepFirst 58 = .ok (.iconst 1, 1) := by decide +kernel
theorem dX4_keepFirst_59 : decode cX4_keepFirst 59 = .ok (.iand, 1) := by decide +kernel
theorem dX4_keepFirst_60 : decode cX4_keepFirst 60 = .ok (.ifCond .eq 14, 3) := by decide +kernel
theorem dX4_keepFirst_63 : decode cX4_keepFirst 63 = .ok (.aload_n 0, 1) := by decide +kernel
theorem dX4_keepFirst_64 : decode cX4_keepFirst 64 = .ok (.getfield 15, 3) := by decide +kernel
theorem dX4_keepFirst_67 : decode cX4_keepFirst 67 = .ok (.iload_n 3, 1) := by decide +kernel
theorem dX4_keepFirst_68 : decode cX4_keepFirst 68 = .ok (.iload 4, 2) := by decide +kernel
theorem dX4_keepFirst_70 : decode cX4_keepFirst 70 = .ok (.iastore, 1) := by decide +kernel
theorem dX4_keepFirst_71 : decode cX4_keepFirst 71 = .ok (.iinc 3 1, 3) := by decide +kernel
theorem dX4_keepFirst_74 : decode cX4_keepFirst 74 = .ok (.iinc 4 1, 3) := by decide +kernel
theorem dX4_keepFirst_77 : decode cX4_keepFirst 77 = .ok (.goto (-41), 3) := by decide +kernel
theorem dX4_keepFirst_80 : decode cX4_keepFirst 80 = .ok (.return_, 1) := by decide +kernel
theorem dX4_isOpenFrom_0 : decode cX4_isOpenFrom 0 = .ok (.iload_n 1, 1) := by decide +kernel
theorem dX4_isOpenFrom_1 : decode cX4_isOpenFrom 1 = .ok (.aload_n 0, 1) := by decide +kernel
theorem dX4_isOpenFrom_2 : decode cX4_isOpenFrom 2 = .ok (.getfield 18, 3) := by decide +kernel
theorem dX4_isOpenFrom_5 : decode cX4_isOpenFrom 5 = .ok (.getfield 47, 3) := by decide +kernel
theorem dX4_isOpenFrom_8 : decode cX4_isOpenFrom 8 = .ok (.if_icmp .lt 5, 3) := by decide +kernel
theorem dX4_isOpenFrom_11 : decode cX4_isOpenFrom 11 = .ok (.iconst 1, 1) := by decide +kernel
theorem dX4_isOpenFrom_12 : decode cX4_isOpenFrom 12 = .ok (.ireturn, 1) := by decide +kernel
theorem dX4_isOpenFrom_13 : decode cX4_isOpenFrom 13 = .ok (.iconst 0, 1) := by decide +kernel
theorem dX4_isOpenFrom_14 : decode cX4_isOpenFrom 14 = .ok (.istore 4, 2) := by decide +kernel
theorem dX4_isOpenFrom_16 : decode cX4_isOpenFrom 16 = .ok (.iload 4, 2) := by decide +kernel
theorem dX4_isOpenFrom_18 : decode cX4_isOpenFrom 18 = .ok (.aload_n 0, 1) := by decide +kernel
theorem dX4_isOpenFrom_19 : decode cX4_isOpenFrom 19 = .ok (.getfield 18, 3) := by decide +kernel
theorem dX4_isOpenFrom_22 : decode cX4_isOpenFrom 22 = .ok (.getfield 56, 3) := by decide +kernel
theorem dX4_isOpenFrom_25 : decode cX4_isOpenFrom 25 = .ok (.if_icmp .ge 71, 3) := by decide +kernel
theorem dX4_isOpenFrom_28 : decode cX4_isOpenFrom 28 = .ok (.iload_n 2, 1) := by decide +kernel
theorem dX4_isOpenFrom_29 : decode cX4_isOpenFrom 29 = .ok (.iload 4, 2) := by decide +kernel
theorem dX4_isOpenFrom_31 : decode cX4_isOpenFrom 31 = .ok (.ishr, 1) := by decide +kernel
theorem dX4_isOpenFrom_32 : decode cX4_isOpenFrom 32 = .ok (.iconst 1, 1) := by decide +kernel
theorem dX4_isOpenFrom_33 : decode cX4_isOpenFrom 33 = .ok (.iand, 1) := by decide +kernel
theorem dX4_isOpenFrom_34 : decode cX4_isOpenFrom 34 = .ok (.ifCond .eq 56, 3) := by decide +kernel
theorem dX4_isOpenFrom_37 : decode cX4_isOpenFrom 37 = .ok (.aload_n 0, 1) := by decide +kernel
theorem dX4_isOpenFrom_38 : decode cX4_isOpenFrom 38 = .ok (.getfield 22, 3) := by decide +kernel
theorem dX4_isOpenFrom_41 : decode cX4_isOpenFrom 41 = .ok (.iload_n 3, 1) := by decide +kernel
theorem dX4_isOpenFrom_42 : decode cX4_isOpenFrom 42 = .ok (.aload_n 0, 1) := by decide +kernel
theorem dX4_isOpenFrom_43 : decode cX4_isOpenFrom 43 = .ok (.getfield 18, 3) := by decide +kernel
theorem dX4_isOpenFrom_46 : decode cX4_isOpenFrom 46 = .ok (.getfield 59, 3) := by decide +kernel
theorem dX4_isOpenFrom_49 : decode cX4_isOpenFrom 49 = .ok (.iload 4, 2) := by decide +kernel
theorem dX4_isOpenFrom_51 : decode cX4_isOpenFrom 51 = .ok (.iaload, 1) := by decide +kernel
theorem dX4_isOpenFrom_52 : decode cX4_isOpenFrom 52 = .ok (.iconst 0, 1) := by decide +kernel
theorem dX4_isOpenFrom_53 : decode cX4_isOpenFrom 53 = .ok (.invokevirtual 62, 3) := by decide +kernel
theorem dX4_isOpenFrom_56 : decode cX4_isOpenFrom 56 = .ok (.istore 5, 2) := by decide +kernel
theorem dX4_isOpenFrom_58 : decode cX4_isOpenFrom 58 = .ok (.aload_n 0, 1) := by decide +kernel
theorem dX4_isOpenFrom_59 : decode cX4_isOpenFrom 59 = .ok (.getfield 22, 3) := by decide +kernel
theorem dX4_isOpenFrom_62 : decode cX4_isOpenFrom 62 = .ok (.getfield 82, 3) := by decide +kernel
theorem dX4_isOpenFrom_65 : decode cX4_isOpenFrom 65 = .ok (.ifCond .eq 23, 3) := by decide +kernel
theorem dX4_isOpenFrom_68 : decode cX4_isOpenFrom 68 = .ok (.aload_n 0, 1) := by decide +kernel
theorem dX4_isOpenFrom_69 : decode cX4_isOpenFrom 69 = .ok (.iload_n 1, 1) := by decide +kernel
theorem dX4_isOpenFrom_70 : decode cX4_isOpenFrom 70 = .ok (.iconst 1, 1) := by decide +kernel
theorem dX4_isOpenFrom_71 : decode cX4_isOpenFrom 71 = .ok (.iadd, 1) := by decide +kernel
theorem dX4_isOpenFrom_72 : decode cX4_isOpenFrom 72 = .ok (.iload_n 2, 1) := by decide +kernel
theorem dX4_isOpenFrom_73 : decode cX4_isOpenFrom 73 = .ok (.iconst 1, 1) := by decide +kernel
theorem dX4_isOpenFrom_74 : decode cX4_isOpenFrom 74 = .ok (.iload 4, 2) := by decide +kernel
theorem dX4_isOpenFrom_76 : decode cX4_isOpenFrom 76 = .ok (.ishl, 1) := by decide +kernel
theorem dX4_isOpenFrom_77 : decode cX4_isOpenFrom 77 = .ok (.iconst (-1), 1) := by decide +kernel
theorem dX4_isOpenFrom_78 : decode cX4_isOpenFrom 78 = .ok (.ixor, 1) := by decide +kernel
theorem dX4_isOpenFrom_79 : decode cX4_isOpenFrom 79 = .ok (.iand, 1) := by decide +kernel
theorem dX4_isOpenFrom_80 : decode cX4_isOpenFrom 80 = .ok (.iload 5, 2) := by decide +kernel
theorem dX4_isOpenFrom_82 : decode cX4_isOpenFrom 82 = .ok (.invokevirtual 43, 3) := by decide +kernel
theorem dX4_isOpenFrom_85 : decode cX4_isOpenFrom 85 = .ok (.ifCond .ne 5, 3) := by decide +kernel
theorem dX4_isOpenFrom_88 : decode cX4_isOpenFrom 88 = .ok (.iconst 0, 1) := by decide +kernel
theorem dX4_isOpenFrom_89 : decode cX4_isOpenFrom 89 = .ok (.ireturn, 1) := by decide +kernel
theorem dX4_isOpenFrom_90 : decode cX4_isOpenFrom 90 = .ok (.iinc 4 1, 3) := by decide +kernel
theorem dX4_isOpenFrom_93 : decode cX4_isOpenFrom 93 = .ok (.goto (-77), 3) := by decide +kernel
theorem dX4_isOpenFrom_96 : decode cX4_isOpenFrom 96 = .ok (.iconst 1, 1) := by decide +kernel
theorem dX4_isOpenFrom_97 : decode cX4_isOpenFrom 97 = .ok (.ireturn, 1) := by decide +kernel
theorem dX5_init_0 : decode cX5_init 0 = .ok (.aload_n 0, 1) := by decide +kernel
theorem dX5_init_1 : decode cX5_init 1 = .ok (.invokespecial 3, 3) := by decide +kernel
theorem dX5_init_4 : decode cX5_init 4 = .ok (.aload_n 0, 1) := by decide +kernel
theorem dX5_init_5 : decode cX5_init 5 = .ok (.sipush 256, 3) := by decide +kernel
theorem dX5_init_8 : decode cX5_init 8 = .ok (.newarray .int, 2) := by decide +kernel
theorem dX5_init_10 : decode cX5_init 10 = .ok (.putfield 9, 3) := by decide +kernel
theorem dX5_init_13 : decode cX5_init 13 = .ok (.aload_n 0, 1) := by decide +kernel
theorem dX5_init_14 : decode cX5_init 14 = .ok (.aload_n 1, 1) := by decide +kernel
theorem dX5_init_15 : decode cX5_init 15 = .ok (.putfield 15, 3) := by decide +kernel
theorem dX5_init_18 : decode cX5_init 18 = .ok (.aload_n 0, 1) := by decide +kernel
theorem dX5_init_19 : decode cX5_init 19 = .ok (.aload_n 2, 1) := by decide +kernel
theorem dX5_init_20 : decode cX5_init 20 = .ok (.putfield 19, 3) := by decide +kernel
theorem dX5_init_23 : decode cX5_init 23 = .ok (.return_, 1) := by decide +kernel
theorem dX5_find_0 : decode cX5_find 0 = .ok (.aload_n 0, 1) := by decide +kernel
theorem dX5_find_1 : decode cX5_find 1 = .ok (.getfield 9, 3) := by decide +kernel
theorem dX5_find_4 : decode cX5_find 4 = .ok (.iconst (-1), 1) := by decide +kernel
theorem dX5_find_5 : decode cX5_find 5 = .ok (.invokestatic 23, 3) := by decide +kernel
theorem dX5_find_8 : decode cX5_find 8 = .ok (.aload_n 0, 1) := by decide +kernel
theorem dX5_find_9 : decode cX5_find 9 = .ok (.aload_n 0, 1) := by decide +kernel
theorem dX5_find_10 : decode cX5_find 10 = .ok (.getfield 15, 3) := by decide +kernel
theorem dX5_find_13 : decode cX5_find 13 = .ok (.invokevirtual 29, 3) := by decide +kernel
theorem dX5_find_16 : decode cX5_find 16 = .ok (.putfield 35, 3) := by decide +kernel
theorem dX5_find_19 : decode cX5_find 19 = .ok (.iconst 0, 1) := by decide +kernel
theorem dX5_find_20 : decode cX5_find 20 = .ok (.istore_n 1, 1) := by decide +kernel
theorem dX5_find_21 : decode cX5_find 21 = .ok (.iload_n 1, 1) := by decide +kernel
theorem dX5_find_22 : decode cX5_find 22 = .ok (.sipush 256, 3) := by decide +kernel
theorem dX5_find_25 : decode cX5_find 25 = .ok (.if_icmp .gt 75, 3) := by decide +kernel
theorem dX5_find_28 : decode cX5_find 28 = .ok (.aload_n 0, 1) := by decide +kernel
theorem dX5_find_29 : decode cX5_find 29 = .ok (.getfield 15, 3) := by decide +kernel
theorem dX5_find_32 : decode cX5_find 32 = .ok (.aload_n 0, 1) := by decide +kernel
theorem dX5_find_33 : decode cX5_find 33 = .ok (.getfield 35, 3) := by decide +kernel
theorem dX5_find_36 : decode cX5_find 36 = .ok (.invokevirtual 39, 3) := by decide +kernel
theorem dX5_find_39 : decode cX5_find 39 = .ok (.istore_n 2, 1) := by decide +kernel
theorem dX5_find_40 : decode cX5_find 40 = .ok (.aload_n 0, 1) := by decide +kernel
theorem dX5_find_41 : decode cX5_find 41 = .ok (.getfield 9, 3) := by decide +kernel
theorem dX5_find_44 : decode cX5_find 44 = .ok (.iload_n 2, 1) := by decide +kernel
theorem dX5_find_45 : decode cX5_find 45 = .ok (.iaload, 1) := by decide +kernel
theorem dX5_find_46 : decode cX5_find 46 = .ok (.iconst (-1), 1) := by decide +kernel
theorem dX5_find_47 : decode cX5_find 47 = .ok (.if_icmp .eq 24, 3) := by decide +kernel
theorem dX5_find_50 : decode cX5_find 50 = .ok (.aload_n 0, 1) := by decide +kernel
theorem dX5_find_51 : decode cX5_find 51 = .ok (.aload_n 0, 1) := by decide +kernel
theorem dX5_find_52 : decode cX5_find 52 = .ok (.getfield 9, 3) := by decide +kernel
theorem dX5_find_55 : decode cX5_find 55 = .ok (.iload_n 2, 1) := by decide +kernel
theorem dX5_find_56 : decode cX5_find 56 = .ok (.iaload, 1) := by decide +kernel
theorem dX5_find_57 : decode cX5_find 57 = .ok (.putfield 43, 3) := by decide +kernel
theorem dX5_find_60 : decode cX5_find 60 = .ok (.aload_n 0, 1) := by decide +kernel
theorem dX5_find_61 : decode cX5_find 61 = .ok (.iload_n 1, 1) := by decide +kernel
theorem dX5_find_62 : decode cX5_find 62 = .ok (.aload_n 0, 1) := by decide +kernel
theorem dX5_find_63 : decode cX5_find 63 = .ok (.getfield 43, 3) := by decide +kernel
theorem dX5_find_66 : decode cX5_find 66 = .ok (.isub, 1) := by decide +kernel
theorem dX5_find_67 : decode cX5_find 67 = .ok (.putfield 46, 3) := by decide +kernel
theorem dX5_find_70 : decode cX5_find 70 = .ok (.return_, 1) := by decide +kernel
theorem dX5_find_71 : decode cX5_find 71 = .ok (.aload_n 0, 1) := by decide +kernel
theorem dX5_find_72 : decode cX5_find 72 = .ok (.getfield 9, 3) := by decide +kernel
theorem dX5_find_75 : decode cX5_find 75 = .ok (.iload_n 2, 1) := by decide +kernel
theorem dX5_find_76 : decode cX5_find 76 = .ok (.iload_n 1, 1) := by decide +kernel
theorem dX5_find_77 : decode cX5_find 77 = .ok (.iastore, 1) := by decide +kernel
theorem dX5_find_78 : decode cX5_find 78 = .ok (.aload_n 0, 1) := by decide +kernel
theorem dX5_find_79 : decode cX5_find 79 = .ok (.aload_n 0, 1) := by decide +kernel
theorem dX5_find_80 : decode cX5_find 80 = .ok (.getfield 19, 3) := by decide +kernel
theorem dX5_find_83 : decode cX5_find 83 = .ok (.aload_n 0, 1) := by decide +kernel
theorem dX5_find_84 : decode cX5_find 84 = .ok (.getfield 35, 3) := by decide +kernel
theorem dX5_find_87 : decode cX5_find 87 = .ok (.iconst 0, 1) := by decide +kernel
theorem dX5_find_88 : decode cX5_find 88 = .ok (.invokevirtual 49, 3) := by decide +kernel
theorem dX5_find_91 : decode cX5_find 91 = .ok (.putfield 35, 3) := by decide +kernel
theorem dX5_find_94 : decode cX5_find 94 = .ok (.iinc 1 1, 3) := by decide +kernel
theorem dX5_find_97 : decode cX5_find 97 = .ok (.goto (-76), 3) := by decide +kernel
theorem dX5_find_100 : decode cX5_find 100 = .ok (.return_, 1) := by decide +kernel
theorem dX5_timesWonByYes_0 : decode cX5_timesWonByYes 0 = .ok (.iconst 0, 1) := by decide +kernel
theorem dX5_timesWonByYes_1 : decode cX5_timesWonByYes 1 = .ok (.istore_n 2, 1) := by decide +kernel
theorem dX5_timesWonByYes_2 : decode cX5_timesWonByYes 2 = .ok (.aload_n 0, 1) := by decide +kernel
theorem dX5_timesWonByYes_3 : decode cX5_timesWonByYes 3 = .ok (.getfield 35, 3) := by decide +kernel
theorem dX5_timesWonByYes_6 : decode cX5_timesWonByYes 6 = .ok (.istore_n 3, 1) := by decide +kernel
theorem dX5_timesWonByYes_7 : decode cX5_timesWonByYes 7 = .ok (.iconst 0, 1) := by decide +kernel
theorem dX5_timesWonByYes_8 : decode cX5_timesWonByYes 8 = .ok (.istore 4, 2) := by decide +kernel
theorem dX5_timesWonByYes_10 : decode cX5_timesWonByYes 10 = .ok (.iload 4, 2) := by decide +kernel
theorem dX5_timesWonByYes_12 : decode cX5_timesWonByYes 12 = .ok (.aload_n 0, 1) := by decide +kernel
theorem dX5_timesWonByYes_13 : decode cX5_timesWonByYes 13 = .ok (.getfield 46, 3) := by decide +kernel
theorem dX5_timesWonByYes_16 : decode cX5_timesWonByYes 16 = .ok (.if_icmp .ge 35, 3) := by decide +kernel
theorem dX5_timesWonByYes_19 : decode cX5_timesWonByYes 19 = .ok (.aload_n 0, 1) := by decide +kernel
theorem dX5_timesWonByYes_20 : decode cX5_timesWonByYes 20 = .ok (.getfield 19, 3) := by decide +kernel
theorem dX5_timesWonByYes_23 : decode cX5_timesWonByYes 23 = .ok (.iload_n 3, 1) := by decide +kernel
theorem dX5_timesWonByYes_24 : decode cX5_timesWonByYes 24 = .ok (.iconst 0, 1) := by decide +kernel
theorem dX5_timesWonByYes_25 : decode cX5_timesWonByYes 25 = .ok (.invokevirtual 49, 3) := by decide +kernel
theorem dX5_timesWonByYes_28 : decode cX5_timesWonByYes 28 = .ok (.istore_n 3, 1) := by decide +kernel
theorem dX5_timesWonByYes_29 : decode cX5_timesWonByYes 29 = .ok (.aload_n 0, 1) := by decide +kernel
theorem dX5_timesWonByYes_30 : decode cX5_timesWonByYes 30 = .ok (.getfield 19, 3) := by decide +kernel
theorem dX5_timesWonByYes_33 : decode cX5_timesWonByYes 33 = .ok (.getfield 55, 3) := by decide +kernel
theorem dX5_timesWonByYes_36 : decode cX5_timesWonByYes 36 = .ok (.iload_n 1, 1) := by decide +kernel
theorem dX5_timesWonByYes_37 : decode cX5_timesWonByYes 37 = .ok (.iaload, 1) := by decide +kernel
theorem dX5_timesWonByYes_38 : decode cX5_timesWonByYes 38 = .ok (.iconst 1, 1) := by decide +kernel
theorem dX5_timesWonByYes_39 : decode cX5_timesWonByYes 39 = .ok (.if_icmp .ne 6, 3) := by decide +kernel
theorem dX5_timesWonByYes_42 : decode cX5_timesWonByYes 42 = .ok (.iinc 2 1, 3) := by decide +kernel
theorem dX5_timesWonByYes_45 : decode cX5_timesWonByYes 45 = .ok (.iinc 4 1, 3) := by decide +kernel
theorem dX5_timesWonByYes_48 : decode cX5_timesWonByYes 48 = .ok (.goto (-38), 3) := by decide +kernel
theorem dX5_timesWonByYes_51 : decode cX5_timesWonByYes 51 = .ok (.iload_n 2, 1) := by decide +kernel
theorem dX5_timesWonByYes_52 : decode cX5_timesWonByYes 52 = .ok (.ireturn, 1) := by decide +kernel
theorem dX6_init_0 : decode cX6_init 0 = .ok (.aload_n 0, 1) := by decide +kernel
theorem dX6_init_1 : decode cX6_init 1 = .ok (.invokespecial 3, 3) := by decide +kernel
theorem dX6_init_4 : decode cX6_init 4 = .ok (.aload_n 0, 1) := by decide +kernel
theorem dX6_init_5 : decode cX6_init 5 = .ok (.bipush 80, 2) := by decide +kernel
theorem dX6_init_7 : decode cX6_init 7 = .ok (.newarray .int, 2) := by decide +kernel
theorem dX6_init_9 : decode cX6_init 9 = .ok (.putfield 9, 3) := by decide +kernel
theorem dX6_init_12 : decode cX6_init 12 = .ok (.aload_n 0, 1) := by decide +kernel
theorem dX6_init_13 : decode cX6_init 13 = .ok (.iconst (-1), 1) := by decide +kernel
theorem dX6_init_14 : decode cX6_init 14 = .ok (.putfield 15, 3) := by decide +kernel
theorem dX6_init_17 : decode cX6_init 17 = .ok (.return_, 1) := by decide +kernel
theorem dX6_hasRow_0 : decode cX6_hasRow 0 = .ok (.aload_n 0, 1) := by decide +kernel
theorem dX6_hasRow_1 : decode cX6_hasRow 1 = .ok (.getfield 15, 3) := by decide +kernel
theorem dX6_hasRow_4 : decode cX6_hasRow 4 = .ok (.iconst (-1), 1) := by decide +kernel
theorem dX6_hasRow_5 : decode cX6_hasRow 5 = .ok (.if_icmp .eq 7, 3) := by decide +kernel
theorem dX6_hasRow_8 : decode cX6_hasRow 8 = .ok (.iconst 1, 1) := by decide +kernel
theorem dX6_hasRow_9 : decode cX6_hasRow 9 = .ok (.goto 4, 3) := by decide +kernel
theorem dX6_hasRow_12 : decode cX6_hasRow 12 = .ok (.iconst 0, 1) := by decide +kernel
theorem dX6_hasRow_13 : decode cX6_hasRow 13 = .ok (.ireturn, 1) := by decide +kernel
theorem dX6_renew_0 : decode cX6_renew 0 = .ok (.aload_n 0, 1) := by decide +kernel
theorem dX6_renew_1 : decode cX6_renew 1 = .ok (.getfield 9, 3) := by decide +kernel
theorem dX6_renew_4 : decode cX6_renew 4 = .ok (.iconst 0, 1) := by decide +kernel
theorem dX6_renew_5 : decode cX6_renew 5 = .ok (.invokestatic 19, 3) := by decide +kernel
theorem dX6_renew_8 : decode cX6_renew 8 = .ok (.aload_n 0, 1) := by decide +kernel
theorem dX6_renew_9 : decode cX6_renew 9 = .ok (.iload_n 1, 1) := by decide +kernel
theorem dX6_renew_10 : decode cX6_renew 10 = .ok (.putfield 25, 3) := by decide +kernel
theorem dX6_renew_13 : decode cX6_renew 13 = .ok (.aload_n 0, 1) := by decide +kernel
theorem dX6_renew_14 : decode cX6_renew 14 = .ok (.iload_n 2, 1) := by decide +kernel
theorem dX6_renew_15 : decode cX6_renew 15 = .ok (.putfield 15, 3) := by decide +kernel
theorem dX6_renew_18 : decode cX6_renew 18 = .ok (.return_, 1) := by decide +kernel
theorem dX6_clear_0 : decode cX6_clear 0 = .ok (.aload_n 0, 1) := by decide +kernel
theorem dX6_clear_1 : decode cX6_clear 1 = .ok (.iconst (-1), 1) := by decide +kernel
theorem dX6_clear_2 : decode cX6_clear 2 = .ok (.putfield 15, 3) := by decide +kernel
theorem dX6_clear_5 : decode cX6_clear 5 = .ok (.return_, 1) := by decide +kernel
theorem dX6_hasCells_0 : decode cX6_hasCells 0 = .ok (.iload_n 1, 1) := by decide +kernel
theorem dX6_hasCells_1 : decode cX6_hasCells 1 = .ok (.ifCond .lt 29, 3) := by decide +kernel
theorem dX6_hasCells_4 : decode cX6_hasCells 4 = .ok (.iload_n 1, 1) := by decide +kernel
theorem dX6_hasCells_5 : decode cX6_hasCells 5 = .ok (.aload_n 0, 1) := by decide +kernel
theorem dX6_hasCells_6 : decode cX6_hasCells 6 = .ok (.getfield 15, 3) := by decide +kernel
theorem dX6_hasCells_9 : decode cX6_hasCells 9 = .ok (.if_icmp .gt 21, 3) := by decide +kernel
theorem dX6_hasCells_12 : decode cX6_hasCells 12 = .ok (.iload_n 2, 1) := by decide +kernel
theorem dX6_hasCells_13 : decode cX6_hasCells 13 = .ok (.ifCond .lt 17, 3) := by decide +kernel
theorem dX6_hasCells_16 : decode cX6_hasCells 16 = .ok (.iload_n 2, 1) := by decide +kernel
theorem dX6_hasCells_17 : decode cX6_hasCells 17 = .ok (.aload_n 0, 1) := by decide +kernel
theorem dX6_hasCells_18 : decode cX6_hasCells 18 = .ok (.getfield 15, 3) := by decide +kernel
theorem dX6_hasCells_21 : decode cX6_hasCells 21 = .ok (.iload_n 1, 1) := by decide +kernel
theorem dX6_hasCells_22 : decode cX6_hasCells 22 = .ok (.isub, 1) := by decide +kernel
theorem dX6_hasCells_23 : decode cX6_hasCells 23 = .ok (.if_icmp .gt 7, 3) := by decide +kernel
theorem dX6_hasCells_26 : decode cX6_hasCells 26 = .ok (.iconst 1, 1) := by decide +kernel
theorem dX6_hasCells_27 : decode cX6_hasCells 27 = .ok (.goto 4, 3) := by decide +kernel
theorem dX6_hasCells_30 : decode cX6_hasCells 30 = .ok (.iconst 0, 1) := by decide +kernel
theorem dX6_hasCells_31 : decode cX6_hasCells 31 = .ok (.ireturn, 1) := by decide +kernel
theorem dX6_at_0 : decode cX6_at 0 = .ok (.iload_n 1, 1) := by decide +kernel
theorem dX6_at_1 : decode cX6_at 1 = .ok (.ifCond .lt 20, 3) := by decide +kernel
theorem dX6_at_4 : decode cX6_at 4 = .ok (.iload_n 1, 1) := by decide +kernel
theorem dX6_at_5 : decode cX6_at 5 = .ok (.aload_n 0, 1) := by decide +kernel
theorem dX6_at_6 : decode cX6_at 6 = .ok (.getfield 15, 3) := by decide +kernel
theorem dX6_at_9 : decode cX6_at 9 = .ok (.if_icmp .ge 12, 3) := by decide +kernel
theorem dX6_at_12 : decode cX6_at 12 = .ok (.aload_n 0, 1) := by decide +kernel
theorem dX6_at_13 : decode cX6_at 13 = .ok (.getfield 9, 3) := by decide +kernel
theorem dX6_at_16 : decode cX6_at 16 = .ok (.iload_n 1, 1) := by decide +kernel
theorem dX6_at_17 : decode cX6_at 17 = .ok (.iaload, 1) := by decide +kernel
theorem dX6_at_18 : decode cX6_at 18 = .ok (.goto 4, 3) := by decide +kernel
theorem dX6_at_21 : decode cX6_at 21 = .ok (.iconst 0, 1) := by decide +kernel
theorem dX6_at_22 : decode cX6_at 22 = .ok (.ireturn, 1) := by decide +kernel
theorem dX6_store_0 : decode cX6_store 0 = .ok (.iload_n 1, 1) := by decide +kernel
theorem dX6_store_1 : decode cX6_store 1 = .ok (.ifCond .lt 43, 3) := by decide +kernel
theorem dX6_store_4 : decode cX6_store 4 = .ok (.iload_n 1, 1) := by decide +kernel
theorem dX6_store_5 : decode cX6_store 5 = .ok (.aload_n 0, 1) := by decide +kernel
theorem dX6_store_6 : decode cX6_store 6 = .ok (.getfield 15, 3) := by decide +kernel
theorem dX6_store_9 : decode cX6_store 9 = .ok (.if_icmp .ge 35, 3) := by decide +kernel
theorem dX6_store_12 : decode cX6_store 12 = .ok (.aload_n 0, 1) := by decide +kernel
theorem dX6_store_13 : decode cX6_store 13 = .ok (.getfield 9, 3) := by decide +kernel
theorem dX6_store_16 : decode cX6_store 16 = .ok (.iload_n 1, 1) := by decide +kernel
theorem dX6_store_17 : decode cX6_store 17 = .ok (.aload_n 0, 1) := by decide +kernel
theorem dX6_store_18 : decode cX6_store 18 = .ok (.getfield 25, 3) := by decide +kernel
theorem dX6_store_21 : decode cX6_store 21 = .ok (.ifCond .ne 8, 3) := by decide +kernel
theorem dX6_store_24 : decode cX6_store 24 = .ok (.iload_n 2, 1) := by decide +kernel
theorem dX6_store_25 : decode cX6_store 25 = .ok (.i2b, 1) := by decide +kernel
theorem dX6_store_26 : decode cX6_store 26 = .ok (.goto 17, 3) := by decide +kernel
theorem dX6_store_29 : decode cX6_store 29 = .ok (.aload_n 0, 1) := by decide +kernel
theorem dX6_store_30 : decode cX6_store 30 = .ok (.getfield 25, 3) := by decide +kernel
theorem dX6_store_33 : decode cX6_store 33 = .ok (.iconst 1, 1) := by decide +kernel
theorem dX6_store_34 : decode cX6_store 34 = .ok (.if_icmp .ne 8, 3) := by decide +kernel
theorem dX6_store_37 : decode cX6_store 37 = .ok (.iload_n 2, 1) := by decide +kernel
theorem dX6_store_38 : decode cX6_store 38 = .ok (.i2s, 1) := by decide +kernel
theorem dX6_store_39 : decode cX6_store 39 = .ok (.goto 4, 3) := by decide +kernel
theorem dX6_store_42 : decode cX6_store 42 = .ok (.iload_n 2, 1) := by decide +kernel
theorem dX6_store_43 : decode cX6_store 43 = .ok (.iastore, 1) := by decide +kernel
theorem dX6_store_44 : decode cX6_store 44 = .ok (.return_, 1) := by decide +kernel
theorem dX7_init_0 : decode cX7_init 0 = .ok (.aload_n 0, 1) := by decide +kernel
theorem dX7_init_1 : decode cX7_init 1 = .ok (.invokespecial 3, 3) := by decide +kernel
theorem dX7_init_4 : decode cX7_init 4 = .ok (.aload_n 0, 1) := by decide +kernel
theorem dX7_init_5 : decode cX7_init 5 = .ok (.bipush 8, 2) := by decide +kernel
theorem dX7_init_7 : decode cX7_init 7 = .ok (.newarray .int, 2) := by decide +kernel
theorem dX7_init_9 : decode cX7_init 9 = .ok (.putfield 9, 3) := by decide +kernel
theorem dX7_init_12 : decode cX7_init 12 = .ok (.aload_n 0, 1) := by decide +kernel
theorem dX7_init_13 : decode cX7_init 13 = .ok (.bipush 6, 2) := by decide +kernel
theorem dX7_init_15 : decode cX7_init 15 = .ok (.newarray .int, 2) := by decide +kernel
theorem dX7_init_17 : decode cX7_init 17 = .ok (.putfield 15, 3) := by decide +kernel
theorem dX7_init_20 : decode cX7_init 20 = .ok (.aload_n 0, 1) := by decide +kernel
theorem dX7_init_21 : decode cX7_init 21 = .ok (.bipush 6, 2) := by decide +kernel
theorem dX7_init_23 : decode cX7_init 23 = .ok (.newarray .int, 2) := by decide +kernel
theorem dX7_init_25 : decode cX7_init 25 = .ok (.putfield 18, 3) := by decide +kernel
theorem dX7_init_28 : decode cX7_init 28 = .ok (.return_, 1) := by decide +kernel
theorem dX7_stands_0 : decode cX7_stands 0 = .ok (.aload_n 0, 1) := by decide +kernel
theorem dX7_stands_1 : decode cX7_stands 1 = .ok (.getfield 21, 3) := by decide +kernel
theorem dX7_stands_4 : decode cX7_stands 4 = .ok (.ifCond .le 7, 3) := by decide +kernel
theorem dX7_stands_7 : decode cX7_stands 7 = .ok (.iconst 1, 1) := by decide +kernel
theorem dX7_stands_8 : decode cX7_stands 8 = .ok (.goto 4, 3) := by decide +kernel
theorem dX7_stands_11 : decode cX7_stands 11 = .ok (.iconst 0, 1) := by decide +kernel
theorem dX7_stands_12 : decode cX7_stands 12 = .ok (.ireturn, 1) := by decide +kernel
theorem dX7_hasOne_0 : decode cX7_hasOne 0 = .ok (.iload_n 1, 1) := by decide +kernel
theorem dX7_hasOne_1 : decode cX7_hasOne 1 = .ok (.ifCond .lt 15, 3) := by decide +kernel
theorem dX7_hasOne_4 : decode cX7_hasOne 4 = .ok (.iload_n 1, 1) := by decide +kernel
theorem dX7_hasOne_5 : decode cX7_hasOne 5 = .ok (.aload_n 0, 1) := by decide +kernel
theorem dX7_hasOne_6 : decode cX7_hasOne 6 = .ok (.getfield 21, 3) := by decide +kernel
theorem dX7_hasOne_9 : decode cX7_hasOne 9 = .ok (.if_icmp .ge 7, 3) := by decide +kernel
theorem dX7_hasOne_12 : decode cX7_hasOne 12 = .ok (.iconst 1, 1) := by decide +kernel
theorem dX7_hasOne_13 : decode cX7_hasOne 13 = .ok (.goto 4, 3) := by decide +kernel
theorem dX7_hasOne_16 : decode cX7_hasOne 16 = .ok (.iconst 0, 1) := by decide +kernel
theorem dX7_hasOne_17 : decode cX7_hasOne 17 = .ok (.ireturn, 1) := by decide +kernel
theorem dX7_hasMatter_0 : decode cX7_hasMatter 0 = .ok (.iload_n 1, 1) := by decide +kernel
theorem dX7_hasMatter_1 : decode cX7_hasMatter 1 = .ok (.ifCond .lt 15, 3) := by decide +kernel
theorem dX7_hasMatter_4 : decode cX7_hasMatter 4 = .ok (.iload_n 1, 1) := by decide +kernel
theorem dX7_hasMatter_5 : decode cX7_hasMatter 5 = .ok (.aload_n 0, 1) := by decide +kernel
theorem dX7_hasMatter_6 : decode cX7_hasMatter 6 = .ok (.getfield 25, 3) := by decide +kernel
theorem dX7_hasMatter_9 : decode cX7_hasMatter 9 = .ok (.if_icmp .ge 7, 3) := by decide +kernel
theorem dX7_hasMatter_12 : decode cX7_hasMatter 12 = .ok (.iconst 1, 1) := by decide +kernel
theorem dX7_hasMatter_13 : decode cX7_hasMatter 13 = .ok (.goto 4, 3) := by decide +kernel
theorem dX7_hasMatter_16 : decode cX7_hasMatter 16 = .ok (.iconst 0, 1) := by decide +kernel
theorem dX7_hasMatter_17 : decode cX7_hasMatter 17 = .ok (.ireturn, 1) := by decide +kernel
theorem dX7_everybody_0 : decode cX7_everybody 0 = .ok (.iconst 1, 1) := by decide +kernel
theorem dX7_everybody_1 : decode cX7_everybody 1 = .ok (.aload_n 0, 1) := by decide +kernel
theorem dX7_everybody_2 : decode cX7_everybody 2 = .ok (.getfield 21, 3) := by decide +kernel
theorem dX7_everybody_5 : decode cX7_everybody 5 = .ok (.ishl, 1) := by decide +kernel
theorem dX7_everybody_6 : decode cX7_everybody 6 = .ok (.iconst 1, 1) := by decide +kernel
theorem dX7_everybody_7 : decode cX7_everybody 7 = .ok (.isub, 1) := by decide +kernel
theorem dX7_everybody_8 : decode cX7_everybody 8 = .ok (.ireturn, 1) := by decide +kernel
theorem dX7_wishesYes_0 : decode cX7_wishesYes 0 = .ok (.aload_n 0, 1) := by decide +kernel
theorem dX7_wishesYes_1 : decode cX7_wishesYes 1 = .ok (.getfield 15, 3) := by decide +kernel
theorem dX7_wishesYes_4 : decode cX7_wishesYes 4 = .ok (.iload_n 2, 1) := by decide +kernel
theorem dX7_wishesYes_5 : decode cX7_wishesYes 5 = .ok (.iaload, 1) := by decide +kernel
theorem dX7_wishesYes_6 : decode cX7_wishesYes 6 = .ok (.iload_n 1, 1) := by decide +kernel
theorem dX7_wishesYes_7 : decode cX7_wishesYes 7 = .ok (.ishr, 1) := by decide +kernel
theorem dX7_wishesYes_8 : decode cX7_wishesYes 8 = .ok (.iconst 1, 1) := by decide +kernel
theorem dX7_wishesYes_9 : decode cX7_wishesYes 9 = .ok (.iand, 1) := by decide +kernel
theorem dX7_wishesYes_10 : decode cX7_wishesYes 10 = .ok (.ifCond .eq 7, 3) := by decide +kernel
theorem dX7_wishesYes_13 : decode cX7_wishesYes 13 = .ok (.iconst 1, 1) := by decide +kernel
theorem dX7_wishesYes_14 : decode cX7_wishesYes 14 = .ok (.goto 4, 3) := by decide +kernel
theorem dX7_wishesYes_17 : decode cX7_wishesYes 17 = .ok (.iconst 0, 1) := by decide +kernel
theorem dX7_wishesYes_18 : decode cX7_wishesYes 18 = .ok (.ireturn, 1) := by decide +kernel
theorem dX7_placeOf_0 : decode cX7_placeOf 0 = .ok (.iconst 0, 1) := by decide +kernel
theorem dX7_placeOf_1 : decode cX7_placeOf 1 = .ok (.istore_n 2, 1) := by decide +kernel
theorem dX7_placeOf_2 : decode cX7_placeOf 2 = .ok (.iload_n 2, 1) := by decide +kernel
theorem dX7_placeOf_3 : decode cX7_placeOf 3 = .ok (.aload_n 0, 1) := by decide +kernel
theorem dX7_placeOf_4 : decode cX7_placeOf 4 = .ok (.getfield 28, 3) := by decide +kernel
theorem dX7_placeOf_7 : decode cX7_placeOf 7 = .ok (.if_icmp .ge 21, 3) := by decide +kernel
theorem dX7_placeOf_10 : decode cX7_placeOf 10 = .ok (.aload_n 0, 1) := by decide +kernel
theorem dX7_placeOf_11 : decode cX7_placeOf 11 = .ok (.getfield 18, 3) := by decide +kernel
theorem dX7_placeOf_14 : decode cX7_placeOf 14 = .ok (.iload_n 2, 1) := by decide +kernel
theorem dX7_placeOf_15 : decode cX7_placeOf 15 = .ok (.iaload, 1) := by decide +kernel
theorem dX7_placeOf_16 : decode cX7_placeOf 16 = .ok (.iload_n 1, 1) := by decide +kernel
theorem dX7_placeOf_17 : decode cX7_placeOf 17 = .ok (.if_icmp .ne 5, 3) := by decide +kernel
theorem dX7_placeOf_20 : decode cX7_placeOf 20 = .ok (.iload_n 2, 1) := by decide +kernel
theorem dX7_placeOf_21 : decode cX7_placeOf 21 = .ok (.ireturn, 1) := by decide +kernel
theorem dX7_placeOf_22 : decode cX7_placeOf 22 = .ok (.iinc 2 1, 3) := by decide +kernel
theorem dX7_placeOf_25 : decode cX7_placeOf 25 = .ok (.goto (-23), 3) := by decide +kernel
theorem dX7_placeOf_28 : decode cX7_placeOf 28 = .ok (.iconst (-1), 1) := by decide +kernel
theorem dX7_placeOf_29 : decode cX7_placeOf 29 = .ok (.ireturn, 1) := by decide +kernel
theorem dX7_firstFault_0 : decode cX7_firstFault 0 = .ok (.iload_n 2, 1) := by decide +kernel
theorem dX7_firstFault_1 : decode cX7_firstFault 1 = .ok (.iconst 1, 1) := by decide +kernel
theorem dX7_firstFault_2 : decode cX7_firstFault 2 = .ok (.if_icmp .lt 13, 3) := by decide +kernel
theorem dX7_firstFault_5 : decode cX7_firstFault 5 = .ok (.aload_n 0, 1) := by decide +kernel
theorem dX7_firstFault_6 : decode cX7_firstFault 6 = .ok (.iload_n 1, 1) := by decide +kernel
theorem dX7_firstFault_7 : decode cX7_firstFault 7 = .ok (.invokevirtual 31, 3) := by decide +kernel
theorem dX7_firstFault_10 : decode cX7_firstFault 10 = .ok (.bipush 109, 2) := by decide +kernel
theorem dX7_firstFault_12 : decode cX7_firstFault 12 = .ok (.if_icmp .eq 5, 3) := by decide +kernel
theorem dX7_firstFault_15 : decode cX7_firstFault 15 = .ok (.iconst 0, 1) := by decide +kernel
theorem dX7_firstFault_16 : decode cX7_firstFault 16 = .ok (.ireturn, 1) := by decide +kernel
theorem dX7_firstFault_17 : decode cX7_firstFault 17 = .ok (.iload_n 2, 1) := by decide +kernel
theorem dX7_firstFault_18 : decode cX7_firstFault 18 = .ok (.iconst 2, 1) := by decide +kernel
theorem dX7_firstFault_19 : decode cX7_firstFault 19 = .ok (.if_icmp .lt 16, 3) := by decide +kernel
theorem dX7_firstFault_22 : decode cX7_firstFault 22 = .ok (.aload_n 0, 1) := by decide +kernel
theorem dX7_firstFault_23 : decode cX7_firstFault 23 = .ok (.iload_n 1, 1) := by decide +kernel
theorem dX7_firstFault_24 : decode cX7_firstFault 24 = .ok (.iconst 1, 1) := by decide +kernel
theorem dX7_firstFault_25 : decode cX7_firstFault 25 = .ok (.iadd, 1) := by decide +kernel
theorem dX7_firstFault_26 : decode cX7_firstFault 26 = .ok (.invokevirtual 31, 3) := by decide +kernel
theorem dX7_firstFault_29 : decode cX7_firstFault 29 = .ok (.invokestatic 37, 3) := by decide +kernel
theorem dX7_firstFault_32 : decode cX7_firstFault 32 = .ok (.ifCond .ne 5, 3) := by decide +kernel
theorem dX7_firstFault_35 : decode cX7_firstFault 35 = .ok (.iconst 1, 1) := by decide +kernel
theorem dX7_firstFault_36 : decode cX7_firstFault 36 = .ok (.ireturn, 1) := by decide +kernel
theorem dX7_firstFault_37 : decode cX7_firstFault 37 = .ok (.aload_n 0, 1) := by decide +kernel
theorem dX7_firstFault_38 : decode cX7_firstFault 38 = .ok (.iload_n 1, 1) := by decide +kernel
theorem dX7_firstFault_39 : decode cX7_firstFault 39 = .ok (.iconst 1, 1) := by decide +kernel
theorem dX7_firstFault_40 : decode cX7_firstFault 40 = .ok (.iadd, 1) := by decide +kernel
theorem dX7_firstFault_41 : decode cX7_firstFault 41 = .ok (.invokevirtual 31, 3) := by decide +kernel
theorem dX7_firstFault_44 : decode cX7_firstFault 44 = .ok (.bipush 48, 2) := by decide +kernel
theorem dX7_firstFault_46 : decode cX7_firstFault 46 = .ok (.isub, 1) := by decide +kernel
theorem dX7_firstFault_47 : decode cX7_firstFault 47 = .ok (.iconst 2, 1) := by decide +kernel
theorem dX7_firstFault_48 : decode cX7_firstFault 48 = .ok (.iadd, 1) := by decide +kernel
theorem dX7_firstFault_49 : decode cX7_firstFault 49 = .ok (.istore_n 3, 1) := by decide +kernel
theorem dX7_firstFault_50 : decode cX7_firstFault 50 = .ok (.iconst 0, 1) := by decide +kernel
theorem dX7_firstFault_51 : decode cX7_firstFault 51 = .ok (.istore 4, 2) := by decide +kernel
theorem dX7_firstFault_53 : decode cX7_firstFault 53 = .ok (.iconst 0, 1) := by decide +kernel
theorem dX7_firstFault_54 : decode cX7_firstFault 54 = .ok (.istore 5, 2) := by decide +kernel
theorem dX7_firstFault_56 : decode cX7_firstFault 56 = .ok (.iconst 2, 1) := by decide +kernel
theorem dX7_firstFault_57 : decode cX7_firstFault 57 = .ok (.istore 6, 2) := by decide +kernel
theorem dX7_firstFault_59 : decode cX7_firstFault 59 = .ok (.iload 6, 2) := by decide +kernel
theorem dX7_firstFault_61 : decode cX7_firstFault 61 = .ok (.iload_n 2, 1) := by decide +kernel
theorem dX7_firstFault_62 : decode cX7_firstFault 62 = .ok (.if_icmp .ge 50, 3) := by decide +kernel
theorem dX7_firstFault_65 : decode cX7_firstFault 65 = .ok (.iload 4, 2) := by decide +kernel
theorem dX7_firstFault_67 : decode cX7_firstFault 67 = .ok (.bipush 8, 2) := by decide +kernel
theorem dX7_firstFault_69 : decode cX7_firstFault 69 = .ok (.if_icmp .eq 19, 3) := by decide +kernel
theorem dX7_firstFault_72 : decode cX7_firstFault 72 = .ok (.iload 5, 2) := by decide +kernel
theorem dX7_firstFault_74 : decode cX7_firstFault 74 = .ok (.aload_n 0, 1) := by decide +kernel
theorem dX7_firstFault_75 : decode cX7_firstFault 75 = .ok (.iload_n 1, 1) := by decide +kernel
theorem dX7_firstFault_76 : decode cX7_firstFault 76 = .ok (.iload 6, 2) := by decide +kernel
theorem dX7_firstFault_78 : decode cX7_firstFault 78 = .ok (.iadd, 1) := by decide +kernel
theorem dX7_firstFault_79 : decode cX7_firstFault 79 = .ok (.invokevirtual 31, 3) := by decide +kernel
theorem dX7_firstFault_82 : decode cX7_firstFault 82 = .ok (.invokestatic 41, 3) := by decide +kernel
theorem dX7_firstFault_85 : decode cX7_firstFault 85 = .ok (.ifCond .ne 6, 3) := by decide +kernel
theorem dX7_firstFault_88 : decode cX7_firstFault 88 = .ok (.iload 6, 2) := by decide +kernel
theorem dX7_firstFault_90 : decode cX7_firstFault 90 = .ok (.ireturn, 1) := by decide +kernel
theorem dX7_firstFault_91 : decode cX7_firstFault 91 = .ok (.iinc 5 1, 3) := by decide +kernel
theorem dX7_firstFault_94 : decode cX7_firstFault 94 = .ok (.iload 5, 2) := by decide +kernel
theorem dX7_firstFault_96 : decode cX7_firstFault 96 = .ok (.iload_n 3, 1) := by decide +kernel
theorem dX7_firstFault_97 : decode cX7_firstFault 97 = .ok (.if_icmp .ne 9, 3) := by decide +kernel
theorem dX7_firstFault_100 : decode cX7_firstFault 100 = .ok (.iconst 0, 1) := by decide +kernel
theorem dX7_firstFault_101 : decode cX7_firstFault 101 = .ok (.istore 5, 2) := by decide +kernel
theorem dX7_firstFault_103 : decode cX7_firstFault 103 = .ok (.iinc 4 1, 3) := by decide +kernel
theorem dX7_firstFault_106 : decode cX7_firstFault 106 = .ok (.iinc 6 1, 3) := by decide +kernel
theorem dX7_firstFault_109 : decode cX7_firstFault 109 = .ok (.goto (-50), 3) := by decide +kernel
theorem dX7_firstFault_112 : decode cX7_firstFault 112 = .ok (.iload 4, 2) := by decide +kernel
theorem dX7_firstFault_114 : decode cX7_firstFault 114 = .ok (.iconst 2, 1) := by decide +kernel
theorem dX7_firstFault_115 : decode cX7_firstFault 115 = .ok (.if_icmp .lt 12, 3) := by decide +kernel
theorem dX7_firstFault_118 : decode cX7_firstFault 118 = .ok (.iload 5, 2) := by decide +kernel
theorem dX7_firstFault_120 : decode cX7_firstFault 120 = .ok (.ifCond .ne 7, 3) := by decide +kernel
theorem dX7_firstFault_123 : decode cX7_firstFault 123 = .ok (.iconst (-1), 1) := by decide +kernel
theorem dX7_firstFault_124 : decode cX7_firstFault 124 = .ok (.goto 4, 3) := by decide +kernel
theorem dX7_firstFault_127 : decode cX7_firstFault 127 = .ok (.iload_n 2, 1) := by decide +kernel
theorem dX7_firstFault_128 : decode cX7_firstFault 128 = .ok (.ireturn, 1) := by decide +kernel
theorem dX7_isDigitOfMatters_0 : decode cX7_isDigitOfMatters 0 = .ok (.iload_n 0, 1) := by decide +kernel
theorem dX7_isDigitOfMatters_1 : decode cX7_isDigitOfMatters 1 = .ok (.bipush 49, 2) := by decide +kernel
theorem dX7_isDigitOfMatters_3 : decode cX7_isDigitOfMatters 3 = .ok (.if_icmp .lt 13, 3) := by decide +kernel
theorem dX7_isDigitOfMatters_6 : decode cX7_isDigitOfMatters 6 = .ok (.iload_n 0, 1) := by decide +kernel
theorem dX7_isDigitOfMatters_7 : decode cX7_isDigitOfMatters 7 = .ok (.bipush 54, 2) := by decide +kernel
theorem dX7_isDigitOfMatters_9 : decode cX7_isDigitOfMatters 9 = .ok (.if_icmp .gt 7, 3) := by decide +kernel
theorem dX7_isDigitOfMatters_12 : decode cX7_isDigitOfMatters 12 = .ok (.iconst 1, 1) := by decide +kernel
theorem dX7_isDigitOfMatters_13 : decode cX7_isDigitOfMatters 13 = .ok (.goto 4, 3) := by decide +kernel
theorem dX7_isDigitOfMatters_16 : decode cX7_isDigitOfMatters 16 = .ok (.iconst 0, 1) := by decide +kernel
theorem dX7_isDigitOfMatters_17 : decode cX7_isDigitOfMatters 17 = .ok (.ireturn, 1) := by decide +kernel
theorem dX7_goesOn_0 : decode cX7_goesOn 0 = .ok (.iload_n 0, 1) := by decide +kernel
theorem dX7_goesOn_1 : decode cX7_goesOn 1 = .ok (.lookupswitch 52 #[(0, 27), (1, 39)], 27) := by decide +kernel
theorem dX7_goesOn_28 : decode cX7_goesOn 28 = .ok (.iload_n 1, 1) := by decide +kernel
theorem dX7_goesOn_29 : decode cX7_goesOn 29 = .ok (.bipush 59, 2) := by decide +kernel
theorem dX7_goesOn_31 : decode cX7_goesOn 31 = .ok (.if_icmp .ne 7, 3) := by decide +kernel
theorem dX7_goesOn_34 : decode cX7_goesOn 34 = .ok (.iconst 1, 1) := by decide +kernel
theorem dX7_goesOn_35 : decode cX7_goesOn 35 = .ok (.goto 4, 3) := by decide +kernel
theorem dX7_goesOn_38 : decode cX7_goesOn 38 = .ok (.iconst 0, 1) := by decide +kernel
theorem dX7_goesOn_39 : decode cX7_goesOn 39 = .ok (.ireturn, 1) := by decide +kernel
theorem dX7_goesOn_40 : decode cX7_goesOn 40 = .ok (.iload_n 1, 1) := by decide +kernel
theorem dX7_goesOn_41 : decode cX7_goesOn 41 = .ok (.invokestatic 45, 3) := by decide +kernel
theorem dX7_goesOn_44 : decode cX7_goesOn 44 = .ok (.ifCond .lt 7, 3) := by decide +kernel
theorem dX7_goesOn_47 : decode cX7_goesOn 47 = .ok (.iconst 1, 1) := by decide +kernel
theorem dX7_goesOn_48 : decode cX7_goesOn 48 = .ok (.goto 4, 3) := by decide +kernel
theorem dX7_goesOn_51 : decode cX7_goesOn 51 = .ok (.iconst 0, 1) := by decide +kernel
theorem dX7_goesOn_52 : decode cX7_goesOn 52 = .ok (.ireturn, 1) := by decide +kernel
theorem dX7_goesOn_53 : decode cX7_goesOn 53 = .ok (.iload_n 1, 1) := by decide +kernel
theorem dX7_goesOn_54 : decode cX7_goesOn 54 = .ok (.bipush 121, 2) := by decide +kernel
theorem dX7_goesOn_56 : decode cX7_goesOn 56 = .ok (.if_icmp .eq 9, 3) := by decide +kernel
theorem dX7_goesOn_59 : decode cX7_goesOn 59 = .ok (.iload_n 1, 1) := by decide +kernel
theorem dX7_goesOn_60 : decode cX7_goesOn 60 = .ok (.bipush 110, 2) := by decide +kernel
theorem dX7_goesOn_62 : decode cX7_goesOn 62 = .ok (.if_icmp .ne 7, 3) := by decide +kernel
theorem dX7_goesOn_65 : decode cX7_goesOn 65 = .ok (.iconst 1, 1) := by decide +kernel
theorem dX7_goesOn_66 : decode cX7_goesOn 66 = .ok (.goto 4, 3) := by decide +kernel
theorem dX7_goesOn_69 : decode cX7_goesOn 69 = .ok (.iconst 0, 1) := by decide +kernel
theorem dX7_goesOn_70 : decode cX7_goesOn 70 = .ok (.ireturn, 1) := by decide +kernel
theorem dX7_kindOf_0 : decode cX7_kindOf 0 = .ok (.iload_n 0, 1) := by decide +kernel
theorem dX7_kindOf_1 : decode cX7_kindOf 1 = .ok (.lookupswitch 41 #[(99, 39), (102, 37), (104, 35)], 35) := by decide +kernel
theorem dX7_kindOf_36 : decode cX7_kindOf 36 = .ok (.iconst 0, 1) := by decide +kernel
theorem dX7_kindOf_37 : decode cX7_kindOf 37 = .ok (.ireturn, 1) := by decide +kernel
theorem dX7_kindOf_38 : decode cX7_kindOf 38 = .ok (.iconst 1, 1) := by decide +kernel
theorem dX7_kindOf_39 : decode cX7_kindOf 39 = .ok (.ireturn, 1) := by decide +kernel
theorem dX7_kindOf_40 : decode cX7_kindOf 40 = .ok (.iconst 2, 1) := by decide +kernel
theorem dX7_kindOf_41 : decode cX7_kindOf 41 = .ok (.ireturn, 1) := by decide +kernel
theorem dX7_kindOf_42 : decode cX7_kindOf 42 = .ok (.iconst (-1), 1) := by decide +kernel
theorem dX7_kindOf_43 : decode cX7_kindOf 43 = .ok (.ireturn, 1) := by decide +kernel
theorem dX7_found_0 : decode cX7_found 0 = .ok (.aload_n 0, 1) := by decide +kernel
theorem dX7_found_1 : decode cX7_found 1 = .ok (.invokevirtual 48, 3) := by decide +kernel
theorem dX7_found_4 : decode cX7_found 4 = .ok (.aload_n 0, 1) := by decide +kernel
theorem dX7_found_5 : decode cX7_found 5 = .ok (.aload_n 1, 1) := by decide +kernel
theorem dX7_found_6 : decode cX7_found 6 = .ok (.iload_n 2, 1) := by decide +kernel
theorem dX7_found_7 : decode cX7_found 7 = .ok (.iconst 1, 1) := by decide +kernel
theorem dX7_found_8 : decode cX7_found 8 = .ok (.iadd, 1) := by decide +kernel
theorem dX7_found_9 : decode cX7_found 9 = .ok (.invokevirtual 31, 3) := by decide +kernel
theorem dX7_found_12 : decode cX7_found 12 = .ok (.bipush 48, 2) := by decide +kernel
theorem dX7_found_14 : decode cX7_found 14 = .ok (.isub, 1) := by decide +kernel
theorem dX7_found_15 : decode cX7_found 15 = .ok (.bipush 6, 2) := by decide +kernel
theorem dX7_found_17 : decode cX7_found 17 = .ok (.invokestatic 51, 3) := by decide +kernel
theorem dX7_found_20 : decode cX7_found 20 = .ok (.putfield 25, 3) := by decide +kernel
theorem dX7_found_23 : decode cX7_found 23 = .ok (.iconst 2, 1) := by decide +kernel
theorem dX7_found_24 : decode cX7_found 24 = .ok (.istore 4, 2) := by decide +kernel
theorem dX7_found_26 : decode cX7_found 26 = .ok (.iload 4, 2) := by decide +kernel
theorem dX7_found_28 : decode cX7_found 28 = .ok (.iload_n 3, 1) := by decide +kernel
theorem dX7_found_29 : decode cX7_found 29 = .ok (.if_icmp .ge 105, 3) := by decide +kernel
theorem dX7_found_32 : decode cX7_found 32 = .ok (.aload_n 0, 1) := by decide +kernel
theorem dX7_found_33 : decode cX7_found 33 = .ok (.getfield 21, 3) := by decide +kernel
theorem dX7_found_36 : decode cX7_found 36 = .ok (.bipush 8, 2) := by decide +kernel
theorem dX7_found_38 : decode cX7_found 38 = .ok (.if_icmp .ge 96, 3) := by decide +kernel
theorem dX7_found_41 : decode cX7_found 41 = .ok (.aload_n 0, 1) := by decide +kernel
theorem dX7_found_42 : decode cX7_found 42 = .ok (.aload_n 1, 1) := by decide +kernel
theorem dX7_found_43 : decode cX7_found 43 = .ok (.iload_n 2, 1) := by decide +kernel
theorem dX7_found_44 : decode cX7_found 44 = .ok (.iload 4, 2) := by decide +kernel
theorem dX7_found_46 : decode cX7_found 46 = .ok (.iadd, 1) := by decide +kernel
theorem dX7_found_47 : decode cX7_found 47 = .ok (.iconst 1, 1) := by decide +kernel
theorem dX7_found_48 : decode cX7_found 48 = .ok (.iadd, 1) := by decide +kernel
theorem dX7_found_49 : decode cX7_found 49 = .ok (.invokevirtual 31, 3) := by decide +kernel
theorem dX7_found_52 : decode cX7_found 52 = .ok (.invokestatic 45, 3) := by decide +kernel
theorem dX7_found_55 : decode cX7_found 55 = .ok (.invokevirtual 57, 3) := by decide +kernel
theorem dX7_found_58 : decode cX7_found 58 = .ok (.iconst 0, 1) := by decide +kernel
theorem dX7_found_59 : decode cX7_found 59 = .ok (.istore 5, 2) := by decide +kernel
theorem dX7_found_61 : decode cX7_found 61 = .ok (.iload 5, 2) := by decide +kernel
theorem dX7_found_63 : decode cX7_found 63 = .ok (.aload_n 0, 1) := by decide +kernel
theorem dX7_found_64 : decode cX7_found 64 = .ok (.getfield 25, 3) := by decide +kernel
theorem dX7_found_67 : decode cX7_found 67 = .ok (.if_icmp .ge 43, 3) := by decide +kernel
theorem dX7_found_70 : decode cX7_found 70 = .ok (.aload_n 1, 1) := by decide +kernel
theorem dX7_found_71 : decode cX7_found 71 = .ok (.iload_n 2, 1) := by decide +kernel
theorem dX7_found_72 : decode cX7_found 72 = .ok (.iload 4, 2) := by decide +kernel
theorem dX7_found_74 : decode cX7_found 74 = .ok (.iadd, 1) := by decide +kernel
theorem dX7_found_75 : decode cX7_found 75 = .ok (.iconst 2, 1) := by decide +kernel
theorem dX7_found_76 : decode cX7_found 76 = .ok (.iadd, 1) := by decide +kernel
theorem dX7_found_77 : decode cX7_found 77 = .ok (.iload 5, 2) := by decide +kernel
theorem dX7_found_79 : decode cX7_found 79 = .ok (.iadd, 1) := by decide +kernel
theorem dX7_found_80 : decode cX7_found 80 = .ok (.invokevirtual 31, 3) := by decide +kernel
theorem dX7_found_83 : decode cX7_found 83 = .ok (.bipush 121, 2) := by decide +kernel
theorem dX7_found_85 : decode cX7_found 85 = .ok (.if_icmp .ne 19, 3) := by decide +kernel
theorem dX7_found_88 : decode cX7_found 88 = .ok (.aload_n 0, 1) := by decide +kernel
theorem dX7_found_89 : decode cX7_found 89 = .ok (.getfield 15, 3) := by decide +kernel
theorem dX7_found_92 : decode cX7_found 92 = .ok (.iload 5, 2) := by decide +kernel
theorem dX7_found_94 : decode cX7_found 94 = .ok (.dup2, 1) := by decide +kernel
theorem dX7_found_95 : decode cX7_found 95 = .ok (.iaload, 1) := by decide +kernel
theorem dX7_found_96 : decode cX7_found 96 = .ok (.iconst 1, 1) := by decide +kernel
theorem dX7_found_97 : decode cX7_found 97 = .ok (.aload_n 0, 1) := by decide +kernel
theorem dX7_found_98 : decode cX7_found 98 = .ok (.getfield 21, 3) := by decide +kernel
theorem dX7_found_101 : decode cX7_found 101 = .ok (.ishl, 1) := by decide +kernel
theorem dX7_found_102 : decode cX7_found 102 = .ok (.ior, 1) := by decide +kernel
theorem dX7_found_103 : decode cX7_found 103 = .ok (.iastore, 1) := by decide +kernel
theorem dX7_found_104 : decode cX7_found 104 = .ok (.iinc 5 1, 3) := by decide +kernel
theorem dX7_found_107 : decode cX7_found 107 = .ok (.goto (-46), 3) := by decide +kernel
theorem dX7_found_110 : decode cX7_found 110 = .ok (.aload_n 0, 1) := by decide +kernel
theorem dX7_found_111 : decode cX7_found 111 = .ok (.dup, 1) := by decide +kernel
theorem dX7_found_112 : decode cX7_found 112 = .ok (.getfield 21, 3) := by decide +kernel
theorem dX7_found_115 : decode cX7_found 115 = .ok (.iconst 1, 1) := by decide +kernel
theorem dX7_found_116 : decode cX7_found 116 = .ok (.iadd, 1) := by decide +kernel
theorem dX7_found_117 : decode cX7_found 117 = .ok (.putfield 21, 3) := by decide +kernel
theorem dX7_found_120 : decode cX7_found 120 = .ok (.iload 4, 2) := by decide +kernel
theorem dX7_found_122 : decode cX7_found 122 = .ok (.aload_n 0, 1) := by decide +kernel
theorem dX7_found_123 : decode cX7_found 123 = .ok (.getfield 25, 3) := by decide +kernel
theorem dX7_found_126 : decode cX7_found 126 = .ok (.iconst 2, 1) := by decide +kernel
theorem dX7_found_127 : decode cX7_found 127 = .ok (.iadd, 1) := by decide +kernel
theorem dX7_found_128 : decode cX7_found 128 = .ok (.iadd, 1) := by decide +kernel
theorem dX7_found_129 : decode cX7_found 129 = .ok (.istore 4, 2) := by decide +kernel
theorem dX7_found_131 : decode cX7_found 131 = .ok (.goto (-105), 3) := by decide +kernel
theorem dX7_found_134 : decode cX7_found 134 = .ok (.aload_n 0, 1) := by decide +kernel
theorem dX7_found_135 : decode cX7_found 135 = .ok (.aload_n 0, 1) := by decide +kernel
theorem dX7_found_136 : decode cX7_found 136 = .ok (.getfield 25, 3) := by decide +kernel
theorem dX7_found_139 : decode cX7_found 139 = .ok (.putfield 28, 3) := by decide +kernel
theorem dX7_found_142 : decode cX7_found 142 = .ok (.iconst 0, 1) := by decide +kernel
theorem dX7_found_143 : decode cX7_found 143 = .ok (.istore 5, 2) := by decide +kernel
theorem dX7_found_145 : decode cX7_found 145 = .ok (.iload 5, 2) := by decide +kernel
theorem dX7_found_147 : decode cX7_found 147 = .ok (.aload_n 0, 1) := by decide +kernel
theorem dX7_found_148 : decode cX7_found 148 = .ok (.getfield 25, 3) := by decide +kernel
theorem dX7_found_151 : decode cX7_found 151 = .ok (.if_icmp .ge 18, 3) := by decide +kernel
theorem dX7_found_154 : decode cX7_found 154 = .ok (.aload_n 0, 1) := by decide +kernel
theorem dX7_found_155 : decode cX7_found 155 = .ok (.getfield 18, 3) := by decide +kernel
theorem dX7_found_158 : decode cX7_found 158 = .ok (.iload 5, 2) := by decide +kernel
theorem dX7_found_160 : decode cX7_found 160 = .ok (.iload 5, 2) := by decide +kernel
theorem dX7_found_162 : decode cX7_found 162 = .ok (.iastore, 1) := by decide +kernel
theorem dX7_found_163 : decode cX7_found 163 = .ok (.iinc 5 1, 3) := by decide +kernel
theorem dX7_found_166 : decode cX7_found 166 = .ok (.goto (-21), 3) := by decide +kernel
theorem dX7_found_169 : decode cX7_found 169 = .ok (.return_, 1) := by decide +kernel
theorem dX7_clear_0 : decode cX7_clear 0 = .ok (.aload_n 0, 1) := by decide +kernel
theorem dX7_clear_1 : decode cX7_clear 1 = .ok (.iconst 0, 1) := by decide +kernel
theorem dX7_clear_2 : decode cX7_clear 2 = .ok (.putfield 21, 3) := by decide +kernel
theorem dX7_clear_5 : decode cX7_clear 5 = .ok (.aload_n 0, 1) := by decide +kernel
theorem dX7_clear_6 : decode cX7_clear 6 = .ok (.iconst 0, 1) := by decide +kernel
theorem dX7_clear_7 : decode cX7_clear 7 = .ok (.putfield 61, 3) := by decide +kernel
theorem dX7_clear_10 : decode cX7_clear 10 = .ok (.aload_n 0, 1) := by decide +kernel
theorem dX7_clear_11 : decode cX7_clear 11 = .ok (.iconst 0, 1) := by decide +kernel
theorem dX7_clear_12 : decode cX7_clear 12 = .ok (.putfield 64, 3) := by decide +kernel
theorem dX7_clear_15 : decode cX7_clear 15 = .ok (.aload_n 0, 1) := by decide +kernel
theorem dX7_clear_16 : decode cX7_clear 16 = .ok (.iconst 0, 1) := by decide +kernel
theorem dX7_clear_17 : decode cX7_clear 17 = .ok (.putfield 67, 3) := by decide +kernel
theorem dX7_clear_20 : decode cX7_clear 20 = .ok (.aload_n 0, 1) := by decide +kernel
theorem dX7_clear_21 : decode cX7_clear 21 = .ok (.iconst 0, 1) := by decide +kernel
theorem dX7_clear_22 : decode cX7_clear 22 = .ok (.putfield 70, 3) := by decide +kernel
theorem dX7_clear_25 : decode cX7_clear 25 = .ok (.aload_n 0, 1) := by decide +kernel
theorem dX7_clear_26 : decode cX7_clear 26 = .ok (.getfield 15, 3) := by decide +kernel
theorem dX7_clear_29 : decode cX7_clear 29 = .ok (.iconst 0, 1) := by decide +kernel
theorem dX7_clear_30 : decode cX7_clear 30 = .ok (.invokestatic 73, 3) := by decide +kernel
theorem dX7_clear_33 : decode cX7_clear 33 = .ok (.return_, 1) := by decide +kernel
theorem dX7_settle_0 : decode cX7_settle 0 = .ok (.aload_n 0, 1) := by decide +kernel
theorem dX7_settle_1 : decode cX7_settle 1 = .ok (.getfield 9, 3) := by decide +kernel
theorem dX7_settle_4 : decode cX7_settle 4 = .ok (.aload_n 0, 1) := by decide +kernel
theorem dX7_settle_5 : decode cX7_settle 5 = .ok (.getfield 21, 3) := by decide +kernel
theorem dX7_settle_8 : decode cX7_settle 8 = .ok (.iload_n 1, 1) := by decide +kernel
theorem dX7_settle_9 : decode cX7_settle 9 = .ok (.iastore, 1) := by decide +kernel
theorem dX7_settle_10 : decode cX7_settle 10 = .ok (.iload_n 1, 1) := by decide +kernel
theorem dX7_settle_11 : decode cX7_settle 11 = .ok (.ifCond .eq 18, 3) := by decide +kernel
theorem dX7_settle_14 : decode cX7_settle 14 = .ok (.aload_n 0, 1) := by decide +kernel
theorem dX7_settle_15 : decode cX7_settle 15 = .ok (.dup, 1) := by decide +kernel
theorem dX7_settle_16 : decode cX7_settle 16 = .ok (.getfield 70, 3) := by decide +kernel
theorem dX7_settle_19 : decode cX7_settle 19 = .ok (.iconst 1, 1) := by decide +kernel
theorem dX7_settle_20 : decode cX7_settle 20 = .ok (.aload_n 0, 1) := by decide +kernel
theorem dX7_settle_21 : decode cX7_settle 21 = .ok (.getfield 21, 3) := by decide +kernel
theorem dX7_settle_24 : decode cX7_settle 24 = .ok (.ishl, 1) := by decide +kernel
theorem dX7_settle_25 : decode cX7_settle 25 = .ok (.ior, 1) := by decide +kernel
theorem dX7_settle_26 : decode cX7_settle 26 = .ok (.putfield 70, 3) := by decide +kernel
theorem dX7_settle_29 : decode cX7_settle 29 = .ok (.iload_n 1, 1) := by decide +kernel
theorem dX7_settle_30 : decode cX7_settle 30 = .ok (.iconst 2, 1) := by decide +kernel
theorem dX7_settle_31 : decode cX7_settle 31 = .ok (.if_icmp .ne 18, 3) := by decide +kernel
theorem dX7_settle_34 : decode cX7_settle 34 = .ok (.aload_n 0, 1) := by decide +kernel
theorem dX7_settle_35 : decode cX7_settle 35 = .ok (.dup, 1) := by decide +kernel
theorem dX7_settle_36 : decode cX7_settle 36 = .ok (.getfield 67, 3) := by decide +kernel
theorem dX7_settle_39 : decode cX7_settle 39 = .ok (.iconst 1, 1) := by decide +kernel
theorem dX7_settle_40 : decode cX7_settle 40 = .ok (.aload_n 0, 1) := by decide +kernel
theorem dX7_settle_41 : decode cX7_settle 41 = .ok (.getfield 21, 3) := by decide +kernel
theorem dX7_settle_44 : decode cX7_settle 44 = .ok (.ishl, 1) := by decide +kernel
theorem dX7_settle_45 : decode cX7_settle 45 = .ok (.ior, 1) := by decide +kernel
theorem dX7_settle_46 : decode cX7_settle 46 = .ok (.putfield 67, 3) := by decide +kernel
theorem dX7_settle_49 : decode cX7_settle 49 = .ok (.return_, 1) := by decide +kernel
theorem dX7_takeAgenda_0 : decode cX7_takeAgenda 0 = .ok (.iload_n 3, 1) := by decide +kernel
theorem dX7_takeAgenda_1 : decode cX7_takeAgenda 1 = .ok (.iconst 1, 1) := by decide +kernel
theorem dX7_takeAgenda_2 : decode cX7_takeAgenda 2 = .ok (.if_icmp .lt 9, 3) := by decide +kernel
theorem dX7_takeAgenda_5 : decode cX7_takeAgenda 5 = .ok (.iload_n 3, 1) := by decide +kernel
theorem dX7_takeAgenda_6 : decode cX7_takeAgenda 6 = .ok (.bipush 6, 2) := by decide +kernel
theorem dX7_takeAgenda_8 : decode cX7_takeAgenda 8 = .ok (.if_icmp .le 6, 3) := by decide +kernel
theorem dX7_takeAgenda_11 : decode cX7_takeAgenda 11 = .ok (.bipush (-2), 2) := by decide +kernel
theorem dX7_takeAgenda_13 : decode cX7_takeAgenda 13 = .ok (.ireturn, 1) := by decide +kernel
theorem dX7_takeAgenda_14 : decode cX7_takeAgenda 14 = .ok (.iconst 0, 1) := by decide +kernel
theorem dX7_takeAgenda_15 : decode cX7_takeAgenda 15 = .ok (.istore 4, 2) := by decide +kernel
theorem dX7_takeAgenda_17 : decode cX7_takeAgenda 17 = .ok (.iconst 0, 1) := by decide +kernel
theorem dX7_takeAgenda_18 : decode cX7_takeAgenda 18 = .ok (.istore 5, 2) := by decide +kernel
theorem dX7_takeAgenda_20 : decode cX7_takeAgenda 20 = .ok (.iload 5, 2) := by decide +kernel
theorem dX7_takeAgenda_22 : decode cX7_takeAgenda 22 = .ok (.iload_n 3, 1) := by decide +kernel
theorem dX7_takeAgenda_23 : decode cX7_takeAgenda 23 = .ok (.if_icmp .ge 39, 3) := by decide +kernel
theorem dX7_takeAgenda_26 : decode cX7_takeAgenda 26 = .ok (.aload_n 1, 1) := by decide +kernel
theorem dX7_takeAgenda_27 : decode cX7_takeAgenda 27 = .ok (.iload_n 2, 1) := by decide +kernel
theorem dX7_takeAgenda_28 : decode cX7_takeAgenda 28 = .ok (.iload 5, 2) := by decide +kernel
theorem dX7_takeAgenda_30 : decode cX7_takeAgenda 30 = .ok (.iadd, 1) := by decide +kernel
theorem dX7_takeAgenda_31 : decode cX7_takeAgenda 31 = .ok (.invokevirtual 31, 3) := by decide +kernel
theorem dX7_takeAgenda_34 : decode cX7_takeAgenda 34 = .ok (.istore 6, 2) := by decide +kernel
theorem dX7_takeAgenda_36 : decode cX7_takeAgenda 36 = .ok (.aload_n 0, 1) := by decide +kernel
theorem dX7_takeAgenda_37 : decode cX7_takeAgenda 37 = .ok (.iload 6, 2) := by decide +kernel
theorem dX7_takeAgenda_39 : decode cX7_takeAgenda 39 = .ok (.invokevirtual 79, 3) := by decide +kernel
theorem dX7_takeAgenda_42 : decode cX7_takeAgenda 42 = .ok (.ifCond .ne 5, 3) := by decide +kernel
theorem dX7_takeAgenda_45 : decode cX7_takeAgenda 45 = .ok (.iconst (-1), 1) := by decide +kernel
theorem dX7_takeAgenda_46 : decode cX7_takeAgenda 46 = .ok (.ireturn, 1) := by decide +kernel
theorem dX7_takeAgenda_47 : decode cX7_takeAgenda 47 = .ok (.iload 4, 2) := by decide +kernel
theorem dX7_takeAgenda_49 : decode cX7_takeAgenda 49 = .ok (.iconst 1, 1) := by decide +kernel
theorem dX7_takeAgenda_50 : decode cX7_takeAgenda 50 = .ok (.iload 6, 2) := by decide +kernel
theorem dX7_takeAgenda_52 : decode cX7_takeAgenda 52 = .ok (.ishl, 1) := by decide +kernel
theorem dX7_takeAgenda_53 : decode cX7_takeAgenda 53 = .ok (.ior, 1) := by decide +kernel
theorem dX7_takeAgenda_54 : decode cX7_takeAgenda 54 = .ok (.istore 4, 2) := by decide +kernel
theorem dX7_takeAgenda_56 : decode cX7_takeAgenda 56 = .ok (.iinc 5 1, 3) := by decide +kernel
theorem dX7_takeAgenda_59 : decode cX7_takeAgenda 59 = .ok (.goto (-39), 3) := by decide +kernel
theorem dX7_takeAgenda_62 : decode cX7_takeAgenda 62 = .ok (.iload 4, 2) := by decide +kernel
theorem dX7_takeAgenda_64 : decode cX7_takeAgenda 64 = .ok (.invokestatic 82, 3) := by decide +kernel
theorem dX7_takeAgenda_67 : decode cX7_takeAgenda 67 = .ok (.iload_n 3, 1) := by decide +kernel
theorem dX7_takeAgenda_68 : decode cX7_takeAgenda 68 = .ok (.if_icmp .eq 6, 3) := by decide +kernel
theorem dX7_takeAgenda_71 : decode cX7_takeAgenda 71 = .ok (.bipush (-2), 2) := by decide +kernel
theorem dX7_takeAgenda_73 : decode cX7_takeAgenda 73 = .ok (.ireturn, 1) := by decide +kernel
theorem dX7_takeAgenda_74 : decode cX7_takeAgenda 74 = .ok (.iconst 0, 1) := by decide +kernel
theorem dX7_takeAgenda_75 : decode cX7_takeAgenda 75 = .ok (.istore 5, 2) := by decide +kernel
theorem dX7_takeAgenda_77 : decode cX7_takeAgenda 77 = .ok (.iload 5, 2) := by decide +kernel
theorem dX7_takeAgenda_79 : decode cX7_takeAgenda 79 = .ok (.iload_n 3, 1) := by decide +kernel
theorem dX7_takeAgenda_80 : decode cX7_takeAgenda 80 = .ok (.if_icmp .ge 24, 3) := by decide +kernel
theorem dX7_takeAgenda_83 : decode cX7_takeAgenda 83 = .ok (.aload_n 0, 1) := by decide +kernel
theorem dX7_takeAgenda_84 : decode cX7_takeAgenda 84 = .ok (.getfield 18, 3) := by decide +kernel
theorem dX7_takeAgenda_87 : decode cX7_takeAgenda 87 = .ok (.iload 5, 2) := by decide +kernel
theorem dX7_takeAgenda_89 : decode cX7_takeAgenda 89 = .ok (.aload_n 1, 1) := by decide +kernel
theorem dX7_takeAgenda_90 : decode cX7_takeAgenda 90 = .ok (.iload_n 2, 1) := by decide +kernel
theorem dX7_takeAgenda_91 : decode cX7_takeAgenda 91 = .ok (.iload 5, 2) := by decide +kernel
theorem dX7_takeAgenda_93 : decode cX7_takeAgenda 93 = .ok (.iadd, 1) := by decide +kernel
theorem dX7_takeAgenda_94 : decode cX7_takeAgenda 94 = .ok (.invokevirtual 31, 3) := by decide +kernel
theorem dX7_takeAgenda_97 : decode cX7_takeAgenda 97 = .ok (.iastore, 1) := by decide +kernel
theorem dX7_takeAgenda_98 : decode cX7_takeAgenda 98 = .ok (.iinc 5 1, 3) := by decide +kernel
theorem dX7_takeAgenda_101 : decode cX7_takeAgenda 101 = .ok (.goto (-24), 3) := by decide +kernel
theorem dX7_takeAgenda_104 : decode cX7_takeAgenda 104 = .ok (.aload_n 0, 1) := by decide +kernel
theorem dX7_takeAgenda_105 : decode cX7_takeAgenda 105 = .ok (.iload_n 3, 1) := by decide +kernel
theorem dX7_takeAgenda_106 : decode cX7_takeAgenda 106 = .ok (.putfield 28, 3) := by decide +kernel
theorem dX7_takeAgenda_109 : decode cX7_takeAgenda 109 = .ok (.iload_n 3, 1) := by decide +kernel
theorem dX7_takeAgenda_110 : decode cX7_takeAgenda 110 = .ok (.ireturn, 1) := by decide +kernel
theorem dJ6_bitCount_0f7a4_0 : decode cJ6_bitCount_0f7a4 0 = .ok (.iload_n 0, 1) := by decide +kernel
theorem dJ6_bitCount_0f7a4_1 : decode cJ6_bitCount_0f7a4 1 = .ok (.iload_n 0, 1) := by decide +kernel
theorem dJ6_bitCount_0f7a4_2 : decode cJ6_bitCount_0f7a4 2 = .ok (.iconst 1, 1) := by decide +kernel
theorem dJ6_bitCount_0f7a4_3 : decode cJ6_bitCount_0f7a4 3 = .ok (.iushr, 1) := by decide +kernel
theorem dJ6_bitCount_0f7a4_4 : decode cJ6_bitCount_0f7a4 4 = .ok (.ldc_w 265, 3) := by decide +kernel
theorem dJ6_bitCount_0f7a4_7 : decode cJ6_bitCount_0f7a4 7 = .ok (.iand, 1) := by decide +kernel
theorem dJ6_bitCount_0f7a4_8 : decode cJ6_bitCount_0f7a4 8 = .ok (.isub, 1) := by decide +kernel
theorem dJ6_bitCount_0f7a4_9 : decode cJ6_bitCount_0f7a4 9 = .ok (.istore_n 0, 1) := by decide +kernel
theorem dJ6_bitCount_0f7a4_10 : decode cJ6_bitCount_0f7a4 10 = .ok (.iload_n 0, 1) := by decide +kernel
theorem dJ6_bitCount_0f7a4_11 : decode cJ6_bitCount_0f7a4 11 = .ok (.ldc_w 266, 3) := by decide +kernel
theorem dJ6_bitCount_0f7a4_14 : decode cJ6_bitCount_0f7a4 14 = .ok (.iand, 1) := by decide +kernel
theorem dJ6_bitCount_0f7a4_15 : decode cJ6_bitCount_0f7a4 15 = .ok (.iload_n 0, 1) := by decide +kernel
theorem dJ6_bitCount_0f7a4_16 : decode cJ6_bitCount_0f7a4 16 = .ok (.iconst 2, 1) := by decide +kernel
theorem dJ6_bitCount_0f7a4_17 : decode cJ6_bitCount_0f7a4 17 = .ok (.iushr, 1) := by decide +kernel
theorem dJ6_bitCount_0f7a4_18 : decode cJ6_bitCount_0f7a4 18 = .ok (.ldc_w 266, 3) := by decide +kernel
theorem dJ6_bitCount_0f7a4_21 : decode cJ6_bitCount_0f7a4 21 = .ok (.iand, 1) := by decide +kernel
theorem dJ6_bitCount_0f7a4_22 : decode cJ6_bitCount_0f7a4 22 = .ok (.iadd, 1) := by decide +kernel
theorem dJ6_bitCount_0f7a4_23 : decode cJ6_bitCount_0f7a4 23 = .ok (.istore_n 0, 1) := by decide +kernel
theorem dJ6_bitCount_0f7a4_24 : decode cJ6_bitCount_0f7a4 24 = .ok (.iload_n 0, 1) := by decide +kernel
theorem dJ6_bitCount_0f7a4_25 : decode cJ6_bitCount_0f7a4 25 = .ok (.iload_n 0, 1) := by decide +kernel
theorem dJ6_bitCount_0f7a4_26 : decode cJ6_bitCount_0f7a4 26 = .ok (.iconst 4, 1) := by decide +kernel
theorem dJ6_bitCount_0f7a4_27 : decode cJ6_bitCount_0f7a4 27 = .ok (.iushr, 1) := by decide +kernel
theorem dJ6_bitCount_0f7a4_28 : decode cJ6_bitCount_0f7a4 28 = .ok (.iadd, 1) := by decide +kernel
theorem dJ6_bitCount_0f7a4_29 : decode cJ6_bitCount_0f7a4 29 = .ok (.ldc_w 267, 3) := by decide +kernel
theorem dJ6_bitCount_0f7a4_32 : decode cJ6_bitCount_0f7a4 32 = .ok (.iand, 1) := by decide +kernel
theorem dJ6_bitCount_0f7a4_33 : decode cJ6_bitCount_0f7a4 33 = .ok (.istore_n 0, 1) := by decide +kernel
theorem dJ6_bitCount_0f7a4_34 : decode cJ6_bitCount_0f7a4 34 = .ok (.iload_n 0, 1) := by decide +kernel
theorem dJ6_bitCount_0f7a4_35 : decode cJ6_bitCount_0f7a4 35 = .ok (.iload_n 0, 1) := by decide +kernel
theorem dJ6_bitCount_0f7a4_36 : decode cJ6_bitCount_0f7a4 36 = .ok (.bipush 8, 2) := by decide +kernel
theorem dJ6_bitCount_0f7a4_38 : decode cJ6_bitCount_0f7a4 38 = .ok (.iushr, 1) := by decide +kernel
theorem dJ6_bitCount_0f7a4_39 : decode cJ6_bitCount_0f7a4 39 = .ok (.iadd, 1) := by decide +kernel
theorem dJ6_bitCount_0f7a4_40 : decode cJ6_bitCount_0f7a4 40 = .ok (.istore_n 0, 1) := by decide +kernel
theorem dJ6_bitCount_0f7a4_41 : decode cJ6_bitCount_0f7a4 41 = .ok (.iload_n 0, 1) := by decide +kernel
theorem dJ6_bitCount_0f7a4_42 : decode cJ6_bitCount_0f7a4 42 = .ok (.iload_n 0, 1) := by decide +kernel
theorem dJ6_bitCount_0f7a4_43 : decode cJ6_bitCount_0f7a4 43 = .ok (.bipush 16, 2) := by decide +kernel
theorem dJ6_bitCount_0f7a4_45 : decode cJ6_bitCount_0f7a4 45 = .ok (.iushr, 1) := by decide +kernel
theorem dJ6_bitCount_0f7a4_46 : decode cJ6_bitCount_0f7a4 46 = .ok (.iadd, 1) := by decide +kernel
theorem dJ6_bitCount_0f7a4_47 : decode cJ6_bitCount_0f7a4 47 = .ok (.istore_n 0, 1) := by decide +kernel
theorem dJ6_bitCount_0f7a4_48 : decode cJ6_bitCount_0f7a4 48 = .ok (.iload_n 0, 1) := by decide +kernel
theorem dJ6_bitCount_0f7a4_49 : decode cJ6_bitCount_0f7a4 49 = .ok (.bipush 63, 2) := by decide +kernel
theorem dJ6_bitCount_0f7a4_51 : decode cJ6_bitCount_0f7a4 51 = .ok (.iand, 1) := by decide +kernel
theorem dJ6_bitCount_0f7a4_52 : decode cJ6_bitCount_0f7a4 52 = .ok (.ireturn, 1) := by decide +kernel
theorem dJ9_max_7cf53_0 : decode cJ9_max_7cf53 0 = .ok (.iload_n 0, 1) := by decide +kernel
theorem dJ9_max_7cf53_1 : decode cJ9_max_7cf53 1 = .ok (.iload_n 1, 1) := by decide +kernel
theorem dJ9_max_7cf53_2 : decode cJ9_max_7cf53 2 = .ok (.if_icmp .lt 7, 3) := by decide +kernel
theorem dJ9_max_7cf53_5 : decode cJ9_max_7cf53 5 = .ok (.iload_n 0, 1) := by decide +kernel
theorem dJ9_max_7cf53_6 : decode cJ9_max_7cf53 6 = .ok (.goto 4, 3) := by decide +kernel
theorem dJ9_max_7cf53_9 : decode cJ9_max_7cf53 9 = .ok (.iload_n 1, 1) := by decide +kernel
theorem dJ9_max_7cf53_10 : decode cJ9_max_7cf53 10 = .ok (.ireturn, 1) := by decide +kernel
theorem dJ9_min_7cf53_0 : decode cJ9_min_7cf53 0 = .ok (.iload_n 0, 1) := by decide +kernel
theorem dJ9_min_7cf53_1 : decode cJ9_min_7cf53 1 = .ok (.iload_n 1, 1) := by decide +kernel
theorem dJ9_min_7cf53_2 : decode cJ9_min_7cf53 2 = .ok (.if_icmp .gt 7, 3) := by decide +kernel
theorem dJ9_min_7cf53_5 : decode cJ9_min_7cf53 5 = .ok (.iload_n 0, 1) := by decide +kernel
theorem dJ9_min_7cf53_6 : decode cJ9_min_7cf53 6 = .ok (.goto 4, 3) := by decide +kernel
theorem dJ9_min_7cf53_9 : decode cJ9_min_7cf53 9 = .ok (.iload_n 1, 1) := by decide +kernel
theorem dJ9_min_7cf53_10 : decode cJ9_min_7cf53 10 = .ok (.ireturn, 1) := by decide +kernel
theorem dJ7_fill_d0a16_0 : decode cJ7_fill_d0a16 0 = .ok (.iconst 0, 1) := by decide +kernel
theorem dJ7_fill_d0a16_1 : decode cJ7_fill_d0a16 1 = .ok (.istore_n 3, 1) := by decide +kernel
theorem dJ7_fill_d0a16_2 : decode cJ7_fill_d0a16 2 = .ok (.aload_n 0, 1) := by decide +kernel
theorem dJ7_fill_d0a16_3 : decode cJ7_fill_d0a16 3 = .ok (.arraylength, 1) := by decide +kernel
theorem dJ7_fill_d0a16_4 : decode cJ7_fill_d0a16 4 = .ok (.istore 4, 2) := by decide +kernel
theorem dJ7_fill_d0a16_6 : decode cJ7_fill_d0a16 6 = .ok (.iload_n 3, 1) := by decide +kernel
theorem dJ7_fill_d0a16_7 : decode cJ7_fill_d0a16 7 = .ok (.iload 4, 2) := by decide +kernel
theorem dJ7_fill_d0a16_9 : decode cJ7_fill_d0a16 9 = .ok (.if_icmp .ge 13, 3) := by decide +kernel
theorem dJ7_fill_d0a16_12 : decode cJ7_fill_d0a16 12 = .ok (.aload_n 0, 1) := by decide +kernel
theorem dJ7_fill_d0a16_13 : decode cJ7_fill_d0a16 13 = .ok (.iload_n 3, 1) := by decide +kernel
theorem dJ7_fill_d0a16_14 : decode cJ7_fill_d0a16 14 = .ok (.lload_n 1, 1) := by decide +kernel
theorem dJ7_fill_d0a16_15 : decode cJ7_fill_d0a16 15 = .ok (.lastore, 1) := by decide +kernel
theorem dJ7_fill_d0a16_16 : decode cJ7_fill_d0a16 16 = .ok (.iinc 3 1, 3) := by decide +kernel
theorem dJ7_fill_d0a16_19 : decode cJ7_fill_d0a16 19 = .ok (.goto (-13), 3) := by decide +kernel
theorem dJ7_fill_d0a16_22 : decode cJ7_fill_d0a16 22 = .ok (.return_, 1) := by decide +kernel
theorem dJ7_fill_53178_0 : decode cJ7_fill_53178 0 = .ok (.iconst 0, 1) := by decide +kernel
theorem dJ7_fill_53178_1 : decode cJ7_fill_53178 1 = .ok (.istore_n 2, 1) := by decide +kernel
theorem dJ7_fill_53178_2 : decode cJ7_fill_53178 2 = .ok (.aload_n 0, 1) := by decide +kernel
theorem dJ7_fill_53178_3 : decode cJ7_fill_53178 3 = .ok (.arraylength, 1) := by decide +kernel
theorem dJ7_fill_53178_4 : decode cJ7_fill_53178 4 = .ok (.istore_n 3, 1) := by decide +kernel
theorem dJ7_fill_53178_5 : decode cJ7_fill_53178 5 = .ok (.iload_n 2, 1) := by decide +kernel
theorem dJ7_fill_53178_6 : decode cJ7_fill_53178 6 = .ok (.iload_n 3, 1) := by decide +kernel
theorem dJ7_fill_53178_7 : decode cJ7_fill_53178 7 = .ok (.if_icmp .ge 13, 3) := by decide +kernel
theorem dJ7_fill_53178_10 : decode cJ7_fill_53178 10 = .ok (.aload_n 0, 1) := by decide +kernel
theorem dJ7_fill_53178_11 : decode cJ7_fill_53178 11 = .ok (.iload_n 2, 1) := by decide +kernel
theorem dJ7_fill_53178_12 : decode cJ7_fill_53178 12 = .ok (.iload_n 1, 1) := by decide +kernel
theorem dJ7_fill_53178_13 : decode cJ7_fill_53178 13 = .ok (.iastore, 1) := by decide +kernel
theorem dJ7_fill_53178_14 : decode cJ7_fill_53178 14 = .ok (.iinc 2 1, 3) := by decide +kernel
theorem dJ7_fill_53178_17 : decode cJ7_fill_53178 17 = .ok (.goto (-12), 3) := by decide +kernel
theorem dJ7_fill_53178_20 : decode cJ7_fill_53178 20 = .ok (.return_, 1) := by decide +kernel
end
section
theorem dX8_init_0 : decode cX8_init 0 = .ok (.aload_n 0, 1) := by decide +kernel
theorem dX8_init_1 : decode cX8_init 1 = .ok (.invokespecial 5, 3) := by decide +kernel
theorem dX8_init_4 : decode cX8_init 4 = .ok (.aload_n 0, 1) := by decide +kernel
theorem dX8_init_5 : decode cX8_init 5 = .ok (.iconst 4, 1) := by decide +kernel
theorem dX8_init_6 : decode cX8_init 6 = .ok (.anewarray 11, 3) := by decide +kernel
theorem dX8_init_9 : decode cX8_init 9 = .ok (.putfield 13, 3) := by decide +kernel
theorem dX8_init_12 : decode cX8_init 12 = .ok (.iconst 0, 1) := by decide +kernel
theorem dX8_init_13 : decode cX8_init 13 = .ok (.istore_n 1, 1) := by decide +kernel
theorem dX8_init_14 : decode cX8_init 14 = .ok (.iload_n 1, 1) := by decide +kernel
theorem dX8_init_15 : decode cX8_init 15 = .ok (.iconst 4, 1) := by decide +kernel
theorem dX8_init_16 : decode cX8_init 16 = .ok (.if_icmp .ge 22, 3) := by decide +kernel
theorem dX8_init_19 : decode cX8_init 19 = .ok (.aload_n 0, 1) := by decide +kernel
theorem dX8_init_20 : decode cX8_init 20 = .ok (.getfield 13, 3) := by decide +kernel
theorem dX8_init_23 : decode cX8_init 23 = .ok (.iload_n 1, 1) := by decide +kernel
theorem dX8_init_24 : decode cX8_init 24 = .ok (.new 11, 3) := by decide +kernel
theorem dX8_init_27 : decode cX8_init 27 = .ok (.dup, 1) := by decide +kernel
theorem dX8_init_28 : decode cX8_init 28 = .ok (.invokespecial 17, 3) := by decide +kernel
theorem dX8_init_31 : decode cX8_init 31 = .ok (.aastore, 1) := by decide +kernel
theorem dX8_init_32 : decode cX8_init 32 = .ok (.iinc 1 1, 3) := by decide +kernel
theorem dX8_init_35 : decode cX8_init 35 = .ok (.goto (-21), 3) := by decide +kernel
theorem dX8_init_38 : decode cX8_init 38 = .ok (.aload_n 0, 1) := by decide +kernel
theorem dX8_init_39 : decode cX8_init 39 = .ok (.new 18, 3) := by decide +kernel
theorem dX8_init_42 : decode cX8_init 42 = .ok (.dup, 1) := by decide +kernel
theorem dX8_init_43 : decode cX8_init 43 = .ok (.invokespecial 20, 3) := by decide +kernel
theorem dX8_init_46 : decode cX8_init 46 = .ok (.putfield 21, 3) := by decide +kernel
theorem dX8_init_49 : decode cX8_init 49 = .ok (.aload_n 0, 1) := by decide +kernel
theorem dX8_init_50 : decode cX8_init 50 = .ok (.new 25, 3) := by decide +kernel
theorem dX8_init_53 : decode cX8_init 53 = .ok (.dup, 1) := by decide +kernel
theorem dX8_init_54 : decode cX8_init 54 = .ok (.aload_n 0, 1) := by decide +kernel
theorem dX8_init_55 : decode cX8_init 55 = .ok (.getfield 21, 3) := by decide +kernel
theorem dX8_init_58 : decode cX8_init 58 = .ok (.invokespecial 27, 3) := by decide +kernel
theorem dX8_init_61 : decode cX8_init 61 = .ok (.putfield 30, 3) := by decide +kernel
theorem dX8_init_64 : decode cX8_init 64 = .ok (.aload_n 0, 1) := by decide +kernel
theorem dX8_init_65 : decode cX8_init 65 = .ok (.new 34, 3) := by decide +kernel
theorem dX8_init_68 : decode cX8_init 68 = .ok (.dup, 1) := by decide +kernel
theorem dX8_init_69 : decode cX8_init 69 = .ok (.aload_n 0, 1) := by decide +kernel
theorem dX8_init_70 : decode cX8_init 70 = .ok (.getfield 21, 3) := by decide +kernel
theorem dX8_init_73 : decode cX8_init 73 = .ok (.aload_n 0, 1) := by decide +kernel
theorem dX8_init_74 : decode cX8_init 74 = .ok (.getfield 30, 3) := by decide +kernel
theorem dX8_init_77 : decode cX8_init 77 = .ok (.invokespecial 36, 3) := by decide +kernel
theorem dX8_init_80 : decode cX8_init 80 = .ok (.putfield 39, 3) := by decide +kernel
theorem dX8_init_83 : decode cX8_init 83 = .ok (.aload_n 0, 1) := by decide +kernel
theorem dX8_init_84 : decode cX8_init 84 = .ok (.new 43, 3) := by decide +kernel
theorem dX8_init_87 : decode cX8_init 87 = .ok (.dup, 1) := by decide +kernel
theorem dX8_init_88 : decode cX8_init 88 = .ok (.aload_n 0, 1) := by decide +kernel
theorem dX8_init_89 : decode cX8_init 89 = .ok (.getfield 30, 3) := by decide +kernel
theorem dX8_init_92 : decode cX8_init 92 = .ok (.aload_n 0, 1) := by decide +kernel
theorem dX8_init_93 : decode cX8_init 93 = .ok (.getfield 39, 3) := by decide +kernel
theorem dX8_init_96 : decode cX8_init 96 = .ok (.invokespecial 45, 3) := by decide +kernel
theorem dX8_init_99 : decode cX8_init 99 = .ok (.putfield 48, 3) := by decide +kernel
theorem dX8_init_102 : decode cX8_init 102 = .ok (.aload_n 0, 1) := by decide +kernel
theorem dX8_init_103 : decode cX8_init 103 = .ok (.new 52, 3) := by decide +kernel
theorem dX8_init_106 : decode cX8_init 106 = .ok (.dup, 1) := by decide +kernel
theorem dX8_init_107 : decode cX8_init 107 = .ok (.aload_n 0, 1) := by decide +kernel
theorem dX8_init_108 : decode cX8_init 108 = .ok (.getfield 21, 3) := by decide +kernel
theorem dX8_init_111 : decode cX8_init 111 = .ok (.aload_n 0, 1) := by decide +kernel
theorem dX8_init_112 : decode cX8_init 112 = .ok (.getfield 30, 3) := by decide +kernel
theorem dX8_init_115 : decode cX8_init 115 = .ok (.invokespecial 54, 3) := by decide +kernel
theorem dX8_init_118 : decode cX8_init 118 = .ok (.putfield 55, 3) := by decide +kernel
theorem dX8_init_121 : decode cX8_init 121 = .ok (.aload_n 0, 1) := by decide +kernel
theorem dX8_init_122 : decode cX8_init 122 = .ok (.new 59, 3) := by decide +kernel
theorem dX8_init_125 : decode cX8_init 125 = .ok (.dup, 1) := by decide +kernel
theorem dX8_init_126 : decode cX8_init 126 = .ok (.aload_n 0, 1) := by decide +kernel
theorem dX8_init_127 : decode cX8_init 127 = .ok (.getfield 21, 3) := by decide +kernel
theorem dX8_init_130 : decode cX8_init 130 = .ok (.aload_n 0, 1) := by decide +kernel
theorem dX8_init_131 : decode cX8_init 131 = .ok (.getfield 30, 3) := by decide +kernel
theorem dX8_init_134 : decode cX8_init 134 = .ok (.invokespecial 61, 3) := by decide +kernel
theorem dX8_init_137 : decode cX8_init 137 = .ok (.putfield 62, 3) := by decide +kernel
theorem dX8_init_140 : decode cX8_init 140 = .ok (.aload_n 0, 1) := by decide +kernel
theorem dX8_init_141 : decode cX8_init 141 = .ok (.new 66, 3) := by decide +kernel
theorem dX8_init_144 : decode cX8_init 144 = .ok (.dup, 1) := by decide +kernel
theorem dX8_init_145 : decode cX8_init 145 = .ok (.aload_n 0, 1) := by decide +kernel
theorem dX8_init_146 : decode cX8_init 146 = .ok (.getfield 21, 3) := by decide +kernel
theorem dX8_init_149 : decode cX8_init 149 = .ok (.aload_n 0, 1) := by decide +kernel
theorem dX8_init_150 : decode cX8_init 150 = .ok (.getfield 30, 3) := by decide +kernel
theorem dX8_init_153 : decode cX8_init 153 = .ok (.invokespecial 68, 3) := by decide +kernel
theorem dX8_init_156 : decode cX8_init 156 = .ok (.putfield 69, 3) := by decide +kernel
theorem dX8_init_159 : decode cX8_init 159 = .ok (.return_, 1) := by decide +kernel
theorem dX8_town_0 : decode cX8_town 0 = .ok (.aload_n 0, 1) := by decide +kernel
theorem dX8_town_1 : decode cX8_town 1 = .ok (.iload_n 1, 1) := by decide +kernel
theorem dX8_town_2 : decode cX8_town 2 = .ok (.iload_n 2, 1) := by decide +kernel
theorem dX8_town_3 : decode cX8_town 3 = .ok (.iload_n 3, 1) := by decide +kernel
theorem dX8_town_4 : decode cX8_town 4 = .ok (.iload 4, 2) := by decide +kernel
theorem dX8_town_6 : decode cX8_town 6 = .ok (.invokevirtual 73, 3) := by decide +kernel
theorem dX8_town_9 : decode cX8_town 9 = .ok (.istore 5, 2) := by decide +kernel
theorem dX8_town_11 : decode cX8_town 11 = .ok (.iload 5, 2) := by decide +kernel
theorem dX8_town_13 : decode cX8_town 13 = .ok (.ifCond .eq 6, 3) := by decide +kernel
theorem dX8_town_16 : decode cX8_town 16 = .ok (.iload 5, 2) := by decide +kernel
theorem dX8_town_18 : decode cX8_town 18 = .ok (.ireturn, 1) := by decide +kernel
theorem dX8_town_19 : decode cX8_town 19 = .ok (.aload_n 0, 1) := by decide +kernel
theorem dX8_town_20 : decode cX8_town 20 = .ok (.getfield 13, 3) := by decide +kernel
theorem dX8_town_23 : decode cX8_town 23 = .ok (.iload_n 1, 1) := by decide +kernel
theorem dX8_town_24 : decode cX8_town 24 = .ok (.aaload, 1) := by decide +kernel
theorem dX8_town_25 : decode cX8_town 25 = .ok (.iload_n 3, 1) := by decide +kernel
theorem dX8_town_26 : decode cX8_town 26 = .ok (.iload 4, 2) := by decide +kernel
theorem dX8_town_28 : decode cX8_town 28 = .ok (.invokestatic 77, 3) := by decide +kernel
theorem dX8_town_31 : decode cX8_town 31 = .ok (.istore 6, 2) := by decide +kernel
theorem dX8_town_33 : decode cX8_town 33 = .ok (.iload 6, 2) := by decide +kernel
theorem dX8_town_35 : decode cX8_town 35 = .ok (.ifCond .lt 9, 3) := by decide +kernel
theorem dX8_town_38 : decode cX8_town 38 = .ok (.bipush (-100), 2) := by decide +kernel
theorem dX8_town_40 : decode cX8_town 40 = .ok (.iload 6, 2) := by decide +kernel
theorem dX8_town_42 : decode cX8_town 42 = .ok (.isub, 1) := by decide +kernel
theorem dX8_town_43 : decode cX8_town 43 = .ok (.ireturn, 1) := by decide +kernel
theorem dX8_town_44 : decode cX8_town 44 = .ok (.aload_n 0, 1) := by decide +kernel
theorem dX8_town_45 : decode cX8_town 45 = .ok (.getfield 21, 3) := by decide +kernel
theorem dX8_town_48 : decode cX8_town 48 = .ok (.aload_n 0, 1) := by decide +kernel
theorem dX8_town_49 : decode cX8_town 49 = .ok (.getfield 13, 3) := by decide +kernel
theorem dX8_town_52 : decode cX8_town 52 = .ok (.iload_n 1, 1) := by decide +kernel
theorem dX8_town_53 : decode cX8_town 53 = .ok (.aaload, 1) := by decide +kernel
theorem dX8_town_54 : decode cX8_town 54 = .ok (.iload_n 3, 1) := by decide +kernel
theorem dX8_town_55 : decode cX8_town 55 = .ok (.iload 4, 2) := by decide +kernel
theorem dX8_town_57 : decode cX8_town 57 = .ok (.invokevirtual 81, 3) := by decide +kernel
theorem dX8_town_60 : decode cX8_town 60 = .ok (.aload_n 0, 1) := by decide +kernel
theorem dX8_town_61 : decode cX8_town 61 = .ok (.getfield 21, 3) := by decide +kernel
theorem dX8_town_64 : decode cX8_town 64 = .ok (.getfield 85, 3) := by decide +kernel
theorem dX8_town_67 : decode cX8_town 67 = .ok (.ireturn, 1) := by decide +kernel
theorem dX8_ofOne_0 : decode cX8_ofOne 0 = .ok (.aload_n 0, 1) := by decide +kernel
theorem dX8_ofOne_1 : decode cX8_ofOne 1 = .ok (.getfield 21, 3) := by decide +kernel
theorem dX8_ofOne_4 : decode cX8_ofOne 4 = .ok (.iload_n 1, 1) := by decide +kernel
theorem dX8_ofOne_5 : decode cX8_ofOne 5 = .ok (.invokevirtual 89, 3) := by decide +kernel
theorem dX8_ofOne_8 : decode cX8_ofOne 8 = .ok (.ifCond .ne 5, 3) := by decide +kernel
theorem dX8_ofOne_11 : decode cX8_ofOne 11 = .ok (.iconst (-1), 1) := by decide +kernel
theorem dX8_ofOne_12 : decode cX8_ofOne 12 = .ok (.ireturn, 1) := by decide +kernel
theorem dX8_ofOne_13 : decode cX8_ofOne 13 = .ok (.iload_n 2, 1) := by decide +kernel
theorem dX8_ofOne_14 : decode cX8_ofOne 14 = .ok (.iconst (-1), 1) := by decide +kernel
theorem dX8_ofOne_15 : decode cX8_ofOne 15 = .ok (.if_icmp .ne 13, 3) := by decide +kernel
theorem dX8_ofOne_18 : decode cX8_ofOne 18 = .ok (.aload_n 0, 1) := by decide +kernel
theorem dX8_ofOne_19 : decode cX8_ofOne 19 = .ok (.getfield 21, 3) := by decide +kernel
theorem dX8_ofOne_22 : decode cX8_ofOne 22 = .ok (.getfield 93, 3) := by decide +kernel
theorem dX8_ofOne_25 : decode cX8_ofOne 25 = .ok (.iload_n 1, 1) := by decide +kernel
theorem dX8_ofOne_26 : decode cX8_ofOne 26 = .ok (.iaload, 1) := by decide +kernel
theorem dX8_ofOne_27 : decode cX8_ofOne 27 = .ok (.ireturn, 1) := by decide +kernel
theorem dX8_ofOne_28 : decode cX8_ofOne 28 = .ok (.aload_n 0, 1) := by decide +kernel
theorem dX8_ofOne_29 : decode cX8_ofOne 29 = .ok (.getfield 21, 3) := by decide +kernel
theorem dX8_ofOne_32 : decode cX8_ofOne 32 = .ok (.iload_n 2, 1) := by decide +kernel
theorem dX8_ofOne_33 : decode cX8_ofOne 33 = .ok (.invokevirtual 97, 3) := by decide +kernel
theorem dX8_ofOne_36 : decode cX8_ofOne 36 = .ok (.ifCond .ne 6, 3) := by decide +kernel
theorem dX8_ofOne_39 : decode cX8_ofOne 39 = .ok (.bipush (-2), 2) := by decide +kernel
theorem dX8_ofOne_41 : decode cX8_ofOne 41 = .ok (.ireturn, 1) := by decide +kernel
theorem dX8_ofOne_42 : decode cX8_ofOne 42 = .ok (.aload_n 0, 1) := by decide +kernel
theorem dX8_ofOne_43 : decode cX8_ofOne 43 = .ok (.getfield 21, 3) := by decide +kernel
theorem dX8_ofOne_46 : decode cX8_ofOne 46 = .ok (.iload_n 1, 1) := by decide +kernel
theorem dX8_ofOne_47 : decode cX8_ofOne 47 = .ok (.iload_n 2, 1) := by decide +kernel
theorem dX8_ofOne_48 : decode cX8_ofOne 48 = .ok (.invokevirtual 100, 3) := by decide +kernel
theorem dX8_ofOne_51 : decode cX8_ofOne 51 = .ok (.ifCond .eq 7, 3) := by decide +kernel
theorem dX8_ofOne_54 : decode cX8_ofOne 54 = .ok (.iconst 1, 1) := by decide +kernel
theorem dX8_ofOne_55 : decode cX8_ofOne 55 = .ok (.goto 4, 3) := by decide +kernel
theorem dX8_ofOne_58 : decode cX8_ofOne 58 = .ok (.iconst 0, 1) := by decide +kernel
theorem dX8_ofOne_59 : decode cX8_ofOne 59 = .ok (.ireturn, 1) := by decide +kernel
theorem dX8_wish_0 : decode cX8_wish 0 = .ok (.aload_n 0, 1) := by decide +kernel
theorem dX8_wish_1 : decode cX8_wish 1 = .ok (.getfield 21, 3) := by decide +kernel
theorem dX8_wish_4 : decode cX8_wish 4 = .ok (.iload_n 1, 1) := by decide +kernel
theorem dX8_wish_5 : decode cX8_wish 5 = .ok (.invokevirtual 89, 3) := by decide +kernel
theorem dX8_wish_8 : decode cX8_wish 8 = .ok (.ifCond .eq 14, 3) := by decide +kernel
theorem dX8_wish_11 : decode cX8_wish 11 = .ok (.aload_n 0, 1) := by decide +kernel
theorem dX8_wish_12 : decode cX8_wish 12 = .ok (.getfield 21, 3) := by decide +kernel
theorem dX8_wish_15 : decode cX8_wish 15 = .ok (.iload_n 2, 1) := by decide +kernel
theorem dX8_wish_16 : decode cX8_wish 16 = .ok (.invokevirtual 97, 3) := by decide +kernel
theorem dX8_wish_19 : decode cX8_wish 19 = .ok (.ifCond .ne 5, 3) := by decide +kernel
theorem dX8_wish_22 : decode cX8_wish 22 = .ok (.iconst (-1), 1) := by decide +kernel
theorem dX8_wish_23 : decode cX8_wish 23 = .ok (.ireturn, 1) := by decide +kernel
theorem dX8_wish_24 : decode cX8_wish 24 = .ok (.aload_n 0, 1) := by decide +kernel
theorem dX8_wish_25 : decode cX8_wish 25 = .ok (.getfield 21, 3) := by decide +kernel
theorem dX8_wish_28 : decode cX8_wish 28 = .ok (.iload_n 1, 1) := by decide +kernel
theorem dX8_wish_29 : decode cX8_wish 29 = .ok (.iload_n 2, 1) := by decide +kernel
theorem dX8_wish_30 : decode cX8_wish 30 = .ok (.invokevirtual 100, 3) := by decide +kernel
theorem dX8_wish_33 : decode cX8_wish 33 = .ok (.iload_n 3, 1) := by decide +kernel
theorem dX8_wish_34 : decode cX8_wish 34 = .ok (.if_icmp .ne 5, 3) := by decide +kernel
theorem dX8_wish_37 : decode cX8_wish 37 = .ok (.iconst 0, 1) := by decide +kernel
theorem dX8_wish_38 : decode cX8_wish 38 = .ok (.ireturn, 1) := by decide +kernel
theorem dX8_wish_39 : decode cX8_wish 39 = .ok (.aload_n 0, 1) := by decide +kernel
theorem dX8_wish_40 : decode cX8_wish 40 = .ok (.getfield 21, 3) := by decide +kernel
theorem dX8_wish_43 : decode cX8_wish 43 = .ok (.getfield 104, 3) := by decide +kernel
theorem dX8_wish_46 : decode cX8_wish 46 = .ok (.iload_n 2, 1) := by decide +kernel
theorem dX8_wish_47 : decode cX8_wish 47 = .ok (.dup2, 1) := by decide +kernel
theorem dX8_wish_48 : decode cX8_wish 48 = .ok (.iaload, 1) := by decide +kernel
theorem dX8_wish_49 : decode cX8_wish 49 = .ok (.iconst 1, 1) := by decide +kernel
theorem dX8_wish_50 : decode cX8_wish 50 = .ok (.iload_n 1, 1) := by decide +kernel
theorem dX8_wish_51 : decode cX8_wish 51 = .ok (.ishl, 1) := by decide +kernel
theorem dX8_wish_52 : decode cX8_wish 52 = .ok (.ixor, 1) := by decide +kernel
theorem dX8_wish_53 : decode cX8_wish 53 = .ok (.iastore, 1) := by decide +kernel
theorem dX8_wish_54 : decode cX8_wish 54 = .ok (.iconst 1, 1) := by decide +kernel
theorem dX8_wish_55 : decode cX8_wish 55 = .ok (.ireturn, 1) := by decide +kernel
theorem dX8_measure_0 : decode cX8_measure 0 = .ok (.iload_n 1, 1) := by decide +kernel
theorem dX8_measure_1 : decode cX8_measure 1 = .ok (.ifCond .lt 8, 3) := by decide +kernel
theorem dX8_measure_4 : decode cX8_measure 4 = .ok (.iload_n 1, 1) := by decide +kernel
theorem dX8_measure_5 : decode cX8_measure 5 = .ok (.iconst 4, 1) := by decide +kernel
theorem dX8_measure_6 : decode cX8_measure 6 = .ok (.if_icmp .lt 6, 3) := by decide +kernel
theorem dX8_measure_9 : decode cX8_measure 9 = .ok (.bipush (-2), 2) := by decide +kernel
theorem dX8_measure_11 : decode cX8_measure 11 = .ok (.ireturn, 1) := by decide +kernel
theorem dX8_measure_12 : decode cX8_measure 12 = .ok (.aload_n 0, 1) := by decide +kernel
theorem dX8_measure_13 : decode cX8_measure 13 = .ok (.getfield 21, 3) := by decide +kernel
theorem dX8_measure_16 : decode cX8_measure 16 = .ok (.invokevirtual 107, 3) := by decide +kernel
theorem dX8_measure_19 : decode cX8_measure 19 = .ok (.ifCond .ne 6, 3) := by decide +kernel
theorem dX8_measure_22 : decode cX8_measure 22 = .ok (.bipush (-3), 2) := by decide +kernel
theorem dX8_measure_24 : decode cX8_measure 24 = .ok (.ireturn, 1) := by decide +kernel
theorem dX8_measure_25 : decode cX8_measure 25 = .ok (.aload_n 0, 1) := by decide +kernel
theorem dX8_measure_26 : decode cX8_measure 26 = .ok (.getfield 21, 3) := by decide +kernel
theorem dX8_measure_29 : decode cX8_measure 29 = .ok (.getfield 111, 3) := by decide +kernel
theorem dX8_measure_32 : decode cX8_measure 32 = .ok (.istore_n 2, 1) := by decide +kernel
theorem dX8_measure_33 : decode cX8_measure 33 = .ok (.aload_n 0, 1) := by decide +kernel
theorem dX8_measure_34 : decode cX8_measure 34 = .ok (.getfield 21, 3) := by decide +kernel
theorem dX8_measure_37 : decode cX8_measure 37 = .ok (.iload_n 1, 1) := by decide +kernel
theorem dX8_measure_38 : decode cX8_measure 38 = .ok (.putfield 111, 3) := by decide +kernel
theorem dX8_measure_41 : decode cX8_measure 41 = .ok (.iload_n 2, 1) := by decide +kernel
theorem dX8_measure_42 : decode cX8_measure 42 = .ok (.ireturn, 1) := by decide +kernel
theorem dX8_law_0 : decode cX8_law 0 = .ok (.iload_n 1, 1) := by decide +kernel
theorem dX8_law_1 : decode cX8_law 1 = .ok (.ifCond .lt 8, 3) := by decide +kernel
theorem dX8_law_4 : decode cX8_law 4 = .ok (.iload_n 1, 1) := by decide +kernel
theorem dX8_law_5 : decode cX8_law 5 = .ok (.iconst 3, 1) := by decide +kernel
theorem dX8_law_6 : decode cX8_law 6 = .ok (.if_icmp .lt 6, 3) := by decide +kernel
theorem dX8_law_9 : decode cX8_law 9 = .ok (.bipush (-2), 2) := by decide +kernel
theorem dX8_law_11 : decode cX8_law 11 = .ok (.ireturn, 1) := by decide +kernel
theorem dX8_law_12 : decode cX8_law 12 = .ok (.aload_n 0, 1) := by decide +kernel
theorem dX8_law_13 : decode cX8_law 13 = .ok (.getfield 21, 3) := by decide +kernel
theorem dX8_law_16 : decode cX8_law 16 = .ok (.invokevirtual 107, 3) := by decide +kernel
theorem dX8_law_19 : decode cX8_law 19 = .ok (.ifCond .ne 6, 3) := by decide +kernel
theorem dX8_law_22 : decode cX8_law 22 = .ok (.bipush (-3), 2) := by decide +kernel
theorem dX8_law_24 : decode cX8_law 24 = .ok (.ireturn, 1) := by decide +kernel
theorem dX8_law_25 : decode cX8_law 25 = .ok (.aload_n 0, 1) := by decide +kernel
theorem dX8_law_26 : decode cX8_law 26 = .ok (.getfield 21, 3) := by decide +kernel
theorem dX8_law_29 : decode cX8_law 29 = .ok (.getfield 114, 3) := by decide +kernel
theorem dX8_law_32 : decode cX8_law 32 = .ok (.istore_n 2, 1) := by decide +kernel
theorem dX8_law_33 : decode cX8_law 33 = .ok (.aload_n 0, 1) := by decide +kernel
theorem dX8_law_34 : decode cX8_law 34 = .ok (.getfield 21, 3) := by decide +kernel
theorem dX8_law_37 : decode cX8_law 37 = .ok (.iload_n 1, 1) := by decide +kernel
theorem dX8_law_38 : decode cX8_law 38 = .ok (.putfield 114, 3) := by decide +kernel
theorem dX8_law_41 : decode cX8_law 41 = .ok (.iload_n 2, 1) := by decide +kernel
theorem dX8_law_42 : decode cX8_law 42 = .ok (.ireturn, 1) := by decide +kernel
theorem dX8_agenda_0 : decode cX8_agenda 0 = .ok (.aload_n 0, 1) := by decide +kernel
theorem dX8_agenda_1 : decode cX8_agenda 1 = .ok (.iload_n 1, 1) := by decide +kernel
theorem dX8_agenda_2 : decode cX8_agenda 2 = .ok (.iload_n 2, 1) := by decide +kernel
theorem dX8_agenda_3 : decode cX8_agenda 3 = .ok (.iload_n 3, 1) := by decide +kernel
theorem dX8_agenda_4 : decode cX8_agenda 4 = .ok (.iload 4, 2) := by decide +kernel
theorem dX8_agenda_6 : decode cX8_agenda 6 = .ok (.invokevirtual 73, 3) := by decide +kernel
theorem dX8_agenda_9 : decode cX8_agenda 9 = .ok (.istore 5, 2) := by decide +kernel
theorem dX8_agenda_11 : decode cX8_agenda 11 = .ok (.iload 5, 2) := by decide +kernel
theorem dX8_agenda_13 : decode cX8_agenda 13 = .ok (.ifCond .eq 6, 3) := by decide +kernel
theorem dX8_agenda_16 : decode cX8_agenda 16 = .ok (.iload 5, 2) := by decide +kernel
theorem dX8_agenda_18 : decode cX8_agenda 18 = .ok (.ireturn, 1) := by decide +kernel
theorem dX8_agenda_19 : decode cX8_agenda 19 = .ok (.aload_n 0, 1) := by decide +kernel
theorem dX8_agenda_20 : decode cX8_agenda 20 = .ok (.getfield 21, 3) := by decide +kernel
theorem dX8_agenda_23 : decode cX8_agenda 23 = .ok (.invokevirtual 107, 3) := by decide +kernel
theorem dX8_agenda_26 : decode cX8_agenda 26 = .ok (.ifCond .ne 6, 3) := by decide +kernel
theorem dX8_agenda_29 : decode cX8_agenda 29 = .ok (.bipush (-3), 2) := by decide +kernel
theorem dX8_agenda_31 : decode cX8_agenda 31 = .ok (.ireturn, 1) := by decide +kernel
theorem dX8_agenda_32 : decode cX8_agenda 32 = .ok (.aload_n 0, 1) := by decide +kernel
theorem dX8_agenda_33 : decode cX8_agenda 33 = .ok (.getfield 21, 3) := by decide +kernel
theorem dX8_agenda_36 : decode cX8_agenda 36 = .ok (.aload_n 0, 1) := by decide +kernel
theorem dX8_agenda_37 : decode cX8_agenda 37 = .ok (.getfield 13, 3) := by decide +kernel
theorem dX8_agenda_40 : decode cX8_agenda 40 = .ok (.iload_n 1, 1) := by decide +kernel
theorem dX8_agenda_41 : decode cX8_agenda 41 = .ok (.aaload, 1) := by decide +kernel
theorem dX8_agenda_42 : decode cX8_agenda 42 = .ok (.iload_n 3, 1) := by decide +kernel
theorem dX8_agenda_43 : decode cX8_agenda 43 = .ok (.iload 4, 2) := by decide +kernel
theorem dX8_agenda_45 : decode cX8_agenda 45 = .ok (.invokevirtual 117, 3) := by decide +kernel
theorem dX8_agenda_48 : decode cX8_agenda 48 = .ok (.ireturn, 1) := by decide +kernel
theorem dX8_vote_0 : decode cX8_vote 0 = .ok (.iload_n 1, 1) := by decide +kernel
theorem dX8_vote_1 : decode cX8_vote 1 = .ok (.ifCond .lt 14, 3) := by decide +kernel
theorem dX8_vote_4 : decode cX8_vote 4 = .ok (.iload_n 1, 1) := by decide +kernel
theorem dX8_vote_5 : decode cX8_vote 5 = .ok (.aload_n 0, 1) := by decide +kernel
theorem dX8_vote_6 : decode cX8_vote 6 = .ok (.getfield 21, 3) := by decide +kernel
theorem dX8_vote_9 : decode cX8_vote 9 = .ok (.getfield 120, 3) := by decide +kernel
theorem dX8_vote_12 : decode cX8_vote 12 = .ok (.if_icmp .lt 5, 3) := by decide +kernel
theorem dX8_vote_15 : decode cX8_vote 15 = .ok (.iconst (-1), 1) := by decide +kernel
theorem dX8_vote_16 : decode cX8_vote 16 = .ok (.ireturn, 1) := by decide +kernel
theorem dX8_vote_17 : decode cX8_vote 17 = .ok (.iload_n 2, 1) := by decide +kernel
theorem dX8_vote_18 : decode cX8_vote 18 = .ok (.ifCond .lt 8, 3) := by decide +kernel
theorem dX8_vote_21 : decode cX8_vote 21 = .ok (.iload_n 2, 1) := by decide +kernel
theorem dX8_vote_22 : decode cX8_vote 22 = .ok (.iconst 4, 1) := by decide +kernel
theorem dX8_vote_23 : decode cX8_vote 23 = .ok (.if_icmp .le 6, 3) := by decide +kernel
theorem dX8_vote_26 : decode cX8_vote 26 = .ok (.bipush (-2), 2) := by decide +kernel
theorem dX8_vote_28 : decode cX8_vote 28 = .ok (.ireturn, 1) := by decide +kernel
theorem dX8_vote_29 : decode cX8_vote 29 = .ok (.aload_n 0, 1) := by decide +kernel
theorem dX8_vote_30 : decode cX8_vote 30 = .ok (.invokevirtual 123, 3) := by decide +kernel
theorem dX8_vote_33 : decode cX8_vote 33 = .ok (.pop, 1) := by decide +kernel
theorem dX8_vote_34 : decode cX8_vote 34 = .ok (.iload_n 2, 1) := by decide +kernel
theorem dX8_vote_35 : decode cX8_vote 35 = .ok (.tableswitch 69 0 3 #[29, 39, 49, 59], 29) := by decide +kernel
theorem dX8_vote_64 : decode cX8_vote 64 = .ok (.aload_n 0, 1) := by decide +kernel
theorem dX8_vote_65 : decode cX8_vote 65 = .ok (.getfield 21, 3) := by decide +kernel
theorem dX8_vote_68 : decode cX8_vote 68 = .ok (.getfield 127, 3) := by decide +kernel
theorem dX8_vote_71 : decode cX8_vote 71 = .ok (.iload_n 1, 1) := by decide +kernel
theorem dX8_vote_72 : decode cX8_vote 72 = .ok (.iaload, 1) := by decide +kernel
theorem dX8_vote_73 : decode cX8_vote 73 = .ok (.ireturn, 1) := by decide +kernel
theorem dX8_vote_74 : decode cX8_vote 74 = .ok (.aload_n 0, 1) := by decide +kernel
theorem dX8_vote_75 : decode cX8_vote 75 = .ok (.getfield 39, 3) := by decide +kernel
theorem dX8_vote_78 : decode cX8_vote 78 = .ok (.getfield 130, 3) := by decide +kernel
theorem dX8_vote_81 : decode cX8_vote 81 = .ok (.iload_n 1, 1) := by decide +kernel
theorem dX8_vote_82 : decode cX8_vote 82 = .ok (.iaload, 1) := by decide +kernel
theorem dX8_vote_83 : decode cX8_vote 83 = .ok (.ireturn, 1) := by decide +kernel
theorem dX8_vote_84 : decode cX8_vote 84 = .ok (.aload_n 0, 1) := by decide +kernel
theorem dX8_vote_85 : decode cX8_vote 85 = .ok (.getfield 39, 3) := by decide +kernel
theorem dX8_vote_88 : decode cX8_vote 88 = .ok (.getfield 133, 3) := by decide +kernel
theorem dX8_vote_91 : decode cX8_vote 91 = .ok (.iload_n 1, 1) := by decide +kernel
theorem dX8_vote_92 : decode cX8_vote 92 = .ok (.iaload, 1) := by decide +kernel
theorem dX8_vote_93 : decode cX8_vote 93 = .ok (.ireturn, 1) := by decide +kernel
theorem dX8_vote_94 : decode cX8_vote 94 = .ok (.aload_n 0, 1) := by decide +kernel
theorem dX8_vote_95 : decode cX8_vote 95 = .ok (.getfield 39, 3) := by decide +kernel
theorem dX8_vote_98 : decode cX8_vote 98 = .ok (.getfield 136, 3) := by decide +kernel
theorem dX8_vote_101 : decode cX8_vote 101 = .ok (.iload_n 1, 1) := by decide +kernel
theorem dX8_vote_102 : decode cX8_vote 102 = .ok (.iaload, 1) := by decide +kernel
theorem dX8_vote_103 : decode cX8_vote 103 = .ok (.ireturn, 1) := by decide +kernel
theorem dX8_vote_104 : decode cX8_vote 104 = .ok (.aload_n 0, 1) := by decide +kernel
theorem dX8_vote_105 : decode cX8_vote 105 = .ok (.getfield 39, 3) := by decide +kernel
theorem dX8_vote_108 : decode cX8_vote 108 = .ok (.getfield 139, 3) := by decide +kernel
theorem dX8_vote_111 : decode cX8_vote 111 = .ok (.iload_n 1, 1) := by decide +kernel
theorem dX8_vote_112 : decode cX8_vote 112 = .ok (.iaload, 1) := by decide +kernel
theorem dX8_vote_113 : decode cX8_vote 113 = .ok (.ireturn, 1) := by decide +kernel
theorem dX8_decided_0 : decode cX8_decided 0 = .ok (.aload_n 0, 1) := by decide +kernel
theorem dX8_decided_1 : decode cX8_decided 1 = .ok (.getfield 21, 3) := by decide +kernel
theorem dX8_decided_4 : decode cX8_decided 4 = .ok (.iload_n 1, 1) := by decide +kernel
theorem dX8_decided_5 : decode cX8_decided 5 = .ok (.invokevirtual 97, 3) := by decide +kernel
theorem dX8_decided_8 : decode cX8_decided 8 = .ok (.ifCond .ne 5, 3) := by decide +kernel
theorem dX8_decided_11 : decode cX8_decided 11 = .ok (.iconst (-1), 1) := by decide +kernel
theorem dX8_decided_12 : decode cX8_decided 12 = .ok (.ireturn, 1) := by decide +kernel
theorem dX8_decided_13 : decode cX8_decided 13 = .ok (.aload_n 0, 1) := by decide +kernel
theorem dX8_decided_14 : decode cX8_decided 14 = .ok (.getfield 21, 3) := by decide +kernel
theorem dX8_decided_17 : decode cX8_decided 17 = .ok (.iload_n 1, 1) := by decide +kernel
theorem dX8_decided_18 : decode cX8_decided 18 = .ok (.invokevirtual 142, 3) := by decide +kernel
theorem dX8_decided_21 : decode cX8_decided 21 = .ok (.istore_n 2, 1) := by decide +kernel
theorem dX8_decided_22 : decode cX8_decided 22 = .ok (.iload_n 2, 1) := by decide +kernel
theorem dX8_decided_23 : decode cX8_decided 23 = .ok (.ifCond .ge 6, 3) := by decide +kernel
theorem dX8_decided_26 : decode cX8_decided 26 = .ok (.bipush (-9), 2) := by decide +kernel
theorem dX8_decided_28 : decode cX8_decided 28 = .ok (.ireturn, 1) := by decide +kernel
theorem dX8_decided_29 : decode cX8_decided 29 = .ok (.aload_n 0, 1) := by decide +kernel
theorem dX8_decided_30 : decode cX8_decided 30 = .ok (.invokevirtual 123, 3) := by decide +kernel
theorem dX8_decided_33 : decode cX8_decided 33 = .ok (.pop, 1) := by decide +kernel
theorem dX8_decided_34 : decode cX8_decided 34 = .ok (.aload_n 0, 1) := by decide +kernel
theorem dX8_decided_35 : decode cX8_decided 35 = .ok (.getfield 39, 3) := by decide +kernel
theorem dX8_decided_38 : decode cX8_decided 38 = .ok (.getfield 136, 3) := by decide +kernel
theorem dX8_decided_41 : decode cX8_decided 41 = .ok (.iload_n 2, 1) := by decide +kernel
theorem dX8_decided_42 : decode cX8_decided 42 = .ok (.iaload, 1) := by decide +kernel
theorem dX8_decided_43 : decode cX8_decided 43 = .ok (.ireturn, 1) := by decide +kernel
theorem dX8_sits_0 : decode cX8_sits 0 = .ok (.aload_n 0, 1) := by decide +kernel
theorem dX8_sits_1 : decode cX8_sits 1 = .ok (.getfield 21, 3) := by decide +kernel
theorem dX8_sits_4 : decode cX8_sits 4 = .ok (.invokevirtual 107, 3) := by decide +kernel
theorem dX8_sits_7 : decode cX8_sits 7 = .ok (.ifCond .ne 6, 3) := by decide +kernel
theorem dX8_sits_10 : decode cX8_sits 10 = .ok (.bipush (-3), 2) := by decide +kernel
theorem dX8_sits_12 : decode cX8_sits 12 = .ok (.ireturn, 1) := by decide +kernel
theorem dX8_sits_13 : decode cX8_sits 13 = .ok (.aload_n 0, 1) := by decide +kernel
theorem dX8_sits_14 : decode cX8_sits 14 = .ok (.invokevirtual 123, 3) := by decide +kernel
theorem dX8_sits_17 : decode cX8_sits 17 = .ok (.invokestatic 146, 3) := by decide +kernel
theorem dX8_sits_20 : decode cX8_sits 20 = .ok (.istore_n 1, 1) := by decide +kernel
theorem dX8_sits_21 : decode cX8_sits 21 = .ok (.iload_n 1, 1) := by decide +kernel
theorem dX8_sits_22 : decode cX8_sits 22 = .ok (.ifCond .ne 8, 3) := by decide +kernel
theorem dX8_sits_25 : decode cX8_sits 25 = .ok (.bipush (-6), 2) := by decide +kernel
theorem dX8_sits_27 : decode cX8_sits 27 = .ok (.goto 4, 3) := by decide +kernel
theorem dX8_sits_30 : decode cX8_sits 30 = .ok (.iload_n 1, 1) := by decide +kernel
theorem dX8_sits_31 : decode cX8_sits 31 = .ok (.ireturn, 1) := by decide +kernel
theorem dX8_ever_0 : decode cX8_ever 0 = .ok (.iload_n 1, 1) := by decide +kernel
theorem dX8_ever_1 : decode cX8_ever 1 = .ok (.ifCond .lt 8, 3) := by decide +kernel
theorem dX8_ever_4 : decode cX8_ever 4 = .ok (.iload_n 1, 1) := by decide +kernel
theorem dX8_ever_5 : decode cX8_ever 5 = .ok (.iconst 1, 1) := by decide +kernel
theorem dX8_ever_6 : decode cX8_ever 6 = .ok (.if_icmp .le 6, 3) := by decide +kernel
theorem dX8_ever_9 : decode cX8_ever 9 = .ok (.bipush (-2), 2) := by decide +kernel
theorem dX8_ever_11 : decode cX8_ever 11 = .ok (.ireturn, 1) := by decide +kernel
theorem dX8_ever_12 : decode cX8_ever 12 = .ok (.aload_n 0, 1) := by decide +kernel
theorem dX8_ever_13 : decode cX8_ever 13 = .ok (.getfield 21, 3) := by decide +kernel
theorem dX8_ever_16 : decode cX8_ever 16 = .ok (.invokevirtual 107, 3) := by decide +kernel
theorem dX8_ever_19 : decode cX8_ever 19 = .ok (.ifCond .ne 6, 3) := by decide +kernel
theorem dX8_ever_22 : decode cX8_ever 22 = .ok (.bipush (-3), 2) := by decide +kernel
theorem dX8_ever_24 : decode cX8_ever 24 = .ok (.ireturn, 1) := by decide +kernel
theorem dX8_ever_25 : decode cX8_ever 25 = .ok (.aload_n 0, 1) := by decide +kernel
theorem dX8_ever_26 : decode cX8_ever 26 = .ok (.getfield 30, 3) := by decide +kernel
theorem dX8_ever_29 : decode cX8_ever 29 = .ok (.invokevirtual 149, 3) := by decide +kernel
theorem dX8_ever_32 : decode cX8_ever 32 = .ok (.aload_n 0, 1) := by decide +kernel
theorem dX8_ever_33 : decode cX8_ever 33 = .ok (.getfield 48, 3) := by decide +kernel
theorem dX8_ever_36 : decode cX8_ever 36 = .ok (.invokevirtual 152, 3) := by decide +kernel
theorem dX8_ever_39 : decode cX8_ever 39 = .ok (.iload_n 1, 1) := by decide +kernel
theorem dX8_ever_40 : decode cX8_ever 40 = .ok (.ifCond .ne 13, 3) := by decide +kernel
theorem dX8_ever_43 : decode cX8_ever 43 = .ok (.aload_n 0, 1) := by decide +kernel
theorem dX8_ever_44 : decode cX8_ever 44 = .ok (.getfield 48, 3) := by decide +kernel
theorem dX8_ever_47 : decode cX8_ever 47 = .ok (.getfield 155, 3) := by decide +kernel
theorem dX8_ever_50 : decode cX8_ever 50 = .ok (.goto 10, 3) := by decide +kernel
theorem dX8_ever_53 : decode cX8_ever 53 = .ok (.aload_n 0, 1) := by decide +kernel
theorem dX8_ever_54 : decode cX8_ever 54 = .ok (.getfield 48, 3) := by decide +kernel
theorem dX8_ever_57 : decode cX8_ever 57 = .ok (.getfield 158, 3) := by decide +kernel
theorem dX8_ever_60 : decode cX8_ever 60 = .ok (.ireturn, 1) := by decide +kernel
theorem dX8_often_0 : decode cX8_often 0 = .ok (.aload_n 0, 1) := by decide +kernel
theorem dX8_often_1 : decode cX8_often 1 = .ok (.getfield 21, 3) := by decide +kernel
theorem dX8_often_4 : decode cX8_often 4 = .ok (.iload_n 1, 1) := by decide +kernel
theorem dX8_often_5 : decode cX8_often 5 = .ok (.invokevirtual 97, 3) := by decide +kernel
theorem dX8_often_8 : decode cX8_often 8 = .ok (.ifCond .ne 5, 3) := by decide +kernel
theorem dX8_often_11 : decode cX8_often 11 = .ok (.iconst (-1), 1) := by decide +kernel
theorem dX8_often_12 : decode cX8_often 12 = .ok (.ireturn, 1) := by decide +kernel
theorem dX8_often_13 : decode cX8_often 13 = .ok (.aload_n 0, 1) := by decide +kernel
theorem dX8_often_14 : decode cX8_often 14 = .ok (.getfield 21, 3) := by decide +kernel
theorem dX8_often_17 : decode cX8_often 17 = .ok (.iload_n 1, 1) := by decide +kernel
theorem dX8_often_18 : decode cX8_often 18 = .ok (.invokevirtual 142, 3) := by decide +kernel
theorem dX8_often_21 : decode cX8_often 21 = .ok (.istore_n 2, 1) := by decide +kernel
theorem dX8_often_22 : decode cX8_often 22 = .ok (.iload_n 2, 1) := by decide +kernel
theorem dX8_often_23 : decode cX8_often 23 = .ok (.ifCond .ge 5, 3) := by decide +kernel
theorem dX8_often_26 : decode cX8_often 26 = .ok (.iconst 0, 1) := by decide +kernel
theorem dX8_often_27 : decode cX8_often 27 = .ok (.ireturn, 1) := by decide +kernel
theorem dX8_often_28 : decode cX8_often 28 = .ok (.aload_n 0, 1) := by decide +kernel
theorem dX8_often_29 : decode cX8_often 29 = .ok (.getfield 30, 3) := by decide +kernel
theorem dX8_often_32 : decode cX8_often 32 = .ok (.invokevirtual 149, 3) := by decide +kernel
theorem dX8_often_35 : decode cX8_often 35 = .ok (.aload_n 0, 1) := by decide +kernel
theorem dX8_often_36 : decode cX8_often 36 = .ok (.getfield 48, 3) := by decide +kernel
theorem dX8_often_39 : decode cX8_often 39 = .ok (.invokevirtual 152, 3) := by decide +kernel
theorem dX8_often_42 : decode cX8_often 42 = .ok (.aload_n 0, 1) := by decide +kernel
theorem dX8_often_43 : decode cX8_often 43 = .ok (.getfield 48, 3) := by decide +kernel
theorem dX8_often_46 : decode cX8_often 46 = .ok (.iload_n 2, 1) := by decide +kernel
theorem dX8_often_47 : decode cX8_often 47 = .ok (.invokevirtual 161, 3) := by decide +kernel
theorem dX8_often_50 : decode cX8_often 50 = .ok (.ireturn, 1) := by decide +kernel
theorem dX8_sway_0 : decode cX8_sway 0 = .ok (.iload_n 1, 1) := by decide +kernel
theorem dX8_sway_1 : decode cX8_sway 1 = .ok (.invokestatic 164, 3) := by decide +kernel
theorem dX8_sway_4 : decode cX8_sway 4 = .ok (.istore_n 3, 1) := by decide +kernel
theorem dX8_sway_5 : decode cX8_sway 5 = .ok (.iload_n 3, 1) := by decide +kernel
theorem dX8_sway_6 : decode cX8_sway 6 = .ok (.iconst 1, 1) := by decide +kernel
theorem dX8_sway_7 : decode cX8_sway 7 = .ok (.if_icmp .lt 22, 3) := by decide +kernel
theorem dX8_sway_10 : decode cX8_sway 10 = .ok (.iload_n 3, 1) := by decide +kernel
theorem dX8_sway_11 : decode cX8_sway 11 = .ok (.iconst 3, 1) := by decide +kernel
theorem dX8_sway_12 : decode cX8_sway 12 = .ok (.if_icmp .gt 17, 3) := by decide +kernel
theorem dX8_sway_15 : decode cX8_sway 15 = .ok (.iload_n 1, 1) := by decide +kernel
theorem dX8_sway_16 : decode cX8_sway 16 = .ok (.aload_n 0, 1) := by decide +kernel
theorem dX8_sway_17 : decode cX8_sway 17 = .ok (.getfield 21, 3) := by decide +kernel
theorem dX8_sway_20 : decode cX8_sway 20 = .ok (.invokevirtual 169, 3) := by decide +kernel
theorem dX8_sway_23 : decode cX8_sway 23 = .ok (.iconst (-1), 1) := by decide +kernel
theorem dX8_sway_24 : decode cX8_sway 24 = .ok (.ixor, 1) := by decide +kernel
theorem dX8_sway_25 : decode cX8_sway 25 = .ok (.iand, 1) := by decide +kernel
theorem dX8_sway_26 : decode cX8_sway 26 = .ok (.ifCond .eq 6, 3) := by decide +kernel
theorem dX8_sway_29 : decode cX8_sway 29 = .ok (.bipush (-2), 2) := by decide +kernel
theorem dX8_sway_31 : decode cX8_sway 31 = .ok (.ireturn, 1) := by decide +kernel
theorem dX8_sway_32 : decode cX8_sway 32 = .ok (.iload_n 2, 1) := by decide +kernel
theorem dX8_sway_33 : decode cX8_sway 33 = .ok (.iconst 1, 1) := by decide +kernel
theorem dX8_sway_34 : decode cX8_sway 34 = .ok (.if_icmp .eq 10, 3) := by decide +kernel
theorem dX8_sway_37 : decode cX8_sway 37 = .ok (.iload_n 2, 1) := by decide +kernel
theorem dX8_sway_38 : decode cX8_sway 38 = .ok (.ifCond .eq 6, 3) := by decide +kernel
theorem dX8_sway_41 : decode cX8_sway 41 = .ok (.bipush (-2), 2) := by decide +kernel
theorem dX8_sway_43 : decode cX8_sway 43 = .ok (.ireturn, 1) := by decide +kernel
theorem dX8_sway_44 : decode cX8_sway 44 = .ok (.aload_n 0, 1) := by decide +kernel
theorem dX8_sway_45 : decode cX8_sway 45 = .ok (.getfield 21, 3) := by decide +kernel
theorem dX8_sway_48 : decode cX8_sway 48 = .ok (.invokevirtual 107, 3) := by decide +kernel
theorem dX8_sway_51 : decode cX8_sway 51 = .ok (.ifCond .ne 6, 3) := by decide +kernel
theorem dX8_sway_54 : decode cX8_sway 54 = .ok (.bipush (-3), 2) := by decide +kernel
theorem dX8_sway_56 : decode cX8_sway 56 = .ok (.ireturn, 1) := by decide +kernel
theorem dX8_sway_57 : decode cX8_sway 57 = .ok (.aload_n 0, 1) := by decide +kernel
theorem dX8_sway_58 : decode cX8_sway 58 = .ok (.getfield 30, 3) := by decide +kernel
theorem dX8_sway_61 : decode cX8_sway 61 = .ok (.invokevirtual 149, 3) := by decide +kernel
theorem dX8_sway_64 : decode cX8_sway 64 = .ok (.aload_n 0, 1) := by decide +kernel
theorem dX8_sway_65 : decode cX8_sway 65 = .ok (.getfield 55, 3) := by decide +kernel
theorem dX8_sway_68 : decode cX8_sway 68 = .ok (.iload_n 1, 1) := by decide +kernel
theorem dX8_sway_69 : decode cX8_sway 69 = .ok (.iload_n 2, 1) := by decide +kernel
theorem dX8_sway_70 : decode cX8_sway 70 = .ok (.invokevirtual 172, 3) := by decide +kernel
theorem dX8_sway_73 : decode cX8_sway 73 = .ok (.ireturn, 1) := by decide +kernel
theorem dX8_orders_0 : decode cX8_orders 0 = .ok (.aload_n 0, 1) := by decide +kernel
theorem dX8_orders_1 : decode cX8_orders 1 = .ok (.getfield 21, 3) := by decide +kernel
theorem dX8_orders_4 : decode cX8_orders 4 = .ok (.iload_n 1, 1) := by decide +kernel
theorem dX8_orders_5 : decode cX8_orders 5 = .ok (.invokevirtual 97, 3) := by decide +kernel
theorem dX8_orders_8 : decode cX8_orders 8 = .ok (.ifCond .eq 14, 3) := by decide +kernel
theorem dX8_orders_11 : decode cX8_orders 11 = .ok (.aload_n 0, 1) := by decide +kernel
theorem dX8_orders_12 : decode cX8_orders 12 = .ok (.getfield 21, 3) := by decide +kernel
theorem dX8_orders_15 : decode cX8_orders 15 = .ok (.iload_n 1, 1) := by decide +kernel
theorem dX8_orders_16 : decode cX8_orders 16 = .ok (.invokevirtual 142, 3) := by decide +kernel
theorem dX8_orders_19 : decode cX8_orders 19 = .ok (.ifCond .ge 5, 3) := by decide +kernel
theorem dX8_orders_22 : decode cX8_orders 22 = .ok (.iconst (-1), 1) := by decide +kernel
theorem dX8_orders_23 : decode cX8_orders 23 = .ok (.ireturn, 1) := by decide +kernel
theorem dX8_orders_24 : decode cX8_orders 24 = .ok (.iload_n 2, 1) := by decide +kernel
theorem dX8_orders_25 : decode cX8_orders 25 = .ok (.iconst (-1), 1) := by decide +kernel
theorem dX8_orders_26 : decode cX8_orders 26 = .ok (.if_icmp .lt 14, 3) := by decide +kernel
theorem dX8_orders_29 : decode cX8_orders 29 = .ok (.iload_n 2, 1) := by decide +kernel
theorem dX8_orders_30 : decode cX8_orders 30 = .ok (.aload_n 0, 1) := by decide +kernel
theorem dX8_orders_31 : decode cX8_orders 31 = .ok (.getfield 21, 3) := by decide +kernel
theorem dX8_orders_34 : decode cX8_orders 34 = .ok (.getfield 120, 3) := by decide +kernel
theorem dX8_orders_37 : decode cX8_orders 37 = .ok (.if_icmp .lt 5, 3) := by decide +kernel
theorem dX8_orders_40 : decode cX8_orders 40 = .ok (.iconst (-1), 1) := by decide +kernel
theorem dX8_orders_41 : decode cX8_orders 41 = .ok (.ireturn, 1) := by decide +kernel
theorem dX8_orders_42 : decode cX8_orders 42 = .ok (.aload_n 0, 1) := by decide +kernel
theorem dX8_orders_43 : decode cX8_orders 43 = .ok (.getfield 30, 3) := by decide +kernel
theorem dX8_orders_46 : decode cX8_orders 46 = .ok (.invokevirtual 149, 3) := by decide +kernel
theorem dX8_orders_49 : decode cX8_orders 49 = .ok (.aload_n 0, 1) := by decide +kernel
theorem dX8_orders_50 : decode cX8_orders 50 = .ok (.getfield 62, 3) := by decide +kernel
theorem dX8_orders_53 : decode cX8_orders 53 = .ok (.iload_n 1, 1) := by decide +kernel
theorem dX8_orders_54 : decode cX8_orders 54 = .ok (.invokevirtual 176, 3) := by decide +kernel
theorem dX8_orders_57 : decode cX8_orders 57 = .ok (.istore_n 3, 1) := by decide +kernel
theorem dX8_orders_58 : decode cX8_orders 58 = .ok (.iload_n 2, 1) := by decide +kernel
theorem dX8_orders_59 : decode cX8_orders 59 = .ok (.iconst (-1), 1) := by decide +kernel
theorem dX8_orders_60 : decode cX8_orders 60 = .ok (.if_icmp .ne 5, 3) := by decide +kernel
theorem dX8_orders_63 : decode cX8_orders 63 = .ok (.iload_n 3, 1) := by decide +kernel
theorem dX8_orders_64 : decode cX8_orders 64 = .ok (.ireturn, 1) := by decide +kernel
theorem dX8_orders_65 : decode cX8_orders 65 = .ok (.iload_n 3, 1) := by decide +kernel
theorem dX8_orders_66 : decode cX8_orders 66 = .ok (.ifCond .ne 8, 3) := by decide +kernel
theorem dX8_orders_69 : decode cX8_orders 69 = .ok (.bipush (-9), 2) := by decide +kernel
theorem dX8_orders_71 : decode cX8_orders 71 = .ok (.goto 12, 3) := by decide +kernel
theorem dX8_orders_74 : decode cX8_orders 74 = .ok (.aload_n 0, 1) := by decide +kernel
theorem dX8_orders_75 : decode cX8_orders 75 = .ok (.getfield 62, 3) := by decide +kernel
theorem dX8_orders_78 : decode cX8_orders 78 = .ok (.getfield 179, 3) := by decide +kernel
theorem dX8_orders_81 : decode cX8_orders 81 = .ok (.iload_n 2, 1) := by decide +kernel
theorem dX8_orders_82 : decode cX8_orders 82 = .ok (.iaload, 1) := by decide +kernel
theorem dX8_orders_83 : decode cX8_orders 83 = .ok (.ireturn, 1) := by decide +kernel
theorem dX8_key_0 : decode cX8_key 0 = .ok (.iload_n 1, 1) := by decide +kernel
theorem dX8_key_1 : decode cX8_key 1 = .ok (.ifCond .lt 8, 3) := by decide +kernel
theorem dX8_key_4 : decode cX8_key 4 = .ok (.iload_n 1, 1) := by decide +kernel
theorem dX8_key_5 : decode cX8_key 5 = .ok (.iconst 1, 1) := by decide +kernel
theorem dX8_key_6 : decode cX8_key 6 = .ok (.if_icmp .le 6, 3) := by decide +kernel
theorem dX8_key_9 : decode cX8_key 9 = .ok (.bipush (-2), 2) := by decide +kernel
theorem dX8_key_11 : decode cX8_key 11 = .ok (.ireturn, 1) := by decide +kernel
theorem dX8_key_12 : decode cX8_key 12 = .ok (.aload_n 0, 1) := by decide +kernel
theorem dX8_key_13 : decode cX8_key 13 = .ok (.getfield 21, 3) := by decide +kernel
theorem dX8_key_16 : decode cX8_key 16 = .ok (.invokevirtual 107, 3) := by decide +kernel
theorem dX8_key_19 : decode cX8_key 19 = .ok (.ifCond .ne 6, 3) := by decide +kernel
theorem dX8_key_22 : decode cX8_key 22 = .ok (.bipush (-3), 2) := by decide +kernel
theorem dX8_key_24 : decode cX8_key 24 = .ok (.ireturn, 1) := by decide +kernel
theorem dX8_key_25 : decode cX8_key 25 = .ok (.aload_n 0, 1) := by decide +kernel
theorem dX8_key_26 : decode cX8_key 26 = .ok (.invokevirtual 123, 3) := by decide +kernel
theorem dX8_key_29 : decode cX8_key 29 = .ok (.pop, 1) := by decide +kernel
theorem dX8_key_30 : decode cX8_key 30 = .ok (.aload_n 0, 1) := by decide +kernel
theorem dX8_key_31 : decode cX8_key 31 = .ok (.getfield 39, 3) := by decide +kernel
theorem dX8_key_34 : decode cX8_key 34 = .ok (.invokevirtual 182, 3) := by decide +kernel
theorem dX8_key_37 : decode cX8_key 37 = .ok (.iconst 0, 1) := by decide +kernel
theorem dX8_key_38 : decode cX8_key 38 = .ok (.istore_n 2, 1) := by decide +kernel
theorem dX8_key_39 : decode cX8_key 39 = .ok (.iconst 0, 1) := by decide +kernel
theorem dX8_key_40 : decode cX8_key 40 = .ok (.istore_n 3, 1) := by decide +kernel
theorem dX8_key_41 : decode cX8_key 41 = .ok (.iconst 0, 1) := by decide +kernel
theorem dX8_key_42 : decode cX8_key 42 = .ok (.istore 4, 2) := by decide +kernel
theorem dX8_key_44 : decode cX8_key 44 = .ok (.iload 4, 2) := by decide +kernel
theorem dX8_key_46 : decode cX8_key 46 = .ok (.aload_n 0, 1) := by decide +kernel
theorem dX8_key_47 : decode cX8_key 47 = .ok (.getfield 21, 3) := by decide +kernel
theorem dX8_key_50 : decode cX8_key 50 = .ok (.getfield 85, 3) := by decide +kernel
theorem dX8_key_53 : decode cX8_key 53 = .ok (.if_icmp .ge 49, 3) := by decide +kernel
theorem dX8_key_56 : decode cX8_key 56 = .ok (.aload_n 0, 1) := by decide +kernel
theorem dX8_key_57 : decode cX8_key 57 = .ok (.getfield 39, 3) := by decide +kernel
theorem dX8_key_60 : decode cX8_key 60 = .ok (.aload_n 0, 1) := by decide +kernel
theorem dX8_key_61 : decode cX8_key 61 = .ok (.getfield 30, 3) := by decide +kernel
theorem dX8_key_64 : decode cX8_key 64 = .ok (.invokevirtual 185, 3) := by decide +kernel
theorem dX8_key_67 : decode cX8_key 67 = .ok (.iconst 1, 1) := by decide +kernel
theorem dX8_key_68 : decode cX8_key 68 = .ok (.iload 4, 2) := by decide +kernel
theorem dX8_key_70 : decode cX8_key 70 = .ok (.ishl, 1) := by decide +kernel
theorem dX8_key_71 : decode cX8_key 71 = .ok (.invokevirtual 188, 3) := by decide +kernel
theorem dX8_key_74 : decode cX8_key 74 = .ok (.pop, 1) := by decide +kernel
theorem dX8_key_75 : decode cX8_key 75 = .ok (.aload_n 0, 1) := by decide +kernel
theorem dX8_key_76 : decode cX8_key 76 = .ok (.getfield 39, 3) := by decide +kernel
theorem dX8_key_79 : decode cX8_key 79 = .ok (.invokevirtual 191, 3) := by decide +kernel
theorem dX8_key_82 : decode cX8_key 82 = .ok (.istore 5, 2) := by decide +kernel
theorem dX8_key_84 : decode cX8_key 84 = .ok (.iload 5, 2) := by decide +kernel
theorem dX8_key_86 : decode cX8_key 86 = .ok (.iload_n 3, 1) := by decide +kernel
theorem dX8_key_87 : decode cX8_key 87 = .ok (.if_icmp .le 9, 3) := by decide +kernel
theorem dX8_key_90 : decode cX8_key 90 = .ok (.iload 5, 2) := by decide +kernel
theorem dX8_key_92 : decode cX8_key 92 = .ok (.istore_n 3, 1) := by decide +kernel
theorem dX8_key_93 : decode cX8_key 93 = .ok (.iload 4, 2) := by decide +kernel
theorem dX8_key_95 : decode cX8_key 95 = .ok (.istore_n 2, 1) := by decide +kernel
theorem dX8_key_96 : decode cX8_key 96 = .ok (.iinc 4 1, 3) := by decide +kernel
theorem dX8_key_99 : decode cX8_key 99 = .ok (.goto (-55), 3) := by decide +kernel
theorem dX8_key_102 : decode cX8_key 102 = .ok (.iload_n 1, 1) := by decide +kernel
theorem dX8_key_103 : decode cX8_key 103 = .ok (.ifCond .ne 7, 3) := by decide +kernel
theorem dX8_key_106 : decode cX8_key 106 = .ok (.iload_n 2, 1) := by decide +kernel
theorem dX8_key_107 : decode cX8_key 107 = .ok (.goto 4, 3) := by decide +kernel
theorem dX8_key_110 : decode cX8_key 110 = .ok (.iload_n 3, 1) := by decide +kernel
theorem dX8_key_111 : decode cX8_key 111 = .ok (.ireturn, 1) := by decide +kernel
theorem dX8_lot_0 : decode cX8_lot 0 = .ok (.iload_n 1, 1) := by decide +kernel
theorem dX8_lot_1 : decode cX8_lot 1 = .ok (.ifCond .lt 18, 3) := by decide +kernel
theorem dX8_lot_4 : decode cX8_lot 4 = .ok (.iload_n 1, 1) := by decide +kernel
theorem dX8_lot_5 : decode cX8_lot 5 = .ok (.iconst 1, 1) := by decide +kernel
theorem dX8_lot_6 : decode cX8_lot 6 = .ok (.if_icmp .gt 13, 3) := by decide +kernel
theorem dX8_lot_9 : decode cX8_lot 9 = .ok (.aload_n 0, 1) := by decide +kernel
theorem dX8_lot_10 : decode cX8_lot 10 = .ok (.getfield 21, 3) := by decide +kernel
theorem dX8_lot_13 : decode cX8_lot 13 = .ok (.invokevirtual 107, 3) := by decide +kernel
theorem dX8_lot_16 : decode cX8_lot 16 = .ok (.ifCond .ne 7, 3) := by decide +kernel
theorem dX8_lot_19 : decode cX8_lot 19 = .ok (.ldc2_w 194, 3) := by decide +kernel
theorem dX8_lot_22 : decode cX8_lot 22 = .ok (.lreturn, 1) := by decide +kernel
theorem dX8_lot_23 : decode cX8_lot 23 = .ok (.aload_n 0, 1) := by decide +kernel
theorem dX8_lot_24 : decode cX8_lot 24 = .ok (.getfield 30, 3) := by decide +kernel
theorem dX8_lot_27 : decode cX8_lot 27 = .ok (.invokevirtual 149, 3) := by decide +kernel
theorem dX8_lot_30 : decode cX8_lot 30 = .ok (.aload_n 0, 1) := by decide +kernel
theorem dX8_lot_31 : decode cX8_lot 31 = .ok (.getfield 69, 3) := by decide +kernel
theorem dX8_lot_34 : decode cX8_lot 34 = .ok (.invokevirtual 196, 3) := by decide +kernel
theorem dX8_lot_37 : decode cX8_lot 37 = .ok (.iload_n 1, 1) := by decide +kernel
theorem dX8_lot_38 : decode cX8_lot 38 = .ok (.ifCond .ne 13, 3) := by decide +kernel
theorem dX8_lot_41 : decode cX8_lot 41 = .ok (.aload_n 0, 1) := by decide +kernel
theorem dX8_lot_42 : decode cX8_lot 42 = .ok (.getfield 69, 3) := by decide +kernel
theorem dX8_lot_45 : decode cX8_lot 45 = .ok (.getfield 199, 3) := by decide +kernel
theorem dX8_lot_48 : decode cX8_lot 48 = .ok (.goto 10, 3) := by decide +kernel
theorem dX8_lot_51 : decode cX8_lot 51 = .ok (.aload_n 0, 1) := by decide +kernel
theorem dX8_lot_52 : decode cX8_lot 52 = .ok (.getfield 69, 3) := by decide +kernel
theorem dX8_lot_55 : decode cX8_lot 55 = .ok (.getfield 203, 3) := by decide +kernel
theorem dX8_lot_58 : decode cX8_lot 58 = .ok (.lreturn, 1) := by decide +kernel
theorem dX8_fits_0 : decode cX8_fits 0 = .ok (.aload_n 0, 1) := by decide +kernel
theorem dX8_fits_1 : decode cX8_fits 1 = .ok (.iload_n 1, 1) := by decide +kernel
theorem dX8_fits_2 : decode cX8_fits 2 = .ok (.iload_n 2, 1) := by decide +kernel
theorem dX8_fits_3 : decode cX8_fits 3 = .ok (.iload_n 3, 1) := by decide +kernel
theorem dX8_fits_4 : decode cX8_fits 4 = .ok (.aload_n 0, 1) := by decide +kernel
theorem dX8_fits_5 : decode cX8_fits 5 = .ok (.getfield 21, 3) := by decide +kernel
theorem dX8_fits_8 : decode cX8_fits 8 = .ok (.getfield 120, 3) := by decide +kernel
theorem dX8_fits_11 : decode cX8_fits 11 = .ok (.invokevirtual 73, 3) := by decide +kernel
theorem dX8_fits_14 : decode cX8_fits 14 = .ok (.istore 4, 2) := by decide +kernel
theorem dX8_fits_16 : decode cX8_fits 16 = .ok (.iload 4, 2) := by decide +kernel
theorem dX8_fits_18 : decode cX8_fits 18 = .ok (.ifCond .eq 6, 3) := by decide +kernel
theorem dX8_fits_21 : decode cX8_fits 21 = .ok (.iload 4, 2) := by decide +kernel
theorem dX8_fits_23 : decode cX8_fits 23 = .ok (.ireturn, 1) := by decide +kernel
theorem dX8_fits_24 : decode cX8_fits 24 = .ok (.aload_n 0, 1) := by decide +kernel
theorem dX8_fits_25 : decode cX8_fits 25 = .ok (.getfield 21, 3) := by decide +kernel
theorem dX8_fits_28 : decode cX8_fits 28 = .ok (.invokevirtual 107, 3) := by decide +kernel
theorem dX8_fits_31 : decode cX8_fits 31 = .ok (.ifCond .ne 6, 3) := by decide +kernel
theorem dX8_fits_34 : decode cX8_fits 34 = .ok (.bipush (-3), 2) := by decide +kernel
theorem dX8_fits_36 : decode cX8_fits 36 = .ok (.ireturn, 1) := by decide +kernel
theorem dX8_fits_37 : decode cX8_fits 37 = .ok (.iconst 0, 1) := by decide +kernel
theorem dX8_fits_38 : decode cX8_fits 38 = .ok (.istore 5, 2) := by decide +kernel
theorem dX8_fits_40 : decode cX8_fits 40 = .ok (.iconst 0, 1) := by decide +kernel
theorem dX8_fits_41 : decode cX8_fits 41 = .ok (.istore 6, 2) := by decide +kernel
theorem dX8_fits_43 : decode cX8_fits 43 = .ok (.iload 6, 2) := by decide +kernel
theorem dX8_fits_45 : decode cX8_fits 45 = .ok (.iconst 4, 1) := by decide +kernel
theorem dX8_fits_46 : decode cX8_fits 46 = .ok (.if_icmp .ge 80, 3) := by decide +kernel
theorem dX8_fits_49 : decode cX8_fits 49 = .ok (.iconst 0, 1) := by decide +kernel
theorem dX8_fits_50 : decode cX8_fits 50 = .ok (.istore 7, 2) := by decide +kernel
theorem dX8_fits_52 : decode cX8_fits 52 = .ok (.iload 7, 2) := by decide +kernel
theorem dX8_fits_54 : decode cX8_fits 54 = .ok (.iconst 3, 1) := by decide +kernel
theorem dX8_fits_55 : decode cX8_fits 55 = .ok (.if_icmp .ge 65, 3) := by decide +kernel
theorem dX8_fits_58 : decode cX8_fits 58 = .ok (.aload_n 0, 1) := by decide +kernel
theorem dX8_fits_59 : decode cX8_fits 59 = .ok (.getfield 30, 3) := by decide +kernel
theorem dX8_fits_62 : decode cX8_fits 62 = .ok (.iload 6, 2) := by decide +kernel
theorem dX8_fits_64 : decode cX8_fits 64 = .ok (.iload 7, 2) := by decide +kernel
theorem dX8_fits_66 : decode cX8_fits 66 = .ok (.invokevirtual 206, 3) := by decide +kernel
theorem dX8_fits_69 : decode cX8_fits 69 = .ok (.aload_n 0, 1) := by decide +kernel
theorem dX8_fits_70 : decode cX8_fits 70 = .ok (.getfield 39, 3) := by decide +kernel
theorem dX8_fits_73 : decode cX8_fits 73 = .ok (.aload_n 0, 1) := by decide +kernel
theorem dX8_fits_74 : decode cX8_fits 74 = .ok (.getfield 30, 3) := by decide +kernel
theorem dX8_fits_77 : decode cX8_fits 77 = .ok (.invokevirtual 185, 3) := by decide +kernel
theorem dX8_fits_80 : decode cX8_fits 80 = .ok (.iconst 0, 1) := by decide +kernel
theorem dX8_fits_81 : decode cX8_fits 81 = .ok (.invokevirtual 188, 3) := by decide +kernel
theorem dX8_fits_84 : decode cX8_fits 84 = .ok (.pop, 1) := by decide +kernel
theorem dX8_fits_85 : decode cX8_fits 85 = .ok (.aload_n 0, 1) := by decide +kernel
theorem dX8_fits_86 : decode cX8_fits 86 = .ok (.getfield 39, 3) := by decide +kernel
theorem dX8_fits_89 : decode cX8_fits 89 = .ok (.aload_n 0, 1) := by decide +kernel
theorem dX8_fits_90 : decode cX8_fits 90 = .ok (.getfield 13, 3) := by decide +kernel
theorem dX8_fits_93 : decode cX8_fits 93 = .ok (.iload_n 1, 1) := by decide +kernel
theorem dX8_fits_94 : decode cX8_fits 94 = .ok (.aaload, 1) := by decide +kernel
theorem dX8_fits_95 : decode cX8_fits 95 = .ok (.iload_n 3, 1) := by decide +kernel
theorem dX8_fits_96 : decode cX8_fits 96 = .ok (.invokevirtual 210, 3) := by decide +kernel
theorem dX8_fits_99 : decode cX8_fits 99 = .ok (.ifCond .eq 15, 3) := by decide +kernel
theorem dX8_fits_102 : decode cX8_fits 102 = .ok (.iload 5, 2) := by decide +kernel
theorem dX8_fits_104 : decode cX8_fits 104 = .ok (.iload 6, 2) := by decide +kernel
theorem dX8_fits_106 : decode cX8_fits 106 = .ok (.iload 7, 2) := by decide +kernel
theorem dX8_fits_108 : decode cX8_fits 108 = .ok (.invokestatic 214, 3) := by decide +kernel
theorem dX8_fits_111 : decode cX8_fits 111 = .ok (.ior, 1) := by decide +kernel
theorem dX8_fits_112 : decode cX8_fits 112 = .ok (.istore 5, 2) := by decide +kernel
theorem dX8_fits_114 : decode cX8_fits 114 = .ok (.iinc 7 1, 3) := by decide +kernel
theorem dX8_fits_117 : decode cX8_fits 117 = .ok (.goto (-65), 3) := by decide +kernel
theorem dX8_fits_120 : decode cX8_fits 120 = .ok (.iinc 6 1, 3) := by decide +kernel
theorem dX8_fits_123 : decode cX8_fits 123 = .ok (.goto (-80), 3) := by decide +kernel
theorem dX8_fits_126 : decode cX8_fits 126 = .ok (.iload 5, 2) := by decide +kernel
theorem dX8_fits_128 : decode cX8_fits 128 = .ok (.ireturn, 1) := by decide +kernel
theorem dX8_safe_0 : decode cX8_safe 0 = .ok (.aload_n 0, 1) := by decide +kernel
theorem dX8_safe_1 : decode cX8_safe 1 = .ok (.getfield 21, 3) := by decide +kernel
theorem dX8_safe_4 : decode cX8_safe 4 = .ok (.invokevirtual 107, 3) := by decide +kernel
theorem dX8_safe_7 : decode cX8_safe 7 = .ok (.ifCond .ne 6, 3) := by decide +kernel
theorem dX8_safe_10 : decode cX8_safe 10 = .ok (.bipush (-3), 2) := by decide +kernel
theorem dX8_safe_12 : decode cX8_safe 12 = .ok (.ireturn, 1) := by decide +kernel
theorem dX8_safe_13 : decode cX8_safe 13 = .ok (.iconst 0, 1) := by decide +kernel
theorem dX8_safe_14 : decode cX8_safe 14 = .ok (.istore_n 1, 1) := by decide +kernel
theorem dX8_safe_15 : decode cX8_safe 15 = .ok (.iconst 0, 1) := by decide +kernel
theorem dX8_safe_16 : decode cX8_safe 16 = .ok (.istore_n 2, 1) := by decide +kernel
theorem dX8_safe_17 : decode cX8_safe 17 = .ok (.iload_n 2, 1) := by decide +kernel
theorem dX8_safe_18 : decode cX8_safe 18 = .ok (.iconst 4, 1) := by decide +kernel
theorem dX8_safe_19 : decode cX8_safe 19 = .ok (.if_icmp .ge 49, 3) := by decide +kernel
theorem dX8_safe_22 : decode cX8_safe 22 = .ok (.iconst 0, 1) := by decide +kernel
theorem dX8_safe_23 : decode cX8_safe 23 = .ok (.istore_n 3, 1) := by decide +kernel
theorem dX8_safe_24 : decode cX8_safe 24 = .ok (.iload_n 3, 1) := by decide +kernel
theorem dX8_safe_25 : decode cX8_safe 25 = .ok (.iconst 3, 1) := by decide +kernel
theorem dX8_safe_26 : decode cX8_safe 26 = .ok (.if_icmp .ge 36, 3) := by decide +kernel
theorem dX8_safe_29 : decode cX8_safe 29 = .ok (.aload_n 0, 1) := by decide +kernel
theorem dX8_safe_30 : decode cX8_safe 30 = .ok (.getfield 30, 3) := by decide +kernel
theorem dX8_safe_33 : decode cX8_safe 33 = .ok (.iload_n 2, 1) := by decide +kernel
theorem dX8_safe_34 : decode cX8_safe 34 = .ok (.iload_n 3, 1) := by decide +kernel
theorem dX8_safe_35 : decode cX8_safe 35 = .ok (.invokevirtual 206, 3) := by decide +kernel
theorem dX8_safe_38 : decode cX8_safe 38 = .ok (.aload_n 0, 1) := by decide +kernel
theorem dX8_safe_39 : decode cX8_safe 39 = .ok (.getfield 62, 3) := by decide +kernel
theorem dX8_safe_42 : decode cX8_safe 42 = .ok (.invokevirtual 217, 3) := by decide +kernel
theorem dX8_safe_45 : decode cX8_safe 45 = .ok (.ifCond .eq 11, 3) := by decide +kernel
theorem dX8_safe_48 : decode cX8_safe 48 = .ok (.iload_n 1, 1) := by decide +kernel
theorem dX8_safe_49 : decode cX8_safe 49 = .ok (.iload_n 2, 1) := by decide +kernel
theorem dX8_safe_50 : decode cX8_safe 50 = .ok (.iload_n 3, 1) := by decide +kernel
theorem dX8_safe_51 : decode cX8_safe 51 = .ok (.invokestatic 214, 3) := by decide +kernel
theorem dX8_safe_54 : decode cX8_safe 54 = .ok (.ior, 1) := by decide +kernel
theorem dX8_safe_55 : decode cX8_safe 55 = .ok (.istore_n 1, 1) := by decide +kernel
theorem dX8_safe_56 : decode cX8_safe 56 = .ok (.iinc 3 1, 3) := by decide +kernel
theorem dX8_safe_59 : decode cX8_safe 59 = .ok (.goto (-35), 3) := by decide +kernel
theorem dX8_safe_62 : decode cX8_safe 62 = .ok (.iinc 2 1, 3) := by decide +kernel
theorem dX8_safe_65 : decode cX8_safe 65 = .ok (.goto (-48), 3) := by decide +kernel
theorem dX8_safe_68 : decode cX8_safe 68 = .ok (.iload_n 1, 1) := by decide +kernel
theorem dX8_safe_69 : decode cX8_safe 69 = .ok (.ireturn, 1) := by decide +kernel
theorem dX8_sheet_0 : decode cX8_sheet 0 = .ok (.aload_n 0, 1) := by decide +kernel
theorem dX8_sheet_1 : decode cX8_sheet 1 = .ok (.iconst 0, 1) := by decide +kernel
theorem dX8_sheet_2 : decode cX8_sheet 2 = .ok (.putfield 220, 3) := by decide +kernel
theorem dX8_sheet_5 : decode cX8_sheet 5 = .ok (.iload_n 1, 1) := by decide +kernel
theorem dX8_sheet_6 : decode cX8_sheet 6 = .ok (.invokestatic 223, 3) := by decide +kernel
theorem dX8_sheet_9 : decode cX8_sheet 9 = .ok (.ifCond .ne 5, 3) := by decide +kernel
theorem dX8_sheet_12 : decode cX8_sheet 12 = .ok (.iconst (-1), 1) := by decide +kernel
theorem dX8_sheet_13 : decode cX8_sheet 13 = .ok (.ireturn, 1) := by decide +kernel
theorem dX8_sheet_14 : decode cX8_sheet 14 = .ok (.iload_n 2, 1) := by decide +kernel
theorem dX8_sheet_15 : decode cX8_sheet 15 = .ok (.invokestatic 226, 3) := by decide +kernel
theorem dX8_sheet_18 : decode cX8_sheet 18 = .ok (.ifCond .eq 9, 3) := by decide +kernel
theorem dX8_sheet_21 : decode cX8_sheet 21 = .ok (.iload_n 3, 1) := by decide +kernel
theorem dX8_sheet_22 : decode cX8_sheet 22 = .ok (.bipush 80, 2) := by decide +kernel
theorem dX8_sheet_24 : decode cX8_sheet 24 = .ok (.if_icmp .le 6, 3) := by decide +kernel
theorem dX8_sheet_27 : decode cX8_sheet 27 = .ok (.bipush (-2), 2) := by decide +kernel
theorem dX8_sheet_29 : decode cX8_sheet 29 = .ok (.ireturn, 1) := by decide +kernel
theorem dX8_sheet_30 : decode cX8_sheet 30 = .ok (.iload_n 3, 1) := by decide +kernel
theorem dX8_sheet_31 : decode cX8_sheet 31 = .ok (.ifCond .ge 9, 3) := by decide +kernel
theorem dX8_sheet_34 : decode cX8_sheet 34 = .ok (.aload_n 0, 1) := by decide +kernel
theorem dX8_sheet_35 : decode cX8_sheet 35 = .ok (.iconst 4, 1) := by decide +kernel
theorem dX8_sheet_36 : decode cX8_sheet 36 = .ok (.invokevirtual 229, 3) := by decide +kernel
theorem dX8_sheet_39 : decode cX8_sheet 39 = .ok (.ireturn, 1) := by decide +kernel
theorem dX8_sheet_40 : decode cX8_sheet 40 = .ok (.aload_n 0, 1) := by decide +kernel
theorem dX8_sheet_41 : decode cX8_sheet 41 = .ok (.getfield 13, 3) := by decide +kernel
theorem dX8_sheet_44 : decode cX8_sheet 44 = .ok (.iload_n 1, 1) := by decide +kernel
theorem dX8_sheet_45 : decode cX8_sheet 45 = .ok (.aaload, 1) := by decide +kernel
theorem dX8_sheet_46 : decode cX8_sheet 46 = .ok (.iload_n 2, 1) := by decide +kernel
theorem dX8_sheet_47 : decode cX8_sheet 47 = .ok (.iload_n 3, 1) := by decide +kernel
theorem dX8_sheet_48 : decode cX8_sheet 48 = .ok (.invokevirtual 232, 3) := by decide +kernel
theorem dX8_sheet_51 : decode cX8_sheet 51 = .ok (.iconst 1, 1) := by decide +kernel
theorem dX8_sheet_52 : decode cX8_sheet 52 = .ok (.ireturn, 1) := by decide +kernel
theorem dX8_lose_0 : decode cX8_lose 0 = .ok (.iload_n 1, 1) := by decide +kernel
theorem dX8_lose_1 : decode cX8_lose 1 = .ok (.invokestatic 223, 3) := by decide +kernel
theorem dX8_lose_4 : decode cX8_lose 4 = .ok (.ifCond .ne 5, 3) := by decide +kernel
theorem dX8_lose_7 : decode cX8_lose 7 = .ok (.iconst (-1), 1) := by decide +kernel
theorem dX8_lose_8 : decode cX8_lose 8 = .ok (.ireturn, 1) := by decide +kernel
theorem dX8_lose_9 : decode cX8_lose 9 = .ok (.aload_n 0, 1) := by decide +kernel
theorem dX8_lose_10 : decode cX8_lose 10 = .ok (.getfield 13, 3) := by decide +kernel
theorem dX8_lose_13 : decode cX8_lose 13 = .ok (.iload_n 1, 1) := by decide +kernel
theorem dX8_lose_14 : decode cX8_lose 14 = .ok (.aaload, 1) := by decide +kernel
theorem dX8_lose_15 : decode cX8_lose 15 = .ok (.invokevirtual 235, 3) := by decide +kernel
theorem dX8_lose_18 : decode cX8_lose 18 = .ok (.istore_n 2, 1) := by decide +kernel
theorem dX8_lose_19 : decode cX8_lose 19 = .ok (.aload_n 0, 1) := by decide +kernel
theorem dX8_lose_20 : decode cX8_lose 20 = .ok (.getfield 13, 3) := by decide +kernel
theorem dX8_lose_23 : decode cX8_lose 23 = .ok (.iload_n 1, 1) := by decide +kernel
theorem dX8_lose_24 : decode cX8_lose 24 = .ok (.aaload, 1) := by decide +kernel
theorem dX8_lose_25 : decode cX8_lose 25 = .ok (.invokevirtual 238, 3) := by decide +kernel
theorem dX8_lose_28 : decode cX8_lose 28 = .ok (.iload_n 2, 1) := by decide +kernel
theorem dX8_lose_29 : decode cX8_lose 29 = .ok (.ifCond .eq 7, 3) := by decide +kernel
theorem dX8_lose_32 : decode cX8_lose 32 = .ok (.iconst 1, 1) := by decide +kernel
theorem dX8_lose_33 : decode cX8_lose 33 = .ok (.goto 4, 3) := by decide +kernel
theorem dX8_lose_36 : decode cX8_lose 36 = .ok (.iconst 0, 1) := by decide +kernel
theorem dX8_lose_37 : decode cX8_lose 37 = .ok (.ireturn, 1) := by decide +kernel
theorem dX8_put_0 : decode cX8_put 0 = .ok (.aload_n 0, 1) := by decide +kernel
theorem dX8_put_1 : decode cX8_put 1 = .ok (.iconst 0, 1) := by decide +kernel
theorem dX8_put_2 : decode cX8_put 2 = .ok (.putfield 220, 3) := by decide +kernel
theorem dX8_put_5 : decode cX8_put 5 = .ok (.iload_n 1, 1) := by decide +kernel
theorem dX8_put_6 : decode cX8_put 6 = .ok (.invokestatic 223, 3) := by decide +kernel
theorem dX8_put_9 : decode cX8_put 9 = .ok (.ifCond .ne 5, 3) := by decide +kernel
theorem dX8_put_12 : decode cX8_put 12 = .ok (.iconst (-1), 1) := by decide +kernel
theorem dX8_put_13 : decode cX8_put 13 = .ok (.ireturn, 1) := by decide +kernel
theorem dX8_put_14 : decode cX8_put 14 = .ok (.aload_n 0, 1) := by decide +kernel
theorem dX8_put_15 : decode cX8_put 15 = .ok (.getfield 13, 3) := by decide +kernel
theorem dX8_put_18 : decode cX8_put 18 = .ok (.iload_n 1, 1) := by decide +kernel
theorem dX8_put_19 : decode cX8_put 19 = .ok (.aaload, 1) := by decide +kernel
theorem dX8_put_20 : decode cX8_put 20 = .ok (.astore 4, 2) := by decide +kernel
theorem dX8_put_22 : decode cX8_put 22 = .ok (.aload 4, 2) := by decide +kernel
theorem dX8_put_24 : decode cX8_put 24 = .ok (.invokevirtual 235, 3) := by decide +kernel
theorem dX8_put_27 : decode cX8_put 27 = .ok (.ifCond .ne 9, 3) := by decide +kernel
theorem dX8_put_30 : decode cX8_put 30 = .ok (.aload_n 0, 1) := by decide +kernel
theorem dX8_put_31 : decode cX8_put 31 = .ok (.iconst 1, 1) := by decide +kernel
theorem dX8_put_32 : decode cX8_put 32 = .ok (.invokevirtual 229, 3) := by decide +kernel
theorem dX8_put_35 : decode cX8_put 35 = .ok (.ireturn, 1) := by decide +kernel
theorem dX8_put_36 : decode cX8_put 36 = .ok (.aload 4, 2) := by decide +kernel
theorem dX8_put_38 : decode cX8_put 38 = .ok (.iload_n 2, 1) := by decide +kernel
theorem dX8_put_39 : decode cX8_put 39 = .ok (.iconst 1, 1) := by decide +kernel
theorem dX8_put_40 : decode cX8_put 40 = .ok (.invokevirtual 241, 3) := by decide +kernel
theorem dX8_put_43 : decode cX8_put 43 = .ok (.ifCond .ne 9, 3) := by decide +kernel
theorem dX8_put_46 : decode cX8_put 46 = .ok (.aload_n 0, 1) := by decide +kernel
theorem dX8_put_47 : decode cX8_put 47 = .ok (.iconst 3, 1) := by decide +kernel
theorem dX8_put_48 : decode cX8_put 48 = .ok (.invokevirtual 229, 3) := by decide +kernel
theorem dX8_put_51 : decode cX8_put 51 = .ok (.ireturn, 1) := by decide +kernel
theorem dX8_put_52 : decode cX8_put 52 = .ok (.aload 4, 2) := by decide +kernel
theorem dX8_put_54 : decode cX8_put 54 = .ok (.iload_n 2, 1) := by decide +kernel
theorem dX8_put_55 : decode cX8_put 55 = .ok (.iload_n 3, 1) := by decide +kernel
theorem dX8_put_56 : decode cX8_put 56 = .ok (.invokevirtual 244, 3) := by decide +kernel
theorem dX8_put_59 : decode cX8_put 59 = .ok (.iconst 1, 1) := by decide +kernel
theorem dX8_put_60 : decode cX8_put 60 = .ok (.ireturn, 1) := by decide +kernel
theorem dX8_cell_0 : decode cX8_cell 0 = .ok (.aload_n 0, 1) := by decide +kernel
theorem dX8_cell_1 : decode cX8_cell 1 = .ok (.iload_n 1, 1) := by decide +kernel
theorem dX8_cell_2 : decode cX8_cell 2 = .ok (.iload_n 3, 1) := by decide +kernel
theorem dX8_cell_3 : decode cX8_cell 3 = .ok (.iload_n 2, 1) := by decide +kernel
theorem dX8_cell_4 : decode cX8_cell 4 = .ok (.iconst 1, 1) := by decide +kernel
theorem dX8_cell_5 : decode cX8_cell 5 = .ok (.invokevirtual 73, 3) := by decide +kernel
theorem dX8_cell_8 : decode cX8_cell 8 = .ok (.ifCond .eq 7, 3) := by decide +kernel
theorem dX8_cell_11 : decode cX8_cell 11 = .ok (.ldc2_w 194, 3) := by decide +kernel
theorem dX8_cell_14 : decode cX8_cell 14 = .ok (.lreturn, 1) := by decide +kernel
theorem dX8_cell_15 : decode cX8_cell 15 = .ok (.aload_n 0, 1) := by decide +kernel
theorem dX8_cell_16 : decode cX8_cell 16 = .ok (.getfield 13, 3) := by decide +kernel
theorem dX8_cell_19 : decode cX8_cell 19 = .ok (.iload_n 1, 1) := by decide +kernel
theorem dX8_cell_20 : decode cX8_cell 20 = .ok (.aaload, 1) := by decide +kernel
theorem dX8_cell_21 : decode cX8_cell 21 = .ok (.iload_n 2, 1) := by decide +kernel
theorem dX8_cell_22 : decode cX8_cell 22 = .ok (.invokevirtual 247, 3) := by decide +kernel
theorem dX8_cell_25 : decode cX8_cell 25 = .ok (.i2l, 1) := by decide +kernel
theorem dX8_cell_26 : decode cX8_cell 26 = .ok (.lreturn, 1) := by decide +kernel
theorem dX8_copy_0 : decode cX8_copy 0 = .ok (.aload_n 0, 1) := by decide +kernel
theorem dX8_copy_1 : decode cX8_copy 1 = .ok (.iconst 0, 1) := by decide +kernel
theorem dX8_copy_2 : decode cX8_copy 2 = .ok (.putfield 220, 3) := by decide +kernel
theorem dX8_copy_5 : decode cX8_copy 5 = .ok (.iload_n 1, 1) := by decide +kernel
theorem dX8_copy_6 : decode cX8_copy 6 = .ok (.invokestatic 223, 3) := by decide +kernel
theorem dX8_copy_9 : decode cX8_copy 9 = .ok (.ifCond .eq 10, 3) := by decide +kernel
theorem dX8_copy_12 : decode cX8_copy 12 = .ok (.iload_n 3, 1) := by decide +kernel
theorem dX8_copy_13 : decode cX8_copy 13 = .ok (.invokestatic 223, 3) := by decide +kernel
theorem dX8_copy_16 : decode cX8_copy 16 = .ok (.ifCond .ne 5, 3) := by decide +kernel
theorem dX8_copy_19 : decode cX8_copy 19 = .ok (.iconst (-1), 1) := by decide +kernel
theorem dX8_copy_20 : decode cX8_copy 20 = .ok (.ireturn, 1) := by decide +kernel
theorem dX8_copy_21 : decode cX8_copy 21 = .ok (.aload_n 0, 1) := by decide +kernel
theorem dX8_copy_22 : decode cX8_copy 22 = .ok (.getfield 13, 3) := by decide +kernel
theorem dX8_copy_25 : decode cX8_copy 25 = .ok (.iload_n 1, 1) := by decide +kernel
theorem dX8_copy_26 : decode cX8_copy 26 = .ok (.aaload, 1) := by decide +kernel
theorem dX8_copy_27 : decode cX8_copy 27 = .ok (.astore 6, 2) := by decide +kernel
theorem dX8_copy_29 : decode cX8_copy 29 = .ok (.aload_n 0, 1) := by decide +kernel
theorem dX8_copy_30 : decode cX8_copy 30 = .ok (.getfield 13, 3) := by decide +kernel
theorem dX8_copy_33 : decode cX8_copy 33 = .ok (.iload_n 3, 1) := by decide +kernel
theorem dX8_copy_34 : decode cX8_copy 34 = .ok (.aaload, 1) := by decide +kernel
theorem dX8_copy_35 : decode cX8_copy 35 = .ok (.astore 7, 2) := by decide +kernel
theorem dX8_copy_37 : decode cX8_copy 37 = .ok (.aload 6, 2) := by decide +kernel
theorem dX8_copy_39 : decode cX8_copy 39 = .ok (.invokevirtual 235, 3) := by decide +kernel
theorem dX8_copy_42 : decode cX8_copy 42 = .ok (.ifCond .eq 11, 3) := by decide +kernel
theorem dX8_copy_45 : decode cX8_copy 45 = .ok (.aload 7, 2) := by decide +kernel
theorem dX8_copy_47 : decode cX8_copy 47 = .ok (.invokevirtual 235, 3) := by decide +kernel
theorem dX8_copy_50 : decode cX8_copy 50 = .ok (.ifCond .ne 9, 3) := by decide +kernel
theorem dX8_copy_53 : decode cX8_copy 53 = .ok (.aload_n 0, 1) := by decide +kernel
theorem dX8_copy_54 : decode cX8_copy 54 = .ok (.iconst 1, 1) := by decide +kernel
theorem dX8_copy_55 : decode cX8_copy 55 = .ok (.invokevirtual 229, 3) := by decide +kernel
theorem dX8_copy_58 : decode cX8_copy 58 = .ok (.ireturn, 1) := by decide +kernel
theorem dX8_copy_59 : decode cX8_copy 59 = .ok (.aload 6, 2) := by decide +kernel
theorem dX8_copy_61 : decode cX8_copy 61 = .ok (.getfield 250, 3) := by decide +kernel
theorem dX8_copy_64 : decode cX8_copy 64 = .ok (.aload 7, 2) := by decide +kernel
theorem dX8_copy_66 : decode cX8_copy 66 = .ok (.getfield 250, 3) := by decide +kernel
theorem dX8_copy_69 : decode cX8_copy 69 = .ok (.if_icmp .eq 9, 3) := by decide +kernel
theorem dX8_copy_72 : decode cX8_copy 72 = .ok (.aload_n 0, 1) := by decide +kernel
theorem dX8_copy_73 : decode cX8_copy 73 = .ok (.iconst 2, 1) := by decide +kernel
theorem dX8_copy_74 : decode cX8_copy 74 = .ok (.invokevirtual 229, 3) := by decide +kernel
theorem dX8_copy_77 : decode cX8_copy 77 = .ok (.ireturn, 1) := by decide +kernel
theorem dX8_copy_78 : decode cX8_copy 78 = .ok (.aload 6, 2) := by decide +kernel
theorem dX8_copy_80 : decode cX8_copy 80 = .ok (.iload_n 2, 1) := by decide +kernel
theorem dX8_copy_81 : decode cX8_copy 81 = .ok (.iload 5, 2) := by decide +kernel
theorem dX8_copy_83 : decode cX8_copy 83 = .ok (.invokevirtual 241, 3) := by decide +kernel
theorem dX8_copy_86 : decode cX8_copy 86 = .ok (.ifCond .eq 15, 3) := by decide +kernel
theorem dX8_copy_89 : decode cX8_copy 89 = .ok (.aload 7, 2) := by decide +kernel
theorem dX8_copy_91 : decode cX8_copy 91 = .ok (.iload 4, 2) := by decide +kernel
theorem dX8_copy_93 : decode cX8_copy 93 = .ok (.iload 5, 2) := by decide +kernel
theorem dX8_copy_95 : decode cX8_copy 95 = .ok (.invokevirtual 241, 3) := by decide +kernel
theorem dX8_copy_98 : decode cX8_copy 98 = .ok (.ifCond .ne 9, 3) := by decide +kernel
theorem dX8_copy_101 : decode cX8_copy 101 = .ok (.aload_n 0, 1) := by decide +kernel
theorem dX8_copy_102 : decode cX8_copy 102 = .ok (.iconst 3, 1) := by decide +kernel
theorem dX8_copy_103 : decode cX8_copy 103 = .ok (.invokevirtual 229, 3) := by decide +kernel
theorem dX8_copy_106 : decode cX8_copy 106 = .ok (.ireturn, 1) := by decide +kernel
theorem dX8_copy_107 : decode cX8_copy 107 = .ok (.aload 6, 2) := by decide +kernel
theorem dX8_copy_109 : decode cX8_copy 109 = .ok (.getfield 253, 3) := by decide +kernel
theorem dX8_copy_112 : decode cX8_copy 112 = .ok (.iload_n 2, 1) := by decide +kernel
theorem dX8_copy_113 : decode cX8_copy 113 = .ok (.aload 7, 2) := by decide +kernel
theorem dX8_copy_115 : decode cX8_copy 115 = .ok (.getfield 253, 3) := by decide +kernel
theorem dX8_copy_118 : decode cX8_copy 118 = .ok (.iload 4, 2) := by decide +kernel
theorem dX8_copy_120 : decode cX8_copy 120 = .ok (.iload 5, 2) := by decide +kernel
theorem dX8_copy_122 : decode cX8_copy 122 = .ok (.invokestatic 256, 3) := by decide +kernel
theorem dX8_copy_125 : decode cX8_copy 125 = .ok (.iload 5, 2) := by decide +kernel
theorem dX8_copy_127 : decode cX8_copy 127 = .ok (.ireturn, 1) := by decide +kernel
theorem dX8_tell_0 : decode cX8_tell 0 = .ok (.aload_n 0, 1) := by decide +kernel
theorem dX8_tell_1 : decode cX8_tell 1 = .ok (.getfield 21, 3) := by decide +kernel
theorem dX8_tell_4 : decode cX8_tell 4 = .ok (.iload_n 1, 1) := by decide +kernel
theorem dX8_tell_5 : decode cX8_tell 5 = .ok (.invokevirtual 89, 3) := by decide +kernel
theorem dX8_tell_8 : decode cX8_tell 8 = .ok (.ifCond .ne 5, 3) := by decide +kernel
theorem dX8_tell_11 : decode cX8_tell 11 = .ok (.iconst (-1), 1) := by decide +kernel
theorem dX8_tell_12 : decode cX8_tell 12 = .ok (.ireturn, 1) := by decide +kernel
theorem dX8_tell_13 : decode cX8_tell 13 = .ok (.aload_n 0, 1) := by decide +kernel
theorem dX8_tell_14 : decode cX8_tell 14 = .ok (.getfield 21, 3) := by decide +kernel
theorem dX8_tell_17 : decode cX8_tell 17 = .ok (.getfield 93, 3) := by decide +kernel
theorem dX8_tell_20 : decode cX8_tell 20 = .ok (.iload_n 1, 1) := by decide +kernel
theorem dX8_tell_21 : decode cX8_tell 21 = .ok (.iaload, 1) := by decide +kernel
theorem dX8_tell_22 : decode cX8_tell 22 = .ok (.lookupswitch 38 #[(0, 26), (1, 32)], 26) := by decide +kernel
theorem dX8_tell_48 : decode cX8_tell 48 = .ok (.aload_n 0, 1) := by decide +kernel
theorem dX8_tell_49 : decode cX8_tell 49 = .ok (.iload_n 1, 1) := by decide +kernel
theorem dX8_tell_50 : decode cX8_tell 50 = .ok (.invokevirtual 262, 3) := by decide +kernel
theorem dX8_tell_53 : decode cX8_tell 53 = .ok (.ireturn, 1) := by decide +kernel
theorem dX8_tell_54 : decode cX8_tell 54 = .ok (.aload_n 0, 1) := by decide +kernel
theorem dX8_tell_55 : decode cX8_tell 55 = .ok (.iload_n 1, 1) := by decide +kernel
theorem dX8_tell_56 : decode cX8_tell 56 = .ok (.invokevirtual 265, 3) := by decide +kernel
theorem dX8_tell_59 : decode cX8_tell 59 = .ok (.ireturn, 1) := by decide +kernel
theorem dX8_tell_60 : decode cX8_tell 60 = .ok (.aload_n 0, 1) := by decide +kernel
theorem dX8_tell_61 : decode cX8_tell 61 = .ok (.iload_n 1, 1) := by decide +kernel
theorem dX8_tell_62 : decode cX8_tell 62 = .ok (.invokevirtual 268, 3) := by decide +kernel
theorem dX8_tell_65 : decode cX8_tell 65 = .ok (.ireturn, 1) := by decide +kernel
theorem dX8_swear_0 : decode cX8_swear 0 = .ok (.aload_n 0, 1) := by decide +kernel
theorem dX8_swear_1 : decode cX8_swear 1 = .ok (.getfield 21, 3) := by decide +kernel
theorem dX8_swear_4 : decode cX8_swear 4 = .ok (.iload_n 1, 1) := by decide +kernel
theorem dX8_swear_5 : decode cX8_swear 5 = .ok (.invokevirtual 89, 3) := by decide +kernel
theorem dX8_swear_8 : decode cX8_swear 8 = .ok (.ifCond .ne 5, 3) := by decide +kernel
theorem dX8_swear_11 : decode cX8_swear 11 = .ok (.iconst (-1), 1) := by decide +kernel
theorem dX8_swear_12 : decode cX8_swear 12 = .ok (.ireturn, 1) := by decide +kernel
theorem dX8_swear_13 : decode cX8_swear 13 = .ok (.aload_n 0, 1) := by decide +kernel
theorem dX8_swear_14 : decode cX8_swear 14 = .ok (.getfield 21, 3) := by decide +kernel
theorem dX8_swear_17 : decode cX8_swear 17 = .ok (.getfield 93, 3) := by decide +kernel
theorem dX8_swear_20 : decode cX8_swear 20 = .ok (.iload_n 1, 1) := by decide +kernel
theorem dX8_swear_21 : decode cX8_swear 21 = .ok (.iaload, 1) := by decide +kernel
theorem dX8_swear_22 : decode cX8_swear 22 = .ok (.iconst 2, 1) := by decide +kernel
theorem dX8_swear_23 : decode cX8_swear 23 = .ok (.if_icmp .ne 11, 3) := by decide +kernel
theorem dX8_swear_26 : decode cX8_swear 26 = .ok (.aload_n 0, 1) := by decide +kernel
theorem dX8_swear_27 : decode cX8_swear 27 = .ok (.iconst 5, 1) := by decide +kernel
theorem dX8_swear_28 : decode cX8_swear 28 = .ok (.invokevirtual 271, 3) := by decide +kernel
theorem dX8_swear_31 : decode cX8_swear 31 = .ok (.bipush 30, 2) := by decide +kernel
theorem dX8_swear_33 : decode cX8_swear 33 = .ok (.ireturn, 1) := by decide +kernel
theorem dX8_swear_34 : decode cX8_swear 34 = .ok (.aload_n 0, 1) := by decide +kernel
theorem dX8_swear_35 : decode cX8_swear 35 = .ok (.iconst 4, 1) := by decide +kernel
theorem dX8_swear_36 : decode cX8_swear 36 = .ok (.invokevirtual 271, 3) := by decide +kernel
theorem dX8_swear_39 : decode cX8_swear 39 = .ok (.iload_n 1, 1) := by decide +kernel
theorem dX8_swear_40 : decode cX8_swear 40 = .ok (.ireturn, 1) := by decide +kernel
theorem dX8_as_0 : decode cX8_as 0 = .ok (.aload_n 0, 1) := by decide +kernel
theorem dX8_as_1 : decode cX8_as 1 = .ok (.iconst 0, 1) := by decide +kernel
theorem dX8_as_2 : decode cX8_as 2 = .ok (.putfield 220, 3) := by decide +kernel
theorem dX8_as_5 : decode cX8_as 5 = .ok (.aload_n 0, 1) := by decide +kernel
theorem dX8_as_6 : decode cX8_as 6 = .ok (.getfield 21, 3) := by decide +kernel
theorem dX8_as_9 : decode cX8_as 9 = .ok (.iload_n 1, 1) := by decide +kernel
theorem dX8_as_10 : decode cX8_as 10 = .ok (.invokevirtual 89, 3) := by decide +kernel
theorem dX8_as_13 : decode cX8_as 13 = .ok (.ifCond .ne 5, 3) := by decide +kernel
theorem dX8_as_16 : decode cX8_as 16 = .ok (.iconst (-1), 1) := by decide +kernel
theorem dX8_as_17 : decode cX8_as 17 = .ok (.ireturn, 1) := by decide +kernel
theorem dX8_as_18 : decode cX8_as 18 = .ok (.iload_n 2, 1) := by decide +kernel
theorem dX8_as_19 : decode cX8_as 19 = .ok (.ifCond .lt 8, 3) := by decide +kernel
theorem dX8_as_22 : decode cX8_as 22 = .ok (.iload_n 2, 1) := by decide +kernel
theorem dX8_as_23 : decode cX8_as 23 = .ok (.iconst 3, 1) := by decide +kernel
theorem dX8_as_24 : decode cX8_as 24 = .ok (.if_icmp .lt 6, 3) := by decide +kernel
theorem dX8_as_27 : decode cX8_as 27 = .ok (.bipush (-2), 2) := by decide +kernel
theorem dX8_as_29 : decode cX8_as 29 = .ok (.ireturn, 1) := by decide +kernel
theorem dX8_as_30 : decode cX8_as 30 = .ok (.iload_n 2, 1) := by decide +kernel
theorem dX8_as_31 : decode cX8_as 31 = .ok (.aload_n 0, 1) := by decide +kernel
theorem dX8_as_32 : decode cX8_as 32 = .ok (.getfield 21, 3) := by decide +kernel
theorem dX8_as_35 : decode cX8_as 35 = .ok (.getfield 93, 3) := by decide +kernel
theorem dX8_as_38 : decode cX8_as 38 = .ok (.iload_n 1, 1) := by decide +kernel
theorem dX8_as_39 : decode cX8_as 39 = .ok (.iaload, 1) := by decide +kernel
theorem dX8_as_40 : decode cX8_as 40 = .ok (.if_icmp .le 11, 3) := by decide +kernel
theorem dX8_as_43 : decode cX8_as 43 = .ok (.aload_n 0, 1) := by decide +kernel
theorem dX8_as_44 : decode cX8_as 44 = .ok (.iconst 2, 1) := by decide +kernel
theorem dX8_as_45 : decode cX8_as 45 = .ok (.invokevirtual 229, 3) := by decide +kernel
theorem dX8_as_48 : decode cX8_as 48 = .ok (.goto 4, 3) := by decide +kernel
theorem dX8_as_51 : decode cX8_as 51 = .ok (.iconst 1, 1) := by decide +kernel
theorem dX8_as_52 : decode cX8_as 52 = .ok (.ireturn, 1) := by decide +kernel
theorem dX8_trace_0 : decode cX8_trace 0 = .ok (.aload_n 0, 1) := by decide +kernel
theorem dX8_trace_1 : decode cX8_trace 1 = .ok (.getfield 275, 3) := by decide +kernel
theorem dX8_trace_4 : decode cX8_trace 4 = .ok (.ireturn, 1) := by decide +kernel
theorem dX8_fault_0 : decode cX8_fault 0 = .ok (.aload_n 0, 1) := by decide +kernel
theorem dX8_fault_1 : decode cX8_fault 1 = .ok (.getfield 220, 3) := by decide +kernel
theorem dX8_fault_4 : decode cX8_fault 4 = .ok (.ireturn, 1) := by decide +kernel
theorem dX8_many_0 : decode cX8_many 0 = .ok (.iload_n 1, 1) := by decide +kernel
theorem dX8_many_1 : decode cX8_many 1 = .ok (.tableswitch 75 0 4 #[35, 43, 51, 59, 67], 35) := by decide +kernel
theorem dX8_many_36 : decode cX8_many 36 = .ok (.aload_n 0, 1) := by decide +kernel
theorem dX8_many_37 : decode cX8_many 37 = .ok (.getfield 21, 3) := by decide +kernel
theorem dX8_many_40 : decode cX8_many 40 = .ok (.getfield 85, 3) := by decide +kernel
theorem dX8_many_43 : decode cX8_many 43 = .ok (.ireturn, 1) := by decide +kernel
theorem dX8_many_44 : decode cX8_many 44 = .ok (.aload_n 0, 1) := by decide +kernel
theorem dX8_many_45 : decode cX8_many 45 = .ok (.getfield 21, 3) := by decide +kernel
theorem dX8_many_48 : decode cX8_many 48 = .ok (.getfield 278, 3) := by decide +kernel
theorem dX8_many_51 : decode cX8_many 51 = .ok (.ireturn, 1) := by decide +kernel
theorem dX8_many_52 : decode cX8_many 52 = .ok (.aload_n 0, 1) := by decide +kernel
theorem dX8_many_53 : decode cX8_many 53 = .ok (.getfield 21, 3) := by decide +kernel
theorem dX8_many_56 : decode cX8_many 56 = .ok (.getfield 111, 3) := by decide +kernel
theorem dX8_many_59 : decode cX8_many 59 = .ok (.ireturn, 1) := by decide +kernel
theorem dX8_many_60 : decode cX8_many 60 = .ok (.aload_n 0, 1) := by decide +kernel
theorem dX8_many_61 : decode cX8_many 61 = .ok (.getfield 21, 3) := by decide +kernel
theorem dX8_many_64 : decode cX8_many 64 = .ok (.getfield 114, 3) := by decide +kernel
theorem dX8_many_67 : decode cX8_many 67 = .ok (.ireturn, 1) := by decide +kernel
theorem dX8_many_68 : decode cX8_many 68 = .ok (.aload_n 0, 1) := by decide +kernel
theorem dX8_many_69 : decode cX8_many 69 = .ok (.getfield 21, 3) := by decide +kernel
theorem dX8_many_72 : decode cX8_many 72 = .ok (.getfield 120, 3) := by decide +kernel
theorem dX8_many_75 : decode cX8_many 75 = .ok (.ireturn, 1) := by decide +kernel
theorem dX8_many_76 : decode cX8_many 76 = .ok (.bipush (-2), 2) := by decide +kernel
theorem dX8_many_78 : decode cX8_many 78 = .ok (.ireturn, 1) := by decide +kernel
theorem dX8_isSheet_0 : decode cX8_isSheet 0 = .ok (.iload_n 0, 1) := by decide +kernel
theorem dX8_isSheet_1 : decode cX8_isSheet 1 = .ok (.ifCond .lt 12, 3) := by decide +kernel
theorem dX8_isSheet_4 : decode cX8_isSheet 4 = .ok (.iload_n 0, 1) := by decide +kernel
theorem dX8_isSheet_5 : decode cX8_isSheet 5 = .ok (.iconst 4, 1) := by decide +kernel
theorem dX8_isSheet_6 : decode cX8_isSheet 6 = .ok (.if_icmp .ge 7, 3) := by decide +kernel
theorem dX8_isSheet_9 : decode cX8_isSheet 9 = .ok (.iconst 1, 1) := by decide +kernel
theorem dX8_isSheet_10 : decode cX8_isSheet 10 = .ok (.goto 4, 3) := by decide +kernel
theorem dX8_isSheet_13 : decode cX8_isSheet 13 = .ok (.iconst 0, 1) := by decide +kernel
theorem dX8_isSheet_14 : decode cX8_isSheet 14 = .ok (.ireturn, 1) := by decide +kernel
theorem dX8_isSort_0 : decode cX8_isSort 0 = .ok (.iload_n 0, 1) := by decide +kernel
theorem dX8_isSort_1 : decode cX8_isSort 1 = .ok (.ifCond .lt 12, 3) := by decide +kernel
theorem dX8_isSort_4 : decode cX8_isSort 4 = .ok (.iload_n 0, 1) := by decide +kernel
theorem dX8_isSort_5 : decode cX8_isSort 5 = .ok (.iconst 3, 1) := by decide +kernel
theorem dX8_isSort_6 : decode cX8_isSort 6 = .ok (.if_icmp .ge 7, 3) := by decide +kernel
theorem dX8_isSort_9 : decode cX8_isSort 9 = .ok (.iconst 1, 1) := by decide +kernel
theorem dX8_isSort_10 : decode cX8_isSort 10 = .ok (.goto 4, 3) := by decide +kernel
theorem dX8_isSort_13 : decode cX8_isSort 13 = .ok (.iconst 0, 1) := by decide +kernel
theorem dX8_isSort_14 : decode cX8_isSort 14 = .ok (.ireturn, 1) := by decide +kernel
theorem dX8_ruleBit_0 : decode cX8_ruleBit 0 = .ok (.iconst 1, 1) := by decide +kernel
theorem dX8_ruleBit_1 : decode cX8_ruleBit 1 = .ok (.iconst 3, 1) := by decide +kernel
theorem dX8_ruleBit_2 : decode cX8_ruleBit 2 = .ok (.iload_n 0, 1) := by decide +kernel
theorem dX8_ruleBit_3 : decode cX8_ruleBit 3 = .ok (.imul, 1) := by decide +kernel
theorem dX8_ruleBit_4 : decode cX8_ruleBit 4 = .ok (.iload_n 1, 1) := by decide +kernel
theorem dX8_ruleBit_5 : decode cX8_ruleBit 5 = .ok (.iadd, 1) := by decide +kernel
theorem dX8_ruleBit_6 : decode cX8_ruleBit 6 = .ok (.ishl, 1) := by decide +kernel
theorem dX8_ruleBit_7 : decode cX8_ruleBit 7 = .ok (.ireturn, 1) := by decide +kernel
theorem dX8_failed_0 : decode cX8_failed 0 = .ok (.aload_n 0, 1) := by decide +kernel
theorem dX8_failed_1 : decode cX8_failed 1 = .ok (.iload_n 1, 1) := by decide +kernel
theorem dX8_failed_2 : decode cX8_failed 2 = .ok (.putfield 220, 3) := by decide +kernel
theorem dX8_failed_5 : decode cX8_failed 5 = .ok (.bipush (-10), 2) := by decide +kernel
theorem dX8_failed_7 : decode cX8_failed 7 = .ok (.iload_n 1, 1) := by decide +kernel
theorem dX8_failed_8 : decode cX8_failed 8 = .ok (.isub, 1) := by decide +kernel
theorem dX8_failed_9 : decode cX8_failed 9 = .ok (.ireturn, 1) := by decide +kernel
theorem dX8_whyNotTaken_0 : decode cX8_whyNotTaken 0 = .ok (.aload_n 0, 1) := by decide +kernel
theorem dX8_whyNotTaken_1 : decode cX8_whyNotTaken 1 = .ok (.iconst 0, 1) := by decide +kernel
theorem dX8_whyNotTaken_2 : decode cX8_whyNotTaken 2 = .ok (.putfield 220, 3) := by decide +kernel
theorem dX8_whyNotTaken_5 : decode cX8_whyNotTaken 5 = .ok (.iload_n 1, 1) := by decide +kernel
theorem dX8_whyNotTaken_6 : decode cX8_whyNotTaken 6 = .ok (.invokestatic 223, 3) := by decide +kernel
theorem dX8_whyNotTaken_9 : decode cX8_whyNotTaken 9 = .ok (.ifCond .ne 5, 3) := by decide +kernel
theorem dX8_whyNotTaken_12 : decode cX8_whyNotTaken 12 = .ok (.iconst (-1), 1) := by decide +kernel
theorem dX8_whyNotTaken_13 : decode cX8_whyNotTaken 13 = .ok (.ireturn, 1) := by decide +kernel
theorem dX8_whyNotTaken_14 : decode cX8_whyNotTaken 14 = .ok (.iload_n 2, 1) := by decide +kernel
theorem dX8_whyNotTaken_15 : decode cX8_whyNotTaken 15 = .ok (.invokestatic 226, 3) := by decide +kernel
theorem dX8_whyNotTaken_18 : decode cX8_whyNotTaken 18 = .ok (.ifCond .ne 6, 3) := by decide +kernel
theorem dX8_whyNotTaken_21 : decode cX8_whyNotTaken 21 = .ok (.bipush (-2), 2) := by decide +kernel
theorem dX8_whyNotTaken_23 : decode cX8_whyNotTaken 23 = .ok (.ireturn, 1) := by decide +kernel
theorem dX8_whyNotTaken_24 : decode cX8_whyNotTaken 24 = .ok (.aload_n 0, 1) := by decide +kernel
theorem dX8_whyNotTaken_25 : decode cX8_whyNotTaken 25 = .ok (.getfield 13, 3) := by decide +kernel
theorem dX8_whyNotTaken_28 : decode cX8_whyNotTaken 28 = .ok (.iload_n 1, 1) := by decide +kernel
theorem dX8_whyNotTaken_29 : decode cX8_whyNotTaken 29 = .ok (.aaload, 1) := by decide +kernel
theorem dX8_whyNotTaken_30 : decode cX8_whyNotTaken 30 = .ok (.astore 5, 2) := by decide +kernel
theorem dX8_whyNotTaken_32 : decode cX8_whyNotTaken 32 = .ok (.aload 5, 2) := by decide +kernel
theorem dX8_whyNotTaken_34 : decode cX8_whyNotTaken 34 = .ok (.invokevirtual 235, 3) := by decide +kernel
theorem dX8_whyNotTaken_37 : decode cX8_whyNotTaken 37 = .ok (.ifCond .eq 18, 3) := by decide +kernel
theorem dX8_whyNotTaken_40 : decode cX8_whyNotTaken 40 = .ok (.aload 5, 2) := by decide +kernel
theorem dX8_whyNotTaken_42 : decode cX8_whyNotTaken 42 = .ok (.getfield 250, 3) := by decide +kernel
theorem dX8_whyNotTaken_45 : decode cX8_whyNotTaken 45 = .ok (.iload_n 2, 1) := by decide +kernel
theorem dX8_whyNotTaken_46 : decode cX8_whyNotTaken 46 = .ok (.if_icmp .eq 9, 3) := by decide +kernel
theorem dX8_whyNotTaken_49 : decode cX8_whyNotTaken 49 = .ok (.aload_n 0, 1) := by decide +kernel
theorem dX8_whyNotTaken_50 : decode cX8_whyNotTaken 50 = .ok (.iconst 2, 1) := by decide +kernel
theorem dX8_whyNotTaken_51 : decode cX8_whyNotTaken 51 = .ok (.invokevirtual 229, 3) := by decide +kernel
theorem dX8_whyNotTaken_54 : decode cX8_whyNotTaken 54 = .ok (.ireturn, 1) := by decide +kernel
theorem dX8_whyNotTaken_55 : decode cX8_whyNotTaken 55 = .ok (.aload 5, 2) := by decide +kernel
theorem dX8_whyNotTaken_57 : decode cX8_whyNotTaken 57 = .ok (.invokevirtual 235, 3) := by decide +kernel
theorem dX8_whyNotTaken_60 : decode cX8_whyNotTaken 60 = .ok (.ifCond .ne 9, 3) := by decide +kernel
theorem dX8_whyNotTaken_63 : decode cX8_whyNotTaken 63 = .ok (.aload_n 0, 1) := by decide +kernel
theorem dX8_whyNotTaken_64 : decode cX8_whyNotTaken 64 = .ok (.iconst 1, 1) := by decide +kernel
theorem dX8_whyNotTaken_65 : decode cX8_whyNotTaken 65 = .ok (.invokevirtual 229, 3) := by decide +kernel
theorem dX8_whyNotTaken_68 : decode cX8_whyNotTaken 68 = .ok (.ireturn, 1) := by decide +kernel
theorem dX8_whyNotTaken_69 : decode cX8_whyNotTaken 69 = .ok (.iload 4, 2) := by decide +kernel
theorem dX8_whyNotTaken_71 : decode cX8_whyNotTaken 71 = .ok (.ifCond .ge 9, 3) := by decide +kernel
theorem dX8_whyNotTaken_74 : decode cX8_whyNotTaken 74 = .ok (.aload_n 0, 1) := by decide +kernel
theorem dX8_whyNotTaken_75 : decode cX8_whyNotTaken 75 = .ok (.iconst 4, 1) := by decide +kernel
theorem dX8_whyNotTaken_76 : decode cX8_whyNotTaken 76 = .ok (.invokevirtual 229, 3) := by decide +kernel
theorem dX8_whyNotTaken_79 : decode cX8_whyNotTaken 79 = .ok (.ireturn, 1) := by decide +kernel
theorem dX8_whyNotTaken_80 : decode cX8_whyNotTaken 80 = .ok (.aload 5, 2) := by decide +kernel
theorem dX8_whyNotTaken_82 : decode cX8_whyNotTaken 82 = .ok (.iload_n 3, 1) := by decide +kernel
theorem dX8_whyNotTaken_83 : decode cX8_whyNotTaken 83 = .ok (.iload 4, 2) := by decide +kernel
theorem dX8_whyNotTaken_85 : decode cX8_whyNotTaken 85 = .ok (.invokevirtual 241, 3) := by decide +kernel
theorem dX8_whyNotTaken_88 : decode cX8_whyNotTaken 88 = .ok (.ifCond .eq 7, 3) := by decide +kernel
theorem dX8_whyNotTaken_91 : decode cX8_whyNotTaken 91 = .ok (.iconst 0, 1) := by decide +kernel
theorem dX8_whyNotTaken_92 : decode cX8_whyNotTaken 92 = .ok (.goto 8, 3) := by decide +kernel
theorem dX8_whyNotTaken_95 : decode cX8_whyNotTaken 95 = .ok (.aload_n 0, 1) := by decide +kernel
theorem dX8_whyNotTaken_96 : decode cX8_whyNotTaken 96 = .ok (.iconst 3, 1) := by decide +kernel
theorem dX8_whyNotTaken_97 : decode cX8_whyNotTaken 97 = .ok (.invokevirtual 229, 3) := by decide +kernel
theorem dX8_whyNotTaken_100 : decode cX8_whyNotTaken 100 = .ok (.ireturn, 1) := by decide +kernel
theorem dX8_runOnce_0 : decode cX8_runOnce 0 = .ok (.aload_n 0, 1) := by decide +kernel
theorem dX8_runOnce_1 : decode cX8_runOnce 1 = .ok (.getfield 30, 3) := by decide +kernel
theorem dX8_runOnce_4 : decode cX8_runOnce 4 = .ok (.invokevirtual 149, 3) := by decide +kernel
theorem dX8_runOnce_7 : decode cX8_runOnce 7 = .ok (.aload_n 0, 1) := by decide +kernel
theorem dX8_runOnce_8 : decode cX8_runOnce 8 = .ok (.getfield 39, 3) := by decide +kernel
theorem dX8_runOnce_11 : decode cX8_runOnce 11 = .ok (.aload_n 0, 1) := by decide +kernel
theorem dX8_runOnce_12 : decode cX8_runOnce 12 = .ok (.getfield 30, 3) := by decide +kernel
theorem dX8_runOnce_15 : decode cX8_runOnce 15 = .ok (.invokevirtual 185, 3) := by decide +kernel
theorem dX8_runOnce_18 : decode cX8_runOnce 18 = .ok (.iconst 0, 1) := by decide +kernel
theorem dX8_runOnce_19 : decode cX8_runOnce 19 = .ok (.invokevirtual 188, 3) := by decide +kernel
theorem dX8_runOnce_22 : decode cX8_runOnce 22 = .ok (.ireturn, 1) := by decide +kernel
theorem dX8_leave_0 : decode cX8_leave 0 = .ok (.aload_n 0, 1) := by decide +kernel
theorem dX8_leave_1 : decode cX8_leave 1 = .ok (.bipush 31, 2) := by decide +kernel
theorem dX8_leave_3 : decode cX8_leave 3 = .ok (.aload_n 0, 1) := by decide +kernel
theorem dX8_leave_4 : decode cX8_leave 4 = .ok (.getfield 275, 3) := by decide +kernel
theorem dX8_leave_7 : decode cX8_leave 7 = .ok (.imul, 1) := by decide +kernel
theorem dX8_leave_8 : decode cX8_leave 8 = .ok (.iload_n 1, 1) := by decide +kernel
theorem dX8_leave_9 : decode cX8_leave 9 = .ok (.iadd, 1) := by decide +kernel
theorem dX8_leave_10 : decode cX8_leave 10 = .ok (.putfield 275, 3) := by decide +kernel
theorem dX8_leave_13 : decode cX8_leave 13 = .ok (.return_, 1) := by decide +kernel
theorem dX8_tellAsHonest_0 : decode cX8_tellAsHonest 0 = .ok (.aload_n 0, 1) := by decide +kernel
theorem dX8_tellAsHonest_1 : decode cX8_tellAsHonest 1 = .ok (.iconst 1, 1) := by decide +kernel
theorem dX8_tellAsHonest_2 : decode cX8_tellAsHonest 2 = .ok (.invokevirtual 271, 3) := by decide +kernel
theorem dX8_tellAsHonest_5 : decode cX8_tellAsHonest 5 = .ok (.iconst 0, 1) := by decide +kernel
theorem dX8_tellAsHonest_6 : decode cX8_tellAsHonest 6 = .ok (.istore_n 2, 1) := by decide +kernel
theorem dX8_tellAsHonest_7 : decode cX8_tellAsHonest 7 = .ok (.iconst 0, 1) := by decide +kernel
theorem dX8_tellAsHonest_8 : decode cX8_tellAsHonest 8 = .ok (.istore_n 3, 1) := by decide +kernel
theorem dX8_tellAsHonest_9 : decode cX8_tellAsHonest 9 = .ok (.iload_n 3, 1) := by decide +kernel
theorem dX8_tellAsHonest_10 : decode cX8_tellAsHonest 10 = .ok (.aload_n 0, 1) := by decide +kernel
theorem dX8_tellAsHonest_11 : decode cX8_tellAsHonest 11 = .ok (.getfield 21, 3) := by decide +kernel
theorem dX8_tellAsHonest_14 : decode cX8_tellAsHonest 14 = .ok (.getfield 278, 3) := by decide +kernel
theorem dX8_tellAsHonest_17 : decode cX8_tellAsHonest 17 = .ok (.if_icmp .ge 24, 3) := by decide +kernel
theorem dX8_tellAsHonest_20 : decode cX8_tellAsHonest 20 = .ok (.aload_n 0, 1) := by decide +kernel
theorem dX8_tellAsHonest_21 : decode cX8_tellAsHonest 21 = .ok (.getfield 21, 3) := by decide +kernel
theorem dX8_tellAsHonest_24 : decode cX8_tellAsHonest 24 = .ok (.iload_n 1, 1) := by decide +kernel
theorem dX8_tellAsHonest_25 : decode cX8_tellAsHonest 25 = .ok (.iload_n 3, 1) := by decide +kernel
theorem dX8_tellAsHonest_26 : decode cX8_tellAsHonest 26 = .ok (.invokevirtual 100, 3) := by decide +kernel
theorem dX8_tellAsHonest_29 : decode cX8_tellAsHonest 29 = .ok (.ifCond .eq 6, 3) := by decide +kernel
theorem dX8_tellAsHonest_32 : decode cX8_tellAsHonest 32 = .ok (.iinc 2 1, 3) := by decide +kernel
theorem dX8_tellAsHonest_35 : decode cX8_tellAsHonest 35 = .ok (.iinc 3 1, 3) := by decide +kernel
theorem dX8_tellAsHonest_38 : decode cX8_tellAsHonest 38 = .ok (.goto (-29), 3) := by decide +kernel
theorem dX8_tellAsHonest_41 : decode cX8_tellAsHonest 41 = .ok (.iload_n 2, 1) := by decide +kernel
theorem dX8_tellAsHonest_42 : decode cX8_tellAsHonest 42 = .ok (.ireturn, 1) := by decide +kernel
theorem dX8_tellAsFollower_0 : decode cX8_tellAsFollower 0 = .ok (.aload_n 0, 1) := by decide +kernel
theorem dX8_tellAsFollower_1 : decode cX8_tellAsFollower 1 = .ok (.iconst 2, 1) := by decide +kernel
theorem dX8_tellAsFollower_2 : decode cX8_tellAsFollower 2 = .ok (.invokevirtual 271, 3) := by decide +kernel
theorem dX8_tellAsFollower_5 : decode cX8_tellAsFollower 5 = .ok (.aload_n 0, 1) := by decide +kernel
theorem dX8_tellAsFollower_6 : decode cX8_tellAsFollower 6 = .ok (.iload_n 1, 1) := by decide +kernel
theorem dX8_tellAsFollower_7 : decode cX8_tellAsFollower 7 = .ok (.invokevirtual 262, 3) := by decide +kernel
theorem dX8_tellAsFollower_10 : decode cX8_tellAsFollower 10 = .ok (.bipush 100, 2) := by decide +kernel
theorem dX8_tellAsFollower_12 : decode cX8_tellAsFollower 12 = .ok (.iadd, 1) := by decide +kernel
theorem dX8_tellAsFollower_13 : decode cX8_tellAsFollower 13 = .ok (.ireturn, 1) := by decide +kernel
theorem dX8_tellAsContrary_0 : decode cX8_tellAsContrary 0 = .ok (.aload_n 0, 1) := by decide +kernel
theorem dX8_tellAsContrary_1 : decode cX8_tellAsContrary 1 = .ok (.iconst 3, 1) := by decide +kernel
theorem dX8_tellAsContrary_2 : decode cX8_tellAsContrary 2 = .ok (.invokevirtual 271, 3) := by decide +kernel
theorem dX8_tellAsContrary_5 : decode cX8_tellAsContrary 5 = .ok (.aload_n 0, 1) := by decide +kernel
theorem dX8_tellAsContrary_6 : decode cX8_tellAsContrary 6 = .ok (.iload_n 1, 1) := by decide +kernel
theorem dX8_tellAsContrary_7 : decode cX8_tellAsContrary 7 = .ok (.invokevirtual 265, 3) := by decide +kernel
theorem dX8_tellAsContrary_10 : decode cX8_tellAsContrary 10 = .ok (.istore_n 2, 1) := by decide +kernel
theorem dX8_tellAsContrary_11 : decode cX8_tellAsContrary 11 = .ok (.iload_n 2, 1) := by decide +kernel
theorem dX8_tellAsContrary_12 : decode cX8_tellAsContrary 12 = .ok (.aload_n 0, 1) := by decide +kernel
theorem dX8_tellAsContrary_13 : decode cX8_tellAsContrary 13 = .ok (.iload_n 1, 1) := by decide +kernel
theorem dX8_tellAsContrary_14 : decode cX8_tellAsContrary 14 = .ok (.invokevirtual 262, 3) := by decide +kernel
theorem dX8_tellAsContrary_17 : decode cX8_tellAsContrary 17 = .ok (.iadd, 1) := by decide +kernel
theorem dX8_tellAsContrary_18 : decode cX8_tellAsContrary 18 = .ok (.ireturn, 1) := by decide +kernel
end
section
theorem dX9_init_0 : decode cX9_init 0 = .ok (.aload_n 0, 1) := by decide +kernel
theorem dX9_init_1 : decode cX9_init 1 = .ok (.invokespecial 1, 3) := by decide +kernel
theorem dX9_init_4 : decode cX9_init 4 = .ok (.aload_n 0, 1) := by decide +kernel
theorem dX9_init_5 : decode cX9_init 5 = .ok (.iconst 4, 1) := by decide +kernel
theorem dX9_init_6 : decode cX9_init 6 = .ok (.newarray .int, 2) := by decide +kernel
theorem dX9_init_8 : decode cX9_init 8 = .ok (.dup, 1) := by decide +kernel
theorem dX9_init_9 : decode cX9_init 9 = .ok (.iconst 0, 1) := by decide +kernel
theorem dX9_init_10 : decode cX9_init 10 = .ok (.bipush (-9), 2) := by decide +kernel
theorem dX9_init_12 : decode cX9_init 12 = .ok (.iastore, 1) := by decide +kernel
theorem dX9_init_13 : decode cX9_init 13 = .ok (.dup, 1) := by decide +kernel
theorem dX9_init_14 : decode cX9_init 14 = .ok (.iconst 1, 1) := by decide +kernel
theorem dX9_init_15 : decode cX9_init 15 = .ok (.bipush (-9), 2) := by decide +kernel
theorem dX9_init_17 : decode cX9_init 17 = .ok (.iastore, 1) := by decide +kernel
theorem dX9_init_18 : decode cX9_init 18 = .ok (.dup, 1) := by decide +kernel
theorem dX9_init_19 : decode cX9_init 19 = .ok (.iconst 2, 1) := by decide +kernel
theorem dX9_init_20 : decode cX9_init 20 = .ok (.bipush (-9), 2) := by decide +kernel
theorem dX9_init_22 : decode cX9_init 22 = .ok (.iastore, 1) := by decide +kernel
theorem dX9_init_23 : decode cX9_init 23 = .ok (.dup, 1) := by decide +kernel
theorem dX9_init_24 : decode cX9_init 24 = .ok (.iconst 3, 1) := by decide +kernel
theorem dX9_init_25 : decode cX9_init 25 = .ok (.bipush (-9), 2) := by decide +kernel
theorem dX9_init_27 : decode cX9_init 27 = .ok (.iastore, 1) := by decide +kernel
theorem dX9_init_28 : decode cX9_init 28 = .ok (.putfield 9, 3) := by decide +kernel
theorem dX9_init_31 : decode cX9_init 31 = .ok (.aload_n 0, 1) := by decide +kernel
theorem dX9_init_32 : decode cX9_init 32 = .ok (.iconst 4, 1) := by decide +kernel
theorem dX9_init_33 : decode cX9_init 33 = .ok (.newarray .int, 2) := by decide +kernel
theorem dX9_init_35 : decode cX9_init 35 = .ok (.putfield 13, 3) := by decide +kernel
theorem dX9_init_38 : decode cX9_init 38 = .ok (.aload_n 0, 1) := by decide +kernel
theorem dX9_init_39 : decode cX9_init 39 = .ok (.sipush 320, 3) := by decide +kernel
theorem dX9_init_42 : decode cX9_init 42 = .ok (.newarray .int, 2) := by decide +kernel
theorem dX9_init_44 : decode cX9_init 44 = .ok (.putfield 16, 3) := by decide +kernel
theorem dX9_init_47 : decode cX9_init 47 = .ok (.aload_n 0, 1) := by decide +kernel
theorem dX9_init_48 : decode cX9_init 48 = .ok (.bipush 8, 2) := by decide +kernel
theorem dX9_init_50 : decode cX9_init 50 = .ok (.newarray .int, 2) := by decide +kernel
theorem dX9_init_52 : decode cX9_init 52 = .ok (.putfield 19, 3) := by decide +kernel
theorem dX9_init_55 : decode cX9_init 55 = .ok (.aload_n 0, 1) := by decide +kernel
theorem dX9_init_56 : decode cX9_init 56 = .ok (.bipush 8, 2) := by decide +kernel
theorem dX9_init_58 : decode cX9_init 58 = .ok (.newarray .int, 2) := by decide +kernel
theorem dX9_init_60 : decode cX9_init 60 = .ok (.putfield 22, 3) := by decide +kernel
theorem dX9_init_63 : decode cX9_init 63 = .ok (.aload_n 0, 1) := by decide +kernel
theorem dX9_init_64 : decode cX9_init 64 = .ok (.bipush 6, 2) := by decide +kernel
theorem dX9_init_66 : decode cX9_init 66 = .ok (.newarray .int, 2) := by decide +kernel
theorem dX9_init_68 : decode cX9_init 68 = .ok (.putfield 25, 3) := by decide +kernel
theorem dX9_init_71 : decode cX9_init 71 = .ok (.aload_n 0, 1) := by decide +kernel
theorem dX9_init_72 : decode cX9_init 72 = .ok (.bipush 8, 2) := by decide +kernel
theorem dX9_init_74 : decode cX9_init 74 = .ok (.newarray .int, 2) := by decide +kernel
theorem dX9_init_76 : decode cX9_init 76 = .ok (.putfield 28, 3) := by decide +kernel
theorem dX9_init_79 : decode cX9_init 79 = .ok (.aload_n 0, 1) := by decide +kernel
theorem dX9_init_80 : decode cX9_init 80 = .ok (.bipush 8, 2) := by decide +kernel
theorem dX9_init_82 : decode cX9_init 82 = .ok (.newarray .int, 2) := by decide +kernel
theorem dX9_init_84 : decode cX9_init 84 = .ok (.putfield 31, 3) := by decide +kernel
theorem dX9_init_87 : decode cX9_init 87 = .ok (.aload_n 0, 1) := by decide +kernel
theorem dX9_init_88 : decode cX9_init 88 = .ok (.bipush 6, 2) := by decide +kernel
theorem dX9_init_90 : decode cX9_init 90 = .ok (.newarray .int, 2) := by decide +kernel
theorem dX9_init_92 : decode cX9_init 92 = .ok (.putfield 34, 3) := by decide +kernel
theorem dX9_init_95 : decode cX9_init 95 = .ok (.aload_n 0, 1) := by decide +kernel
theorem dX9_init_96 : decode cX9_init 96 = .ok (.bipush 6, 2) := by decide +kernel
theorem dX9_init_98 : decode cX9_init 98 = .ok (.newarray .int, 2) := by decide +kernel
theorem dX9_init_100 : decode cX9_init 100 = .ok (.putfield 37, 3) := by decide +kernel
theorem dX9_init_103 : decode cX9_init 103 = .ok (.aload_n 0, 1) := by decide +kernel
theorem dX9_init_104 : decode cX9_init 104 = .ok (.bipush 6, 2) := by decide +kernel
theorem dX9_init_106 : decode cX9_init 106 = .ok (.newarray .int, 2) := by decide +kernel
theorem dX9_init_108 : decode cX9_init 108 = .ok (.putfield 40, 3) := by decide +kernel
theorem dX9_init_111 : decode cX9_init 111 = .ok (.aload_n 0, 1) := by decide +kernel
theorem dX9_init_112 : decode cX9_init 112 = .ok (.bipush 6, 2) := by decide +kernel
theorem dX9_init_114 : decode cX9_init 114 = .ok (.newarray .int, 2) := by decide +kernel
theorem dX9_init_116 : decode cX9_init 116 = .ok (.putfield 43, 3) := by decide +kernel
theorem dX9_init_119 : decode cX9_init 119 = .ok (.aload_n 0, 1) := by decide +kernel
theorem dX9_init_120 : decode cX9_init 120 = .ok (.sipush 4096, 3) := by decide +kernel
theorem dX9_init_123 : decode cX9_init 123 = .ok (.newarray .int, 2) := by decide +kernel
theorem dX9_init_125 : decode cX9_init 125 = .ok (.putfield 46, 3) := by decide +kernel
theorem dX9_init_128 : decode cX9_init 128 = .ok (.aload_n 0, 1) := by decide +kernel
theorem dX9_init_129 : decode cX9_init 129 = .ok (.bipush 7, 2) := by decide +kernel
theorem dX9_init_131 : decode cX9_init 131 = .ok (.newarray .int, 2) := by decide +kernel
theorem dX9_init_133 : decode cX9_init 133 = .ok (.putfield 49, 3) := by decide +kernel
theorem dX9_init_136 : decode cX9_init 136 = .ok (.aload_n 0, 1) := by decide +kernel
theorem dX9_init_137 : decode cX9_init 137 = .ok (.bipush 7, 2) := by decide +kernel
theorem dX9_init_139 : decode cX9_init 139 = .ok (.newarray .boolean, 2) := by decide +kernel
theorem dX9_init_141 : decode cX9_init 141 = .ok (.putfield 52, 3) := by decide +kernel
theorem dX9_init_144 : decode cX9_init 144 = .ok (.aload_n 0, 1) := by decide +kernel
theorem dX9_init_145 : decode cX9_init 145 = .ok (.bipush 7, 2) := by decide +kernel
theorem dX9_init_147 : decode cX9_init 147 = .ok (.newarray .int, 2) := by decide +kernel
theorem dX9_init_149 : decode cX9_init 149 = .ok (.putfield 56, 3) := by decide +kernel
theorem dX9_init_152 : decode cX9_init 152 = .ok (.aload_n 0, 1) := by decide +kernel
theorem dX9_init_153 : decode cX9_init 153 = .ok (.bipush 7, 2) := by decide +kernel
theorem dX9_init_155 : decode cX9_init 155 = .ok (.newarray .int, 2) := by decide +kernel
theorem dX9_init_157 : decode cX9_init 157 = .ok (.putfield 59, 3) := by decide +kernel
theorem dX9_init_160 : decode cX9_init 160 = .ok (.aload_n 0, 1) := by decide +kernel
theorem dX9_init_161 : decode cX9_init 161 = .ok (.bipush 7, 2) := by decide +kernel
theorem dX9_init_163 : decode cX9_init 163 = .ok (.newarray .int, 2) := by decide +kernel
theorem dX9_init_165 : decode cX9_init 165 = .ok (.putfield 62, 3) := by decide +kernel
theorem dX9_init_168 : decode cX9_init 168 = .ok (.aload_n 0, 1) := by decide +kernel
theorem dX9_init_169 : decode cX9_init 169 = .ok (.bipush 6, 2) := by decide +kernel
theorem dX9_init_171 : decode cX9_init 171 = .ok (.newarray .int, 2) := by decide +kernel
theorem dX9_init_173 : decode cX9_init 173 = .ok (.putfield 65, 3) := by decide +kernel
theorem dX9_init_176 : decode cX9_init 176 = .ok (.aload_n 0, 1) := by decide +kernel
theorem dX9_init_177 : decode cX9_init 177 = .ok (.bipush 6, 2) := by decide +kernel
theorem dX9_init_179 : decode cX9_init 179 = .ok (.newarray .int, 2) := by decide +kernel
theorem dX9_init_181 : decode cX9_init 181 = .ok (.putfield 68, 3) := by decide +kernel
theorem dX9_init_184 : decode cX9_init 184 = .ok (.aload_n 0, 1) := by decide +kernel
theorem dX9_init_185 : decode cX9_init 185 = .ok (.bipush 6, 2) := by decide +kernel
theorem dX9_init_187 : decode cX9_init 187 = .ok (.newarray .int, 2) := by decide +kernel
theorem dX9_init_189 : decode cX9_init 189 = .ok (.putfield 71, 3) := by decide +kernel
theorem dX9_init_192 : decode cX9_init 192 = .ok (.aload_n 0, 1) := by decide +kernel
theorem dX9_init_193 : decode cX9_init 193 = .ok (.sipush 257, 3) := by decide +kernel
theorem dX9_init_196 : decode cX9_init 196 = .ok (.newarray .long, 2) := by decide +kernel
theorem dX9_init_198 : decode cX9_init 198 = .ok (.putfield 74, 3) := by decide +kernel
theorem dX9_init_201 : decode cX9_init 201 = .ok (.aload_n 0, 1) := by decide +kernel
theorem dX9_init_202 : decode cX9_init 202 = .ok (.sipush 257, 3) := by decide +kernel
theorem dX9_init_205 : decode cX9_init 205 = .ok (.newarray .long, 2) := by decide +kernel
theorem dX9_init_207 : decode cX9_init 207 = .ok (.putfield 78, 3) := by decide +kernel
theorem dX9_init_210 : decode cX9_init 210 = .ok (.return_, 1) := by decide +kernel
theorem dX9_fails_0 : decode cX9_fails 0 = .ok (.aload_n 0, 1) := by decide +kernel
theorem dX9_fails_1 : decode cX9_fails 1 = .ok (.iload_n 1, 1) := by decide +kernel
theorem dX9_fails_2 : decode cX9_fails 2 = .ok (.putfield 81, 3) := by decide +kernel
theorem dX9_fails_5 : decode cX9_fails 5 = .ok (.bipush (-10), 2) := by decide +kernel
theorem dX9_fails_7 : decode cX9_fails 7 = .ok (.iload_n 1, 1) := by decide +kernel
theorem dX9_fails_8 : decode cX9_fails 8 = .ok (.isub, 1) := by decide +kernel
theorem dX9_fails_9 : decode cX9_fails 9 = .ok (.ireturn, 1) := by decide +kernel
theorem dX9_lost_0 : decode cX9_lost 0 = .ok (.aload_n 0, 1) := by decide +kernel
theorem dX9_lost_1 : decode cX9_lost 1 = .ok (.iload_n 1, 1) := by decide +kernel
theorem dX9_lost_2 : decode cX9_lost 2 = .ok (.putfield 81, 3) := by decide +kernel
theorem dX9_lost_5 : decode cX9_lost 5 = .ok (.ldc2_w 85, 3) := by decide +kernel
theorem dX9_lost_8 : decode cX9_lost 8 = .ok (.lreturn, 1) := by decide +kernel
theorem dX9_within_0 : decode cX9_within 0 = .ok (.iload_n 0, 1) := by decide +kernel
theorem dX9_within_1 : decode cX9_within 1 = .ok (.iload_n 1, 1) := by decide +kernel
theorem dX9_within_2 : decode cX9_within 2 = .ok (.if_icmp .lt 12, 3) := by decide +kernel
theorem dX9_within_5 : decode cX9_within 5 = .ok (.iload_n 0, 1) := by decide +kernel
theorem dX9_within_6 : decode cX9_within 6 = .ok (.iload_n 2, 1) := by decide +kernel
theorem dX9_within_7 : decode cX9_within 7 = .ok (.if_icmp .gt 7, 3) := by decide +kernel
theorem dX9_within_10 : decode cX9_within 10 = .ok (.iconst 1, 1) := by decide +kernel
theorem dX9_within_11 : decode cX9_within 11 = .ok (.goto 4, 3) := by decide +kernel
theorem dX9_within_14 : decode cX9_within 14 = .ok (.iconst 0, 1) := by decide +kernel
theorem dX9_within_15 : decode cX9_within 15 = .ok (.ireturn, 1) := by decide +kernel
theorem dX9_share_0 : decode cX9_share 0 = .ok (.lload_n 0, 1) := by decide +kernel
theorem dX9_share_1 : decode cX9_share 1 = .ok (.lstore 5, 2) := by decide +kernel
theorem dX9_share_3 : decode cX9_share 3 = .ok (.lload_n 2, 1) := by decide +kernel
theorem dX9_share_4 : decode cX9_share 4 = .ok (.lstore 7, 2) := by decide +kernel
theorem dX9_share_6 : decode cX9_share 6 = .ok (.lload 7, 2) := by decide +kernel
theorem dX9_share_8 : decode cX9_share 8 = .ok (.lconst 0, 1) := by decide +kernel
theorem dX9_share_9 : decode cX9_share 9 = .ok (.lcmp, 1) := by decide +kernel
theorem dX9_share_10 : decode cX9_share 10 = .ok (.ifCond .eq 21, 3) := by decide +kernel
theorem dX9_share_13 : decode cX9_share 13 = .ok (.lload 5, 2) := by decide +kernel
theorem dX9_share_15 : decode cX9_share 15 = .ok (.lload 7, 2) := by decide +kernel
theorem dX9_share_17 : decode cX9_share 17 = .ok (.lrem, 1) := by decide +kernel
theorem dX9_share_18 : decode cX9_share 18 = .ok (.lstore 9, 2) := by decide +kernel
theorem dX9_share_20 : decode cX9_share 20 = .ok (.lload 7, 2) := by decide +kernel
theorem dX9_share_22 : decode cX9_share 22 = .ok (.lstore 5, 2) := by decide +kernel
theorem dX9_share_24 : decode cX9_share 24 = .ok (.lload 9, 2) := by decide +kernel
theorem dX9_share_26 : decode cX9_share 26 = .ok (.lstore 7, 2) := by decide +kernel
theorem dX9_share_28 : decode cX9_share 28 = .ok (.goto (-22), 3) := by decide +kernel
theorem dX9_share_31 : decode cX9_share 31 = .ok (.iload 4, 2) := by decide +kernel
theorem dX9_share_33 : decode cX9_share 33 = .ok (.ifCond .ne 10, 3) := by decide +kernel
theorem dX9_share_36 : decode cX9_share 36 = .ok (.lload_n 0, 1) := by decide +kernel
theorem dX9_share_37 : decode cX9_share 37 = .ok (.lload 5, 2) := by decide +kernel
theorem dX9_share_39 : decode cX9_share 39 = .ok (.ldiv, 1) := by decide +kernel
theorem dX9_share_40 : decode cX9_share 40 = .ok (.goto 7, 3) := by decide +kernel
theorem dX9_share_43 : decode cX9_share 43 = .ok (.lload_n 2, 1) := by decide +kernel
theorem dX9_share_44 : decode cX9_share 44 = .ok (.lload 5, 2) := by decide +kernel
theorem dX9_share_46 : decode cX9_share 46 = .ok (.ldiv, 1) := by decide +kernel
theorem dX9_share_47 : decode cX9_share 47 = .ok (.lreturn, 1) := by decide +kernel
theorem dX9_bits_0 : decode cX9_bits 0 = .ok (.iconst 0, 1) := by decide +kernel
theorem dX9_bits_1 : decode cX9_bits 1 = .ok (.istore_n 1, 1) := by decide +kernel
theorem dX9_bits_2 : decode cX9_bits 2 = .ok (.iconst 0, 1) := by decide +kernel
theorem dX9_bits_3 : decode cX9_bits 3 = .ok (.istore_n 2, 1) := by decide +kernel
theorem dX9_bits_4 : decode cX9_bits 4 = .ok (.iload_n 2, 1) := by decide +kernel
theorem dX9_bits_5 : decode cX9_bits 5 = .ok (.bipush 20, 2) := by decide +kernel
theorem dX9_bits_7 : decode cX9_bits 7 = .ok (.if_icmp .ge 17, 3) := by decide +kernel
theorem dX9_bits_10 : decode cX9_bits 10 = .ok (.iload_n 1, 1) := by decide +kernel
theorem dX9_bits_11 : decode cX9_bits 11 = .ok (.iload_n 0, 1) := by decide +kernel
theorem dX9_bits_12 : decode cX9_bits 12 = .ok (.iload_n 2, 1) := by decide +kernel
theorem dX9_bits_13 : decode cX9_bits 13 = .ok (.ishr, 1) := by decide +kernel
theorem dX9_bits_14 : decode cX9_bits 14 = .ok (.iconst 1, 1) := by decide +kernel
theorem dX9_bits_15 : decode cX9_bits 15 = .ok (.iand, 1) := by decide +kernel
theorem dX9_bits_16 : decode cX9_bits 16 = .ok (.iadd, 1) := by decide +kernel
theorem dX9_bits_17 : decode cX9_bits 17 = .ok (.istore_n 1, 1) := by decide +kernel
theorem dX9_bits_18 : decode cX9_bits 18 = .ok (.iinc 2 1, 3) := by decide +kernel
theorem dX9_bits_21 : decode cX9_bits 21 = .ok (.goto (-17), 3) := by decide +kernel
theorem dX9_bits_24 : decode cX9_bits 24 = .ok (.iload_n 1, 1) := by decide +kernel
theorem dX9_bits_25 : decode cX9_bits 25 = .ok (.ireturn, 1) := by decide +kernel
theorem dX9_isSheet_0 : decode cX9_isSheet 0 = .ok (.iload_n 0, 1) := by decide +kernel
theorem dX9_isSheet_1 : decode cX9_isSheet 1 = .ok (.iconst 0, 1) := by decide +kernel
theorem dX9_isSheet_2 : decode cX9_isSheet 2 = .ok (.iconst 3, 1) := by decide +kernel
theorem dX9_isSheet_3 : decode cX9_isSheet 3 = .ok (.invokestatic 87, 3) := by decide +kernel
theorem dX9_isSheet_6 : decode cX9_isSheet 6 = .ok (.ireturn, 1) := by decide +kernel
theorem dX9_isSort_0 : decode cX9_isSort 0 = .ok (.iload_n 0, 1) := by decide +kernel
theorem dX9_isSort_1 : decode cX9_isSort 1 = .ok (.iconst 0, 1) := by decide +kernel
theorem dX9_isSort_2 : decode cX9_isSort 2 = .ok (.iconst 2, 1) := by decide +kernel
theorem dX9_isSort_3 : decode cX9_isSort 3 = .ok (.invokestatic 87, 3) := by decide +kernel
theorem dX9_isSort_6 : decode cX9_isSort 6 = .ok (.ireturn, 1) := by decide +kernel
theorem dX9_against_0 : decode cX9_against 0 = .ok (.aload_n 0, 1) := by decide +kernel
theorem dX9_against_1 : decode cX9_against 1 = .ok (.getfield 9, 3) := by decide +kernel
theorem dX9_against_4 : decode cX9_against 4 = .ok (.iload_n 1, 1) := by decide +kernel
theorem dX9_against_5 : decode cX9_against 5 = .ok (.iaload, 1) := by decide +kernel
theorem dX9_against_6 : decode cX9_against 6 = .ok (.bipush (-9), 2) := by decide +kernel
theorem dX9_against_8 : decode cX9_against 8 = .ok (.if_icmp .eq 15, 3) := by decide +kernel
theorem dX9_against_11 : decode cX9_against 11 = .ok (.aload_n 0, 1) := by decide +kernel
theorem dX9_against_12 : decode cX9_against 12 = .ok (.getfield 9, 3) := by decide +kernel
theorem dX9_against_15 : decode cX9_against 15 = .ok (.iload_n 1, 1) := by decide +kernel
theorem dX9_against_16 : decode cX9_against 16 = .ok (.iaload, 1) := by decide +kernel
theorem dX9_against_17 : decode cX9_against 17 = .ok (.iload_n 2, 1) := by decide +kernel
theorem dX9_against_18 : decode cX9_against 18 = .ok (.if_icmp .eq 5, 3) := by decide +kernel
theorem dX9_against_21 : decode cX9_against 21 = .ok (.iconst 2, 1) := by decide +kernel
theorem dX9_against_22 : decode cX9_against 22 = .ok (.ireturn, 1) := by decide +kernel
theorem dX9_against_23 : decode cX9_against 23 = .ok (.aload_n 0, 1) := by decide +kernel
theorem dX9_against_24 : decode cX9_against 24 = .ok (.getfield 9, 3) := by decide +kernel
theorem dX9_against_27 : decode cX9_against 27 = .ok (.iload_n 1, 1) := by decide +kernel
theorem dX9_against_28 : decode cX9_against 28 = .ok (.iaload, 1) := by decide +kernel
theorem dX9_against_29 : decode cX9_against 29 = .ok (.bipush (-9), 2) := by decide +kernel
theorem dX9_against_31 : decode cX9_against 31 = .ok (.if_icmp .ne 5, 3) := by decide +kernel
theorem dX9_against_34 : decode cX9_against 34 = .ok (.iconst 1, 1) := by decide +kernel
theorem dX9_against_35 : decode cX9_against 35 = .ok (.ireturn, 1) := by decide +kernel
theorem dX9_against_36 : decode cX9_against 36 = .ok (.iload 4, 2) := by decide +kernel
theorem dX9_against_38 : decode cX9_against 38 = .ok (.ifCond .ge 5, 3) := by decide +kernel
theorem dX9_against_41 : decode cX9_against 41 = .ok (.iconst 4, 1) := by decide +kernel
theorem dX9_against_42 : decode cX9_against 42 = .ok (.ireturn, 1) := by decide +kernel
theorem dX9_against_43 : decode cX9_against 43 = .ok (.iload_n 3, 1) := by decide +kernel
theorem dX9_against_44 : decode cX9_against 44 = .ok (.ifCond .lt 26, 3) := by decide +kernel
theorem dX9_against_47 : decode cX9_against 47 = .ok (.iload_n 3, 1) := by decide +kernel
theorem dX9_against_48 : decode cX9_against 48 = .ok (.aload_n 0, 1) := by decide +kernel
theorem dX9_against_49 : decode cX9_against 49 = .ok (.getfield 13, 3) := by decide +kernel
theorem dX9_against_52 : decode cX9_against 52 = .ok (.iload_n 1, 1) := by decide +kernel
theorem dX9_against_53 : decode cX9_against 53 = .ok (.iaload, 1) := by decide +kernel
theorem dX9_against_54 : decode cX9_against 54 = .ok (.if_icmp .gt 16, 3) := by decide +kernel
theorem dX9_against_57 : decode cX9_against 57 = .ok (.iload 4, 2) := by decide +kernel
theorem dX9_against_59 : decode cX9_against 59 = .ok (.aload_n 0, 1) := by decide +kernel
theorem dX9_against_60 : decode cX9_against 60 = .ok (.getfield 13, 3) := by decide +kernel
theorem dX9_against_63 : decode cX9_against 63 = .ok (.iload_n 1, 1) := by decide +kernel
theorem dX9_against_64 : decode cX9_against 64 = .ok (.iaload, 1) := by decide +kernel
theorem dX9_against_65 : decode cX9_against 65 = .ok (.iload_n 3, 1) := by decide +kernel
theorem dX9_against_66 : decode cX9_against 66 = .ok (.isub, 1) := by decide +kernel
theorem dX9_against_67 : decode cX9_against 67 = .ok (.if_icmp .le 7, 3) := by decide +kernel
theorem dX9_against_70 : decode cX9_against 70 = .ok (.iconst 3, 1) := by decide +kernel
theorem dX9_against_71 : decode cX9_against 71 = .ok (.goto 4, 3) := by decide +kernel
theorem dX9_against_74 : decode cX9_against 74 = .ok (.iconst 0, 1) := by decide +kernel
theorem dX9_against_75 : decode cX9_against 75 = .ok (.ireturn, 1) := by decide +kernel
theorem dX9_isTown_0 : decode cX9_isTown 0 = .ok (.aload_n 0, 1) := by decide +kernel
theorem dX9_isTown_1 : decode cX9_isTown 1 = .ok (.getfield 91, 3) := by decide +kernel
theorem dX9_isTown_4 : decode cX9_isTown 4 = .ok (.ifCond .le 7, 3) := by decide +kernel
theorem dX9_isTown_7 : decode cX9_isTown 7 = .ok (.iconst 1, 1) := by decide +kernel
theorem dX9_isTown_8 : decode cX9_isTown 8 = .ok (.goto 4, 3) := by decide +kernel
theorem dX9_isTown_11 : decode cX9_isTown 11 = .ok (.iconst 0, 1) := by decide +kernel
theorem dX9_isTown_12 : decode cX9_isTown 12 = .ok (.ireturn, 1) := by decide +kernel
theorem dX9_isOne_0 : decode cX9_isOne 0 = .ok (.iload_n 1, 1) := by decide +kernel
theorem dX9_isOne_1 : decode cX9_isOne 1 = .ok (.ifCond .lt 15, 3) := by decide +kernel
theorem dX9_isOne_4 : decode cX9_isOne 4 = .ok (.iload_n 1, 1) := by decide +kernel
theorem dX9_isOne_5 : decode cX9_isOne 5 = .ok (.aload_n 0, 1) := by decide +kernel
theorem dX9_isOne_6 : decode cX9_isOne 6 = .ok (.getfield 91, 3) := by decide +kernel
theorem dX9_isOne_9 : decode cX9_isOne 9 = .ok (.if_icmp .ge 7, 3) := by decide +kernel
theorem dX9_isOne_12 : decode cX9_isOne 12 = .ok (.iconst 1, 1) := by decide +kernel
theorem dX9_isOne_13 : decode cX9_isOne 13 = .ok (.goto 4, 3) := by decide +kernel
theorem dX9_isOne_16 : decode cX9_isOne 16 = .ok (.iconst 0, 1) := by decide +kernel
theorem dX9_isOne_17 : decode cX9_isOne 17 = .ok (.ireturn, 1) := by decide +kernel
theorem dX9_isMatter_0 : decode cX9_isMatter 0 = .ok (.iload_n 1, 1) := by decide +kernel
theorem dX9_isMatter_1 : decode cX9_isMatter 1 = .ok (.ifCond .lt 15, 3) := by decide +kernel
theorem dX9_isMatter_4 : decode cX9_isMatter 4 = .ok (.iload_n 1, 1) := by decide +kernel
theorem dX9_isMatter_5 : decode cX9_isMatter 5 = .ok (.aload_n 0, 1) := by decide +kernel
theorem dX9_isMatter_6 : decode cX9_isMatter 6 = .ok (.getfield 94, 3) := by decide +kernel
theorem dX9_isMatter_9 : decode cX9_isMatter 9 = .ok (.if_icmp .ge 7, 3) := by decide +kernel
theorem dX9_isMatter_12 : decode cX9_isMatter 12 = .ok (.iconst 1, 1) := by decide +kernel
theorem dX9_isMatter_13 : decode cX9_isMatter 13 = .ok (.goto 4, 3) := by decide +kernel
theorem dX9_isMatter_16 : decode cX9_isMatter 16 = .ok (.iconst 0, 1) := by decide +kernel
theorem dX9_isMatter_17 : decode cX9_isMatter 17 = .ok (.ireturn, 1) := by decide +kernel
theorem dX9_isCode_0 : decode cX9_isCode 0 = .ok (.aload_n 0, 1) := by decide +kernel
theorem dX9_isCode_1 : decode cX9_isCode 1 = .ok (.getfield 97, 3) := by decide +kernel
theorem dX9_isCode_4 : decode cX9_isCode 4 = .ok (.iload_n 2, 1) := by decide +kernel
theorem dX9_isCode_5 : decode cX9_isCode 5 = .ok (.if_icmp .ge 20, 3) := by decide +kernel
theorem dX9_isCode_8 : decode cX9_isCode 8 = .ok (.aload_n 0, 1) := by decide +kernel
theorem dX9_isCode_9 : decode cX9_isCode 9 = .ok (.getfield 16, 3) := by decide +kernel
theorem dX9_isCode_12 : decode cX9_isCode 12 = .ok (.aload_n 0, 1) := by decide +kernel
theorem dX9_isCode_13 : decode cX9_isCode 13 = .ok (.getfield 97, 3) := by decide +kernel
theorem dX9_isCode_16 : decode cX9_isCode 16 = .ok (.iaload, 1) := by decide +kernel
theorem dX9_isCode_17 : decode cX9_isCode 17 = .ok (.iload_n 1, 1) := by decide +kernel
theorem dX9_isCode_18 : decode cX9_isCode 18 = .ok (.if_icmp .ne 7, 3) := by decide +kernel
theorem dX9_isCode_21 : decode cX9_isCode 21 = .ok (.iconst 1, 1) := by decide +kernel
theorem dX9_isCode_22 : decode cX9_isCode 22 = .ok (.goto 4, 3) := by decide +kernel
theorem dX9_isCode_25 : decode cX9_isCode 25 = .ok (.iconst 0, 1) := by decide +kernel
theorem dX9_isCode_26 : decode cX9_isCode 26 = .ok (.ireturn, 1) := by decide +kernel
theorem dX9_town_0 : decode cX9_town 0 = .ok (.aload_n 0, 1) := by decide +kernel
theorem dX9_town_1 : decode cX9_town 1 = .ok (.iconst 0, 1) := by decide +kernel
theorem dX9_town_2 : decode cX9_town 2 = .ok (.putfield 81, 3) := by decide +kernel
theorem dX9_town_5 : decode cX9_town 5 = .ok (.iload_n 1, 1) := by decide +kernel
theorem dX9_town_6 : decode cX9_town 6 = .ok (.invokestatic 100, 3) := by decide +kernel
theorem dX9_town_9 : decode cX9_town 9 = .ok (.ifCond .ne 5, 3) := by decide +kernel
theorem dX9_town_12 : decode cX9_town 12 = .ok (.iconst (-1), 1) := by decide +kernel
theorem dX9_town_13 : decode cX9_town 13 = .ok (.ireturn, 1) := by decide +kernel
theorem dX9_town_14 : decode cX9_town 14 = .ok (.iload_n 2, 1) := by decide +kernel
theorem dX9_town_15 : decode cX9_town 15 = .ok (.invokestatic 104, 3) := by decide +kernel
theorem dX9_town_18 : decode cX9_town 18 = .ok (.ifCond .ne 6, 3) := by decide +kernel
theorem dX9_town_21 : decode cX9_town 21 = .ok (.bipush (-2), 2) := by decide +kernel
theorem dX9_town_23 : decode cX9_town 23 = .ok (.ireturn, 1) := by decide +kernel
theorem dX9_town_24 : decode cX9_town 24 = .ok (.aload_n 0, 1) := by decide +kernel
theorem dX9_town_25 : decode cX9_town 25 = .ok (.iload_n 1, 1) := by decide +kernel
theorem dX9_town_26 : decode cX9_town 26 = .ok (.iload_n 2, 1) := by decide +kernel
theorem dX9_town_27 : decode cX9_town 27 = .ok (.iload_n 3, 1) := by decide +kernel
theorem dX9_town_28 : decode cX9_town 28 = .ok (.iload 4, 2) := by decide +kernel
theorem dX9_town_30 : decode cX9_town 30 = .ok (.invokevirtual 107, 3) := by decide +kernel
theorem dX9_town_33 : decode cX9_town 33 = .ok (.istore 5, 2) := by decide +kernel
theorem dX9_town_35 : decode cX9_town 35 = .ok (.iload 5, 2) := by decide +kernel
theorem dX9_town_37 : decode cX9_town 37 = .ok (.ifCond .eq 10, 3) := by decide +kernel
theorem dX9_town_40 : decode cX9_town 40 = .ok (.aload_n 0, 1) := by decide +kernel
theorem dX9_town_41 : decode cX9_town 41 = .ok (.iload 5, 2) := by decide +kernel
theorem dX9_town_43 : decode cX9_town 43 = .ok (.invokevirtual 111, 3) := by decide +kernel
theorem dX9_town_46 : decode cX9_town 46 = .ok (.ireturn, 1) := by decide +kernel
theorem dX9_town_47 : decode cX9_town 47 = .ok (.bipush 80, 2) := by decide +kernel
theorem dX9_town_49 : decode cX9_town 49 = .ok (.iload_n 1, 1) := by decide +kernel
theorem dX9_town_50 : decode cX9_town 50 = .ok (.imul, 1) := by decide +kernel
theorem dX9_town_51 : decode cX9_town 51 = .ok (.iload_n 3, 1) := by decide +kernel
theorem dX9_town_52 : decode cX9_town 52 = .ok (.iadd, 1) := by decide +kernel
theorem dX9_town_53 : decode cX9_town 53 = .ok (.istore 6, 2) := by decide +kernel
theorem dX9_town_55 : decode cX9_town 55 = .ok (.aload_n 0, 1) := by decide +kernel
theorem dX9_town_56 : decode cX9_town 56 = .ok (.iload 6, 2) := by decide +kernel
theorem dX9_town_58 : decode cX9_town 58 = .ok (.putfield 97, 3) := by decide +kernel
theorem dX9_town_61 : decode cX9_town 61 = .ok (.aload_n 0, 1) := by decide +kernel
theorem dX9_town_62 : decode cX9_town 62 = .ok (.iload 6, 2) := by decide +kernel
theorem dX9_town_64 : decode cX9_town 64 = .ok (.iload 4, 2) := by decide +kernel
theorem dX9_town_66 : decode cX9_town 66 = .ok (.iadd, 1) := by decide +kernel
theorem dX9_town_67 : decode cX9_town 67 = .ok (.invokevirtual 115, 3) := by decide +kernel
theorem dX9_town_70 : decode cX9_town 70 = .ok (.ifCond .ne 14, 3) := by decide +kernel
theorem dX9_town_73 : decode cX9_town 73 = .ok (.bipush (-100), 2) := by decide +kernel
theorem dX9_town_75 : decode cX9_town 75 = .ok (.aload_n 0, 1) := by decide +kernel
theorem dX9_town_76 : decode cX9_town 76 = .ok (.getfield 97, 3) := by decide +kernel
theorem dX9_town_79 : decode cX9_town 79 = .ok (.iload 6, 2) := by decide +kernel
theorem dX9_town_81 : decode cX9_town 81 = .ok (.isub, 1) := by decide +kernel
theorem dX9_town_82 : decode cX9_town 82 = .ok (.isub, 1) := by decide +kernel
theorem dX9_town_83 : decode cX9_town 83 = .ok (.ireturn, 1) := by decide +kernel
theorem dX9_town_84 : decode cX9_town 84 = .ok (.aload_n 0, 1) := by decide +kernel
theorem dX9_town_85 : decode cX9_town 85 = .ok (.aload_n 0, 1) := by decide +kernel
theorem dX9_town_86 : decode cX9_town 86 = .ok (.getfield 118, 3) := by decide +kernel
theorem dX9_town_89 : decode cX9_town 89 = .ok (.putfield 91, 3) := by decide +kernel
theorem dX9_town_92 : decode cX9_town 92 = .ok (.aload_n 0, 1) := by decide +kernel
theorem dX9_town_93 : decode cX9_town 93 = .ok (.aload_n 0, 1) := by decide +kernel
theorem dX9_town_94 : decode cX9_town 94 = .ok (.getfield 121, 3) := by decide +kernel
theorem dX9_town_97 : decode cX9_town 97 = .ok (.putfield 94, 3) := by decide +kernel
theorem dX9_town_100 : decode cX9_town 100 = .ok (.iconst 0, 1) := by decide +kernel
theorem dX9_town_101 : decode cX9_town 101 = .ok (.istore 7, 2) := by decide +kernel
theorem dX9_town_103 : decode cX9_town 103 = .ok (.iload 7, 2) := by decide +kernel
theorem dX9_town_105 : decode cX9_town 105 = .ok (.aload_n 0, 1) := by decide +kernel
theorem dX9_town_106 : decode cX9_town 106 = .ok (.getfield 91, 3) := by decide +kernel
theorem dX9_town_109 : decode cX9_town 109 = .ok (.if_icmp .ge 37, 3) := by decide +kernel
theorem dX9_town_112 : decode cX9_town 112 = .ok (.aload_n 0, 1) := by decide +kernel
theorem dX9_town_113 : decode cX9_town 113 = .ok (.getfield 19, 3) := by decide +kernel
theorem dX9_town_116 : decode cX9_town 116 = .ok (.iload 7, 2) := by decide +kernel
theorem dX9_town_118 : decode cX9_town 118 = .ok (.aload_n 0, 1) := by decide +kernel
theorem dX9_town_119 : decode cX9_town 119 = .ok (.getfield 28, 3) := by decide +kernel
theorem dX9_town_122 : decode cX9_town 122 = .ok (.iload 7, 2) := by decide +kernel
theorem dX9_town_124 : decode cX9_town 124 = .ok (.iaload, 1) := by decide +kernel
theorem dX9_town_125 : decode cX9_town 125 = .ok (.iastore, 1) := by decide +kernel
theorem dX9_town_126 : decode cX9_town 126 = .ok (.aload_n 0, 1) := by decide +kernel
theorem dX9_town_127 : decode cX9_town 127 = .ok (.getfield 22, 3) := by decide +kernel
theorem dX9_town_130 : decode cX9_town 130 = .ok (.iload 7, 2) := by decide +kernel
theorem dX9_town_132 : decode cX9_town 132 = .ok (.aload_n 0, 1) := by decide +kernel
theorem dX9_town_133 : decode cX9_town 133 = .ok (.getfield 31, 3) := by decide +kernel
theorem dX9_town_136 : decode cX9_town 136 = .ok (.iload 7, 2) := by decide +kernel
theorem dX9_town_138 : decode cX9_town 138 = .ok (.iaload, 1) := by decide +kernel
theorem dX9_town_139 : decode cX9_town 139 = .ok (.iastore, 1) := by decide +kernel
theorem dX9_town_140 : decode cX9_town 140 = .ok (.iinc 7 1, 3) := by decide +kernel
theorem dX9_town_143 : decode cX9_town 143 = .ok (.goto (-40), 3) := by decide +kernel
theorem dX9_town_146 : decode cX9_town 146 = .ok (.aload_n 0, 1) := by decide +kernel
theorem dX9_town_147 : decode cX9_town 147 = .ok (.iconst 0, 1) := by decide +kernel
theorem dX9_town_148 : decode cX9_town 148 = .ok (.putfield 124, 3) := by decide +kernel
theorem dX9_town_151 : decode cX9_town 151 = .ok (.aload_n 0, 1) := by decide +kernel
theorem dX9_town_152 : decode cX9_town 152 = .ok (.iconst 0, 1) := by decide +kernel
theorem dX9_town_153 : decode cX9_town 153 = .ok (.putfield 127, 3) := by decide +kernel
theorem dX9_town_156 : decode cX9_town 156 = .ok (.aload_n 0, 1) := by decide +kernel
theorem dX9_town_157 : decode cX9_town 157 = .ok (.aload_n 0, 1) := by decide +kernel
theorem dX9_town_158 : decode cX9_town 158 = .ok (.getfield 94, 3) := by decide +kernel
theorem dX9_town_161 : decode cX9_town 161 = .ok (.putfield 130, 3) := by decide +kernel
theorem dX9_town_164 : decode cX9_town 164 = .ok (.iconst 0, 1) := by decide +kernel
theorem dX9_town_165 : decode cX9_town 165 = .ok (.istore 7, 2) := by decide +kernel
theorem dX9_town_167 : decode cX9_town 167 = .ok (.iload 7, 2) := by decide +kernel
theorem dX9_town_169 : decode cX9_town 169 = .ok (.aload_n 0, 1) := by decide +kernel
theorem dX9_town_170 : decode cX9_town 170 = .ok (.getfield 94, 3) := by decide +kernel
theorem dX9_town_173 : decode cX9_town 173 = .ok (.if_icmp .ge 18, 3) := by decide +kernel
theorem dX9_town_176 : decode cX9_town 176 = .ok (.aload_n 0, 1) := by decide +kernel
theorem dX9_town_177 : decode cX9_town 177 = .ok (.getfield 25, 3) := by decide +kernel
theorem dX9_town_180 : decode cX9_town 180 = .ok (.iload 7, 2) := by decide +kernel
theorem dX9_town_182 : decode cX9_town 182 = .ok (.iload 7, 2) := by decide +kernel
theorem dX9_town_184 : decode cX9_town 184 = .ok (.iastore, 1) := by decide +kernel
theorem dX9_town_185 : decode cX9_town 185 = .ok (.iinc 7 1, 3) := by decide +kernel
theorem dX9_town_188 : decode cX9_town 188 = .ok (.goto (-21), 3) := by decide +kernel
theorem dX9_town_191 : decode cX9_town 191 = .ok (.aload_n 0, 1) := by decide +kernel
theorem dX9_town_192 : decode cX9_town 192 = .ok (.getfield 91, 3) := by decide +kernel
theorem dX9_town_195 : decode cX9_town 195 = .ok (.ireturn, 1) := by decide +kernel
theorem dX9_readTown_0 : decode cX9_readTown 0 = .ok (.aload_n 0, 1) := by decide +kernel
theorem dX9_readTown_1 : decode cX9_readTown 1 = .ok (.bipush 109, 2) := by decide +kernel
theorem dX9_readTown_3 : decode cX9_readTown 3 = .ok (.iload_n 1, 1) := by decide +kernel
theorem dX9_readTown_4 : decode cX9_readTown 4 = .ok (.invokevirtual 133, 3) := by decide +kernel
theorem dX9_readTown_7 : decode cX9_readTown 7 = .ok (.ifCond .ne 5, 3) := by decide +kernel
theorem dX9_readTown_10 : decode cX9_readTown 10 = .ok (.iconst 0, 1) := by decide +kernel
theorem dX9_readTown_11 : decode cX9_readTown 11 = .ok (.ireturn, 1) := by decide +kernel
theorem dX9_readTown_12 : decode cX9_readTown 12 = .ok (.aload_n 0, 1) := by decide +kernel
theorem dX9_readTown_13 : decode cX9_readTown 13 = .ok (.dup, 1) := by decide +kernel
theorem dX9_readTown_14 : decode cX9_readTown 14 = .ok (.getfield 97, 3) := by decide +kernel
theorem dX9_readTown_17 : decode cX9_readTown 17 = .ok (.iconst 1, 1) := by decide +kernel
theorem dX9_readTown_18 : decode cX9_readTown 18 = .ok (.iadd, 1) := by decide +kernel
theorem dX9_readTown_19 : decode cX9_readTown 19 = .ok (.putfield 97, 3) := by decide +kernel
theorem dX9_readTown_22 : decode cX9_readTown 22 = .ok (.aload_n 0, 1) := by decide +kernel
theorem dX9_readTown_23 : decode cX9_readTown 23 = .ok (.getfield 97, 3) := by decide +kernel
theorem dX9_readTown_26 : decode cX9_readTown 26 = .ok (.iload_n 1, 1) := by decide +kernel
theorem dX9_readTown_27 : decode cX9_readTown 27 = .ok (.if_icmp .ge 22, 3) := by decide +kernel
theorem dX9_readTown_30 : decode cX9_readTown 30 = .ok (.aload_n 0, 1) := by decide +kernel
theorem dX9_readTown_31 : decode cX9_readTown 31 = .ok (.getfield 16, 3) := by decide +kernel
theorem dX9_readTown_34 : decode cX9_readTown 34 = .ok (.aload_n 0, 1) := by decide +kernel
theorem dX9_readTown_35 : decode cX9_readTown 35 = .ok (.getfield 97, 3) := by decide +kernel
theorem dX9_readTown_38 : decode cX9_readTown 38 = .ok (.iaload, 1) := by decide +kernel
theorem dX9_readTown_39 : decode cX9_readTown 39 = .ok (.bipush 49, 2) := by decide +kernel
theorem dX9_readTown_41 : decode cX9_readTown 41 = .ok (.bipush 54, 2) := by decide +kernel
theorem dX9_readTown_43 : decode cX9_readTown 43 = .ok (.invokestatic 87, 3) := by decide +kernel
theorem dX9_readTown_46 : decode cX9_readTown 46 = .ok (.ifCond .ne 5, 3) := by decide +kernel
theorem dX9_readTown_49 : decode cX9_readTown 49 = .ok (.iconst 0, 1) := by decide +kernel
theorem dX9_readTown_50 : decode cX9_readTown 50 = .ok (.ireturn, 1) := by decide +kernel
theorem dX9_readTown_51 : decode cX9_readTown 51 = .ok (.aload_n 0, 1) := by decide +kernel
theorem dX9_readTown_52 : decode cX9_readTown 52 = .ok (.aload_n 0, 1) := by decide +kernel
theorem dX9_readTown_53 : decode cX9_readTown 53 = .ok (.getfield 16, 3) := by decide +kernel
theorem dX9_readTown_56 : decode cX9_readTown 56 = .ok (.aload_n 0, 1) := by decide +kernel
theorem dX9_readTown_57 : decode cX9_readTown 57 = .ok (.getfield 97, 3) := by decide +kernel
theorem dX9_readTown_60 : decode cX9_readTown 60 = .ok (.iaload, 1) := by decide +kernel
theorem dX9_readTown_61 : decode cX9_readTown 61 = .ok (.bipush 48, 2) := by decide +kernel
theorem dX9_readTown_63 : decode cX9_readTown 63 = .ok (.isub, 1) := by decide +kernel
theorem dX9_readTown_64 : decode cX9_readTown 64 = .ok (.putfield 121, 3) := by decide +kernel
theorem dX9_readTown_67 : decode cX9_readTown 67 = .ok (.aload_n 0, 1) := by decide +kernel
theorem dX9_readTown_68 : decode cX9_readTown 68 = .ok (.dup, 1) := by decide +kernel
theorem dX9_readTown_69 : decode cX9_readTown 69 = .ok (.getfield 97, 3) := by decide +kernel
theorem dX9_readTown_72 : decode cX9_readTown 72 = .ok (.iconst 1, 1) := by decide +kernel
theorem dX9_readTown_73 : decode cX9_readTown 73 = .ok (.iadd, 1) := by decide +kernel
theorem dX9_readTown_74 : decode cX9_readTown 74 = .ok (.putfield 97, 3) := by decide +kernel
theorem dX9_readTown_77 : decode cX9_readTown 77 = .ok (.aload_n 0, 1) := by decide +kernel
theorem dX9_readTown_78 : decode cX9_readTown 78 = .ok (.iconst 0, 1) := by decide +kernel
theorem dX9_readTown_79 : decode cX9_readTown 79 = .ok (.putfield 118, 3) := by decide +kernel
theorem dX9_readTown_82 : decode cX9_readTown 82 = .ok (.aload_n 0, 1) := by decide +kernel
theorem dX9_readTown_83 : decode cX9_readTown 83 = .ok (.getfield 118, 3) := by decide +kernel
theorem dX9_readTown_86 : decode cX9_readTown 86 = .ok (.iconst 2, 1) := by decide +kernel
theorem dX9_readTown_87 : decode cX9_readTown 87 = .ok (.if_icmp .lt 11, 3) := by decide +kernel
theorem dX9_readTown_90 : decode cX9_readTown 90 = .ok (.aload_n 0, 1) := by decide +kernel
theorem dX9_readTown_91 : decode cX9_readTown 91 = .ok (.getfield 97, 3) := by decide +kernel
theorem dX9_readTown_94 : decode cX9_readTown 94 = .ok (.iload_n 1, 1) := by decide +kernel
theorem dX9_readTown_95 : decode cX9_readTown 95 = .ok (.if_icmp .ge 44, 3) := by decide +kernel
theorem dX9_readTown_98 : decode cX9_readTown 98 = .ok (.aload_n 0, 1) := by decide +kernel
theorem dX9_readTown_99 : decode cX9_readTown 99 = .ok (.getfield 118, 3) := by decide +kernel
theorem dX9_readTown_102 : decode cX9_readTown 102 = .ok (.bipush 8, 2) := by decide +kernel
theorem dX9_readTown_104 : decode cX9_readTown 104 = .ok (.if_icmp .eq 13, 3) := by decide +kernel
theorem dX9_readTown_107 : decode cX9_readTown 107 = .ok (.aload_n 0, 1) := by decide +kernel
theorem dX9_readTown_108 : decode cX9_readTown 108 = .ok (.bipush 59, 2) := by decide +kernel
theorem dX9_readTown_110 : decode cX9_readTown 110 = .ok (.iload_n 1, 1) := by decide +kernel
theorem dX9_readTown_111 : decode cX9_readTown 111 = .ok (.invokevirtual 133, 3) := by decide +kernel
theorem dX9_readTown_114 : decode cX9_readTown 114 = .ok (.ifCond .ne 5, 3) := by decide +kernel
theorem dX9_readTown_117 : decode cX9_readTown 117 = .ok (.iconst 0, 1) := by decide +kernel
theorem dX9_readTown_118 : decode cX9_readTown 118 = .ok (.ireturn, 1) := by decide +kernel
theorem dX9_readTown_119 : decode cX9_readTown 119 = .ok (.aload_n 0, 1) := by decide +kernel
theorem dX9_readTown_120 : decode cX9_readTown 120 = .ok (.dup, 1) := by decide +kernel
theorem dX9_readTown_121 : decode cX9_readTown 121 = .ok (.getfield 97, 3) := by decide +kernel
theorem dX9_readTown_124 : decode cX9_readTown 124 = .ok (.iconst 1, 1) := by decide +kernel
theorem dX9_readTown_125 : decode cX9_readTown 125 = .ok (.iadd, 1) := by decide +kernel
theorem dX9_readTown_126 : decode cX9_readTown 126 = .ok (.putfield 97, 3) := by decide +kernel
theorem dX9_readTown_129 : decode cX9_readTown 129 = .ok (.aload_n 0, 1) := by decide +kernel
theorem dX9_readTown_130 : decode cX9_readTown 130 = .ok (.iload_n 1, 1) := by decide +kernel
theorem dX9_readTown_131 : decode cX9_readTown 131 = .ok (.invokevirtual 137, 3) := by decide +kernel
theorem dX9_readTown_134 : decode cX9_readTown 134 = .ok (.ifCond .ne (-52), 3) := by decide +kernel
theorem dX9_readTown_137 : decode cX9_readTown 137 = .ok (.iconst 0, 1) := by decide +kernel
theorem dX9_readTown_138 : decode cX9_readTown 138 = .ok (.ireturn, 1) := by decide +kernel
theorem dX9_readTown_139 : decode cX9_readTown 139 = .ok (.iconst 1, 1) := by decide +kernel
theorem dX9_readTown_140 : decode cX9_readTown 140 = .ok (.ireturn, 1) := by decide +kernel
theorem dX9_readOne_0 : decode cX9_readOne 0 = .ok (.aload_n 0, 1) := by decide +kernel
theorem dX9_readOne_1 : decode cX9_readOne 1 = .ok (.bipush 104, 2) := by decide +kernel
theorem dX9_readOne_3 : decode cX9_readOne 3 = .ok (.iload_n 1, 1) := by decide +kernel
theorem dX9_readOne_4 : decode cX9_readOne 4 = .ok (.invokevirtual 133, 3) := by decide +kernel
theorem dX9_readOne_7 : decode cX9_readOne 7 = .ok (.ifCond .eq 16, 3) := by decide +kernel
theorem dX9_readOne_10 : decode cX9_readOne 10 = .ok (.aload_n 0, 1) := by decide +kernel
theorem dX9_readOne_11 : decode cX9_readOne 11 = .ok (.getfield 28, 3) := by decide +kernel
theorem dX9_readOne_14 : decode cX9_readOne 14 = .ok (.aload_n 0, 1) := by decide +kernel
theorem dX9_readOne_15 : decode cX9_readOne 15 = .ok (.getfield 118, 3) := by decide +kernel
theorem dX9_readOne_18 : decode cX9_readOne 18 = .ok (.iconst 0, 1) := by decide +kernel
theorem dX9_readOne_19 : decode cX9_readOne 19 = .ok (.iastore, 1) := by decide +kernel
theorem dX9_readOne_20 : decode cX9_readOne 20 = .ok (.goto 51, 3) := by decide +kernel
theorem dX9_readOne_23 : decode cX9_readOne 23 = .ok (.aload_n 0, 1) := by decide +kernel
theorem dX9_readOne_24 : decode cX9_readOne 24 = .ok (.bipush 102, 2) := by decide +kernel
theorem dX9_readOne_26 : decode cX9_readOne 26 = .ok (.iload_n 1, 1) := by decide +kernel
theorem dX9_readOne_27 : decode cX9_readOne 27 = .ok (.invokevirtual 133, 3) := by decide +kernel
theorem dX9_readOne_30 : decode cX9_readOne 30 = .ok (.ifCond .eq 16, 3) := by decide +kernel
theorem dX9_readOne_33 : decode cX9_readOne 33 = .ok (.aload_n 0, 1) := by decide +kernel
theorem dX9_readOne_34 : decode cX9_readOne 34 = .ok (.getfield 28, 3) := by decide +kernel
theorem dX9_readOne_37 : decode cX9_readOne 37 = .ok (.aload_n 0, 1) := by decide +kernel
theorem dX9_readOne_38 : decode cX9_readOne 38 = .ok (.getfield 118, 3) := by decide +kernel
theorem dX9_readOne_41 : decode cX9_readOne 41 = .ok (.iconst 1, 1) := by decide +kernel
theorem dX9_readOne_42 : decode cX9_readOne 42 = .ok (.iastore, 1) := by decide +kernel
theorem dX9_readOne_43 : decode cX9_readOne 43 = .ok (.goto 28, 3) := by decide +kernel
theorem dX9_readOne_46 : decode cX9_readOne 46 = .ok (.aload_n 0, 1) := by decide +kernel
theorem dX9_readOne_47 : decode cX9_readOne 47 = .ok (.bipush 99, 2) := by decide +kernel
theorem dX9_readOne_49 : decode cX9_readOne 49 = .ok (.iload_n 1, 1) := by decide +kernel
theorem dX9_readOne_50 : decode cX9_readOne 50 = .ok (.invokevirtual 133, 3) := by decide +kernel
theorem dX9_readOne_53 : decode cX9_readOne 53 = .ok (.ifCond .eq 16, 3) := by decide +kernel
theorem dX9_readOne_56 : decode cX9_readOne 56 = .ok (.aload_n 0, 1) := by decide +kernel
theorem dX9_readOne_57 : decode cX9_readOne 57 = .ok (.getfield 28, 3) := by decide +kernel
theorem dX9_readOne_60 : decode cX9_readOne 60 = .ok (.aload_n 0, 1) := by decide +kernel
theorem dX9_readOne_61 : decode cX9_readOne 61 = .ok (.getfield 118, 3) := by decide +kernel
theorem dX9_readOne_64 : decode cX9_readOne 64 = .ok (.iconst 2, 1) := by decide +kernel
theorem dX9_readOne_65 : decode cX9_readOne 65 = .ok (.iastore, 1) := by decide +kernel
theorem dX9_readOne_66 : decode cX9_readOne 66 = .ok (.goto 5, 3) := by decide +kernel
theorem dX9_readOne_69 : decode cX9_readOne 69 = .ok (.iconst 0, 1) := by decide +kernel
theorem dX9_readOne_70 : decode cX9_readOne 70 = .ok (.ireturn, 1) := by decide +kernel
theorem dX9_readOne_71 : decode cX9_readOne 71 = .ok (.aload_n 0, 1) := by decide +kernel
theorem dX9_readOne_72 : decode cX9_readOne 72 = .ok (.dup, 1) := by decide +kernel
theorem dX9_readOne_73 : decode cX9_readOne 73 = .ok (.getfield 97, 3) := by decide +kernel
theorem dX9_readOne_76 : decode cX9_readOne 76 = .ok (.iconst 1, 1) := by decide +kernel
theorem dX9_readOne_77 : decode cX9_readOne 77 = .ok (.iadd, 1) := by decide +kernel
theorem dX9_readOne_78 : decode cX9_readOne 78 = .ok (.putfield 97, 3) := by decide +kernel
theorem dX9_readOne_81 : decode cX9_readOne 81 = .ok (.iconst 0, 1) := by decide +kernel
theorem dX9_readOne_82 : decode cX9_readOne 82 = .ok (.istore_n 2, 1) := by decide +kernel
theorem dX9_readOne_83 : decode cX9_readOne 83 = .ok (.iconst 0, 1) := by decide +kernel
theorem dX9_readOne_84 : decode cX9_readOne 84 = .ok (.istore_n 3, 1) := by decide +kernel
theorem dX9_readOne_85 : decode cX9_readOne 85 = .ok (.iload_n 3, 1) := by decide +kernel
theorem dX9_readOne_86 : decode cX9_readOne 86 = .ok (.aload_n 0, 1) := by decide +kernel
theorem dX9_readOne_87 : decode cX9_readOne 87 = .ok (.getfield 121, 3) := by decide +kernel
theorem dX9_readOne_90 : decode cX9_readOne 90 = .ok (.if_icmp .ge 65, 3) := by decide +kernel
theorem dX9_readOne_93 : decode cX9_readOne 93 = .ok (.aload_n 0, 1) := by decide +kernel
theorem dX9_readOne_94 : decode cX9_readOne 94 = .ok (.bipush 121, 2) := by decide +kernel
theorem dX9_readOne_96 : decode cX9_readOne 96 = .ok (.iload_n 1, 1) := by decide +kernel
theorem dX9_readOne_97 : decode cX9_readOne 97 = .ok (.invokevirtual 133, 3) := by decide +kernel
theorem dX9_readOne_100 : decode cX9_readOne 100 = .ok (.ifCond .ne 15, 3) := by decide +kernel
theorem dX9_readOne_103 : decode cX9_readOne 103 = .ok (.aload_n 0, 1) := by decide +kernel
theorem dX9_readOne_104 : decode cX9_readOne 104 = .ok (.bipush 110, 2) := by decide +kernel
theorem dX9_readOne_106 : decode cX9_readOne 106 = .ok (.iload_n 1, 1) := by decide +kernel
theorem dX9_readOne_107 : decode cX9_readOne 107 = .ok (.invokevirtual 133, 3) := by decide +kernel
theorem dX9_readOne_110 : decode cX9_readOne 110 = .ok (.ifCond .ne 5, 3) := by decide +kernel
theorem dX9_readOne_113 : decode cX9_readOne 113 = .ok (.iconst 0, 1) := by decide +kernel
theorem dX9_readOne_114 : decode cX9_readOne 114 = .ok (.ireturn, 1) := by decide +kernel
theorem dX9_readOne_115 : decode cX9_readOne 115 = .ok (.iload_n 2, 1) := by decide +kernel
theorem dX9_readOne_116 : decode cX9_readOne 116 = .ok (.aload_n 0, 1) := by decide +kernel
theorem dX9_readOne_117 : decode cX9_readOne 117 = .ok (.getfield 16, 3) := by decide +kernel
theorem dX9_readOne_120 : decode cX9_readOne 120 = .ok (.aload_n 0, 1) := by decide +kernel
theorem dX9_readOne_121 : decode cX9_readOne 121 = .ok (.getfield 97, 3) := by decide +kernel
theorem dX9_readOne_124 : decode cX9_readOne 124 = .ok (.iaload, 1) := by decide +kernel
theorem dX9_readOne_125 : decode cX9_readOne 125 = .ok (.bipush 121, 2) := by decide +kernel
theorem dX9_readOne_127 : decode cX9_readOne 127 = .ok (.if_icmp .ne 9, 3) := by decide +kernel
theorem dX9_readOne_130 : decode cX9_readOne 130 = .ok (.iconst 1, 1) := by decide +kernel
theorem dX9_readOne_131 : decode cX9_readOne 131 = .ok (.iload_n 3, 1) := by decide +kernel
theorem dX9_readOne_132 : decode cX9_readOne 132 = .ok (.ishl, 1) := by decide +kernel
theorem dX9_readOne_133 : decode cX9_readOne 133 = .ok (.goto 4, 3) := by decide +kernel
theorem dX9_readOne_136 : decode cX9_readOne 136 = .ok (.iconst 0, 1) := by decide +kernel
theorem dX9_readOne_137 : decode cX9_readOne 137 = .ok (.ior, 1) := by decide +kernel
theorem dX9_readOne_138 : decode cX9_readOne 138 = .ok (.istore_n 2, 1) := by decide +kernel
theorem dX9_readOne_139 : decode cX9_readOne 139 = .ok (.aload_n 0, 1) := by decide +kernel
theorem dX9_readOne_140 : decode cX9_readOne 140 = .ok (.dup, 1) := by decide +kernel
theorem dX9_readOne_141 : decode cX9_readOne 141 = .ok (.getfield 97, 3) := by decide +kernel
theorem dX9_readOne_144 : decode cX9_readOne 144 = .ok (.iconst 1, 1) := by decide +kernel
theorem dX9_readOne_145 : decode cX9_readOne 145 = .ok (.iadd, 1) := by decide +kernel
theorem dX9_readOne_146 : decode cX9_readOne 146 = .ok (.putfield 97, 3) := by decide +kernel
theorem dX9_readOne_149 : decode cX9_readOne 149 = .ok (.iinc 3 1, 3) := by decide +kernel
theorem dX9_readOne_152 : decode cX9_readOne 152 = .ok (.goto (-67), 3) := by decide +kernel
theorem dX9_readOne_155 : decode cX9_readOne 155 = .ok (.aload_n 0, 1) := by decide +kernel
theorem dX9_readOne_156 : decode cX9_readOne 156 = .ok (.getfield 31, 3) := by decide +kernel
theorem dX9_readOne_159 : decode cX9_readOne 159 = .ok (.aload_n 0, 1) := by decide +kernel
theorem dX9_readOne_160 : decode cX9_readOne 160 = .ok (.getfield 118, 3) := by decide +kernel
theorem dX9_readOne_163 : decode cX9_readOne 163 = .ok (.iload_n 2, 1) := by decide +kernel
theorem dX9_readOne_164 : decode cX9_readOne 164 = .ok (.iastore, 1) := by decide +kernel
theorem dX9_readOne_165 : decode cX9_readOne 165 = .ok (.aload_n 0, 1) := by decide +kernel
theorem dX9_readOne_166 : decode cX9_readOne 166 = .ok (.dup, 1) := by decide +kernel
theorem dX9_readOne_167 : decode cX9_readOne 167 = .ok (.getfield 118, 3) := by decide +kernel
theorem dX9_readOne_170 : decode cX9_readOne 170 = .ok (.iconst 1, 1) := by decide +kernel
theorem dX9_readOne_171 : decode cX9_readOne 171 = .ok (.iadd, 1) := by decide +kernel
theorem dX9_readOne_172 : decode cX9_readOne 172 = .ok (.putfield 118, 3) := by decide +kernel
theorem dX9_readOne_175 : decode cX9_readOne 175 = .ok (.iconst 1, 1) := by decide +kernel
theorem dX9_readOne_176 : decode cX9_readOne 176 = .ok (.ireturn, 1) := by decide +kernel
theorem dX9_ofOne_0 : decode cX9_ofOne 0 = .ok (.aload_n 0, 1) := by decide +kernel
theorem dX9_ofOne_1 : decode cX9_ofOne 1 = .ok (.iload_n 1, 1) := by decide +kernel
theorem dX9_ofOne_2 : decode cX9_ofOne 2 = .ok (.invokevirtual 140, 3) := by decide +kernel
theorem dX9_ofOne_5 : decode cX9_ofOne 5 = .ok (.ifCond .ne 5, 3) := by decide +kernel
theorem dX9_ofOne_8 : decode cX9_ofOne 8 = .ok (.iconst (-1), 1) := by decide +kernel
theorem dX9_ofOne_9 : decode cX9_ofOne 9 = .ok (.ireturn, 1) := by decide +kernel
theorem dX9_ofOne_10 : decode cX9_ofOne 10 = .ok (.iload_n 2, 1) := by decide +kernel
theorem dX9_ofOne_11 : decode cX9_ofOne 11 = .ok (.iconst (-1), 1) := by decide +kernel
theorem dX9_ofOne_12 : decode cX9_ofOne 12 = .ok (.if_icmp .ne 12, 3) := by decide +kernel
theorem dX9_ofOne_15 : decode cX9_ofOne 15 = .ok (.aload_n 0, 1) := by decide +kernel
theorem dX9_ofOne_16 : decode cX9_ofOne 16 = .ok (.getfield 19, 3) := by decide +kernel
theorem dX9_ofOne_19 : decode cX9_ofOne 19 = .ok (.iload_n 1, 1) := by decide +kernel
theorem dX9_ofOne_20 : decode cX9_ofOne 20 = .ok (.iaload, 1) := by decide +kernel
theorem dX9_ofOne_21 : decode cX9_ofOne 21 = .ok (.goto 26, 3) := by decide +kernel
theorem dX9_ofOne_24 : decode cX9_ofOne 24 = .ok (.aload_n 0, 1) := by decide +kernel
theorem dX9_ofOne_25 : decode cX9_ofOne 25 = .ok (.iload_n 2, 1) := by decide +kernel
theorem dX9_ofOne_26 : decode cX9_ofOne 26 = .ok (.invokevirtual 143, 3) := by decide +kernel
theorem dX9_ofOne_29 : decode cX9_ofOne 29 = .ok (.ifCond .eq 16, 3) := by decide +kernel
theorem dX9_ofOne_32 : decode cX9_ofOne 32 = .ok (.aload_n 0, 1) := by decide +kernel
theorem dX9_ofOne_33 : decode cX9_ofOne 33 = .ok (.getfield 22, 3) := by decide +kernel
theorem dX9_ofOne_36 : decode cX9_ofOne 36 = .ok (.iload_n 1, 1) := by decide +kernel
theorem dX9_ofOne_37 : decode cX9_ofOne 37 = .ok (.iaload, 1) := by decide +kernel
theorem dX9_ofOne_38 : decode cX9_ofOne 38 = .ok (.iload_n 2, 1) := by decide +kernel
theorem dX9_ofOne_39 : decode cX9_ofOne 39 = .ok (.ishr, 1) := by decide +kernel
theorem dX9_ofOne_40 : decode cX9_ofOne 40 = .ok (.iconst 1, 1) := by decide +kernel
theorem dX9_ofOne_41 : decode cX9_ofOne 41 = .ok (.iand, 1) := by decide +kernel
theorem dX9_ofOne_42 : decode cX9_ofOne 42 = .ok (.goto 5, 3) := by decide +kernel
theorem dX9_ofOne_45 : decode cX9_ofOne 45 = .ok (.bipush (-2), 2) := by decide +kernel
theorem dX9_ofOne_47 : decode cX9_ofOne 47 = .ok (.ireturn, 1) := by decide +kernel
theorem dX9_wish_0 : decode cX9_wish 0 = .ok (.aload_n 0, 1) := by decide +kernel
theorem dX9_wish_1 : decode cX9_wish 1 = .ok (.iload_n 1, 1) := by decide +kernel
theorem dX9_wish_2 : decode cX9_wish 2 = .ok (.invokevirtual 140, 3) := by decide +kernel
theorem dX9_wish_5 : decode cX9_wish 5 = .ok (.ifCond .eq 11, 3) := by decide +kernel
theorem dX9_wish_8 : decode cX9_wish 8 = .ok (.aload_n 0, 1) := by decide +kernel
theorem dX9_wish_9 : decode cX9_wish 9 = .ok (.iload_n 2, 1) := by decide +kernel
theorem dX9_wish_10 : decode cX9_wish 10 = .ok (.invokevirtual 143, 3) := by decide +kernel
theorem dX9_wish_13 : decode cX9_wish 13 = .ok (.ifCond .ne 5, 3) := by decide +kernel
theorem dX9_wish_16 : decode cX9_wish 16 = .ok (.iconst (-1), 1) := by decide +kernel
theorem dX9_wish_17 : decode cX9_wish 17 = .ok (.ireturn, 1) := by decide +kernel
theorem dX9_wish_18 : decode cX9_wish 18 = .ok (.aload_n 0, 1) := by decide +kernel
theorem dX9_wish_19 : decode cX9_wish 19 = .ok (.getfield 22, 3) := by decide +kernel
theorem dX9_wish_22 : decode cX9_wish 22 = .ok (.iload_n 1, 1) := by decide +kernel
theorem dX9_wish_23 : decode cX9_wish 23 = .ok (.iaload, 1) := by decide +kernel
theorem dX9_wish_24 : decode cX9_wish 24 = .ok (.istore 4, 2) := by decide +kernel
theorem dX9_wish_26 : decode cX9_wish 26 = .ok (.iconst 1, 1) := by decide +kernel
theorem dX9_wish_27 : decode cX9_wish 27 = .ok (.iload_n 2, 1) := by decide +kernel
theorem dX9_wish_28 : decode cX9_wish 28 = .ok (.ishl, 1) := by decide +kernel
theorem dX9_wish_29 : decode cX9_wish 29 = .ok (.istore 5, 2) := by decide +kernel
theorem dX9_wish_31 : decode cX9_wish 31 = .ok (.aload_n 0, 1) := by decide +kernel
theorem dX9_wish_32 : decode cX9_wish 32 = .ok (.getfield 22, 3) := by decide +kernel
theorem dX9_wish_35 : decode cX9_wish 35 = .ok (.iload_n 1, 1) := by decide +kernel
theorem dX9_wish_36 : decode cX9_wish 36 = .ok (.iload_n 3, 1) := by decide +kernel
theorem dX9_wish_37 : decode cX9_wish 37 = .ok (.ifCond .eq 11, 3) := by decide +kernel
theorem dX9_wish_40 : decode cX9_wish 40 = .ok (.iload 4, 2) := by decide +kernel
theorem dX9_wish_42 : decode cX9_wish 42 = .ok (.iload 5, 2) := by decide +kernel
theorem dX9_wish_44 : decode cX9_wish 44 = .ok (.ior, 1) := by decide +kernel
theorem dX9_wish_45 : decode cX9_wish 45 = .ok (.goto 11, 3) := by decide +kernel
theorem dX9_wish_48 : decode cX9_wish 48 = .ok (.iload 4, 2) := by decide +kernel
theorem dX9_wish_50 : decode cX9_wish 50 = .ok (.bipush 63, 2) := by decide +kernel
theorem dX9_wish_52 : decode cX9_wish 52 = .ok (.iload 5, 2) := by decide +kernel
theorem dX9_wish_54 : decode cX9_wish 54 = .ok (.isub, 1) := by decide +kernel
theorem dX9_wish_55 : decode cX9_wish 55 = .ok (.iand, 1) := by decide +kernel
theorem dX9_wish_56 : decode cX9_wish 56 = .ok (.iastore, 1) := by decide +kernel
theorem dX9_wish_57 : decode cX9_wish 57 = .ok (.aload_n 0, 1) := by decide +kernel
theorem dX9_wish_58 : decode cX9_wish 58 = .ok (.getfield 22, 3) := by decide +kernel
theorem dX9_wish_61 : decode cX9_wish 61 = .ok (.iload_n 1, 1) := by decide +kernel
theorem dX9_wish_62 : decode cX9_wish 62 = .ok (.iaload, 1) := by decide +kernel
theorem dX9_wish_63 : decode cX9_wish 63 = .ok (.iload 4, 2) := by decide +kernel
theorem dX9_wish_65 : decode cX9_wish 65 = .ok (.if_icmp .ne 7, 3) := by decide +kernel
theorem dX9_wish_68 : decode cX9_wish 68 = .ok (.iconst 0, 1) := by decide +kernel
theorem dX9_wish_69 : decode cX9_wish 69 = .ok (.goto 4, 3) := by decide +kernel
theorem dX9_wish_72 : decode cX9_wish 72 = .ok (.iconst 1, 1) := by decide +kernel
theorem dX9_wish_73 : decode cX9_wish 73 = .ok (.ireturn, 1) := by decide +kernel
theorem dX9_measure_0 : decode cX9_measure 0 = .ok (.iload_n 1, 1) := by decide +kernel
theorem dX9_measure_1 : decode cX9_measure 1 = .ok (.iconst 0, 1) := by decide +kernel
theorem dX9_measure_2 : decode cX9_measure 2 = .ok (.iconst 3, 1) := by decide +kernel
theorem dX9_measure_3 : decode cX9_measure 3 = .ok (.invokestatic 87, 3) := by decide +kernel
theorem dX9_measure_6 : decode cX9_measure 6 = .ok (.ifCond .ne 6, 3) := by decide +kernel
theorem dX9_measure_9 : decode cX9_measure 9 = .ok (.bipush (-2), 2) := by decide +kernel
theorem dX9_measure_11 : decode cX9_measure 11 = .ok (.ireturn, 1) := by decide +kernel
theorem dX9_measure_12 : decode cX9_measure 12 = .ok (.aload_n 0, 1) := by decide +kernel
theorem dX9_measure_13 : decode cX9_measure 13 = .ok (.invokevirtual 146, 3) := by decide +kernel
theorem dX9_measure_16 : decode cX9_measure 16 = .ok (.ifCond .ne 6, 3) := by decide +kernel
theorem dX9_measure_19 : decode cX9_measure 19 = .ok (.bipush (-3), 2) := by decide +kernel
theorem dX9_measure_21 : decode cX9_measure 21 = .ok (.ireturn, 1) := by decide +kernel
theorem dX9_measure_22 : decode cX9_measure 22 = .ok (.aload_n 0, 1) := by decide +kernel
theorem dX9_measure_23 : decode cX9_measure 23 = .ok (.getfield 124, 3) := by decide +kernel
theorem dX9_measure_26 : decode cX9_measure 26 = .ok (.istore_n 2, 1) := by decide +kernel
theorem dX9_measure_27 : decode cX9_measure 27 = .ok (.aload_n 0, 1) := by decide +kernel
theorem dX9_measure_28 : decode cX9_measure 28 = .ok (.iload_n 1, 1) := by decide +kernel
theorem dX9_measure_29 : decode cX9_measure 29 = .ok (.putfield 124, 3) := by decide +kernel
theorem dX9_measure_32 : decode cX9_measure 32 = .ok (.iload_n 2, 1) := by decide +kernel
theorem dX9_measure_33 : decode cX9_measure 33 = .ok (.ireturn, 1) := by decide +kernel
theorem dX9_law_0 : decode cX9_law 0 = .ok (.iload_n 1, 1) := by decide +kernel
theorem dX9_law_1 : decode cX9_law 1 = .ok (.iconst 0, 1) := by decide +kernel
theorem dX9_law_2 : decode cX9_law 2 = .ok (.iconst 2, 1) := by decide +kernel
theorem dX9_law_3 : decode cX9_law 3 = .ok (.invokestatic 87, 3) := by decide +kernel
theorem dX9_law_6 : decode cX9_law 6 = .ok (.ifCond .ne 6, 3) := by decide +kernel
theorem dX9_law_9 : decode cX9_law 9 = .ok (.bipush (-2), 2) := by decide +kernel
theorem dX9_law_11 : decode cX9_law 11 = .ok (.ireturn, 1) := by decide +kernel
theorem dX9_law_12 : decode cX9_law 12 = .ok (.aload_n 0, 1) := by decide +kernel
theorem dX9_law_13 : decode cX9_law 13 = .ok (.invokevirtual 146, 3) := by decide +kernel
theorem dX9_law_16 : decode cX9_law 16 = .ok (.ifCond .ne 6, 3) := by decide +kernel
theorem dX9_law_19 : decode cX9_law 19 = .ok (.bipush (-3), 2) := by decide +kernel
theorem dX9_law_21 : decode cX9_law 21 = .ok (.ireturn, 1) := by decide +kernel
theorem dX9_law_22 : decode cX9_law 22 = .ok (.aload_n 0, 1) := by decide +kernel
theorem dX9_law_23 : decode cX9_law 23 = .ok (.getfield 127, 3) := by decide +kernel
theorem dX9_law_26 : decode cX9_law 26 = .ok (.istore_n 2, 1) := by decide +kernel
theorem dX9_law_27 : decode cX9_law 27 = .ok (.aload_n 0, 1) := by decide +kernel
theorem dX9_law_28 : decode cX9_law 28 = .ok (.iload_n 1, 1) := by decide +kernel
theorem dX9_law_29 : decode cX9_law 29 = .ok (.putfield 127, 3) := by decide +kernel
theorem dX9_law_32 : decode cX9_law 32 = .ok (.iload_n 2, 1) := by decide +kernel
theorem dX9_law_33 : decode cX9_law 33 = .ok (.ireturn, 1) := by decide +kernel
theorem dX9_agenda_0 : decode cX9_agenda 0 = .ok (.aload_n 0, 1) := by decide +kernel
theorem dX9_agenda_1 : decode cX9_agenda 1 = .ok (.iconst 0, 1) := by decide +kernel
theorem dX9_agenda_2 : decode cX9_agenda 2 = .ok (.putfield 81, 3) := by decide +kernel
theorem dX9_agenda_5 : decode cX9_agenda 5 = .ok (.iload_n 1, 1) := by decide +kernel
theorem dX9_agenda_6 : decode cX9_agenda 6 = .ok (.invokestatic 100, 3) := by decide +kernel
theorem dX9_agenda_9 : decode cX9_agenda 9 = .ok (.ifCond .ne 5, 3) := by decide +kernel
theorem dX9_agenda_12 : decode cX9_agenda 12 = .ok (.iconst (-1), 1) := by decide +kernel
theorem dX9_agenda_13 : decode cX9_agenda 13 = .ok (.ireturn, 1) := by decide +kernel
theorem dX9_agenda_14 : decode cX9_agenda 14 = .ok (.iload_n 2, 1) := by decide +kernel
theorem dX9_agenda_15 : decode cX9_agenda 15 = .ok (.invokestatic 104, 3) := by decide +kernel
theorem dX9_agenda_18 : decode cX9_agenda 18 = .ok (.ifCond .ne 6, 3) := by decide +kernel
theorem dX9_agenda_21 : decode cX9_agenda 21 = .ok (.bipush (-2), 2) := by decide +kernel
theorem dX9_agenda_23 : decode cX9_agenda 23 = .ok (.ireturn, 1) := by decide +kernel
theorem dX9_agenda_24 : decode cX9_agenda 24 = .ok (.aload_n 0, 1) := by decide +kernel
theorem dX9_agenda_25 : decode cX9_agenda 25 = .ok (.iload_n 1, 1) := by decide +kernel
theorem dX9_agenda_26 : decode cX9_agenda 26 = .ok (.iload_n 2, 1) := by decide +kernel
theorem dX9_agenda_27 : decode cX9_agenda 27 = .ok (.iload_n 3, 1) := by decide +kernel
theorem dX9_agenda_28 : decode cX9_agenda 28 = .ok (.iload 4, 2) := by decide +kernel
theorem dX9_agenda_30 : decode cX9_agenda 30 = .ok (.invokevirtual 107, 3) := by decide +kernel
theorem dX9_agenda_33 : decode cX9_agenda 33 = .ok (.istore 5, 2) := by decide +kernel
theorem dX9_agenda_35 : decode cX9_agenda 35 = .ok (.iload 5, 2) := by decide +kernel
theorem dX9_agenda_37 : decode cX9_agenda 37 = .ok (.ifCond .eq 10, 3) := by decide +kernel
theorem dX9_agenda_40 : decode cX9_agenda 40 = .ok (.aload_n 0, 1) := by decide +kernel
theorem dX9_agenda_41 : decode cX9_agenda 41 = .ok (.iload 5, 2) := by decide +kernel
theorem dX9_agenda_43 : decode cX9_agenda 43 = .ok (.invokevirtual 111, 3) := by decide +kernel
theorem dX9_agenda_46 : decode cX9_agenda 46 = .ok (.ireturn, 1) := by decide +kernel
theorem dX9_agenda_47 : decode cX9_agenda 47 = .ok (.aload_n 0, 1) := by decide +kernel
theorem dX9_agenda_48 : decode cX9_agenda 48 = .ok (.invokevirtual 146, 3) := by decide +kernel
theorem dX9_agenda_51 : decode cX9_agenda 51 = .ok (.ifCond .ne 6, 3) := by decide +kernel
theorem dX9_agenda_54 : decode cX9_agenda 54 = .ok (.bipush (-3), 2) := by decide +kernel
theorem dX9_agenda_56 : decode cX9_agenda 56 = .ok (.ireturn, 1) := by decide +kernel
theorem dX9_agenda_57 : decode cX9_agenda 57 = .ok (.iload 4, 2) := by decide +kernel
theorem dX9_agenda_59 : decode cX9_agenda 59 = .ok (.iconst 1, 1) := by decide +kernel
theorem dX9_agenda_60 : decode cX9_agenda 60 = .ok (.bipush 6, 2) := by decide +kernel
theorem dX9_agenda_62 : decode cX9_agenda 62 = .ok (.invokestatic 87, 3) := by decide +kernel
theorem dX9_agenda_65 : decode cX9_agenda 65 = .ok (.ifCond .ne 6, 3) := by decide +kernel
theorem dX9_agenda_68 : decode cX9_agenda 68 = .ok (.bipush (-2), 2) := by decide +kernel
theorem dX9_agenda_70 : decode cX9_agenda 70 = .ok (.ireturn, 1) := by decide +kernel
theorem dX9_agenda_71 : decode cX9_agenda 71 = .ok (.bipush 80, 2) := by decide +kernel
theorem dX9_agenda_73 : decode cX9_agenda 73 = .ok (.iload_n 1, 1) := by decide +kernel
theorem dX9_agenda_74 : decode cX9_agenda 74 = .ok (.imul, 1) := by decide +kernel
theorem dX9_agenda_75 : decode cX9_agenda 75 = .ok (.iload_n 3, 1) := by decide +kernel
theorem dX9_agenda_76 : decode cX9_agenda 76 = .ok (.iadd, 1) := by decide +kernel
theorem dX9_agenda_77 : decode cX9_agenda 77 = .ok (.istore 6, 2) := by decide +kernel
theorem dX9_agenda_79 : decode cX9_agenda 79 = .ok (.iconst 0, 1) := by decide +kernel
theorem dX9_agenda_80 : decode cX9_agenda 80 = .ok (.istore 7, 2) := by decide +kernel
theorem dX9_agenda_82 : decode cX9_agenda 82 = .ok (.iconst 0, 1) := by decide +kernel
theorem dX9_agenda_83 : decode cX9_agenda 83 = .ok (.istore 8, 2) := by decide +kernel
theorem dX9_agenda_85 : decode cX9_agenda 85 = .ok (.iconst 0, 1) := by decide +kernel
theorem dX9_agenda_86 : decode cX9_agenda 86 = .ok (.istore 9, 2) := by decide +kernel
theorem dX9_agenda_88 : decode cX9_agenda 88 = .ok (.iload 9, 2) := by decide +kernel
theorem dX9_agenda_90 : decode cX9_agenda 90 = .ok (.iload 4, 2) := by decide +kernel
theorem dX9_agenda_92 : decode cX9_agenda 92 = .ok (.if_icmp .ge 76, 3) := by decide +kernel
theorem dX9_agenda_95 : decode cX9_agenda 95 = .ok (.aload_n 0, 1) := by decide +kernel
theorem dX9_agenda_96 : decode cX9_agenda 96 = .ok (.aload_n 0, 1) := by decide +kernel
theorem dX9_agenda_97 : decode cX9_agenda 97 = .ok (.getfield 16, 3) := by decide +kernel
theorem dX9_agenda_100 : decode cX9_agenda 100 = .ok (.iload 6, 2) := by decide +kernel
theorem dX9_agenda_102 : decode cX9_agenda 102 = .ok (.iload 9, 2) := by decide +kernel
theorem dX9_agenda_104 : decode cX9_agenda 104 = .ok (.iadd, 1) := by decide +kernel
theorem dX9_agenda_105 : decode cX9_agenda 105 = .ok (.iaload, 1) := by decide +kernel
theorem dX9_agenda_106 : decode cX9_agenda 106 = .ok (.invokevirtual 143, 3) := by decide +kernel
theorem dX9_agenda_109 : decode cX9_agenda 109 = .ok (.ifCond .ne 5, 3) := by decide +kernel
theorem dX9_agenda_112 : decode cX9_agenda 112 = .ok (.iconst (-1), 1) := by decide +kernel
theorem dX9_agenda_113 : decode cX9_agenda 113 = .ok (.ireturn, 1) := by decide +kernel
theorem dX9_agenda_114 : decode cX9_agenda 114 = .ok (.iload 8, 2) := by decide +kernel
theorem dX9_agenda_116 : decode cX9_agenda 116 = .ok (.ifCond .ne 22, 3) := by decide +kernel
theorem dX9_agenda_119 : decode cX9_agenda 119 = .ok (.iload 7, 2) := by decide +kernel
theorem dX9_agenda_121 : decode cX9_agenda 121 = .ok (.aload_n 0, 1) := by decide +kernel
theorem dX9_agenda_122 : decode cX9_agenda 122 = .ok (.getfield 16, 3) := by decide +kernel
theorem dX9_agenda_125 : decode cX9_agenda 125 = .ok (.iload 6, 2) := by decide +kernel
theorem dX9_agenda_127 : decode cX9_agenda 127 = .ok (.iload 9, 2) := by decide +kernel
theorem dX9_agenda_129 : decode cX9_agenda 129 = .ok (.iadd, 1) := by decide +kernel
theorem dX9_agenda_130 : decode cX9_agenda 130 = .ok (.iaload, 1) := by decide +kernel
theorem dX9_agenda_131 : decode cX9_agenda 131 = .ok (.ishr, 1) := by decide +kernel
theorem dX9_agenda_132 : decode cX9_agenda 132 = .ok (.iconst 1, 1) := by decide +kernel
theorem dX9_agenda_133 : decode cX9_agenda 133 = .ok (.iand, 1) := by decide +kernel
theorem dX9_agenda_134 : decode cX9_agenda 134 = .ok (.iconst 1, 1) := by decide +kernel
theorem dX9_agenda_135 : decode cX9_agenda 135 = .ok (.if_icmp .ne 7, 3) := by decide +kernel
theorem dX9_agenda_138 : decode cX9_agenda 138 = .ok (.iconst 1, 1) := by decide +kernel
theorem dX9_agenda_139 : decode cX9_agenda 139 = .ok (.goto 4, 3) := by decide +kernel
theorem dX9_agenda_142 : decode cX9_agenda 142 = .ok (.iconst 0, 1) := by decide +kernel
theorem dX9_agenda_143 : decode cX9_agenda 143 = .ok (.istore 8, 2) := by decide +kernel
theorem dX9_agenda_145 : decode cX9_agenda 145 = .ok (.iload 7, 2) := by decide +kernel
theorem dX9_agenda_147 : decode cX9_agenda 147 = .ok (.iconst 1, 1) := by decide +kernel
theorem dX9_agenda_148 : decode cX9_agenda 148 = .ok (.aload_n 0, 1) := by decide +kernel
theorem dX9_agenda_149 : decode cX9_agenda 149 = .ok (.getfield 16, 3) := by decide +kernel
theorem dX9_agenda_152 : decode cX9_agenda 152 = .ok (.iload 6, 2) := by decide +kernel
theorem dX9_agenda_154 : decode cX9_agenda 154 = .ok (.iload 9, 2) := by decide +kernel
theorem dX9_agenda_156 : decode cX9_agenda 156 = .ok (.iadd, 1) := by decide +kernel
theorem dX9_agenda_157 : decode cX9_agenda 157 = .ok (.iaload, 1) := by decide +kernel
theorem dX9_agenda_158 : decode cX9_agenda 158 = .ok (.ishl, 1) := by decide +kernel
theorem dX9_agenda_159 : decode cX9_agenda 159 = .ok (.ior, 1) := by decide +kernel
theorem dX9_agenda_160 : decode cX9_agenda 160 = .ok (.istore 7, 2) := by decide +kernel
theorem dX9_agenda_162 : decode cX9_agenda 162 = .ok (.iinc 9 1, 3) := by decide +kernel
theorem dX9_agenda_165 : decode cX9_agenda 165 = .ok (.goto (-77), 3) := by decide +kernel
theorem dX9_agenda_168 : decode cX9_agenda 168 = .ok (.iload 8, 2) := by decide +kernel
theorem dX9_agenda_170 : decode cX9_agenda 170 = .ok (.ifCond .eq 6, 3) := by decide +kernel
theorem dX9_agenda_173 : decode cX9_agenda 173 = .ok (.bipush (-2), 2) := by decide +kernel
theorem dX9_agenda_175 : decode cX9_agenda 175 = .ok (.ireturn, 1) := by decide +kernel
theorem dX9_agenda_176 : decode cX9_agenda 176 = .ok (.iconst 0, 1) := by decide +kernel
theorem dX9_agenda_177 : decode cX9_agenda 177 = .ok (.istore 9, 2) := by decide +kernel
theorem dX9_agenda_179 : decode cX9_agenda 179 = .ok (.iload 9, 2) := by decide +kernel
theorem dX9_agenda_181 : decode cX9_agenda 181 = .ok (.iload 4, 2) := by decide +kernel
theorem dX9_agenda_183 : decode cX9_agenda 183 = .ok (.if_icmp .ge 26, 3) := by decide +kernel
theorem dX9_agenda_186 : decode cX9_agenda 186 = .ok (.aload_n 0, 1) := by decide +kernel
theorem dX9_agenda_187 : decode cX9_agenda 187 = .ok (.getfield 25, 3) := by decide +kernel
theorem dX9_agenda_190 : decode cX9_agenda 190 = .ok (.iload 9, 2) := by decide +kernel
theorem dX9_agenda_192 : decode cX9_agenda 192 = .ok (.aload_n 0, 1) := by decide +kernel
theorem dX9_agenda_193 : decode cX9_agenda 193 = .ok (.getfield 16, 3) := by decide +kernel
theorem dX9_agenda_196 : decode cX9_agenda 196 = .ok (.iload 6, 2) := by decide +kernel
theorem dX9_agenda_198 : decode cX9_agenda 198 = .ok (.iload 9, 2) := by decide +kernel
theorem dX9_agenda_200 : decode cX9_agenda 200 = .ok (.iadd, 1) := by decide +kernel
theorem dX9_agenda_201 : decode cX9_agenda 201 = .ok (.iaload, 1) := by decide +kernel
theorem dX9_agenda_202 : decode cX9_agenda 202 = .ok (.iastore, 1) := by decide +kernel
theorem dX9_agenda_203 : decode cX9_agenda 203 = .ok (.iinc 9 1, 3) := by decide +kernel
theorem dX9_agenda_206 : decode cX9_agenda 206 = .ok (.goto (-27), 3) := by decide +kernel
theorem dX9_agenda_209 : decode cX9_agenda 209 = .ok (.aload_n 0, 1) := by decide +kernel
theorem dX9_agenda_210 : decode cX9_agenda 210 = .ok (.iload 4, 2) := by decide +kernel
theorem dX9_agenda_212 : decode cX9_agenda 212 = .ok (.putfield 130, 3) := by decide +kernel
theorem dX9_agenda_215 : decode cX9_agenda 215 = .ok (.iload 4, 2) := by decide +kernel
theorem dX9_agenda_217 : decode cX9_agenda 217 = .ok (.ireturn, 1) := by decide +kernel
theorem dX9_everyone_0 : decode cX9_everyone 0 = .ok (.iconst 1, 1) := by decide +kernel
theorem dX9_everyone_1 : decode cX9_everyone 1 = .ok (.aload_n 0, 1) := by decide +kernel
theorem dX9_everyone_2 : decode cX9_everyone 2 = .ok (.getfield 91, 3) := by decide +kernel
theorem dX9_everyone_5 : decode cX9_everyone 5 = .ok (.ishl, 1) := by decide +kernel
theorem dX9_everyone_6 : decode cX9_everyone 6 = .ok (.iconst 1, 1) := by decide +kernel
theorem dX9_everyone_7 : decode cX9_everyone 7 = .ok (.isub, 1) := by decide +kernel
theorem dX9_everyone_8 : decode cX9_everyone 8 = .ok (.ireturn, 1) := by decide +kernel
theorem dX9_layHall_0 : decode cX9_layHall 0 = .ok (.aload_n 0, 1) := by decide +kernel
theorem dX9_layHall_1 : decode cX9_layHall 1 = .ok (.aload_n 0, 1) := by decide +kernel
theorem dX9_layHall_2 : decode cX9_layHall 2 = .ok (.invokevirtual 150, 3) := by decide +kernel
theorem dX9_layHall_5 : decode cX9_layHall 5 = .ok (.putfield 154, 3) := by decide +kernel
theorem dX9_layHall_8 : decode cX9_layHall 8 = .ok (.aload_n 0, 1) := by decide +kernel
theorem dX9_layHall_9 : decode cX9_layHall 9 = .ok (.iconst 0, 1) := by decide +kernel
theorem dX9_layHall_10 : decode cX9_layHall 10 = .ok (.putfield 157, 3) := by decide +kernel
theorem dX9_layHall_13 : decode cX9_layHall 13 = .ok (.aload_n 0, 1) := by decide +kernel
theorem dX9_layHall_14 : decode cX9_layHall 14 = .ok (.aload_n 0, 1) := by decide +kernel
theorem dX9_layHall_15 : decode cX9_layHall 15 = .ok (.getfield 91, 3) := by decide +kernel
theorem dX9_layHall_18 : decode cX9_layHall 18 = .ok (.iconst 1, 1) := by decide +kernel
theorem dX9_layHall_19 : decode cX9_layHall 19 = .ok (.isub, 1) := by decide +kernel
theorem dX9_layHall_20 : decode cX9_layHall 20 = .ok (.putfield 161, 3) := by decide +kernel
theorem dX9_layHall_23 : decode cX9_layHall 23 = .ok (.aload_n 0, 1) := by decide +kernel
theorem dX9_layHall_24 : decode cX9_layHall 24 = .ok (.aload_n 0, 1) := by decide +kernel
theorem dX9_layHall_25 : decode cX9_layHall 25 = .ok (.getfield 124, 3) := by decide +kernel
theorem dX9_layHall_28 : decode cX9_layHall 28 = .ok (.putfield 164, 3) := by decide +kernel
theorem dX9_layHall_31 : decode cX9_layHall 31 = .ok (.aload_n 0, 1) := by decide +kernel
theorem dX9_layHall_32 : decode cX9_layHall 32 = .ok (.aload_n 0, 1) := by decide +kernel
theorem dX9_layHall_33 : decode cX9_layHall 33 = .ok (.getfield 127, 3) := by decide +kernel
theorem dX9_layHall_36 : decode cX9_layHall 36 = .ok (.putfield 167, 3) := by decide +kernel
theorem dX9_layHall_39 : decode cX9_layHall 39 = .ok (.return_, 1) := by decide +kernel
theorem dX9_says_0 : decode cX9_says 0 = .ok (.aload_n 0, 1) := by decide +kernel
theorem dX9_says_1 : decode cX9_says 1 = .ok (.getfield 22, 3) := by decide +kernel
theorem dX9_says_4 : decode cX9_says 4 = .ok (.iload_n 1, 1) := by decide +kernel
theorem dX9_says_5 : decode cX9_says 5 = .ok (.iaload, 1) := by decide +kernel
theorem dX9_says_6 : decode cX9_says 6 = .ok (.iload_n 2, 1) := by decide +kernel
theorem dX9_says_7 : decode cX9_says 7 = .ok (.ishr, 1) := by decide +kernel
theorem dX9_says_8 : decode cX9_says 8 = .ok (.iconst 1, 1) := by decide +kernel
theorem dX9_says_9 : decode cX9_says 9 = .ok (.iand, 1) := by decide +kernel
theorem dX9_says_10 : decode cX9_says 10 = .ok (.iconst 1, 1) := by decide +kernel
theorem dX9_says_11 : decode cX9_says 11 = .ok (.if_icmp .ne 7, 3) := by decide +kernel
theorem dX9_says_14 : decode cX9_says 14 = .ok (.iconst 1, 1) := by decide +kernel
theorem dX9_says_15 : decode cX9_says 15 = .ok (.goto 4, 3) := by decide +kernel
theorem dX9_says_18 : decode cX9_says 18 = .ok (.iconst 0, 1) := by decide +kernel
theorem dX9_says_19 : decode cX9_says 19 = .ok (.istore 5, 2) := by decide +kernel
theorem dX9_says_21 : decode cX9_says 21 = .ok (.aload_n 0, 1) := by decide +kernel
theorem dX9_says_22 : decode cX9_says 22 = .ok (.getfield 19, 3) := by decide +kernel
theorem dX9_says_25 : decode cX9_says 25 = .ok (.iload_n 1, 1) := by decide +kernel
theorem dX9_says_26 : decode cX9_says 26 = .ok (.iaload, 1) := by decide +kernel
theorem dX9_says_27 : decode cX9_says 27 = .ok (.ifCond .eq 9, 3) := by decide +kernel
theorem dX9_says_30 : decode cX9_says 30 = .ok (.iload_n 3, 1) := by decide +kernel
theorem dX9_says_31 : decode cX9_says 31 = .ok (.iload 4, 2) := by decide +kernel
theorem dX9_says_33 : decode cX9_says 33 = .ok (.if_icmp .ne 6, 3) := by decide +kernel
theorem dX9_says_36 : decode cX9_says 36 = .ok (.iload 5, 2) := by decide +kernel
theorem dX9_says_38 : decode cX9_says 38 = .ok (.ireturn, 1) := by decide +kernel
theorem dX9_says_39 : decode cX9_says 39 = .ok (.aload_n 0, 1) := by decide +kernel
theorem dX9_says_40 : decode cX9_says 40 = .ok (.getfield 19, 3) := by decide +kernel
theorem dX9_says_43 : decode cX9_says 43 = .ok (.iload_n 1, 1) := by decide +kernel
theorem dX9_says_44 : decode cX9_says 44 = .ok (.iaload, 1) := by decide +kernel
theorem dX9_says_45 : decode cX9_says 45 = .ok (.iconst 1, 1) := by decide +kernel
theorem dX9_says_46 : decode cX9_says 46 = .ok (.if_icmp .ne 17, 3) := by decide +kernel
theorem dX9_says_49 : decode cX9_says 49 = .ok (.iload_n 3, 1) := by decide +kernel
theorem dX9_says_50 : decode cX9_says 50 = .ok (.iload 4, 2) := by decide +kernel
theorem dX9_says_52 : decode cX9_says 52 = .ok (.if_icmp .le 7, 3) := by decide +kernel
theorem dX9_says_55 : decode cX9_says 55 = .ok (.iconst 1, 1) := by decide +kernel
theorem dX9_says_56 : decode cX9_says 56 = .ok (.goto 18, 3) := by decide +kernel
theorem dX9_says_59 : decode cX9_says 59 = .ok (.iconst 0, 1) := by decide +kernel
theorem dX9_says_60 : decode cX9_says 60 = .ok (.goto 14, 3) := by decide +kernel
theorem dX9_says_63 : decode cX9_says 63 = .ok (.iload_n 3, 1) := by decide +kernel
theorem dX9_says_64 : decode cX9_says 64 = .ok (.iload 4, 2) := by decide +kernel
theorem dX9_says_66 : decode cX9_says 66 = .ok (.if_icmp .ge 7, 3) := by decide +kernel
theorem dX9_says_69 : decode cX9_says 69 = .ok (.iconst 1, 1) := by decide +kernel
theorem dX9_says_70 : decode cX9_says 70 = .ok (.goto 4, 3) := by decide +kernel
theorem dX9_says_73 : decode cX9_says 73 = .ok (.iconst 0, 1) := by decide +kernel
theorem dX9_says_74 : decode cX9_says 74 = .ok (.ireturn, 1) := by decide +kernel
theorem dX9_poll_0 : decode cX9_poll 0 = .ok (.aload_n 0, 1) := by decide +kernel
theorem dX9_poll_1 : decode cX9_poll 1 = .ok (.aload_n 0, 1) := by decide +kernel
theorem dX9_poll_2 : decode cX9_poll 2 = .ok (.getfield 154, 3) := by decide +kernel
theorem dX9_poll_5 : decode cX9_poll 5 = .ok (.putfield 170, 3) := by decide +kernel
theorem dX9_poll_8 : decode cX9_poll 8 = .ok (.aload_n 0, 1) := by decide +kernel
theorem dX9_poll_9 : decode cX9_poll 9 = .ok (.iconst 0, 1) := by decide +kernel
theorem dX9_poll_10 : decode cX9_poll 10 = .ok (.putfield 173, 3) := by decide +kernel
theorem dX9_poll_13 : decode cX9_poll 13 = .ok (.iconst 0, 1) := by decide +kernel
theorem dX9_poll_14 : decode cX9_poll 14 = .ok (.istore 4, 2) := by decide +kernel
theorem dX9_poll_16 : decode cX9_poll 16 = .ok (.iconst 0, 1) := by decide +kernel
theorem dX9_poll_17 : decode cX9_poll 17 = .ok (.istore 5, 2) := by decide +kernel
theorem dX9_poll_19 : decode cX9_poll 19 = .ok (.iconst 0, 1) := by decide +kernel
theorem dX9_poll_20 : decode cX9_poll 20 = .ok (.istore 6, 2) := by decide +kernel
theorem dX9_poll_22 : decode cX9_poll 22 = .ok (.iload 6, 2) := by decide +kernel
theorem dX9_poll_24 : decode cX9_poll 24 = .ok (.aload_n 0, 1) := by decide +kernel
theorem dX9_poll_25 : decode cX9_poll 25 = .ok (.getfield 91, 3) := by decide +kernel
theorem dX9_poll_28 : decode cX9_poll 28 = .ok (.if_icmp .ge 115, 3) := by decide +kernel
theorem dX9_poll_31 : decode cX9_poll 31 = .ok (.aload_n 0, 1) := by decide +kernel
theorem dX9_poll_32 : decode cX9_poll 32 = .ok (.getfield 154, 3) := by decide +kernel
theorem dX9_poll_35 : decode cX9_poll 35 = .ok (.iload 6, 2) := by decide +kernel
theorem dX9_poll_37 : decode cX9_poll 37 = .ok (.ishr, 1) := by decide +kernel
theorem dX9_poll_38 : decode cX9_poll 38 = .ok (.iconst 1, 1) := by decide +kernel
theorem dX9_poll_39 : decode cX9_poll 39 = .ok (.iand, 1) := by decide +kernel
theorem dX9_poll_40 : decode cX9_poll 40 = .ok (.iconst 1, 1) := by decide +kernel
theorem dX9_poll_41 : decode cX9_poll 41 = .ok (.if_icmp .ne 96, 3) := by decide +kernel
theorem dX9_poll_44 : decode cX9_poll 44 = .ok (.iload_n 2, 1) := by decide +kernel
theorem dX9_poll_45 : decode cX9_poll 45 = .ok (.iload 6, 2) := by decide +kernel
theorem dX9_poll_47 : decode cX9_poll 47 = .ok (.ishr, 1) := by decide +kernel
theorem dX9_poll_48 : decode cX9_poll 48 = .ok (.iconst 1, 1) := by decide +kernel
theorem dX9_poll_49 : decode cX9_poll 49 = .ok (.iand, 1) := by decide +kernel
theorem dX9_poll_50 : decode cX9_poll 50 = .ok (.iconst 1, 1) := by decide +kernel
theorem dX9_poll_51 : decode cX9_poll 51 = .ok (.if_icmp .ne 21, 3) := by decide +kernel
theorem dX9_poll_54 : decode cX9_poll 54 = .ok (.iload_n 3, 1) := by decide +kernel
theorem dX9_poll_55 : decode cX9_poll 55 = .ok (.iload 6, 2) := by decide +kernel
theorem dX9_poll_57 : decode cX9_poll 57 = .ok (.ishr, 1) := by decide +kernel
theorem dX9_poll_58 : decode cX9_poll 58 = .ok (.iconst 1, 1) := by decide +kernel
theorem dX9_poll_59 : decode cX9_poll 59 = .ok (.iand, 1) := by decide +kernel
theorem dX9_poll_60 : decode cX9_poll 60 = .ok (.iconst 1, 1) := by decide +kernel
theorem dX9_poll_61 : decode cX9_poll 61 = .ok (.if_icmp .ne 7, 3) := by decide +kernel
theorem dX9_poll_64 : decode cX9_poll 64 = .ok (.iconst 1, 1) := by decide +kernel
theorem dX9_poll_65 : decode cX9_poll 65 = .ok (.goto 18, 3) := by decide +kernel
theorem dX9_poll_68 : decode cX9_poll 68 = .ok (.iconst 0, 1) := by decide +kernel
theorem dX9_poll_69 : decode cX9_poll 69 = .ok (.goto 14, 3) := by decide +kernel
theorem dX9_poll_72 : decode cX9_poll 72 = .ok (.aload_n 0, 1) := by decide +kernel
theorem dX9_poll_73 : decode cX9_poll 73 = .ok (.iload 6, 2) := by decide +kernel
theorem dX9_poll_75 : decode cX9_poll 75 = .ok (.iload_n 1, 1) := by decide +kernel
theorem dX9_poll_76 : decode cX9_poll 76 = .ok (.iload 4, 2) := by decide +kernel
theorem dX9_poll_78 : decode cX9_poll 78 = .ok (.iload 5, 2) := by decide +kernel
theorem dX9_poll_80 : decode cX9_poll 80 = .ok (.invokevirtual 176, 3) := by decide +kernel
theorem dX9_poll_83 : decode cX9_poll 83 = .ok (.istore 7, 2) := by decide +kernel
theorem dX9_poll_85 : decode cX9_poll 85 = .ok (.aload_n 0, 1) := by decide +kernel
theorem dX9_poll_86 : decode cX9_poll 86 = .ok (.dup, 1) := by decide +kernel
theorem dX9_poll_87 : decode cX9_poll 87 = .ok (.getfield 173, 3) := by decide +kernel
theorem dX9_poll_90 : decode cX9_poll 90 = .ok (.iload 7, 2) := by decide +kernel
theorem dX9_poll_92 : decode cX9_poll 92 = .ok (.ifCond .eq 10, 3) := by decide +kernel
theorem dX9_poll_95 : decode cX9_poll 95 = .ok (.iconst 1, 1) := by decide +kernel
theorem dX9_poll_96 : decode cX9_poll 96 = .ok (.iload 6, 2) := by decide +kernel
theorem dX9_poll_98 : decode cX9_poll 98 = .ok (.ishl, 1) := by decide +kernel
theorem dX9_poll_99 : decode cX9_poll 99 = .ok (.goto 4, 3) := by decide +kernel
theorem dX9_poll_102 : decode cX9_poll 102 = .ok (.iconst 0, 1) := by decide +kernel
theorem dX9_poll_103 : decode cX9_poll 103 = .ok (.ior, 1) := by decide +kernel
theorem dX9_poll_104 : decode cX9_poll 104 = .ok (.putfield 173, 3) := by decide +kernel
theorem dX9_poll_107 : decode cX9_poll 107 = .ok (.iload 4, 2) := by decide +kernel
theorem dX9_poll_109 : decode cX9_poll 109 = .ok (.iload 7, 2) := by decide +kernel
theorem dX9_poll_111 : decode cX9_poll 111 = .ok (.ifCond .eq 7, 3) := by decide +kernel
theorem dX9_poll_114 : decode cX9_poll 114 = .ok (.iconst 1, 1) := by decide +kernel
theorem dX9_poll_115 : decode cX9_poll 115 = .ok (.goto 4, 3) := by decide +kernel
theorem dX9_poll_118 : decode cX9_poll 118 = .ok (.iconst 0, 1) := by decide +kernel
theorem dX9_poll_119 : decode cX9_poll 119 = .ok (.iadd, 1) := by decide +kernel
theorem dX9_poll_120 : decode cX9_poll 120 = .ok (.istore 4, 2) := by decide +kernel
theorem dX9_poll_122 : decode cX9_poll 122 = .ok (.iload 5, 2) := by decide +kernel
theorem dX9_poll_124 : decode cX9_poll 124 = .ok (.iload 7, 2) := by decide +kernel
theorem dX9_poll_126 : decode cX9_poll 126 = .ok (.ifCond .eq 7, 3) := by decide +kernel
theorem dX9_poll_129 : decode cX9_poll 129 = .ok (.iconst 0, 1) := by decide +kernel
theorem dX9_poll_130 : decode cX9_poll 130 = .ok (.goto 4, 3) := by decide +kernel
theorem dX9_poll_133 : decode cX9_poll 133 = .ok (.iconst 1, 1) := by decide +kernel
theorem dX9_poll_134 : decode cX9_poll 134 = .ok (.iadd, 1) := by decide +kernel
theorem dX9_poll_135 : decode cX9_poll 135 = .ok (.istore 5, 2) := by decide +kernel
theorem dX9_poll_137 : decode cX9_poll 137 = .ok (.iinc 6 1, 3) := by decide +kernel
theorem dX9_poll_140 : decode cX9_poll 140 = .ok (.goto (-118), 3) := by decide +kernel
theorem dX9_poll_143 : decode cX9_poll 143 = .ok (.aload_n 0, 1) := by decide +kernel
theorem dX9_poll_144 : decode cX9_poll 144 = .ok (.iload 4, 2) := by decide +kernel
theorem dX9_poll_146 : decode cX9_poll 146 = .ok (.iload 5, 2) := by decide +kernel
theorem dX9_poll_148 : decode cX9_poll 148 = .ok (.if_icmp .ne 8, 3) := by decide +kernel
theorem dX9_poll_151 : decode cX9_poll 151 = .ok (.bipush (-5), 2) := by decide +kernel
theorem dX9_poll_153 : decode cX9_poll 153 = .ok (.goto 15, 3) := by decide +kernel
theorem dX9_poll_156 : decode cX9_poll 156 = .ok (.iload 4, 2) := by decide +kernel
theorem dX9_poll_158 : decode cX9_poll 158 = .ok (.iload 5, 2) := by decide +kernel
theorem dX9_poll_160 : decode cX9_poll 160 = .ok (.if_icmp .le 7, 3) := by decide +kernel
theorem dX9_poll_163 : decode cX9_poll 163 = .ok (.iconst 1, 1) := by decide +kernel
theorem dX9_poll_164 : decode cX9_poll 164 = .ok (.goto 4, 3) := by decide +kernel
theorem dX9_poll_167 : decode cX9_poll 167 = .ok (.iconst 0, 1) := by decide +kernel
theorem dX9_poll_168 : decode cX9_poll 168 = .ok (.putfield 180, 3) := by decide +kernel
theorem dX9_poll_171 : decode cX9_poll 171 = .ok (.iload 4, 2) := by decide +kernel
theorem dX9_poll_173 : decode cX9_poll 173 = .ok (.iload 5, 2) := by decide +kernel
theorem dX9_poll_175 : decode cX9_poll 175 = .ok (.if_icmp .le 11, 3) := by decide +kernel
theorem dX9_poll_178 : decode cX9_poll 178 = .ok (.iload 4, 2) := by decide +kernel
theorem dX9_poll_180 : decode cX9_poll 180 = .ok (.iload 5, 2) := by decide +kernel
theorem dX9_poll_182 : decode cX9_poll 182 = .ok (.isub, 1) := by decide +kernel
theorem dX9_poll_183 : decode cX9_poll 183 = .ok (.goto 8, 3) := by decide +kernel
theorem dX9_poll_186 : decode cX9_poll 186 = .ok (.iload 5, 2) := by decide +kernel
theorem dX9_poll_188 : decode cX9_poll 188 = .ok (.iload 4, 2) := by decide +kernel
theorem dX9_poll_190 : decode cX9_poll 190 = .ok (.isub, 1) := by decide +kernel
theorem dX9_poll_191 : decode cX9_poll 191 = .ok (.istore 6, 2) := by decide +kernel
theorem dX9_poll_193 : decode cX9_poll 193 = .ok (.iload 4, 2) := by decide +kernel
theorem dX9_poll_195 : decode cX9_poll 195 = .ok (.iload 5, 2) := by decide +kernel
theorem dX9_poll_197 : decode cX9_poll 197 = .ok (.if_icmp .le 8, 3) := by decide +kernel
theorem dX9_poll_200 : decode cX9_poll 200 = .ok (.iload 4, 2) := by decide +kernel
theorem dX9_poll_202 : decode cX9_poll 202 = .ok (.goto 5, 3) := by decide +kernel
theorem dX9_poll_205 : decode cX9_poll 205 = .ok (.iload 5, 2) := by decide +kernel
theorem dX9_poll_207 : decode cX9_poll 207 = .ok (.istore 7, 2) := by decide +kernel
theorem dX9_poll_209 : decode cX9_poll 209 = .ok (.iload 4, 2) := by decide +kernel
theorem dX9_poll_211 : decode cX9_poll 211 = .ok (.iload 5, 2) := by decide +kernel
theorem dX9_poll_213 : decode cX9_poll 213 = .ok (.iadd, 1) := by decide +kernel
theorem dX9_poll_214 : decode cX9_poll 214 = .ok (.iload 7, 2) := by decide +kernel
theorem dX9_poll_216 : decode cX9_poll 216 = .ok (.isub, 1) := by decide +kernel
theorem dX9_poll_217 : decode cX9_poll 217 = .ok (.istore 8, 2) := by decide +kernel
theorem dX9_poll_219 : decode cX9_poll 219 = .ok (.aload_n 0, 1) := by decide +kernel
theorem dX9_poll_220 : decode cX9_poll 220 = .ok (.aload_n 0, 1) := by decide +kernel
theorem dX9_poll_221 : decode cX9_poll 221 = .ok (.getfield 164, 3) := by decide +kernel
theorem dX9_poll_224 : decode cX9_poll 224 = .ok (.ifCond .ne 8, 3) := by decide +kernel
theorem dX9_poll_227 : decode cX9_poll 227 = .ok (.iload 6, 2) := by decide +kernel
theorem dX9_poll_229 : decode cX9_poll 229 = .ok (.goto 33, 3) := by decide +kernel
theorem dX9_poll_232 : decode cX9_poll 232 = .ok (.aload_n 0, 1) := by decide +kernel
theorem dX9_poll_233 : decode cX9_poll 233 = .ok (.getfield 164, 3) := by decide +kernel
theorem dX9_poll_236 : decode cX9_poll 236 = .ok (.iconst 1, 1) := by decide +kernel
theorem dX9_poll_237 : decode cX9_poll 237 = .ok (.if_icmp .ne 8, 3) := by decide +kernel
theorem dX9_poll_240 : decode cX9_poll 240 = .ok (.iload 7, 2) := by decide +kernel
theorem dX9_poll_242 : decode cX9_poll 242 = .ok (.goto 20, 3) := by decide +kernel
theorem dX9_poll_245 : decode cX9_poll 245 = .ok (.aload_n 0, 1) := by decide +kernel
theorem dX9_poll_246 : decode cX9_poll 246 = .ok (.getfield 164, 3) := by decide +kernel
theorem dX9_poll_249 : decode cX9_poll 249 = .ok (.iconst 2, 1) := by decide +kernel
theorem dX9_poll_250 : decode cX9_poll 250 = .ok (.if_icmp .ne 8, 3) := by decide +kernel
theorem dX9_poll_253 : decode cX9_poll 253 = .ok (.iload 8, 2) := by decide +kernel
theorem dX9_poll_255 : decode cX9_poll 255 = .ok (.goto 7, 3) := by decide +kernel
theorem dX9_poll_258 : decode cX9_poll 258 = .ok (.iconst 2, 1) := by decide +kernel
theorem dX9_poll_259 : decode cX9_poll 259 = .ok (.iload 6, 2) := by decide +kernel
theorem dX9_poll_261 : decode cX9_poll 261 = .ok (.imul, 1) := by decide +kernel
theorem dX9_poll_262 : decode cX9_poll 262 = .ok (.putfield 183, 3) := by decide +kernel
theorem dX9_poll_265 : decode cX9_poll 265 = .ok (.aload_n 0, 1) := by decide +kernel
theorem dX9_poll_266 : decode cX9_poll 266 = .ok (.aload_n 0, 1) := by decide +kernel
theorem dX9_poll_267 : decode cX9_poll 267 = .ok (.getfield 180, 3) := by decide +kernel
theorem dX9_poll_270 : decode cX9_poll 270 = .ok (.bipush (-5), 2) := by decide +kernel
theorem dX9_poll_272 : decode cX9_poll 272 = .ok (.if_icmp .ne 7, 3) := by decide +kernel
theorem dX9_poll_275 : decode cX9_poll 275 = .ok (.iconst 0, 1) := by decide +kernel
theorem dX9_poll_276 : decode cX9_poll 276 = .ok (.goto 25, 3) := by decide +kernel
theorem dX9_poll_279 : decode cX9_poll 279 = .ok (.aload_n 0, 1) := by decide +kernel
theorem dX9_poll_280 : decode cX9_poll 280 = .ok (.getfield 183, 3) := by decide +kernel
theorem dX9_poll_283 : decode cX9_poll 283 = .ok (.aload_n 0, 1) := by decide +kernel
theorem dX9_poll_284 : decode cX9_poll 284 = .ok (.getfield 91, 3) := by decide +kernel
theorem dX9_poll_287 : decode cX9_poll 287 = .ok (.if_icmp .le 10, 3) := by decide +kernel
theorem dX9_poll_290 : decode cX9_poll 290 = .ok (.aload_n 0, 1) := by decide +kernel
theorem dX9_poll_291 : decode cX9_poll 291 = .ok (.getfield 91, 3) := by decide +kernel
theorem dX9_poll_294 : decode cX9_poll 294 = .ok (.goto 7, 3) := by decide +kernel
theorem dX9_poll_297 : decode cX9_poll 297 = .ok (.aload_n 0, 1) := by decide +kernel
theorem dX9_poll_298 : decode cX9_poll 298 = .ok (.getfield 183, 3) := by decide +kernel
theorem dX9_poll_301 : decode cX9_poll 301 = .ok (.putfield 183, 3) := by decide +kernel
theorem dX9_poll_304 : decode cX9_poll 304 = .ok (.return_, 1) := by decide +kernel
theorem dX9_passBy_0 : decode cX9_passBy 0 = .ok (.aload_n 0, 1) := by decide +kernel
theorem dX9_passBy_1 : decode cX9_passBy 1 = .ok (.iconst 0, 1) := by decide +kernel
theorem dX9_passBy_2 : decode cX9_passBy 2 = .ok (.putfield 170, 3) := by decide +kernel
theorem dX9_passBy_5 : decode cX9_passBy 5 = .ok (.aload_n 0, 1) := by decide +kernel
theorem dX9_passBy_6 : decode cX9_passBy 6 = .ok (.iconst 0, 1) := by decide +kernel
theorem dX9_passBy_7 : decode cX9_passBy 7 = .ok (.putfield 173, 3) := by decide +kernel
theorem dX9_passBy_10 : decode cX9_passBy 10 = .ok (.aload_n 0, 1) := by decide +kernel
theorem dX9_passBy_11 : decode cX9_passBy 11 = .ok (.bipush (-6), 2) := by decide +kernel
theorem dX9_passBy_13 : decode cX9_passBy 13 = .ok (.putfield 180, 3) := by decide +kernel
theorem dX9_passBy_16 : decode cX9_passBy 16 = .ok (.aload_n 0, 1) := by decide +kernel
theorem dX9_passBy_17 : decode cX9_passBy 17 = .ok (.aload_n 0, 1) := by decide +kernel
theorem dX9_passBy_18 : decode cX9_passBy 18 = .ok (.getfield 91, 3) := by decide +kernel
theorem dX9_passBy_21 : decode cX9_passBy 21 = .ok (.putfield 183, 3) := by decide +kernel
theorem dX9_passBy_24 : decode cX9_passBy 24 = .ok (.aload_n 0, 1) := by decide +kernel
theorem dX9_passBy_25 : decode cX9_passBy 25 = .ok (.aload_n 0, 1) := by decide +kernel
theorem dX9_passBy_26 : decode cX9_passBy 26 = .ok (.invokevirtual 150, 3) := by decide +kernel
theorem dX9_passBy_29 : decode cX9_passBy 29 = .ok (.putfield 154, 3) := by decide +kernel
theorem dX9_passBy_32 : decode cX9_passBy 32 = .ok (.aload_n 0, 1) := by decide +kernel
theorem dX9_passBy_33 : decode cX9_passBy 33 = .ok (.iconst 0, 1) := by decide +kernel
theorem dX9_passBy_34 : decode cX9_passBy 34 = .ok (.putfield 157, 3) := by decide +kernel
theorem dX9_passBy_37 : decode cX9_passBy 37 = .ok (.return_, 1) := by decide +kernel
theorem dX9_seatAnew_0 : decode cX9_seatAnew 0 = .ok (.aload_n 0, 1) := by decide +kernel
theorem dX9_seatAnew_1 : decode cX9_seatAnew 1 = .ok (.getfield 183, 3) := by decide +kernel
theorem dX9_seatAnew_4 : decode cX9_seatAnew 4 = .ok (.ifCond .ne 9, 3) := by decide +kernel
theorem dX9_seatAnew_7 : decode cX9_seatAnew 7 = .ok (.aload_n 0, 1) := by decide +kernel
theorem dX9_seatAnew_8 : decode cX9_seatAnew 8 = .ok (.iconst 1, 1) := by decide +kernel
theorem dX9_seatAnew_9 : decode cX9_seatAnew 9 = .ok (.putfield 157, 3) := by decide +kernel
theorem dX9_seatAnew_12 : decode cX9_seatAnew 12 = .ok (.return_, 1) := by decide +kernel
theorem dX9_seatAnew_13 : decode cX9_seatAnew 13 = .ok (.aload_n 0, 1) := by decide +kernel
theorem dX9_seatAnew_14 : decode cX9_seatAnew 14 = .ok (.getfield 167, 3) := by decide +kernel
theorem dX9_seatAnew_17 : decode cX9_seatAnew 17 = .ok (.ifCond .ne 18, 3) := by decide +kernel
theorem dX9_seatAnew_20 : decode cX9_seatAnew 20 = .ok (.aload_n 0, 1) := by decide +kernel
theorem dX9_seatAnew_21 : decode cX9_seatAnew 21 = .ok (.iconst 1, 1) := by decide +kernel
theorem dX9_seatAnew_22 : decode cX9_seatAnew 22 = .ok (.aload_n 0, 1) := by decide +kernel
theorem dX9_seatAnew_23 : decode cX9_seatAnew 23 = .ok (.getfield 183, 3) := by decide +kernel
theorem dX9_seatAnew_26 : decode cX9_seatAnew 26 = .ok (.ishl, 1) := by decide +kernel
theorem dX9_seatAnew_27 : decode cX9_seatAnew 27 = .ok (.iconst 1, 1) := by decide +kernel
theorem dX9_seatAnew_28 : decode cX9_seatAnew 28 = .ok (.isub, 1) := by decide +kernel
theorem dX9_seatAnew_29 : decode cX9_seatAnew 29 = .ok (.putfield 154, 3) := by decide +kernel
theorem dX9_seatAnew_32 : decode cX9_seatAnew 32 = .ok (.goto 22, 3) := by decide +kernel
theorem dX9_seatAnew_35 : decode cX9_seatAnew 35 = .ok (.aload_n 0, 1) := by decide +kernel
theorem dX9_seatAnew_36 : decode cX9_seatAnew 36 = .ok (.getfield 167, 3) := by decide +kernel
theorem dX9_seatAnew_39 : decode cX9_seatAnew 39 = .ok (.iconst 1, 1) := by decide +kernel
theorem dX9_seatAnew_40 : decode cX9_seatAnew 40 = .ok (.if_icmp .ne 10, 3) := by decide +kernel
theorem dX9_seatAnew_43 : decode cX9_seatAnew 43 = .ok (.aload_n 0, 1) := by decide +kernel
theorem dX9_seatAnew_44 : decode cX9_seatAnew 44 = .ok (.invokevirtual 186, 3) := by decide +kernel
theorem dX9_seatAnew_47 : decode cX9_seatAnew 47 = .ok (.goto 7, 3) := by decide +kernel
theorem dX9_seatAnew_50 : decode cX9_seatAnew 50 = .ok (.aload_n 0, 1) := by decide +kernel
theorem dX9_seatAnew_51 : decode cX9_seatAnew 51 = .ok (.invokevirtual 189, 3) := by decide +kernel
theorem dX9_seatAnew_54 : decode cX9_seatAnew 54 = .ok (.return_, 1) := by decide +kernel
theorem dX9_seatWinners_0 : decode cX9_seatWinners 0 = .ok (.aload_n 0, 1) := by decide +kernel
theorem dX9_seatWinners_1 : decode cX9_seatWinners 1 = .ok (.getfield 180, 3) := by decide +kernel
theorem dX9_seatWinners_4 : decode cX9_seatWinners 4 = .ok (.iconst 1, 1) := by decide +kernel
theorem dX9_seatWinners_5 : decode cX9_seatWinners 5 = .ok (.if_icmp .ne 10, 3) := by decide +kernel
theorem dX9_seatWinners_8 : decode cX9_seatWinners 8 = .ok (.aload_n 0, 1) := by decide +kernel
theorem dX9_seatWinners_9 : decode cX9_seatWinners 9 = .ok (.getfield 173, 3) := by decide +kernel
theorem dX9_seatWinners_12 : decode cX9_seatWinners 12 = .ok (.goto 12, 3) := by decide +kernel
theorem dX9_seatWinners_15 : decode cX9_seatWinners 15 = .ok (.aload_n 0, 1) := by decide +kernel
theorem dX9_seatWinners_16 : decode cX9_seatWinners 16 = .ok (.getfield 170, 3) := by decide +kernel
theorem dX9_seatWinners_19 : decode cX9_seatWinners 19 = .ok (.aload_n 0, 1) := by decide +kernel
theorem dX9_seatWinners_20 : decode cX9_seatWinners 20 = .ok (.getfield 173, 3) := by decide +kernel
theorem dX9_seatWinners_23 : decode cX9_seatWinners 23 = .ok (.isub, 1) := by decide +kernel
theorem dX9_seatWinners_24 : decode cX9_seatWinners 24 = .ok (.istore_n 1, 1) := by decide +kernel
theorem dX9_seatWinners_25 : decode cX9_seatWinners 25 = .ok (.iconst 0, 1) := by decide +kernel
theorem dX9_seatWinners_26 : decode cX9_seatWinners 26 = .ok (.istore_n 2, 1) := by decide +kernel
theorem dX9_seatWinners_27 : decode cX9_seatWinners 27 = .ok (.aload_n 0, 1) := by decide +kernel
theorem dX9_seatWinners_28 : decode cX9_seatWinners 28 = .ok (.getfield 183, 3) := by decide +kernel
theorem dX9_seatWinners_31 : decode cX9_seatWinners 31 = .ok (.istore_n 3, 1) := by decide +kernel
theorem dX9_seatWinners_32 : decode cX9_seatWinners 32 = .ok (.iconst 0, 1) := by decide +kernel
theorem dX9_seatWinners_33 : decode cX9_seatWinners 33 = .ok (.istore 4, 2) := by decide +kernel
theorem dX9_seatWinners_35 : decode cX9_seatWinners 35 = .ok (.iload 4, 2) := by decide +kernel
theorem dX9_seatWinners_37 : decode cX9_seatWinners 37 = .ok (.iconst 3, 1) := by decide +kernel
theorem dX9_seatWinners_38 : decode cX9_seatWinners 38 = .ok (.if_icmp .ge 87, 3) := by decide +kernel
theorem dX9_seatWinners_41 : decode cX9_seatWinners 41 = .ok (.iload 4, 2) := by decide +kernel
theorem dX9_seatWinners_43 : decode cX9_seatWinners 43 = .ok (.ifCond .ne 7, 3) := by decide +kernel
theorem dX9_seatWinners_46 : decode cX9_seatWinners 46 = .ok (.iload_n 1, 1) := by decide +kernel
theorem dX9_seatWinners_47 : decode cX9_seatWinners 47 = .ok (.goto 27, 3) := by decide +kernel
theorem dX9_seatWinners_50 : decode cX9_seatWinners 50 = .ok (.iload 4, 2) := by decide +kernel
theorem dX9_seatWinners_52 : decode cX9_seatWinners 52 = .ok (.iconst 1, 1) := by decide +kernel
theorem dX9_seatWinners_53 : decode cX9_seatWinners 53 = .ok (.if_icmp .ne 12, 3) := by decide +kernel
theorem dX9_seatWinners_56 : decode cX9_seatWinners 56 = .ok (.aload_n 0, 1) := by decide +kernel
theorem dX9_seatWinners_57 : decode cX9_seatWinners 57 = .ok (.getfield 170, 3) := by decide +kernel
theorem dX9_seatWinners_60 : decode cX9_seatWinners 60 = .ok (.iload_n 1, 1) := by decide +kernel
theorem dX9_seatWinners_61 : decode cX9_seatWinners 61 = .ok (.isub, 1) := by decide +kernel
theorem dX9_seatWinners_62 : decode cX9_seatWinners 62 = .ok (.goto 12, 3) := by decide +kernel
theorem dX9_seatWinners_65 : decode cX9_seatWinners 65 = .ok (.aload_n 0, 1) := by decide +kernel
theorem dX9_seatWinners_66 : decode cX9_seatWinners 66 = .ok (.invokevirtual 150, 3) := by decide +kernel
theorem dX9_seatWinners_69 : decode cX9_seatWinners 69 = .ok (.aload_n 0, 1) := by decide +kernel
theorem dX9_seatWinners_70 : decode cX9_seatWinners 70 = .ok (.getfield 170, 3) := by decide +kernel
theorem dX9_seatWinners_73 : decode cX9_seatWinners 73 = .ok (.isub, 1) := by decide +kernel
theorem dX9_seatWinners_74 : decode cX9_seatWinners 74 = .ok (.istore 5, 2) := by decide +kernel
theorem dX9_seatWinners_76 : decode cX9_seatWinners 76 = .ok (.iconst 0, 1) := by decide +kernel
theorem dX9_seatWinners_77 : decode cX9_seatWinners 77 = .ok (.istore 6, 2) := by decide +kernel
theorem dX9_seatWinners_79 : decode cX9_seatWinners 79 = .ok (.iload 6, 2) := by decide +kernel
theorem dX9_seatWinners_81 : decode cX9_seatWinners 81 = .ok (.aload_n 0, 1) := by decide +kernel
theorem dX9_seatWinners_82 : decode cX9_seatWinners 82 = .ok (.getfield 91, 3) := by decide +kernel
theorem dX9_seatWinners_85 : decode cX9_seatWinners 85 = .ok (.if_icmp .ge 34, 3) := by decide +kernel
theorem dX9_seatWinners_88 : decode cX9_seatWinners 88 = .ok (.iload_n 3, 1) := by decide +kernel
theorem dX9_seatWinners_89 : decode cX9_seatWinners 89 = .ok (.ifCond .le 30, 3) := by decide +kernel
theorem dX9_seatWinners_92 : decode cX9_seatWinners 92 = .ok (.iload 5, 2) := by decide +kernel
theorem dX9_seatWinners_94 : decode cX9_seatWinners 94 = .ok (.iload 6, 2) := by decide +kernel
theorem dX9_seatWinners_96 : decode cX9_seatWinners 96 = .ok (.ishr, 1) := by decide +kernel
theorem dX9_seatWinners_97 : decode cX9_seatWinners 97 = .ok (.iconst 1, 1) := by decide +kernel
theorem dX9_seatWinners_98 : decode cX9_seatWinners 98 = .ok (.iand, 1) := by decide +kernel
theorem dX9_seatWinners_99 : decode cX9_seatWinners 99 = .ok (.iconst 1, 1) := by decide +kernel
theorem dX9_seatWinners_100 : decode cX9_seatWinners 100 = .ok (.if_icmp .ne 13, 3) := by decide +kernel
theorem dX9_seatWinners_103 : decode cX9_seatWinners 103 = .ok (.iload_n 2, 1) := by decide +kernel
theorem dX9_seatWinners_104 : decode cX9_seatWinners 104 = .ok (.iconst 1, 1) := by decide +kernel
theorem dX9_seatWinners_105 : decode cX9_seatWinners 105 = .ok (.iload 6, 2) := by decide +kernel
theorem dX9_seatWinners_107 : decode cX9_seatWinners 107 = .ok (.ishl, 1) := by decide +kernel
theorem dX9_seatWinners_108 : decode cX9_seatWinners 108 = .ok (.ior, 1) := by decide +kernel
theorem dX9_seatWinners_109 : decode cX9_seatWinners 109 = .ok (.istore_n 2, 1) := by decide +kernel
theorem dX9_seatWinners_110 : decode cX9_seatWinners 110 = .ok (.iinc 3 (-1), 3) := by decide +kernel
theorem dX9_seatWinners_113 : decode cX9_seatWinners 113 = .ok (.iinc 6 1, 3) := by decide +kernel
theorem dX9_seatWinners_116 : decode cX9_seatWinners 116 = .ok (.goto (-37), 3) := by decide +kernel
theorem dX9_seatWinners_119 : decode cX9_seatWinners 119 = .ok (.iinc 4 1, 3) := by decide +kernel
theorem dX9_seatWinners_122 : decode cX9_seatWinners 122 = .ok (.goto (-87), 3) := by decide +kernel
theorem dX9_seatWinners_125 : decode cX9_seatWinners 125 = .ok (.aload_n 0, 1) := by decide +kernel
theorem dX9_seatWinners_126 : decode cX9_seatWinners 126 = .ok (.iload_n 2, 1) := by decide +kernel
theorem dX9_seatWinners_127 : decode cX9_seatWinners 127 = .ok (.putfield 154, 3) := by decide +kernel
theorem dX9_seatWinners_130 : decode cX9_seatWinners 130 = .ok (.return_, 1) := by decide +kernel
theorem dX9_seatRound_0 : decode cX9_seatRound 0 = .ok (.iconst 0, 1) := by decide +kernel
theorem dX9_seatRound_1 : decode cX9_seatRound 1 = .ok (.istore_n 1, 1) := by decide +kernel
theorem dX9_seatRound_2 : decode cX9_seatRound 2 = .ok (.iconst 0, 1) := by decide +kernel
theorem dX9_seatRound_3 : decode cX9_seatRound 3 = .ok (.istore_n 2, 1) := by decide +kernel
theorem dX9_seatRound_4 : decode cX9_seatRound 4 = .ok (.iload_n 2, 1) := by decide +kernel
theorem dX9_seatRound_5 : decode cX9_seatRound 5 = .ok (.aload_n 0, 1) := by decide +kernel
theorem dX9_seatRound_6 : decode cX9_seatRound 6 = .ok (.getfield 183, 3) := by decide +kernel
theorem dX9_seatRound_9 : decode cX9_seatRound 9 = .ok (.if_icmp .ge 33, 3) := by decide +kernel
theorem dX9_seatRound_12 : decode cX9_seatRound 12 = .ok (.aload_n 0, 1) := by decide +kernel
theorem dX9_seatRound_13 : decode cX9_seatRound 13 = .ok (.aload_n 0, 1) := by decide +kernel
theorem dX9_seatRound_14 : decode cX9_seatRound 14 = .ok (.getfield 161, 3) := by decide +kernel
theorem dX9_seatRound_17 : decode cX9_seatRound 17 = .ok (.iconst 1, 1) := by decide +kernel
theorem dX9_seatRound_18 : decode cX9_seatRound 18 = .ok (.iadd, 1) := by decide +kernel
theorem dX9_seatRound_19 : decode cX9_seatRound 19 = .ok (.aload_n 0, 1) := by decide +kernel
theorem dX9_seatRound_20 : decode cX9_seatRound 20 = .ok (.getfield 91, 3) := by decide +kernel
theorem dX9_seatRound_23 : decode cX9_seatRound 23 = .ok (.irem, 1) := by decide +kernel
theorem dX9_seatRound_24 : decode cX9_seatRound 24 = .ok (.putfield 161, 3) := by decide +kernel
theorem dX9_seatRound_27 : decode cX9_seatRound 27 = .ok (.iload_n 1, 1) := by decide +kernel
theorem dX9_seatRound_28 : decode cX9_seatRound 28 = .ok (.iconst 1, 1) := by decide +kernel
theorem dX9_seatRound_29 : decode cX9_seatRound 29 = .ok (.aload_n 0, 1) := by decide +kernel
theorem dX9_seatRound_30 : decode cX9_seatRound 30 = .ok (.getfield 161, 3) := by decide +kernel
theorem dX9_seatRound_33 : decode cX9_seatRound 33 = .ok (.ishl, 1) := by decide +kernel
theorem dX9_seatRound_34 : decode cX9_seatRound 34 = .ok (.ior, 1) := by decide +kernel
theorem dX9_seatRound_35 : decode cX9_seatRound 35 = .ok (.istore_n 1, 1) := by decide +kernel
theorem dX9_seatRound_36 : decode cX9_seatRound 36 = .ok (.iinc 2 1, 3) := by decide +kernel
theorem dX9_seatRound_39 : decode cX9_seatRound 39 = .ok (.goto (-35), 3) := by decide +kernel
theorem dX9_seatRound_42 : decode cX9_seatRound 42 = .ok (.aload_n 0, 1) := by decide +kernel
theorem dX9_seatRound_43 : decode cX9_seatRound 43 = .ok (.iload_n 1, 1) := by decide +kernel
theorem dX9_seatRound_44 : decode cX9_seatRound 44 = .ok (.putfield 154, 3) := by decide +kernel
theorem dX9_seatRound_47 : decode cX9_seatRound 47 = .ok (.return_, 1) := by decide +kernel
theorem dX9_goOn_0 : decode cX9_goOn 0 = .ok (.aload_n 0, 1) := by decide +kernel
theorem dX9_goOn_1 : decode cX9_goOn 1 = .ok (.getfield 157, 3) := by decide +kernel
theorem dX9_goOn_4 : decode cX9_goOn 4 = .ok (.ifCond .eq 10, 3) := by decide +kernel
theorem dX9_goOn_7 : decode cX9_goOn 7 = .ok (.aload_n 0, 1) := by decide +kernel
theorem dX9_goOn_8 : decode cX9_goOn 8 = .ok (.invokevirtual 192, 3) := by decide +kernel
theorem dX9_goOn_11 : decode cX9_goOn 11 = .ok (.goto 14, 3) := by decide +kernel
theorem dX9_goOn_14 : decode cX9_goOn 14 = .ok (.aload_n 0, 1) := by decide +kernel
theorem dX9_goOn_15 : decode cX9_goOn 15 = .ok (.iload_n 1, 1) := by decide +kernel
theorem dX9_goOn_16 : decode cX9_goOn 16 = .ok (.iload_n 2, 1) := by decide +kernel
theorem dX9_goOn_17 : decode cX9_goOn 17 = .ok (.iload_n 3, 1) := by decide +kernel
theorem dX9_goOn_18 : decode cX9_goOn 18 = .ok (.invokevirtual 195, 3) := by decide +kernel
theorem dX9_goOn_21 : decode cX9_goOn 21 = .ok (.aload_n 0, 1) := by decide +kernel
theorem dX9_goOn_22 : decode cX9_goOn 22 = .ok (.invokevirtual 199, 3) := by decide +kernel
theorem dX9_goOn_25 : decode cX9_goOn 25 = .ok (.return_, 1) := by decide +kernel
theorem dX9_goRun_0 : decode cX9_goRun 0 = .ok (.iconst 0, 1) := by decide +kernel
theorem dX9_goRun_1 : decode cX9_goRun 1 = .ok (.istore_n 3, 1) := by decide +kernel
theorem dX9_goRun_2 : decode cX9_goRun 2 = .ok (.iload_n 3, 1) := by decide +kernel
theorem dX9_goRun_3 : decode cX9_goRun 3 = .ok (.iload_n 2, 1) := by decide +kernel
theorem dX9_goRun_4 : decode cX9_goRun 4 = .ok (.if_icmp .ge 58, 3) := by decide +kernel
theorem dX9_goRun_7 : decode cX9_goRun 7 = .ok (.aload_n 0, 1) := by decide +kernel
theorem dX9_goRun_8 : decode cX9_goRun 8 = .ok (.aload_n 1, 1) := by decide +kernel
theorem dX9_goRun_9 : decode cX9_goRun 9 = .ok (.iload_n 3, 1) := by decide +kernel
theorem dX9_goRun_10 : decode cX9_goRun 10 = .ok (.iaload, 1) := by decide +kernel
theorem dX9_goRun_11 : decode cX9_goRun 11 = .ok (.iconst 0, 1) := by decide +kernel
theorem dX9_goRun_12 : decode cX9_goRun 12 = .ok (.iconst 0, 1) := by decide +kernel
theorem dX9_goRun_13 : decode cX9_goRun 13 = .ok (.invokevirtual 202, 3) := by decide +kernel
theorem dX9_goRun_16 : decode cX9_goRun 16 = .ok (.aload_n 0, 1) := by decide +kernel
theorem dX9_goRun_17 : decode cX9_goRun 17 = .ok (.getfield 34, 3) := by decide +kernel
theorem dX9_goRun_20 : decode cX9_goRun 20 = .ok (.iload_n 3, 1) := by decide +kernel
theorem dX9_goRun_21 : decode cX9_goRun 21 = .ok (.aload_n 0, 1) := by decide +kernel
theorem dX9_goRun_22 : decode cX9_goRun 22 = .ok (.getfield 170, 3) := by decide +kernel
theorem dX9_goRun_25 : decode cX9_goRun 25 = .ok (.iastore, 1) := by decide +kernel
theorem dX9_goRun_26 : decode cX9_goRun 26 = .ok (.aload_n 0, 1) := by decide +kernel
theorem dX9_goRun_27 : decode cX9_goRun 27 = .ok (.getfield 37, 3) := by decide +kernel
theorem dX9_goRun_30 : decode cX9_goRun 30 = .ok (.iload_n 3, 1) := by decide +kernel
theorem dX9_goRun_31 : decode cX9_goRun 31 = .ok (.aload_n 0, 1) := by decide +kernel
theorem dX9_goRun_32 : decode cX9_goRun 32 = .ok (.getfield 173, 3) := by decide +kernel
theorem dX9_goRun_35 : decode cX9_goRun 35 = .ok (.iastore, 1) := by decide +kernel
theorem dX9_goRun_36 : decode cX9_goRun 36 = .ok (.aload_n 0, 1) := by decide +kernel
theorem dX9_goRun_37 : decode cX9_goRun 37 = .ok (.getfield 40, 3) := by decide +kernel
theorem dX9_goRun_40 : decode cX9_goRun 40 = .ok (.iload_n 3, 1) := by decide +kernel
theorem dX9_goRun_41 : decode cX9_goRun 41 = .ok (.aload_n 0, 1) := by decide +kernel
theorem dX9_goRun_42 : decode cX9_goRun 42 = .ok (.getfield 180, 3) := by decide +kernel
theorem dX9_goRun_45 : decode cX9_goRun 45 = .ok (.iastore, 1) := by decide +kernel
theorem dX9_goRun_46 : decode cX9_goRun 46 = .ok (.aload_n 0, 1) := by decide +kernel
theorem dX9_goRun_47 : decode cX9_goRun 47 = .ok (.getfield 43, 3) := by decide +kernel
theorem dX9_goRun_50 : decode cX9_goRun 50 = .ok (.iload_n 3, 1) := by decide +kernel
theorem dX9_goRun_51 : decode cX9_goRun 51 = .ok (.aload_n 0, 1) := by decide +kernel
theorem dX9_goRun_52 : decode cX9_goRun 52 = .ok (.getfield 183, 3) := by decide +kernel
theorem dX9_goRun_55 : decode cX9_goRun 55 = .ok (.iastore, 1) := by decide +kernel
theorem dX9_goRun_56 : decode cX9_goRun 56 = .ok (.iinc 3 1, 3) := by decide +kernel
theorem dX9_goRun_59 : decode cX9_goRun 59 = .ok (.goto (-57), 3) := by decide +kernel
theorem dX9_goRun_62 : decode cX9_goRun 62 = .ok (.return_, 1) := by decide +kernel
theorem dX9_goFirst_0 : decode cX9_goFirst 0 = .ok (.aload_n 0, 1) := by decide +kernel
theorem dX9_goFirst_1 : decode cX9_goFirst 1 = .ok (.invokevirtual 205, 3) := by decide +kernel
theorem dX9_goFirst_4 : decode cX9_goFirst 4 = .ok (.aload_n 0, 1) := by decide +kernel
theorem dX9_goFirst_5 : decode cX9_goFirst 5 = .ok (.aload_n 0, 1) := by decide +kernel
theorem dX9_goFirst_6 : decode cX9_goFirst 6 = .ok (.getfield 25, 3) := by decide +kernel
theorem dX9_goFirst_9 : decode cX9_goFirst 9 = .ok (.aload_n 0, 1) := by decide +kernel
theorem dX9_goFirst_10 : decode cX9_goFirst 10 = .ok (.getfield 130, 3) := by decide +kernel
theorem dX9_goFirst_13 : decode cX9_goFirst 13 = .ok (.invokevirtual 208, 3) := by decide +kernel
theorem dX9_goFirst_16 : decode cX9_goFirst 16 = .ok (.return_, 1) := by decide +kernel
theorem dX9_vote_0 : decode cX9_vote 0 = .ok (.aload_n 0, 1) := by decide +kernel
theorem dX9_vote_1 : decode cX9_vote 1 = .ok (.invokevirtual 146, 3) := by decide +kernel
theorem dX9_vote_4 : decode cX9_vote 4 = .ok (.ifCond .eq 15, 3) := by decide +kernel
theorem dX9_vote_7 : decode cX9_vote 7 = .ok (.iload_n 1, 1) := by decide +kernel
theorem dX9_vote_8 : decode cX9_vote 8 = .ok (.ifCond .lt 11, 3) := by decide +kernel
theorem dX9_vote_11 : decode cX9_vote 11 = .ok (.iload_n 1, 1) := by decide +kernel
theorem dX9_vote_12 : decode cX9_vote 12 = .ok (.aload_n 0, 1) := by decide +kernel
theorem dX9_vote_13 : decode cX9_vote 13 = .ok (.getfield 130, 3) := by decide +kernel
theorem dX9_vote_16 : decode cX9_vote 16 = .ok (.if_icmp .lt 5, 3) := by decide +kernel
theorem dX9_vote_19 : decode cX9_vote 19 = .ok (.iconst (-1), 1) := by decide +kernel
theorem dX9_vote_20 : decode cX9_vote 20 = .ok (.ireturn, 1) := by decide +kernel
theorem dX9_vote_21 : decode cX9_vote 21 = .ok (.iload_n 2, 1) := by decide +kernel
theorem dX9_vote_22 : decode cX9_vote 22 = .ok (.iconst 0, 1) := by decide +kernel
theorem dX9_vote_23 : decode cX9_vote 23 = .ok (.iconst 4, 1) := by decide +kernel
theorem dX9_vote_24 : decode cX9_vote 24 = .ok (.invokestatic 87, 3) := by decide +kernel
theorem dX9_vote_27 : decode cX9_vote 27 = .ok (.ifCond .ne 6, 3) := by decide +kernel
theorem dX9_vote_30 : decode cX9_vote 30 = .ok (.bipush (-2), 2) := by decide +kernel
theorem dX9_vote_32 : decode cX9_vote 32 = .ok (.ireturn, 1) := by decide +kernel
theorem dX9_vote_33 : decode cX9_vote 33 = .ok (.aload_n 0, 1) := by decide +kernel
theorem dX9_vote_34 : decode cX9_vote 34 = .ok (.invokevirtual 212, 3) := by decide +kernel
theorem dX9_vote_37 : decode cX9_vote 37 = .ok (.iload_n 2, 1) := by decide +kernel
theorem dX9_vote_38 : decode cX9_vote 38 = .ok (.tableswitch 58 0 3 #[30, 37, 44, 51], 30) := by decide +kernel
theorem dX9_vote_68 : decode cX9_vote 68 = .ok (.aload_n 0, 1) := by decide +kernel
theorem dX9_vote_69 : decode cX9_vote 69 = .ok (.getfield 25, 3) := by decide +kernel
theorem dX9_vote_72 : decode cX9_vote 72 = .ok (.iload_n 1, 1) := by decide +kernel
theorem dX9_vote_73 : decode cX9_vote 73 = .ok (.iaload, 1) := by decide +kernel
theorem dX9_vote_74 : decode cX9_vote 74 = .ok (.ireturn, 1) := by decide +kernel
theorem dX9_vote_75 : decode cX9_vote 75 = .ok (.aload_n 0, 1) := by decide +kernel
theorem dX9_vote_76 : decode cX9_vote 76 = .ok (.getfield 34, 3) := by decide +kernel
theorem dX9_vote_79 : decode cX9_vote 79 = .ok (.iload_n 1, 1) := by decide +kernel
theorem dX9_vote_80 : decode cX9_vote 80 = .ok (.iaload, 1) := by decide +kernel
theorem dX9_vote_81 : decode cX9_vote 81 = .ok (.ireturn, 1) := by decide +kernel
theorem dX9_vote_82 : decode cX9_vote 82 = .ok (.aload_n 0, 1) := by decide +kernel
theorem dX9_vote_83 : decode cX9_vote 83 = .ok (.getfield 37, 3) := by decide +kernel
theorem dX9_vote_86 : decode cX9_vote 86 = .ok (.iload_n 1, 1) := by decide +kernel
theorem dX9_vote_87 : decode cX9_vote 87 = .ok (.iaload, 1) := by decide +kernel
theorem dX9_vote_88 : decode cX9_vote 88 = .ok (.ireturn, 1) := by decide +kernel
theorem dX9_vote_89 : decode cX9_vote 89 = .ok (.aload_n 0, 1) := by decide +kernel
theorem dX9_vote_90 : decode cX9_vote 90 = .ok (.getfield 40, 3) := by decide +kernel
theorem dX9_vote_93 : decode cX9_vote 93 = .ok (.iload_n 1, 1) := by decide +kernel
theorem dX9_vote_94 : decode cX9_vote 94 = .ok (.iaload, 1) := by decide +kernel
theorem dX9_vote_95 : decode cX9_vote 95 = .ok (.ireturn, 1) := by decide +kernel
theorem dX9_vote_96 : decode cX9_vote 96 = .ok (.aload_n 0, 1) := by decide +kernel
theorem dX9_vote_97 : decode cX9_vote 97 = .ok (.getfield 43, 3) := by decide +kernel
theorem dX9_vote_100 : decode cX9_vote 100 = .ok (.iload_n 1, 1) := by decide +kernel
theorem dX9_vote_101 : decode cX9_vote 101 = .ok (.iaload, 1) := by decide +kernel
theorem dX9_vote_102 : decode cX9_vote 102 = .ok (.ireturn, 1) := by decide +kernel
theorem dX9_placeOf_0 : decode cX9_placeOf 0 = .ok (.iconst 0, 1) := by decide +kernel
theorem dX9_placeOf_1 : decode cX9_placeOf 1 = .ok (.istore_n 2, 1) := by decide +kernel
theorem dX9_placeOf_2 : decode cX9_placeOf 2 = .ok (.iload_n 2, 1) := by decide +kernel
theorem dX9_placeOf_3 : decode cX9_placeOf 3 = .ok (.aload_n 0, 1) := by decide +kernel
theorem dX9_placeOf_4 : decode cX9_placeOf 4 = .ok (.getfield 130, 3) := by decide +kernel
theorem dX9_placeOf_7 : decode cX9_placeOf 7 = .ok (.if_icmp .ge 21, 3) := by decide +kernel
theorem dX9_placeOf_10 : decode cX9_placeOf 10 = .ok (.aload_n 0, 1) := by decide +kernel
theorem dX9_placeOf_11 : decode cX9_placeOf 11 = .ok (.getfield 25, 3) := by decide +kernel
theorem dX9_placeOf_14 : decode cX9_placeOf 14 = .ok (.iload_n 2, 1) := by decide +kernel
theorem dX9_placeOf_15 : decode cX9_placeOf 15 = .ok (.iaload, 1) := by decide +kernel
theorem dX9_placeOf_16 : decode cX9_placeOf 16 = .ok (.iload_n 1, 1) := by decide +kernel
theorem dX9_placeOf_17 : decode cX9_placeOf 17 = .ok (.if_icmp .ne 5, 3) := by decide +kernel
theorem dX9_placeOf_20 : decode cX9_placeOf 20 = .ok (.iload_n 2, 1) := by decide +kernel
theorem dX9_placeOf_21 : decode cX9_placeOf 21 = .ok (.ireturn, 1) := by decide +kernel
theorem dX9_placeOf_22 : decode cX9_placeOf 22 = .ok (.iinc 2 1, 3) := by decide +kernel
theorem dX9_placeOf_25 : decode cX9_placeOf 25 = .ok (.goto (-23), 3) := by decide +kernel
theorem dX9_placeOf_28 : decode cX9_placeOf 28 = .ok (.bipush (-9), 2) := by decide +kernel
theorem dX9_placeOf_30 : decode cX9_placeOf 30 = .ok (.ireturn, 1) := by decide +kernel
theorem dX9_decided_0 : decode cX9_decided 0 = .ok (.aload_n 0, 1) := by decide +kernel
theorem dX9_decided_1 : decode cX9_decided 1 = .ok (.iload_n 1, 1) := by decide +kernel
theorem dX9_decided_2 : decode cX9_decided 2 = .ok (.invokevirtual 143, 3) := by decide +kernel
theorem dX9_decided_5 : decode cX9_decided 5 = .ok (.ifCond .ne 5, 3) := by decide +kernel
theorem dX9_decided_8 : decode cX9_decided 8 = .ok (.iconst (-1), 1) := by decide +kernel
theorem dX9_decided_9 : decode cX9_decided 9 = .ok (.ireturn, 1) := by decide +kernel
theorem dX9_decided_10 : decode cX9_decided 10 = .ok (.aload_n 0, 1) := by decide +kernel
theorem dX9_decided_11 : decode cX9_decided 11 = .ok (.iload_n 1, 1) := by decide +kernel
theorem dX9_decided_12 : decode cX9_decided 12 = .ok (.invokevirtual 215, 3) := by decide +kernel
theorem dX9_decided_15 : decode cX9_decided 15 = .ok (.istore_n 2, 1) := by decide +kernel
theorem dX9_decided_16 : decode cX9_decided 16 = .ok (.iload_n 2, 1) := by decide +kernel
theorem dX9_decided_17 : decode cX9_decided 17 = .ok (.bipush (-9), 2) := by decide +kernel
theorem dX9_decided_19 : decode cX9_decided 19 = .ok (.if_icmp .ne 6, 3) := by decide +kernel
theorem dX9_decided_22 : decode cX9_decided 22 = .ok (.bipush (-9), 2) := by decide +kernel
theorem dX9_decided_24 : decode cX9_decided 24 = .ok (.ireturn, 1) := by decide +kernel
theorem dX9_decided_25 : decode cX9_decided 25 = .ok (.aload_n 0, 1) := by decide +kernel
theorem dX9_decided_26 : decode cX9_decided 26 = .ok (.invokevirtual 212, 3) := by decide +kernel
theorem dX9_decided_29 : decode cX9_decided 29 = .ok (.aload_n 0, 1) := by decide +kernel
theorem dX9_decided_30 : decode cX9_decided 30 = .ok (.getfield 40, 3) := by decide +kernel
theorem dX9_decided_33 : decode cX9_decided 33 = .ok (.iload_n 2, 1) := by decide +kernel
theorem dX9_decided_34 : decode cX9_decided 34 = .ok (.iaload, 1) := by decide +kernel
theorem dX9_decided_35 : decode cX9_decided 35 = .ok (.ireturn, 1) := by decide +kernel
theorem dX9_sits_0 : decode cX9_sits 0 = .ok (.aload_n 0, 1) := by decide +kernel
theorem dX9_sits_1 : decode cX9_sits 1 = .ok (.invokevirtual 146, 3) := by decide +kernel
theorem dX9_sits_4 : decode cX9_sits 4 = .ok (.ifCond .ne 6, 3) := by decide +kernel
theorem dX9_sits_7 : decode cX9_sits 7 = .ok (.bipush (-3), 2) := by decide +kernel
theorem dX9_sits_9 : decode cX9_sits 9 = .ok (.ireturn, 1) := by decide +kernel
theorem dX9_sits_10 : decode cX9_sits 10 = .ok (.aload_n 0, 1) := by decide +kernel
theorem dX9_sits_11 : decode cX9_sits 11 = .ok (.invokevirtual 212, 3) := by decide +kernel
theorem dX9_sits_14 : decode cX9_sits 14 = .ok (.aload_n 0, 1) := by decide +kernel
theorem dX9_sits_15 : decode cX9_sits 15 = .ok (.getfield 157, 3) := by decide +kernel
theorem dX9_sits_18 : decode cX9_sits 18 = .ok (.ifCond .eq 8, 3) := by decide +kernel
theorem dX9_sits_21 : decode cX9_sits 21 = .ok (.bipush (-6), 2) := by decide +kernel
theorem dX9_sits_23 : decode cX9_sits 23 = .ok (.goto 7, 3) := by decide +kernel
theorem dX9_sits_26 : decode cX9_sits 26 = .ok (.aload_n 0, 1) := by decide +kernel
theorem dX9_sits_27 : decode cX9_sits 27 = .ok (.getfield 154, 3) := by decide +kernel
theorem dX9_sits_30 : decode cX9_sits 30 = .ok (.ireturn, 1) := by decide +kernel
theorem dX9_stateNow_0 : decode cX9_stateNow 0 = .ok (.aload_n 0, 1) := by decide +kernel
theorem dX9_stateNow_1 : decode cX9_stateNow 1 = .ok (.getfield 157, 3) := by decide +kernel
theorem dX9_stateNow_4 : decode cX9_stateNow 4 = .ok (.ifCond .eq 9, 3) := by decide +kernel
theorem dX9_stateNow_7 : decode cX9_stateNow 7 = .ok (.sipush 256, 3) := by decide +kernel
theorem dX9_stateNow_10 : decode cX9_stateNow 10 = .ok (.goto 7, 3) := by decide +kernel
theorem dX9_stateNow_13 : decode cX9_stateNow 13 = .ok (.aload_n 0, 1) := by decide +kernel
theorem dX9_stateNow_14 : decode cX9_stateNow 14 = .ok (.getfield 154, 3) := by decide +kernel
theorem dX9_stateNow_17 : decode cX9_stateNow 17 = .ok (.bipush 8, 2) := by decide +kernel
theorem dX9_stateNow_19 : decode cX9_stateNow 19 = .ok (.imul, 1) := by decide +kernel
theorem dX9_stateNow_20 : decode cX9_stateNow 20 = .ok (.aload_n 0, 1) := by decide +kernel
theorem dX9_stateNow_21 : decode cX9_stateNow 21 = .ok (.getfield 161, 3) := by decide +kernel
theorem dX9_stateNow_24 : decode cX9_stateNow 24 = .ok (.iadd, 1) := by decide +kernel
theorem dX9_stateNow_25 : decode cX9_stateNow 25 = .ok (.ireturn, 1) := by decide +kernel
theorem dX9_findRing_0 : decode cX9_findRing 0 = .ok (.iconst 0, 1) := by decide +kernel
theorem dX9_findRing_1 : decode cX9_findRing 1 = .ok (.istore_n 1, 1) := by decide +kernel
theorem dX9_findRing_2 : decode cX9_findRing 2 = .ok (.iload_n 1, 1) := by decide +kernel
theorem dX9_findRing_3 : decode cX9_findRing 3 = .ok (.sipush 4096, 3) := by decide +kernel
theorem dX9_findRing_6 : decode cX9_findRing 6 = .ok (.if_icmp .ge 17, 3) := by decide +kernel
theorem dX9_findRing_9 : decode cX9_findRing 9 = .ok (.aload_n 0, 1) := by decide +kernel
theorem dX9_findRing_10 : decode cX9_findRing 10 = .ok (.getfield 46, 3) := by decide +kernel
theorem dX9_findRing_13 : decode cX9_findRing 13 = .ok (.iload_n 1, 1) := by decide +kernel
theorem dX9_findRing_14 : decode cX9_findRing 14 = .ok (.bipush (-9), 2) := by decide +kernel
theorem dX9_findRing_16 : decode cX9_findRing 16 = .ok (.iastore, 1) := by decide +kernel
theorem dX9_findRing_17 : decode cX9_findRing 17 = .ok (.iinc 1 1, 3) := by decide +kernel
theorem dX9_findRing_20 : decode cX9_findRing 20 = .ok (.goto (-18), 3) := by decide +kernel
theorem dX9_findRing_23 : decode cX9_findRing 23 = .ok (.aload_n 0, 1) := by decide +kernel
theorem dX9_findRing_24 : decode cX9_findRing 24 = .ok (.invokevirtual 205, 3) := by decide +kernel
theorem dX9_findRing_27 : decode cX9_findRing 27 = .ok (.iconst 0, 1) := by decide +kernel
theorem dX9_findRing_28 : decode cX9_findRing 28 = .ok (.istore_n 1, 1) := by decide +kernel
theorem dX9_findRing_29 : decode cX9_findRing 29 = .ok (.aload_n 0, 1) := by decide +kernel
theorem dX9_findRing_30 : decode cX9_findRing 30 = .ok (.getfield 46, 3) := by decide +kernel
theorem dX9_findRing_33 : decode cX9_findRing 33 = .ok (.aload_n 0, 1) := by decide +kernel
theorem dX9_findRing_34 : decode cX9_findRing 34 = .ok (.invokevirtual 218, 3) := by decide +kernel
theorem dX9_findRing_37 : decode cX9_findRing 37 = .ok (.iaload, 1) := by decide +kernel
theorem dX9_findRing_38 : decode cX9_findRing 38 = .ok (.bipush (-9), 2) := by decide +kernel
theorem dX9_findRing_40 : decode cX9_findRing 40 = .ok (.if_icmp .ne 31, 3) := by decide +kernel
theorem dX9_findRing_43 : decode cX9_findRing 43 = .ok (.aload_n 0, 1) := by decide +kernel
theorem dX9_findRing_44 : decode cX9_findRing 44 = .ok (.getfield 46, 3) := by decide +kernel
theorem dX9_findRing_47 : decode cX9_findRing 47 = .ok (.aload_n 0, 1) := by decide +kernel
theorem dX9_findRing_48 : decode cX9_findRing 48 = .ok (.invokevirtual 218, 3) := by decide +kernel
theorem dX9_findRing_51 : decode cX9_findRing 51 = .ok (.iload_n 1, 1) := by decide +kernel
theorem dX9_findRing_52 : decode cX9_findRing 52 = .ok (.iastore, 1) := by decide +kernel
theorem dX9_findRing_53 : decode cX9_findRing 53 = .ok (.aload_n 0, 1) := by decide +kernel
theorem dX9_findRing_54 : decode cX9_findRing 54 = .ok (.aload_n 0, 1) := by decide +kernel
theorem dX9_findRing_55 : decode cX9_findRing 55 = .ok (.getfield 25, 3) := by decide +kernel
theorem dX9_findRing_58 : decode cX9_findRing 58 = .ok (.aload_n 0, 1) := by decide +kernel
theorem dX9_findRing_59 : decode cX9_findRing 59 = .ok (.getfield 130, 3) := by decide +kernel
theorem dX9_findRing_62 : decode cX9_findRing 62 = .ok (.invokevirtual 208, 3) := by decide +kernel
theorem dX9_findRing_65 : decode cX9_findRing 65 = .ok (.iinc 1 1, 3) := by decide +kernel
theorem dX9_findRing_68 : decode cX9_findRing 68 = .ok (.goto (-39), 3) := by decide +kernel
theorem dX9_findRing_71 : decode cX9_findRing 71 = .ok (.aload_n 0, 1) := by decide +kernel
theorem dX9_findRing_72 : decode cX9_findRing 72 = .ok (.aload_n 0, 1) := by decide +kernel
theorem dX9_findRing_73 : decode cX9_findRing 73 = .ok (.getfield 46, 3) := by decide +kernel
theorem dX9_findRing_76 : decode cX9_findRing 76 = .ok (.aload_n 0, 1) := by decide +kernel
theorem dX9_findRing_77 : decode cX9_findRing 77 = .ok (.invokevirtual 218, 3) := by decide +kernel
theorem dX9_findRing_80 : decode cX9_findRing 80 = .ok (.iaload, 1) := by decide +kernel
theorem dX9_findRing_81 : decode cX9_findRing 81 = .ok (.putfield 221, 3) := by decide +kernel
theorem dX9_findRing_84 : decode cX9_findRing 84 = .ok (.aload_n 0, 1) := by decide +kernel
theorem dX9_findRing_85 : decode cX9_findRing 85 = .ok (.iload_n 1, 1) := by decide +kernel
theorem dX9_findRing_86 : decode cX9_findRing 86 = .ok (.aload_n 0, 1) := by decide +kernel
theorem dX9_findRing_87 : decode cX9_findRing 87 = .ok (.getfield 221, 3) := by decide +kernel
theorem dX9_findRing_90 : decode cX9_findRing 90 = .ok (.isub, 1) := by decide +kernel
theorem dX9_findRing_91 : decode cX9_findRing 91 = .ok (.putfield 224, 3) := by decide +kernel
theorem dX9_findRing_94 : decode cX9_findRing 94 = .ok (.return_, 1) := by decide +kernel
theorem dX9_ever_0 : decode cX9_ever 0 = .ok (.iload_n 1, 1) := by decide +kernel
theorem dX9_ever_1 : decode cX9_ever 1 = .ok (.iconst 0, 1) := by decide +kernel
theorem dX9_ever_2 : decode cX9_ever 2 = .ok (.iconst 1, 1) := by decide +kernel
theorem dX9_ever_3 : decode cX9_ever 3 = .ok (.invokestatic 87, 3) := by decide +kernel
theorem dX9_ever_6 : decode cX9_ever 6 = .ok (.ifCond .ne 6, 3) := by decide +kernel
theorem dX9_ever_9 : decode cX9_ever 9 = .ok (.bipush (-2), 2) := by decide +kernel
theorem dX9_ever_11 : decode cX9_ever 11 = .ok (.ireturn, 1) := by decide +kernel
theorem dX9_ever_12 : decode cX9_ever 12 = .ok (.aload_n 0, 1) := by decide +kernel
theorem dX9_ever_13 : decode cX9_ever 13 = .ok (.invokevirtual 146, 3) := by decide +kernel
theorem dX9_ever_16 : decode cX9_ever 16 = .ok (.ifCond .ne 6, 3) := by decide +kernel
theorem dX9_ever_19 : decode cX9_ever 19 = .ok (.bipush (-3), 2) := by decide +kernel
theorem dX9_ever_21 : decode cX9_ever 21 = .ok (.ireturn, 1) := by decide +kernel
theorem dX9_ever_22 : decode cX9_ever 22 = .ok (.aload_n 0, 1) := by decide +kernel
theorem dX9_ever_23 : decode cX9_ever 23 = .ok (.invokevirtual 227, 3) := by decide +kernel
theorem dX9_ever_26 : decode cX9_ever 26 = .ok (.iload_n 1, 1) := by decide +kernel
theorem dX9_ever_27 : decode cX9_ever 27 = .ok (.ifCond .ne 10, 3) := by decide +kernel
theorem dX9_ever_30 : decode cX9_ever 30 = .ok (.aload_n 0, 1) := by decide +kernel
theorem dX9_ever_31 : decode cX9_ever 31 = .ok (.getfield 221, 3) := by decide +kernel
theorem dX9_ever_34 : decode cX9_ever 34 = .ok (.goto 7, 3) := by decide +kernel
theorem dX9_ever_37 : decode cX9_ever 37 = .ok (.aload_n 0, 1) := by decide +kernel
theorem dX9_ever_38 : decode cX9_ever 38 = .ok (.getfield 224, 3) := by decide +kernel
theorem dX9_ever_41 : decode cX9_ever 41 = .ok (.ireturn, 1) := by decide +kernel
theorem dX9_often_0 : decode cX9_often 0 = .ok (.aload_n 0, 1) := by decide +kernel
theorem dX9_often_1 : decode cX9_often 1 = .ok (.iload_n 1, 1) := by decide +kernel
theorem dX9_often_2 : decode cX9_often 2 = .ok (.invokevirtual 143, 3) := by decide +kernel
theorem dX9_often_5 : decode cX9_often 5 = .ok (.ifCond .ne 5, 3) := by decide +kernel
theorem dX9_often_8 : decode cX9_often 8 = .ok (.iconst (-1), 1) := by decide +kernel
theorem dX9_often_9 : decode cX9_often 9 = .ok (.ireturn, 1) := by decide +kernel
theorem dX9_often_10 : decode cX9_often 10 = .ok (.aload_n 0, 1) := by decide +kernel
theorem dX9_often_11 : decode cX9_often 11 = .ok (.iload_n 1, 1) := by decide +kernel
theorem dX9_often_12 : decode cX9_often 12 = .ok (.invokevirtual 215, 3) := by decide +kernel
theorem dX9_often_15 : decode cX9_often 15 = .ok (.istore_n 2, 1) := by decide +kernel
theorem dX9_often_16 : decode cX9_often 16 = .ok (.iload_n 2, 1) := by decide +kernel
theorem dX9_often_17 : decode cX9_often 17 = .ok (.bipush (-9), 2) := by decide +kernel
theorem dX9_often_19 : decode cX9_often 19 = .ok (.if_icmp .ne 5, 3) := by decide +kernel
theorem dX9_often_22 : decode cX9_often 22 = .ok (.iconst 0, 1) := by decide +kernel
theorem dX9_often_23 : decode cX9_often 23 = .ok (.ireturn, 1) := by decide +kernel
theorem dX9_often_24 : decode cX9_often 24 = .ok (.aload_n 0, 1) := by decide +kernel
theorem dX9_often_25 : decode cX9_often 25 = .ok (.invokevirtual 227, 3) := by decide +kernel
theorem dX9_often_28 : decode cX9_often 28 = .ok (.iconst 0, 1) := by decide +kernel
theorem dX9_often_29 : decode cX9_often 29 = .ok (.istore_n 3, 1) := by decide +kernel
theorem dX9_often_30 : decode cX9_often 30 = .ok (.iconst 0, 1) := by decide +kernel
theorem dX9_often_31 : decode cX9_often 31 = .ok (.istore 4, 2) := by decide +kernel
theorem dX9_often_33 : decode cX9_often 33 = .ok (.iload 4, 2) := by decide +kernel
theorem dX9_often_35 : decode cX9_often 35 = .ok (.aload_n 0, 1) := by decide +kernel
theorem dX9_often_36 : decode cX9_often 36 = .ok (.getfield 224, 3) := by decide +kernel
theorem dX9_often_39 : decode cX9_often 39 = .ok (.if_icmp .ge 39, 3) := by decide +kernel
theorem dX9_often_42 : decode cX9_often 42 = .ok (.aload_n 0, 1) := by decide +kernel
theorem dX9_often_43 : decode cX9_often 43 = .ok (.aload_n 0, 1) := by decide +kernel
theorem dX9_often_44 : decode cX9_often 44 = .ok (.getfield 25, 3) := by decide +kernel
theorem dX9_often_47 : decode cX9_often 47 = .ok (.aload_n 0, 1) := by decide +kernel
theorem dX9_often_48 : decode cX9_often 48 = .ok (.getfield 130, 3) := by decide +kernel
theorem dX9_often_51 : decode cX9_often 51 = .ok (.invokevirtual 208, 3) := by decide +kernel
theorem dX9_often_54 : decode cX9_often 54 = .ok (.iload_n 3, 1) := by decide +kernel
theorem dX9_often_55 : decode cX9_often 55 = .ok (.aload_n 0, 1) := by decide +kernel
theorem dX9_often_56 : decode cX9_often 56 = .ok (.getfield 40, 3) := by decide +kernel
theorem dX9_often_59 : decode cX9_often 59 = .ok (.iload_n 2, 1) := by decide +kernel
theorem dX9_often_60 : decode cX9_often 60 = .ok (.iaload, 1) := by decide +kernel
theorem dX9_often_61 : decode cX9_often 61 = .ok (.iconst 1, 1) := by decide +kernel
theorem dX9_often_62 : decode cX9_often 62 = .ok (.if_icmp .ne 7, 3) := by decide +kernel
theorem dX9_often_65 : decode cX9_often 65 = .ok (.iconst 1, 1) := by decide +kernel
theorem dX9_often_66 : decode cX9_often 66 = .ok (.goto 4, 3) := by decide +kernel
theorem dX9_often_69 : decode cX9_often 69 = .ok (.iconst 0, 1) := by decide +kernel
theorem dX9_often_70 : decode cX9_often 70 = .ok (.iadd, 1) := by decide +kernel
theorem dX9_often_71 : decode cX9_often 71 = .ok (.istore_n 3, 1) := by decide +kernel
theorem dX9_often_72 : decode cX9_often 72 = .ok (.iinc 4 1, 3) := by decide +kernel
theorem dX9_often_75 : decode cX9_often 75 = .ok (.goto (-42), 3) := by decide +kernel
theorem dX9_often_78 : decode cX9_often 78 = .ok (.iload_n 3, 1) := by decide +kernel
theorem dX9_often_79 : decode cX9_often 79 = .ok (.ireturn, 1) := by decide +kernel
theorem dX9_spread_0 : decode cX9_spread 0 = .ok (.iconst 0, 1) := by decide +kernel
theorem dX9_spread_1 : decode cX9_spread 1 = .ok (.istore_n 2, 1) := by decide +kernel
theorem dX9_spread_2 : decode cX9_spread 2 = .ok (.iload_n 0, 1) := by decide +kernel
theorem dX9_spread_3 : decode cX9_spread 3 = .ok (.istore_n 3, 1) := by decide +kernel
theorem dX9_spread_4 : decode cX9_spread 4 = .ok (.iconst 0, 1) := by decide +kernel
theorem dX9_spread_5 : decode cX9_spread 5 = .ok (.istore 4, 2) := by decide +kernel
theorem dX9_spread_7 : decode cX9_spread 7 = .ok (.iload 4, 2) := by decide +kernel
theorem dX9_spread_9 : decode cX9_spread 9 = .ok (.bipush 8, 2) := by decide +kernel
theorem dX9_spread_11 : decode cX9_spread 11 = .ok (.if_icmp .ge 32, 3) := by decide +kernel
theorem dX9_spread_14 : decode cX9_spread 14 = .ok (.iload_n 1, 1) := by decide +kernel
theorem dX9_spread_15 : decode cX9_spread 15 = .ok (.iload 4, 2) := by decide +kernel
theorem dX9_spread_17 : decode cX9_spread 17 = .ok (.ishr, 1) := by decide +kernel
theorem dX9_spread_18 : decode cX9_spread 18 = .ok (.iconst 1, 1) := by decide +kernel
theorem dX9_spread_19 : decode cX9_spread 19 = .ok (.iand, 1) := by decide +kernel
theorem dX9_spread_20 : decode cX9_spread 20 = .ok (.iconst 1, 1) := by decide +kernel
theorem dX9_spread_21 : decode cX9_spread 21 = .ok (.if_icmp .ne 16, 3) := by decide +kernel
theorem dX9_spread_24 : decode cX9_spread 24 = .ok (.iload_n 2, 1) := by decide +kernel
theorem dX9_spread_25 : decode cX9_spread 25 = .ok (.iload_n 3, 1) := by decide +kernel
theorem dX9_spread_26 : decode cX9_spread 26 = .ok (.iconst 1, 1) := by decide +kernel
theorem dX9_spread_27 : decode cX9_spread 27 = .ok (.iand, 1) := by decide +kernel
theorem dX9_spread_28 : decode cX9_spread 28 = .ok (.iload 4, 2) := by decide +kernel
theorem dX9_spread_30 : decode cX9_spread 30 = .ok (.ishl, 1) := by decide +kernel
theorem dX9_spread_31 : decode cX9_spread 31 = .ok (.ior, 1) := by decide +kernel
theorem dX9_spread_32 : decode cX9_spread 32 = .ok (.istore_n 2, 1) := by decide +kernel
theorem dX9_spread_33 : decode cX9_spread 33 = .ok (.iload_n 3, 1) := by decide +kernel
theorem dX9_spread_34 : decode cX9_spread 34 = .ok (.iconst 1, 1) := by decide +kernel
theorem dX9_spread_35 : decode cX9_spread 35 = .ok (.ishr, 1) := by decide +kernel
theorem dX9_spread_36 : decode cX9_spread 36 = .ok (.istore_n 3, 1) := by decide +kernel
theorem dX9_spread_37 : decode cX9_spread 37 = .ok (.iinc 4 1, 3) := by decide +kernel
theorem dX9_spread_40 : decode cX9_spread 40 = .ok (.goto (-33), 3) := by decide +kernel
theorem dX9_spread_43 : decode cX9_spread 43 = .ok (.iload_n 2, 1) := by decide +kernel
theorem dX9_spread_44 : decode cX9_spread 44 = .ok (.ireturn, 1) := by decide +kernel
theorem dX9_lies_0 : decode cX9_lies 0 = .ok (.iconst 0, 1) := by decide +kernel
theorem dX9_lies_1 : decode cX9_lies 1 = .ok (.istore 4, 2) := by decide +kernel
theorem dX9_lies_3 : decode cX9_lies 3 = .ok (.iconst 0, 1) := by decide +kernel
theorem dX9_lies_4 : decode cX9_lies 4 = .ok (.istore 5, 2) := by decide +kernel
end
section
theorem dX9_lies_6 : decode cX9_lies 6 = .ok (.iload 5, 2) := by decide +kernel
theorem dX9_lies_8 : decode cX9_lies 8 = .ok (.aload_n 0, 1) := by decide +kernel
theorem dX9_lies_9 : decode cX9_lies 9 = .ok (.getfield 91, 3) := by decide +kernel
theorem dX9_lies_12 : decode cX9_lies 12 = .ok (.if_icmp .ge 49, 3) := by decide +kernel
theorem dX9_lies_15 : decode cX9_lies 15 = .ok (.iload 4, 2) := by decide +kernel
theorem dX9_lies_17 : decode cX9_lies 17 = .ok (.iload_n 2, 1) := by decide +kernel
theorem dX9_lies_18 : decode cX9_lies 18 = .ok (.iload 5, 2) := by decide +kernel
theorem dX9_lies_20 : decode cX9_lies 20 = .ok (.ishr, 1) := by decide +kernel
theorem dX9_lies_21 : decode cX9_lies 21 = .ok (.iconst 1, 1) := by decide +kernel
theorem dX9_lies_22 : decode cX9_lies 22 = .ok (.iand, 1) := by decide +kernel
theorem dX9_lies_23 : decode cX9_lies 23 = .ok (.iconst 1, 1) := by decide +kernel
theorem dX9_lies_24 : decode cX9_lies 24 = .ok (.if_icmp .ne 27, 3) := by decide +kernel
theorem dX9_lies_27 : decode cX9_lies 27 = .ok (.iload_n 3, 1) := by decide +kernel
theorem dX9_lies_28 : decode cX9_lies 28 = .ok (.iload 5, 2) := by decide +kernel
theorem dX9_lies_30 : decode cX9_lies 30 = .ok (.ishr, 1) := by decide +kernel
theorem dX9_lies_31 : decode cX9_lies 31 = .ok (.iconst 1, 1) := by decide +kernel
theorem dX9_lies_32 : decode cX9_lies 32 = .ok (.iand, 1) := by decide +kernel
theorem dX9_lies_33 : decode cX9_lies 33 = .ok (.aload_n 0, 1) := by decide +kernel
theorem dX9_lies_34 : decode cX9_lies 34 = .ok (.getfield 22, 3) := by decide +kernel
theorem dX9_lies_37 : decode cX9_lies 37 = .ok (.iload 5, 2) := by decide +kernel
theorem dX9_lies_39 : decode cX9_lies 39 = .ok (.iaload, 1) := by decide +kernel
theorem dX9_lies_40 : decode cX9_lies 40 = .ok (.iload_n 1, 1) := by decide +kernel
theorem dX9_lies_41 : decode cX9_lies 41 = .ok (.ishr, 1) := by decide +kernel
theorem dX9_lies_42 : decode cX9_lies 42 = .ok (.iconst 1, 1) := by decide +kernel
theorem dX9_lies_43 : decode cX9_lies 43 = .ok (.iand, 1) := by decide +kernel
theorem dX9_lies_44 : decode cX9_lies 44 = .ok (.if_icmp .eq 7, 3) := by decide +kernel
theorem dX9_lies_47 : decode cX9_lies 47 = .ok (.iconst 1, 1) := by decide +kernel
theorem dX9_lies_48 : decode cX9_lies 48 = .ok (.goto 4, 3) := by decide +kernel
theorem dX9_lies_51 : decode cX9_lies 51 = .ok (.iconst 0, 1) := by decide +kernel
theorem dX9_lies_52 : decode cX9_lies 52 = .ok (.iadd, 1) := by decide +kernel
theorem dX9_lies_53 : decode cX9_lies 53 = .ok (.istore 4, 2) := by decide +kernel
theorem dX9_lies_55 : decode cX9_lies 55 = .ok (.iinc 5 1, 3) := by decide +kernel
theorem dX9_lies_58 : decode cX9_lies 58 = .ok (.goto (-52), 3) := by decide +kernel
theorem dX9_lies_61 : decode cX9_lies 61 = .ok (.iload 4, 2) := by decide +kernel
theorem dX9_lies_63 : decode cX9_lies 63 = .ok (.ireturn, 1) := by decide +kernel
theorem dX9_keepAhead_0 : decode cX9_keepAhead 0 = .ok (.aload_n 0, 1) := by decide +kernel
theorem dX9_keepAhead_1 : decode cX9_keepAhead 1 = .ok (.getfield 49, 3) := by decide +kernel
theorem dX9_keepAhead_4 : decode cX9_keepAhead 4 = .ok (.iload_n 1, 1) := by decide +kernel
theorem dX9_keepAhead_5 : decode cX9_keepAhead 5 = .ok (.aload_n 0, 1) := by decide +kernel
theorem dX9_keepAhead_6 : decode cX9_keepAhead 6 = .ok (.getfield 154, 3) := by decide +kernel
theorem dX9_keepAhead_9 : decode cX9_keepAhead 9 = .ok (.iastore, 1) := by decide +kernel
theorem dX9_keepAhead_10 : decode cX9_keepAhead 10 = .ok (.aload_n 0, 1) := by decide +kernel
theorem dX9_keepAhead_11 : decode cX9_keepAhead 11 = .ok (.getfield 52, 3) := by decide +kernel
theorem dX9_keepAhead_14 : decode cX9_keepAhead 14 = .ok (.iload_n 1, 1) := by decide +kernel
theorem dX9_keepAhead_15 : decode cX9_keepAhead 15 = .ok (.aload_n 0, 1) := by decide +kernel
theorem dX9_keepAhead_16 : decode cX9_keepAhead 16 = .ok (.getfield 157, 3) := by decide +kernel
theorem dX9_keepAhead_19 : decode cX9_keepAhead 19 = .ok (.bastore, 1) := by decide +kernel
theorem dX9_keepAhead_20 : decode cX9_keepAhead 20 = .ok (.aload_n 0, 1) := by decide +kernel
theorem dX9_keepAhead_21 : decode cX9_keepAhead 21 = .ok (.getfield 56, 3) := by decide +kernel
theorem dX9_keepAhead_24 : decode cX9_keepAhead 24 = .ok (.iload_n 1, 1) := by decide +kernel
theorem dX9_keepAhead_25 : decode cX9_keepAhead 25 = .ok (.aload_n 0, 1) := by decide +kernel
theorem dX9_keepAhead_26 : decode cX9_keepAhead 26 = .ok (.getfield 161, 3) := by decide +kernel
theorem dX9_keepAhead_29 : decode cX9_keepAhead 29 = .ok (.iastore, 1) := by decide +kernel
theorem dX9_keepAhead_30 : decode cX9_keepAhead 30 = .ok (.aload_n 0, 1) := by decide +kernel
theorem dX9_keepAhead_31 : decode cX9_keepAhead 31 = .ok (.getfield 59, 3) := by decide +kernel
theorem dX9_keepAhead_34 : decode cX9_keepAhead 34 = .ok (.iload_n 1, 1) := by decide +kernel
theorem dX9_keepAhead_35 : decode cX9_keepAhead 35 = .ok (.iload_n 2, 1) := by decide +kernel
theorem dX9_keepAhead_36 : decode cX9_keepAhead 36 = .ok (.iastore, 1) := by decide +kernel
theorem dX9_keepAhead_37 : decode cX9_keepAhead 37 = .ok (.aload_n 0, 1) := by decide +kernel
theorem dX9_keepAhead_38 : decode cX9_keepAhead 38 = .ok (.getfield 62, 3) := by decide +kernel
theorem dX9_keepAhead_41 : decode cX9_keepAhead 41 = .ok (.iload_n 1, 1) := by decide +kernel
theorem dX9_keepAhead_42 : decode cX9_keepAhead 42 = .ok (.iconst (-1), 1) := by decide +kernel
theorem dX9_keepAhead_43 : decode cX9_keepAhead 43 = .ok (.iastore, 1) := by decide +kernel
theorem dX9_keepAhead_44 : decode cX9_keepAhead 44 = .ok (.return_, 1) := by decide +kernel
theorem dX9_findSway_0 : decode cX9_findSway 0 = .ok (.aload_n 0, 1) := by decide +kernel
theorem dX9_findSway_1 : decode cX9_findSway 1 = .ok (.invokevirtual 205, 3) := by decide +kernel
theorem dX9_findSway_4 : decode cX9_findSway 4 = .ok (.aload_n 0, 1) := by decide +kernel
theorem dX9_findSway_5 : decode cX9_findSway 5 = .ok (.iconst 0, 1) := by decide +kernel
theorem dX9_findSway_6 : decode cX9_findSway 6 = .ok (.iconst 0, 1) := by decide +kernel
theorem dX9_findSway_7 : decode cX9_findSway 7 = .ok (.invokevirtual 230, 3) := by decide +kernel
theorem dX9_findSway_10 : decode cX9_findSway 10 = .ok (.ldc 234, 2) := by decide +kernel
theorem dX9_findSway_12 : decode cX9_findSway 12 = .ok (.istore_n 3, 1) := by decide +kernel
theorem dX9_findSway_13 : decode cX9_findSway 13 = .ok (.iconst 0, 1) := by decide +kernel
theorem dX9_findSway_14 : decode cX9_findSway 14 = .ok (.istore 4, 2) := by decide +kernel
theorem dX9_findSway_16 : decode cX9_findSway 16 = .ok (.iload 4, 2) := by decide +kernel
theorem dX9_findSway_18 : decode cX9_findSway 18 = .ok (.ifCond .lt 190, 3) := by decide +kernel
theorem dX9_findSway_21 : decode cX9_findSway 21 = .ok (.aload_n 0, 1) := by decide +kernel
theorem dX9_findSway_22 : decode cX9_findSway 22 = .ok (.aload_n 0, 1) := by decide +kernel
theorem dX9_findSway_23 : decode cX9_findSway 23 = .ok (.getfield 49, 3) := by decide +kernel
theorem dX9_findSway_26 : decode cX9_findSway 26 = .ok (.iload 4, 2) := by decide +kernel
theorem dX9_findSway_28 : decode cX9_findSway 28 = .ok (.iaload, 1) := by decide +kernel
theorem dX9_findSway_29 : decode cX9_findSway 29 = .ok (.putfield 154, 3) := by decide +kernel
theorem dX9_findSway_32 : decode cX9_findSway 32 = .ok (.aload_n 0, 1) := by decide +kernel
theorem dX9_findSway_33 : decode cX9_findSway 33 = .ok (.aload_n 0, 1) := by decide +kernel
theorem dX9_findSway_34 : decode cX9_findSway 34 = .ok (.getfield 52, 3) := by decide +kernel
theorem dX9_findSway_37 : decode cX9_findSway 37 = .ok (.iload 4, 2) := by decide +kernel
theorem dX9_findSway_39 : decode cX9_findSway 39 = .ok (.baload, 1) := by decide +kernel
theorem dX9_findSway_40 : decode cX9_findSway 40 = .ok (.putfield 157, 3) := by decide +kernel
theorem dX9_findSway_43 : decode cX9_findSway 43 = .ok (.aload_n 0, 1) := by decide +kernel
theorem dX9_findSway_44 : decode cX9_findSway 44 = .ok (.aload_n 0, 1) := by decide +kernel
theorem dX9_findSway_45 : decode cX9_findSway 45 = .ok (.getfield 56, 3) := by decide +kernel
theorem dX9_findSway_48 : decode cX9_findSway 48 = .ok (.iload 4, 2) := by decide +kernel
theorem dX9_findSway_50 : decode cX9_findSway 50 = .ok (.iaload, 1) := by decide +kernel
theorem dX9_findSway_51 : decode cX9_findSway 51 = .ok (.putfield 161, 3) := by decide +kernel
theorem dX9_findSway_54 : decode cX9_findSway 54 = .ok (.aload_n 0, 1) := by decide +kernel
theorem dX9_findSway_55 : decode cX9_findSway 55 = .ok (.getfield 157, 3) := by decide +kernel
theorem dX9_findSway_58 : decode cX9_findSway 58 = .ok (.ifCond .eq 7, 3) := by decide +kernel
theorem dX9_findSway_61 : decode cX9_findSway 61 = .ok (.iconst 0, 1) := by decide +kernel
theorem dX9_findSway_62 : decode cX9_findSway 62 = .ok (.goto 9, 3) := by decide +kernel
theorem dX9_findSway_65 : decode cX9_findSway 65 = .ok (.iload_n 1, 1) := by decide +kernel
theorem dX9_findSway_66 : decode cX9_findSway 66 = .ok (.aload_n 0, 1) := by decide +kernel
theorem dX9_findSway_67 : decode cX9_findSway 67 = .ok (.getfield 154, 3) := by decide +kernel
theorem dX9_findSway_70 : decode cX9_findSway 70 = .ok (.iand, 1) := by decide +kernel
theorem dX9_findSway_71 : decode cX9_findSway 71 = .ok (.istore 5, 2) := by decide +kernel
theorem dX9_findSway_73 : decode cX9_findSway 73 = .ok (.aload_n 0, 1) := by decide +kernel
theorem dX9_findSway_74 : decode cX9_findSway 74 = .ok (.getfield 62, 3) := by decide +kernel
theorem dX9_findSway_77 : decode cX9_findSway 77 = .ok (.iload 4, 2) := by decide +kernel
theorem dX9_findSway_79 : decode cX9_findSway 79 = .ok (.dup2, 1) := by decide +kernel
theorem dX9_findSway_80 : decode cX9_findSway 80 = .ok (.iaload, 1) := by decide +kernel
theorem dX9_findSway_81 : decode cX9_findSway 81 = .ok (.iconst 1, 1) := by decide +kernel
theorem dX9_findSway_82 : decode cX9_findSway 82 = .ok (.iadd, 1) := by decide +kernel
theorem dX9_findSway_83 : decode cX9_findSway 83 = .ok (.iastore, 1) := by decide +kernel
theorem dX9_findSway_84 : decode cX9_findSway 84 = .ok (.aload_n 0, 1) := by decide +kernel
theorem dX9_findSway_85 : decode cX9_findSway 85 = .ok (.getfield 62, 3) := by decide +kernel
theorem dX9_findSway_88 : decode cX9_findSway 88 = .ok (.iload 4, 2) := by decide +kernel
theorem dX9_findSway_90 : decode cX9_findSway 90 = .ok (.iaload, 1) := by decide +kernel
theorem dX9_findSway_91 : decode cX9_findSway 91 = .ok (.iconst 1, 1) := by decide +kernel
theorem dX9_findSway_92 : decode cX9_findSway 92 = .ok (.iload 5, 2) := by decide +kernel
theorem dX9_findSway_94 : decode cX9_findSway 94 = .ok (.invokestatic 235, 3) := by decide +kernel
theorem dX9_findSway_97 : decode cX9_findSway 97 = .ok (.ishl, 1) := by decide +kernel
theorem dX9_findSway_98 : decode cX9_findSway 98 = .ok (.if_icmp .lt 9, 3) := by decide +kernel
theorem dX9_findSway_101 : decode cX9_findSway 101 = .ok (.iinc 4 (-1), 3) := by decide +kernel
theorem dX9_findSway_104 : decode cX9_findSway 104 = .ok (.goto (-88), 3) := by decide +kernel
theorem dX9_findSway_107 : decode cX9_findSway 107 = .ok (.aload_n 0, 1) := by decide +kernel
theorem dX9_findSway_108 : decode cX9_findSway 108 = .ok (.getfield 62, 3) := by decide +kernel
theorem dX9_findSway_111 : decode cX9_findSway 111 = .ok (.iload 4, 2) := by decide +kernel
theorem dX9_findSway_113 : decode cX9_findSway 113 = .ok (.iaload, 1) := by decide +kernel
theorem dX9_findSway_114 : decode cX9_findSway 114 = .ok (.iload 5, 2) := by decide +kernel
theorem dX9_findSway_116 : decode cX9_findSway 116 = .ok (.invokestatic 238, 3) := by decide +kernel
theorem dX9_findSway_119 : decode cX9_findSway 119 = .ok (.istore 6, 2) := by decide +kernel
theorem dX9_findSway_121 : decode cX9_findSway 121 = .ok (.aload_n 0, 1) := by decide +kernel
theorem dX9_findSway_122 : decode cX9_findSway 122 = .ok (.getfield 59, 3) := by decide +kernel
theorem dX9_findSway_125 : decode cX9_findSway 125 = .ok (.iload 4, 2) := by decide +kernel
theorem dX9_findSway_127 : decode cX9_findSway 127 = .ok (.iaload, 1) := by decide +kernel
theorem dX9_findSway_128 : decode cX9_findSway 128 = .ok (.aload_n 0, 1) := by decide +kernel
theorem dX9_findSway_129 : decode cX9_findSway 129 = .ok (.aload_n 0, 1) := by decide +kernel
theorem dX9_findSway_130 : decode cX9_findSway 130 = .ok (.getfield 25, 3) := by decide +kernel
theorem dX9_findSway_133 : decode cX9_findSway 133 = .ok (.iload 4, 2) := by decide +kernel
theorem dX9_findSway_135 : decode cX9_findSway 135 = .ok (.iaload, 1) := by decide +kernel
theorem dX9_findSway_136 : decode cX9_findSway 136 = .ok (.iload 5, 2) := by decide +kernel
theorem dX9_findSway_138 : decode cX9_findSway 138 = .ok (.iload 6, 2) := by decide +kernel
theorem dX9_findSway_140 : decode cX9_findSway 140 = .ok (.invokevirtual 242, 3) := by decide +kernel
theorem dX9_findSway_143 : decode cX9_findSway 143 = .ok (.iadd, 1) := by decide +kernel
theorem dX9_findSway_144 : decode cX9_findSway 144 = .ok (.istore 7, 2) := by decide +kernel
theorem dX9_findSway_146 : decode cX9_findSway 146 = .ok (.iload 7, 2) := by decide +kernel
theorem dX9_findSway_148 : decode cX9_findSway 148 = .ok (.iload_n 3, 1) := by decide +kernel
theorem dX9_findSway_149 : decode cX9_findSway 149 = .ok (.if_icmp .lt 6, 3) := by decide +kernel
theorem dX9_findSway_152 : decode cX9_findSway 152 = .ok (.goto (-136), 3) := by decide +kernel
theorem dX9_findSway_155 : decode cX9_findSway 155 = .ok (.aload_n 0, 1) := by decide +kernel
theorem dX9_findSway_156 : decode cX9_findSway 156 = .ok (.aload_n 0, 1) := by decide +kernel
theorem dX9_findSway_157 : decode cX9_findSway 157 = .ok (.getfield 25, 3) := by decide +kernel
theorem dX9_findSway_160 : decode cX9_findSway 160 = .ok (.iload 4, 2) := by decide +kernel
theorem dX9_findSway_162 : decode cX9_findSway 162 = .ok (.iaload, 1) := by decide +kernel
theorem dX9_findSway_163 : decode cX9_findSway 163 = .ok (.iload_n 1, 1) := by decide +kernel
theorem dX9_findSway_164 : decode cX9_findSway 164 = .ok (.iload 6, 2) := by decide +kernel
theorem dX9_findSway_166 : decode cX9_findSway 166 = .ok (.invokevirtual 202, 3) := by decide +kernel
theorem dX9_findSway_169 : decode cX9_findSway 169 = .ok (.iload 4, 2) := by decide +kernel
theorem dX9_findSway_171 : decode cX9_findSway 171 = .ok (.aload_n 0, 1) := by decide +kernel
theorem dX9_findSway_172 : decode cX9_findSway 172 = .ok (.getfield 130, 3) := by decide +kernel
theorem dX9_findSway_175 : decode cX9_findSway 175 = .ok (.iconst 1, 1) := by decide +kernel
theorem dX9_findSway_176 : decode cX9_findSway 176 = .ok (.isub, 1) := by decide +kernel
theorem dX9_findSway_177 : decode cX9_findSway 177 = .ok (.if_icmp .ge 17, 3) := by decide +kernel
theorem dX9_findSway_180 : decode cX9_findSway 180 = .ok (.iinc 4 1, 3) := by decide +kernel
theorem dX9_findSway_183 : decode cX9_findSway 183 = .ok (.aload_n 0, 1) := by decide +kernel
theorem dX9_findSway_184 : decode cX9_findSway 184 = .ok (.iload 4, 2) := by decide +kernel
theorem dX9_findSway_186 : decode cX9_findSway 186 = .ok (.iload 7, 2) := by decide +kernel
theorem dX9_findSway_188 : decode cX9_findSway 188 = .ok (.invokevirtual 230, 3) := by decide +kernel
theorem dX9_findSway_191 : decode cX9_findSway 191 = .ok (.goto 14, 3) := by decide +kernel
theorem dX9_findSway_194 : decode cX9_findSway 194 = .ok (.aload_n 0, 1) := by decide +kernel
theorem dX9_findSway_195 : decode cX9_findSway 195 = .ok (.getfield 180, 3) := by decide +kernel
theorem dX9_findSway_198 : decode cX9_findSway 198 = .ok (.iload_n 2, 1) := by decide +kernel
theorem dX9_findSway_199 : decode cX9_findSway 199 = .ok (.if_icmp .ne 6, 3) := by decide +kernel
theorem dX9_findSway_202 : decode cX9_findSway 202 = .ok (.iload 7, 2) := by decide +kernel
theorem dX9_findSway_204 : decode cX9_findSway 204 = .ok (.istore_n 3, 1) := by decide +kernel
theorem dX9_findSway_205 : decode cX9_findSway 205 = .ok (.goto (-189), 3) := by decide +kernel
theorem dX9_findSway_208 : decode cX9_findSway 208 = .ok (.iload_n 3, 1) := by decide +kernel
theorem dX9_findSway_209 : decode cX9_findSway 209 = .ok (.ldc 234, 2) := by decide +kernel
theorem dX9_findSway_211 : decode cX9_findSway 211 = .ok (.if_icmp .ne 8, 3) := by decide +kernel
theorem dX9_findSway_214 : decode cX9_findSway 214 = .ok (.bipush (-9), 2) := by decide +kernel
theorem dX9_findSway_216 : decode cX9_findSway 216 = .ok (.goto 4, 3) := by decide +kernel
theorem dX9_findSway_219 : decode cX9_findSway 219 = .ok (.iload_n 3, 1) := by decide +kernel
theorem dX9_findSway_220 : decode cX9_findSway 220 = .ok (.ireturn, 1) := by decide +kernel
theorem dX9_sway_0 : decode cX9_sway 0 = .ok (.iload_n 1, 1) := by decide +kernel
theorem dX9_sway_1 : decode cX9_sway 1 = .ok (.iconst 1, 1) := by decide +kernel
theorem dX9_sway_2 : decode cX9_sway 2 = .ok (.if_icmp .lt 28, 3) := by decide +kernel
theorem dX9_sway_5 : decode cX9_sway 5 = .ok (.iload_n 1, 1) := by decide +kernel
theorem dX9_sway_6 : decode cX9_sway 6 = .ok (.aload_n 0, 1) := by decide +kernel
theorem dX9_sway_7 : decode cX9_sway 7 = .ok (.invokevirtual 150, 3) := by decide +kernel
theorem dX9_sway_10 : decode cX9_sway 10 = .ok (.if_icmp .gt 20, 3) := by decide +kernel
theorem dX9_sway_13 : decode cX9_sway 13 = .ok (.iload_n 1, 1) := by decide +kernel
theorem dX9_sway_14 : decode cX9_sway 14 = .ok (.invokestatic 235, 3) := by decide +kernel
theorem dX9_sway_17 : decode cX9_sway 17 = .ok (.iconst 3, 1) := by decide +kernel
theorem dX9_sway_18 : decode cX9_sway 18 = .ok (.if_icmp .gt 12, 3) := by decide +kernel
theorem dX9_sway_21 : decode cX9_sway 21 = .ok (.iload_n 2, 1) := by decide +kernel
theorem dX9_sway_22 : decode cX9_sway 22 = .ok (.iconst 0, 1) := by decide +kernel
theorem dX9_sway_23 : decode cX9_sway 23 = .ok (.iconst 1, 1) := by decide +kernel
theorem dX9_sway_24 : decode cX9_sway 24 = .ok (.invokestatic 87, 3) := by decide +kernel
theorem dX9_sway_27 : decode cX9_sway 27 = .ok (.ifCond .ne 6, 3) := by decide +kernel
theorem dX9_sway_30 : decode cX9_sway 30 = .ok (.bipush (-2), 2) := by decide +kernel
theorem dX9_sway_32 : decode cX9_sway 32 = .ok (.ireturn, 1) := by decide +kernel
theorem dX9_sway_33 : decode cX9_sway 33 = .ok (.aload_n 0, 1) := by decide +kernel
theorem dX9_sway_34 : decode cX9_sway 34 = .ok (.invokevirtual 146, 3) := by decide +kernel
theorem dX9_sway_37 : decode cX9_sway 37 = .ok (.ifCond .eq 12, 3) := by decide +kernel
theorem dX9_sway_40 : decode cX9_sway 40 = .ok (.aload_n 0, 1) := by decide +kernel
theorem dX9_sway_41 : decode cX9_sway 41 = .ok (.iload_n 1, 1) := by decide +kernel
theorem dX9_sway_42 : decode cX9_sway 42 = .ok (.iload_n 2, 1) := by decide +kernel
theorem dX9_sway_43 : decode cX9_sway 43 = .ok (.invokevirtual 246, 3) := by decide +kernel
theorem dX9_sway_46 : decode cX9_sway 46 = .ok (.goto 5, 3) := by decide +kernel
theorem dX9_sway_49 : decode cX9_sway 49 = .ok (.bipush (-3), 2) := by decide +kernel
theorem dX9_sway_51 : decode cX9_sway 51 = .ok (.ireturn, 1) := by decide +kernel
theorem dX9_firstRow_0 : decode cX9_firstRow 0 = .ok (.iconst 0, 1) := by decide +kernel
theorem dX9_firstRow_1 : decode cX9_firstRow 1 = .ok (.istore_n 1, 1) := by decide +kernel
theorem dX9_firstRow_2 : decode cX9_firstRow 2 = .ok (.iload_n 1, 1) := by decide +kernel
theorem dX9_firstRow_3 : decode cX9_firstRow 3 = .ok (.aload_n 0, 1) := by decide +kernel
theorem dX9_firstRow_4 : decode cX9_firstRow 4 = .ok (.getfield 130, 3) := by decide +kernel
theorem dX9_firstRow_7 : decode cX9_firstRow 7 = .ok (.if_icmp .ge 21, 3) := by decide +kernel
theorem dX9_firstRow_10 : decode cX9_firstRow 10 = .ok (.aload_n 0, 1) := by decide +kernel
theorem dX9_firstRow_11 : decode cX9_firstRow 11 = .ok (.getfield 65, 3) := by decide +kernel
theorem dX9_firstRow_14 : decode cX9_firstRow 14 = .ok (.iload_n 1, 1) := by decide +kernel
theorem dX9_firstRow_15 : decode cX9_firstRow 15 = .ok (.aload_n 0, 1) := by decide +kernel
theorem dX9_firstRow_16 : decode cX9_firstRow 16 = .ok (.getfield 25, 3) := by decide +kernel
theorem dX9_firstRow_19 : decode cX9_firstRow 19 = .ok (.iload_n 1, 1) := by decide +kernel
theorem dX9_firstRow_20 : decode cX9_firstRow 20 = .ok (.iaload, 1) := by decide +kernel
theorem dX9_firstRow_21 : decode cX9_firstRow 21 = .ok (.iastore, 1) := by decide +kernel
theorem dX9_firstRow_22 : decode cX9_firstRow 22 = .ok (.iinc 1 1, 3) := by decide +kernel
theorem dX9_firstRow_25 : decode cX9_firstRow 25 = .ok (.goto (-23), 3) := by decide +kernel
theorem dX9_firstRow_28 : decode cX9_firstRow 28 = .ok (.iconst 1, 1) := by decide +kernel
theorem dX9_firstRow_29 : decode cX9_firstRow 29 = .ok (.istore_n 1, 1) := by decide +kernel
theorem dX9_firstRow_30 : decode cX9_firstRow 30 = .ok (.iload_n 1, 1) := by decide +kernel
theorem dX9_firstRow_31 : decode cX9_firstRow 31 = .ok (.aload_n 0, 1) := by decide +kernel
theorem dX9_firstRow_32 : decode cX9_firstRow 32 = .ok (.getfield 130, 3) := by decide +kernel
theorem dX9_firstRow_35 : decode cX9_firstRow 35 = .ok (.if_icmp .ge 46, 3) := by decide +kernel
theorem dX9_firstRow_38 : decode cX9_firstRow 38 = .ok (.iload_n 1, 1) := by decide +kernel
theorem dX9_firstRow_39 : decode cX9_firstRow 39 = .ok (.istore_n 2, 1) := by decide +kernel
theorem dX9_firstRow_40 : decode cX9_firstRow 40 = .ok (.iload_n 2, 1) := by decide +kernel
theorem dX9_firstRow_41 : decode cX9_firstRow 41 = .ok (.ifCond .le 34, 3) := by decide +kernel
theorem dX9_firstRow_44 : decode cX9_firstRow 44 = .ok (.aload_n 0, 1) := by decide +kernel
theorem dX9_firstRow_45 : decode cX9_firstRow 45 = .ok (.getfield 65, 3) := by decide +kernel
theorem dX9_firstRow_48 : decode cX9_firstRow 48 = .ok (.iload_n 2, 1) := by decide +kernel
theorem dX9_firstRow_49 : decode cX9_firstRow 49 = .ok (.iaload, 1) := by decide +kernel
theorem dX9_firstRow_50 : decode cX9_firstRow 50 = .ok (.aload_n 0, 1) := by decide +kernel
theorem dX9_firstRow_51 : decode cX9_firstRow 51 = .ok (.getfield 65, 3) := by decide +kernel
theorem dX9_firstRow_54 : decode cX9_firstRow 54 = .ok (.iload_n 2, 1) := by decide +kernel
theorem dX9_firstRow_55 : decode cX9_firstRow 55 = .ok (.iconst 1, 1) := by decide +kernel
theorem dX9_firstRow_56 : decode cX9_firstRow 56 = .ok (.isub, 1) := by decide +kernel
theorem dX9_firstRow_57 : decode cX9_firstRow 57 = .ok (.iaload, 1) := by decide +kernel
theorem dX9_firstRow_58 : decode cX9_firstRow 58 = .ok (.if_icmp .ge 17, 3) := by decide +kernel
theorem dX9_firstRow_61 : decode cX9_firstRow 61 = .ok (.aload_n 0, 1) := by decide +kernel
theorem dX9_firstRow_62 : decode cX9_firstRow 62 = .ok (.iload_n 2, 1) := by decide +kernel
theorem dX9_firstRow_63 : decode cX9_firstRow 63 = .ok (.iload_n 2, 1) := by decide +kernel
theorem dX9_firstRow_64 : decode cX9_firstRow 64 = .ok (.iconst 1, 1) := by decide +kernel
theorem dX9_firstRow_65 : decode cX9_firstRow 65 = .ok (.isub, 1) := by decide +kernel
theorem dX9_firstRow_66 : decode cX9_firstRow 66 = .ok (.invokevirtual 249, 3) := by decide +kernel
theorem dX9_firstRow_69 : decode cX9_firstRow 69 = .ok (.iinc 2 (-1), 3) := by decide +kernel
theorem dX9_firstRow_72 : decode cX9_firstRow 72 = .ok (.goto (-32), 3) := by decide +kernel
theorem dX9_firstRow_75 : decode cX9_firstRow 75 = .ok (.iinc 1 1, 3) := by decide +kernel
theorem dX9_firstRow_78 : decode cX9_firstRow 78 = .ok (.goto (-48), 3) := by decide +kernel
theorem dX9_firstRow_81 : decode cX9_firstRow 81 = .ok (.return_, 1) := by decide +kernel
theorem dX9_exchange_0 : decode cX9_exchange 0 = .ok (.aload_n 0, 1) := by decide +kernel
theorem dX9_exchange_1 : decode cX9_exchange 1 = .ok (.getfield 65, 3) := by decide +kernel
theorem dX9_exchange_4 : decode cX9_exchange 4 = .ok (.iload_n 1, 1) := by decide +kernel
theorem dX9_exchange_5 : decode cX9_exchange 5 = .ok (.iaload, 1) := by decide +kernel
theorem dX9_exchange_6 : decode cX9_exchange 6 = .ok (.istore_n 3, 1) := by decide +kernel
theorem dX9_exchange_7 : decode cX9_exchange 7 = .ok (.aload_n 0, 1) := by decide +kernel
theorem dX9_exchange_8 : decode cX9_exchange 8 = .ok (.getfield 65, 3) := by decide +kernel
theorem dX9_exchange_11 : decode cX9_exchange 11 = .ok (.iload_n 1, 1) := by decide +kernel
theorem dX9_exchange_12 : decode cX9_exchange 12 = .ok (.aload_n 0, 1) := by decide +kernel
theorem dX9_exchange_13 : decode cX9_exchange 13 = .ok (.getfield 65, 3) := by decide +kernel
theorem dX9_exchange_16 : decode cX9_exchange 16 = .ok (.iload_n 2, 1) := by decide +kernel
theorem dX9_exchange_17 : decode cX9_exchange 17 = .ok (.iaload, 1) := by decide +kernel
theorem dX9_exchange_18 : decode cX9_exchange 18 = .ok (.iastore, 1) := by decide +kernel
theorem dX9_exchange_19 : decode cX9_exchange 19 = .ok (.aload_n 0, 1) := by decide +kernel
theorem dX9_exchange_20 : decode cX9_exchange 20 = .ok (.getfield 65, 3) := by decide +kernel
theorem dX9_exchange_23 : decode cX9_exchange 23 = .ok (.iload_n 2, 1) := by decide +kernel
theorem dX9_exchange_24 : decode cX9_exchange 24 = .ok (.iload_n 3, 1) := by decide +kernel
theorem dX9_exchange_25 : decode cX9_exchange 25 = .ok (.iastore, 1) := by decide +kernel
theorem dX9_exchange_26 : decode cX9_exchange 26 = .ok (.return_, 1) := by decide +kernel
theorem dX9_nextRow_0 : decode cX9_nextRow 0 = .ok (.aload_n 0, 1) := by decide +kernel
theorem dX9_nextRow_1 : decode cX9_nextRow 1 = .ok (.getfield 130, 3) := by decide +kernel
theorem dX9_nextRow_4 : decode cX9_nextRow 4 = .ok (.iconst 2, 1) := by decide +kernel
theorem dX9_nextRow_5 : decode cX9_nextRow 5 = .ok (.isub, 1) := by decide +kernel
theorem dX9_nextRow_6 : decode cX9_nextRow 6 = .ok (.istore_n 1, 1) := by decide +kernel
theorem dX9_nextRow_7 : decode cX9_nextRow 7 = .ok (.iload_n 1, 1) := by decide +kernel
theorem dX9_nextRow_8 : decode cX9_nextRow 8 = .ok (.ifCond .lt 26, 3) := by decide +kernel
theorem dX9_nextRow_11 : decode cX9_nextRow 11 = .ok (.aload_n 0, 1) := by decide +kernel
theorem dX9_nextRow_12 : decode cX9_nextRow 12 = .ok (.getfield 65, 3) := by decide +kernel
theorem dX9_nextRow_15 : decode cX9_nextRow 15 = .ok (.iload_n 1, 1) := by decide +kernel
theorem dX9_nextRow_16 : decode cX9_nextRow 16 = .ok (.iaload, 1) := by decide +kernel
theorem dX9_nextRow_17 : decode cX9_nextRow 17 = .ok (.aload_n 0, 1) := by decide +kernel
theorem dX9_nextRow_18 : decode cX9_nextRow 18 = .ok (.getfield 65, 3) := by decide +kernel
theorem dX9_nextRow_21 : decode cX9_nextRow 21 = .ok (.iload_n 1, 1) := by decide +kernel
theorem dX9_nextRow_22 : decode cX9_nextRow 22 = .ok (.iconst 1, 1) := by decide +kernel
theorem dX9_nextRow_23 : decode cX9_nextRow 23 = .ok (.iadd, 1) := by decide +kernel
theorem dX9_nextRow_24 : decode cX9_nextRow 24 = .ok (.iaload, 1) := by decide +kernel
theorem dX9_nextRow_25 : decode cX9_nextRow 25 = .ok (.if_icmp .le 9, 3) := by decide +kernel
theorem dX9_nextRow_28 : decode cX9_nextRow 28 = .ok (.iinc 1 (-1), 3) := by decide +kernel
theorem dX9_nextRow_31 : decode cX9_nextRow 31 = .ok (.goto (-24), 3) := by decide +kernel
theorem dX9_nextRow_34 : decode cX9_nextRow 34 = .ok (.iload_n 1, 1) := by decide +kernel
theorem dX9_nextRow_35 : decode cX9_nextRow 35 = .ok (.ifCond .ge 5, 3) := by decide +kernel
theorem dX9_nextRow_38 : decode cX9_nextRow 38 = .ok (.iconst 0, 1) := by decide +kernel
theorem dX9_nextRow_39 : decode cX9_nextRow 39 = .ok (.ireturn, 1) := by decide +kernel
theorem dX9_nextRow_40 : decode cX9_nextRow 40 = .ok (.aload_n 0, 1) := by decide +kernel
theorem dX9_nextRow_41 : decode cX9_nextRow 41 = .ok (.getfield 130, 3) := by decide +kernel
theorem dX9_nextRow_44 : decode cX9_nextRow 44 = .ok (.iconst 1, 1) := by decide +kernel
theorem dX9_nextRow_45 : decode cX9_nextRow 45 = .ok (.isub, 1) := by decide +kernel
theorem dX9_nextRow_46 : decode cX9_nextRow 46 = .ok (.istore_n 2, 1) := by decide +kernel
theorem dX9_nextRow_47 : decode cX9_nextRow 47 = .ok (.aload_n 0, 1) := by decide +kernel
theorem dX9_nextRow_48 : decode cX9_nextRow 48 = .ok (.getfield 65, 3) := by decide +kernel
theorem dX9_nextRow_51 : decode cX9_nextRow 51 = .ok (.iload_n 2, 1) := by decide +kernel
theorem dX9_nextRow_52 : decode cX9_nextRow 52 = .ok (.iaload, 1) := by decide +kernel
theorem dX9_nextRow_53 : decode cX9_nextRow 53 = .ok (.aload_n 0, 1) := by decide +kernel
theorem dX9_nextRow_54 : decode cX9_nextRow 54 = .ok (.getfield 65, 3) := by decide +kernel
theorem dX9_nextRow_57 : decode cX9_nextRow 57 = .ok (.iload_n 1, 1) := by decide +kernel
theorem dX9_nextRow_58 : decode cX9_nextRow 58 = .ok (.iaload, 1) := by decide +kernel
theorem dX9_nextRow_59 : decode cX9_nextRow 59 = .ok (.if_icmp .ge 9, 3) := by decide +kernel
theorem dX9_nextRow_62 : decode cX9_nextRow 62 = .ok (.iinc 2 (-1), 3) := by decide +kernel
theorem dX9_nextRow_65 : decode cX9_nextRow 65 = .ok (.goto (-18), 3) := by decide +kernel
theorem dX9_nextRow_68 : decode cX9_nextRow 68 = .ok (.aload_n 0, 1) := by decide +kernel
theorem dX9_nextRow_69 : decode cX9_nextRow 69 = .ok (.iload_n 1, 1) := by decide +kernel
theorem dX9_nextRow_70 : decode cX9_nextRow 70 = .ok (.iload_n 2, 1) := by decide +kernel
theorem dX9_nextRow_71 : decode cX9_nextRow 71 = .ok (.invokevirtual 249, 3) := by decide +kernel
theorem dX9_nextRow_74 : decode cX9_nextRow 74 = .ok (.iload_n 1, 1) := by decide +kernel
theorem dX9_nextRow_75 : decode cX9_nextRow 75 = .ok (.iconst 1, 1) := by decide +kernel
theorem dX9_nextRow_76 : decode cX9_nextRow 76 = .ok (.iadd, 1) := by decide +kernel
theorem dX9_nextRow_77 : decode cX9_nextRow 77 = .ok (.istore_n 3, 1) := by decide +kernel
theorem dX9_nextRow_78 : decode cX9_nextRow 78 = .ok (.aload_n 0, 1) := by decide +kernel
theorem dX9_nextRow_79 : decode cX9_nextRow 79 = .ok (.getfield 130, 3) := by decide +kernel
theorem dX9_nextRow_82 : decode cX9_nextRow 82 = .ok (.iconst 1, 1) := by decide +kernel
theorem dX9_nextRow_83 : decode cX9_nextRow 83 = .ok (.isub, 1) := by decide +kernel
theorem dX9_nextRow_84 : decode cX9_nextRow 84 = .ok (.istore 4, 2) := by decide +kernel
theorem dX9_nextRow_86 : decode cX9_nextRow 86 = .ok (.iload_n 3, 1) := by decide +kernel
theorem dX9_nextRow_87 : decode cX9_nextRow 87 = .ok (.iload 4, 2) := by decide +kernel
theorem dX9_nextRow_89 : decode cX9_nextRow 89 = .ok (.if_icmp .ge 19, 3) := by decide +kernel
theorem dX9_nextRow_92 : decode cX9_nextRow 92 = .ok (.aload_n 0, 1) := by decide +kernel
theorem dX9_nextRow_93 : decode cX9_nextRow 93 = .ok (.iload_n 3, 1) := by decide +kernel
theorem dX9_nextRow_94 : decode cX9_nextRow 94 = .ok (.iload 4, 2) := by decide +kernel
theorem dX9_nextRow_96 : decode cX9_nextRow 96 = .ok (.invokevirtual 249, 3) := by decide +kernel
theorem dX9_nextRow_99 : decode cX9_nextRow 99 = .ok (.iinc 3 1, 3) := by decide +kernel
theorem dX9_nextRow_102 : decode cX9_nextRow 102 = .ok (.iinc 4 (-1), 3) := by decide +kernel
theorem dX9_nextRow_105 : decode cX9_nextRow 105 = .ok (.goto (-19), 3) := by decide +kernel
theorem dX9_nextRow_108 : decode cX9_nextRow 108 = .ok (.iconst 1, 1) := by decide +kernel
theorem dX9_nextRow_109 : decode cX9_nextRow 109 = .ok (.ireturn, 1) := by decide +kernel
theorem dX9_outcomeInOrder_0 : decode cX9_outcomeInOrder 0 = .ok (.bipush (-9), 2) := by decide +kernel
theorem dX9_outcomeInOrder_2 : decode cX9_outcomeInOrder 2 = .ok (.istore_n 2, 1) := by decide +kernel
theorem dX9_outcomeInOrder_3 : decode cX9_outcomeInOrder 3 = .ok (.iconst 0, 1) := by decide +kernel
theorem dX9_outcomeInOrder_4 : decode cX9_outcomeInOrder 4 = .ok (.istore_n 3, 1) := by decide +kernel
theorem dX9_outcomeInOrder_5 : decode cX9_outcomeInOrder 5 = .ok (.iload_n 3, 1) := by decide +kernel
theorem dX9_outcomeInOrder_6 : decode cX9_outcomeInOrder 6 = .ok (.aload_n 0, 1) := by decide +kernel
theorem dX9_outcomeInOrder_7 : decode cX9_outcomeInOrder 7 = .ok (.getfield 130, 3) := by decide +kernel
theorem dX9_outcomeInOrder_10 : decode cX9_outcomeInOrder 10 = .ok (.if_icmp .ge 30, 3) := by decide +kernel
theorem dX9_outcomeInOrder_13 : decode cX9_outcomeInOrder 13 = .ok (.aload_n 0, 1) := by decide +kernel
theorem dX9_outcomeInOrder_14 : decode cX9_outcomeInOrder 14 = .ok (.getfield 65, 3) := by decide +kernel
theorem dX9_outcomeInOrder_17 : decode cX9_outcomeInOrder 17 = .ok (.iload_n 3, 1) := by decide +kernel
theorem dX9_outcomeInOrder_18 : decode cX9_outcomeInOrder 18 = .ok (.iaload, 1) := by decide +kernel
theorem dX9_outcomeInOrder_19 : decode cX9_outcomeInOrder 19 = .ok (.iload_n 1, 1) := by decide +kernel
theorem dX9_outcomeInOrder_20 : decode cX9_outcomeInOrder 20 = .ok (.if_icmp .ne 12, 3) := by decide +kernel
theorem dX9_outcomeInOrder_23 : decode cX9_outcomeInOrder 23 = .ok (.aload_n 0, 1) := by decide +kernel
theorem dX9_outcomeInOrder_24 : decode cX9_outcomeInOrder 24 = .ok (.getfield 40, 3) := by decide +kernel
theorem dX9_outcomeInOrder_27 : decode cX9_outcomeInOrder 27 = .ok (.iload_n 3, 1) := by decide +kernel
theorem dX9_outcomeInOrder_28 : decode cX9_outcomeInOrder 28 = .ok (.iaload, 1) := by decide +kernel
theorem dX9_outcomeInOrder_29 : decode cX9_outcomeInOrder 29 = .ok (.goto 4, 3) := by decide +kernel
theorem dX9_outcomeInOrder_32 : decode cX9_outcomeInOrder 32 = .ok (.iload_n 2, 1) := by decide +kernel
theorem dX9_outcomeInOrder_33 : decode cX9_outcomeInOrder 33 = .ok (.istore_n 2, 1) := by decide +kernel
theorem dX9_outcomeInOrder_34 : decode cX9_outcomeInOrder 34 = .ok (.iinc 3 1, 3) := by decide +kernel
theorem dX9_outcomeInOrder_37 : decode cX9_outcomeInOrder 37 = .ok (.goto (-32), 3) := by decide +kernel
theorem dX9_outcomeInOrder_40 : decode cX9_outcomeInOrder 40 = .ok (.iload_n 2, 1) := by decide +kernel
theorem dX9_outcomeInOrder_41 : decode cX9_outcomeInOrder 41 = .ok (.ireturn, 1) := by decide +kernel
theorem dX9_orders_0 : decode cX9_orders 0 = .ok (.aload_n 0, 1) := by decide +kernel
theorem dX9_orders_1 : decode cX9_orders 1 = .ok (.iload_n 1, 1) := by decide +kernel
theorem dX9_orders_2 : decode cX9_orders 2 = .ok (.invokevirtual 143, 3) := by decide +kernel
theorem dX9_orders_5 : decode cX9_orders 5 = .ok (.ifCond .eq 27, 3) := by decide +kernel
theorem dX9_orders_8 : decode cX9_orders 8 = .ok (.aload_n 0, 1) := by decide +kernel
theorem dX9_orders_9 : decode cX9_orders 9 = .ok (.iload_n 1, 1) := by decide +kernel
theorem dX9_orders_10 : decode cX9_orders 10 = .ok (.invokevirtual 215, 3) := by decide +kernel
theorem dX9_orders_13 : decode cX9_orders 13 = .ok (.bipush (-9), 2) := by decide +kernel
theorem dX9_orders_15 : decode cX9_orders 15 = .ok (.if_icmp .eq 17, 3) := by decide +kernel
theorem dX9_orders_18 : decode cX9_orders 18 = .ok (.iload_n 2, 1) := by decide +kernel
theorem dX9_orders_19 : decode cX9_orders 19 = .ok (.iconst (-1), 1) := by decide +kernel
theorem dX9_orders_20 : decode cX9_orders 20 = .ok (.aload_n 0, 1) := by decide +kernel
theorem dX9_orders_21 : decode cX9_orders 21 = .ok (.getfield 130, 3) := by decide +kernel
theorem dX9_orders_24 : decode cX9_orders 24 = .ok (.iconst 1, 1) := by decide +kernel
theorem dX9_orders_25 : decode cX9_orders 25 = .ok (.isub, 1) := by decide +kernel
theorem dX9_orders_26 : decode cX9_orders 26 = .ok (.invokestatic 87, 3) := by decide +kernel
theorem dX9_orders_29 : decode cX9_orders 29 = .ok (.ifCond .ne 5, 3) := by decide +kernel
theorem dX9_orders_32 : decode cX9_orders 32 = .ok (.iconst (-1), 1) := by decide +kernel
theorem dX9_orders_33 : decode cX9_orders 33 = .ok (.ireturn, 1) := by decide +kernel
theorem dX9_orders_34 : decode cX9_orders 34 = .ok (.aload_n 0, 1) := by decide +kernel
theorem dX9_orders_35 : decode cX9_orders 35 = .ok (.invokevirtual 252, 3) := by decide +kernel
theorem dX9_orders_38 : decode cX9_orders 38 = .ok (.iconst 0, 1) := by decide +kernel
theorem dX9_orders_39 : decode cX9_orders 39 = .ok (.istore_n 3, 1) := by decide +kernel
theorem dX9_orders_40 : decode cX9_orders 40 = .ok (.iconst 1, 1) := by decide +kernel
theorem dX9_orders_41 : decode cX9_orders 41 = .ok (.istore 4, 2) := by decide +kernel
theorem dX9_orders_43 : decode cX9_orders 43 = .ok (.iload 4, 2) := by decide +kernel
theorem dX9_orders_45 : decode cX9_orders 45 = .ok (.ifCond .eq 76, 3) := by decide +kernel
theorem dX9_orders_48 : decode cX9_orders 48 = .ok (.aload_n 0, 1) := by decide +kernel
theorem dX9_orders_49 : decode cX9_orders 49 = .ok (.invokevirtual 205, 3) := by decide +kernel
theorem dX9_orders_52 : decode cX9_orders 52 = .ok (.aload_n 0, 1) := by decide +kernel
theorem dX9_orders_53 : decode cX9_orders 53 = .ok (.aload_n 0, 1) := by decide +kernel
theorem dX9_orders_54 : decode cX9_orders 54 = .ok (.getfield 65, 3) := by decide +kernel
theorem dX9_orders_57 : decode cX9_orders 57 = .ok (.aload_n 0, 1) := by decide +kernel
theorem dX9_orders_58 : decode cX9_orders 58 = .ok (.getfield 130, 3) := by decide +kernel
theorem dX9_orders_61 : decode cX9_orders 61 = .ok (.invokevirtual 208, 3) := by decide +kernel
theorem dX9_orders_64 : decode cX9_orders 64 = .ok (.aload_n 0, 1) := by decide +kernel
theorem dX9_orders_65 : decode cX9_orders 65 = .ok (.iload_n 1, 1) := by decide +kernel
theorem dX9_orders_66 : decode cX9_orders 66 = .ok (.invokevirtual 255, 3) := by decide +kernel
theorem dX9_orders_69 : decode cX9_orders 69 = .ok (.iconst 1, 1) := by decide +kernel
theorem dX9_orders_70 : decode cX9_orders 70 = .ok (.if_icmp .ne 42, 3) := by decide +kernel
theorem dX9_orders_73 : decode cX9_orders 73 = .ok (.iconst 0, 1) := by decide +kernel
theorem dX9_orders_74 : decode cX9_orders 74 = .ok (.istore 5, 2) := by decide +kernel
theorem dX9_orders_76 : decode cX9_orders 76 = .ok (.iload 5, 2) := by decide +kernel
theorem dX9_orders_78 : decode cX9_orders 78 = .ok (.aload_n 0, 1) := by decide +kernel
theorem dX9_orders_79 : decode cX9_orders 79 = .ok (.getfield 130, 3) := by decide +kernel
theorem dX9_orders_82 : decode cX9_orders 82 = .ok (.if_icmp .ge 27, 3) := by decide +kernel
theorem dX9_orders_85 : decode cX9_orders 85 = .ok (.iload_n 3, 1) := by decide +kernel
theorem dX9_orders_86 : decode cX9_orders 86 = .ok (.ifCond .ne 23, 3) := by decide +kernel
theorem dX9_orders_89 : decode cX9_orders 89 = .ok (.aload_n 0, 1) := by decide +kernel
theorem dX9_orders_90 : decode cX9_orders 90 = .ok (.getfield 68, 3) := by decide +kernel
theorem dX9_orders_93 : decode cX9_orders 93 = .ok (.iload 5, 2) := by decide +kernel
theorem dX9_orders_95 : decode cX9_orders 95 = .ok (.aload_n 0, 1) := by decide +kernel
theorem dX9_orders_96 : decode cX9_orders 96 = .ok (.getfield 65, 3) := by decide +kernel
theorem dX9_orders_99 : decode cX9_orders 99 = .ok (.iload 5, 2) := by decide +kernel
theorem dX9_orders_101 : decode cX9_orders 101 = .ok (.iaload, 1) := by decide +kernel
theorem dX9_orders_102 : decode cX9_orders 102 = .ok (.iastore, 1) := by decide +kernel
theorem dX9_orders_103 : decode cX9_orders 103 = .ok (.iinc 5 1, 3) := by decide +kernel
theorem dX9_orders_106 : decode cX9_orders 106 = .ok (.goto (-30), 3) := by decide +kernel
theorem dX9_orders_109 : decode cX9_orders 109 = .ok (.iinc 3 1, 3) := by decide +kernel
theorem dX9_orders_112 : decode cX9_orders 112 = .ok (.aload_n 0, 1) := by decide +kernel
theorem dX9_orders_113 : decode cX9_orders 113 = .ok (.invokevirtual 258, 3) := by decide +kernel
theorem dX9_orders_116 : decode cX9_orders 116 = .ok (.istore 4, 2) := by decide +kernel
theorem dX9_orders_118 : decode cX9_orders 118 = .ok (.goto (-75), 3) := by decide +kernel
theorem dX9_orders_121 : decode cX9_orders 121 = .ok (.iload_n 2, 1) := by decide +kernel
theorem dX9_orders_122 : decode cX9_orders 122 = .ok (.iconst (-1), 1) := by decide +kernel
theorem dX9_orders_123 : decode cX9_orders 123 = .ok (.if_icmp .ne 7, 3) := by decide +kernel
theorem dX9_orders_126 : decode cX9_orders 126 = .ok (.iload_n 3, 1) := by decide +kernel
theorem dX9_orders_127 : decode cX9_orders 127 = .ok (.goto 18, 3) := by decide +kernel
theorem dX9_orders_130 : decode cX9_orders 130 = .ok (.iload_n 3, 1) := by decide +kernel
theorem dX9_orders_131 : decode cX9_orders 131 = .ok (.ifCond .ne 8, 3) := by decide +kernel
theorem dX9_orders_134 : decode cX9_orders 134 = .ok (.bipush (-9), 2) := by decide +kernel
theorem dX9_orders_136 : decode cX9_orders 136 = .ok (.goto 9, 3) := by decide +kernel
theorem dX9_orders_139 : decode cX9_orders 139 = .ok (.aload_n 0, 1) := by decide +kernel
theorem dX9_orders_140 : decode cX9_orders 140 = .ok (.getfield 68, 3) := by decide +kernel
theorem dX9_orders_143 : decode cX9_orders 143 = .ok (.iload_n 2, 1) := by decide +kernel
theorem dX9_orders_144 : decode cX9_orders 144 = .ok (.iaload, 1) := by decide +kernel
theorem dX9_orders_145 : decode cX9_orders 145 = .ok (.ireturn, 1) := by decide +kernel
theorem dX9_key_0 : decode cX9_key 0 = .ok (.iload_n 1, 1) := by decide +kernel
theorem dX9_key_1 : decode cX9_key 1 = .ok (.iconst 0, 1) := by decide +kernel
theorem dX9_key_2 : decode cX9_key 2 = .ok (.iconst 1, 1) := by decide +kernel
theorem dX9_key_3 : decode cX9_key 3 = .ok (.invokestatic 87, 3) := by decide +kernel
theorem dX9_key_6 : decode cX9_key 6 = .ok (.ifCond .ne 6, 3) := by decide +kernel
theorem dX9_key_9 : decode cX9_key 9 = .ok (.bipush (-2), 2) := by decide +kernel
theorem dX9_key_11 : decode cX9_key 11 = .ok (.ireturn, 1) := by decide +kernel
theorem dX9_key_12 : decode cX9_key 12 = .ok (.aload_n 0, 1) := by decide +kernel
theorem dX9_key_13 : decode cX9_key 13 = .ok (.invokevirtual 146, 3) := by decide +kernel
theorem dX9_key_16 : decode cX9_key 16 = .ok (.ifCond .ne 6, 3) := by decide +kernel
theorem dX9_key_19 : decode cX9_key 19 = .ok (.bipush (-3), 2) := by decide +kernel
theorem dX9_key_21 : decode cX9_key 21 = .ok (.ireturn, 1) := by decide +kernel
theorem dX9_key_22 : decode cX9_key 22 = .ok (.aload_n 0, 1) := by decide +kernel
theorem dX9_key_23 : decode cX9_key 23 = .ok (.invokevirtual 212, 3) := by decide +kernel
theorem dX9_key_26 : decode cX9_key 26 = .ok (.iconst 0, 1) := by decide +kernel
theorem dX9_key_27 : decode cX9_key 27 = .ok (.istore_n 2, 1) := by decide +kernel
theorem dX9_key_28 : decode cX9_key 28 = .ok (.iload_n 2, 1) := by decide +kernel
theorem dX9_key_29 : decode cX9_key 29 = .ok (.aload_n 0, 1) := by decide +kernel
theorem dX9_key_30 : decode cX9_key 30 = .ok (.getfield 130, 3) := by decide +kernel
theorem dX9_key_33 : decode cX9_key 33 = .ok (.if_icmp .ge 21, 3) := by decide +kernel
theorem dX9_key_36 : decode cX9_key 36 = .ok (.aload_n 0, 1) := by decide +kernel
theorem dX9_key_37 : decode cX9_key 37 = .ok (.getfield 71, 3) := by decide +kernel
theorem dX9_key_40 : decode cX9_key 40 = .ok (.iload_n 2, 1) := by decide +kernel
theorem dX9_key_41 : decode cX9_key 41 = .ok (.aload_n 0, 1) := by decide +kernel
theorem dX9_key_42 : decode cX9_key 42 = .ok (.getfield 40, 3) := by decide +kernel
theorem dX9_key_45 : decode cX9_key 45 = .ok (.iload_n 2, 1) := by decide +kernel
theorem dX9_key_46 : decode cX9_key 46 = .ok (.iaload, 1) := by decide +kernel
theorem dX9_key_47 : decode cX9_key 47 = .ok (.iastore, 1) := by decide +kernel
theorem dX9_key_48 : decode cX9_key 48 = .ok (.iinc 2 1, 3) := by decide +kernel
theorem dX9_key_51 : decode cX9_key 51 = .ok (.goto (-23), 3) := by decide +kernel
theorem dX9_key_54 : decode cX9_key 54 = .ok (.iconst 0, 1) := by decide +kernel
theorem dX9_key_55 : decode cX9_key 55 = .ok (.istore_n 2, 1) := by decide +kernel
theorem dX9_key_56 : decode cX9_key 56 = .ok (.iconst (-1), 1) := by decide +kernel
theorem dX9_key_57 : decode cX9_key 57 = .ok (.istore_n 3, 1) := by decide +kernel
theorem dX9_key_58 : decode cX9_key 58 = .ok (.iconst 0, 1) := by decide +kernel
theorem dX9_key_59 : decode cX9_key 59 = .ok (.istore 4, 2) := by decide +kernel
theorem dX9_key_61 : decode cX9_key 61 = .ok (.iload 4, 2) := by decide +kernel
theorem dX9_key_63 : decode cX9_key 63 = .ok (.aload_n 0, 1) := by decide +kernel
theorem dX9_key_64 : decode cX9_key 64 = .ok (.getfield 91, 3) := by decide +kernel
theorem dX9_key_67 : decode cX9_key 67 = .ok (.if_icmp .ge 119, 3) := by decide +kernel
theorem dX9_key_70 : decode cX9_key 70 = .ok (.aload_n 0, 1) := by decide +kernel
theorem dX9_key_71 : decode cX9_key 71 = .ok (.getfield 22, 3) := by decide +kernel
theorem dX9_key_74 : decode cX9_key 74 = .ok (.iload 4, 2) := by decide +kernel
theorem dX9_key_76 : decode cX9_key 76 = .ok (.iconst 1, 1) := by decide +kernel
theorem dX9_key_77 : decode cX9_key 77 = .ok (.aload_n 0, 1) := by decide +kernel
theorem dX9_key_78 : decode cX9_key 78 = .ok (.getfield 94, 3) := by decide +kernel
theorem dX9_key_81 : decode cX9_key 81 = .ok (.ishl, 1) := by decide +kernel
theorem dX9_key_82 : decode cX9_key 82 = .ok (.iconst 1, 1) := by decide +kernel
theorem dX9_key_83 : decode cX9_key 83 = .ok (.isub, 1) := by decide +kernel
theorem dX9_key_84 : decode cX9_key 84 = .ok (.aload_n 0, 1) := by decide +kernel
theorem dX9_key_85 : decode cX9_key 85 = .ok (.getfield 22, 3) := by decide +kernel
theorem dX9_key_88 : decode cX9_key 88 = .ok (.iload 4, 2) := by decide +kernel
theorem dX9_key_90 : decode cX9_key 90 = .ok (.iaload, 1) := by decide +kernel
theorem dX9_key_91 : decode cX9_key 91 = .ok (.isub, 1) := by decide +kernel
theorem dX9_key_92 : decode cX9_key 92 = .ok (.iastore, 1) := by decide +kernel
theorem dX9_key_93 : decode cX9_key 93 = .ok (.aload_n 0, 1) := by decide +kernel
theorem dX9_key_94 : decode cX9_key 94 = .ok (.invokevirtual 212, 3) := by decide +kernel
theorem dX9_key_97 : decode cX9_key 97 = .ok (.aload_n 0, 1) := by decide +kernel
theorem dX9_key_98 : decode cX9_key 98 = .ok (.getfield 22, 3) := by decide +kernel
theorem dX9_key_101 : decode cX9_key 101 = .ok (.iload 4, 2) := by decide +kernel
theorem dX9_key_103 : decode cX9_key 103 = .ok (.iconst 1, 1) := by decide +kernel
theorem dX9_key_104 : decode cX9_key 104 = .ok (.aload_n 0, 1) := by decide +kernel
theorem dX9_key_105 : decode cX9_key 105 = .ok (.getfield 94, 3) := by decide +kernel
theorem dX9_key_108 : decode cX9_key 108 = .ok (.ishl, 1) := by decide +kernel
theorem dX9_key_109 : decode cX9_key 109 = .ok (.iconst 1, 1) := by decide +kernel
theorem dX9_key_110 : decode cX9_key 110 = .ok (.isub, 1) := by decide +kernel
theorem dX9_key_111 : decode cX9_key 111 = .ok (.aload_n 0, 1) := by decide +kernel
theorem dX9_key_112 : decode cX9_key 112 = .ok (.getfield 22, 3) := by decide +kernel
theorem dX9_key_115 : decode cX9_key 115 = .ok (.iload 4, 2) := by decide +kernel
theorem dX9_key_117 : decode cX9_key 117 = .ok (.iaload, 1) := by decide +kernel
theorem dX9_key_118 : decode cX9_key 118 = .ok (.isub, 1) := by decide +kernel
theorem dX9_key_119 : decode cX9_key 119 = .ok (.iastore, 1) := by decide +kernel
theorem dX9_key_120 : decode cX9_key 120 = .ok (.iconst 0, 1) := by decide +kernel
theorem dX9_key_121 : decode cX9_key 121 = .ok (.istore 5, 2) := by decide +kernel
theorem dX9_key_123 : decode cX9_key 123 = .ok (.iconst 0, 1) := by decide +kernel
theorem dX9_key_124 : decode cX9_key 124 = .ok (.istore 6, 2) := by decide +kernel
theorem dX9_key_126 : decode cX9_key 126 = .ok (.iload 6, 2) := by decide +kernel
theorem dX9_key_128 : decode cX9_key 128 = .ok (.aload_n 0, 1) := by decide +kernel
theorem dX9_key_129 : decode cX9_key 129 = .ok (.getfield 130, 3) := by decide +kernel
theorem dX9_key_132 : decode cX9_key 132 = .ok (.if_icmp .ge 36, 3) := by decide +kernel
theorem dX9_key_135 : decode cX9_key 135 = .ok (.iload 5, 2) := by decide +kernel
theorem dX9_key_137 : decode cX9_key 137 = .ok (.aload_n 0, 1) := by decide +kernel
theorem dX9_key_138 : decode cX9_key 138 = .ok (.getfield 40, 3) := by decide +kernel
theorem dX9_key_141 : decode cX9_key 141 = .ok (.iload 6, 2) := by decide +kernel
theorem dX9_key_143 : decode cX9_key 143 = .ok (.iaload, 1) := by decide +kernel
theorem dX9_key_144 : decode cX9_key 144 = .ok (.aload_n 0, 1) := by decide +kernel
theorem dX9_key_145 : decode cX9_key 145 = .ok (.getfield 71, 3) := by decide +kernel
theorem dX9_key_148 : decode cX9_key 148 = .ok (.iload 6, 2) := by decide +kernel
theorem dX9_key_150 : decode cX9_key 150 = .ok (.iaload, 1) := by decide +kernel
theorem dX9_key_151 : decode cX9_key 151 = .ok (.if_icmp .ne 7, 3) := by decide +kernel
theorem dX9_key_154 : decode cX9_key 154 = .ok (.iconst 0, 1) := by decide +kernel
theorem dX9_key_155 : decode cX9_key 155 = .ok (.goto 4, 3) := by decide +kernel
theorem dX9_key_158 : decode cX9_key 158 = .ok (.iconst 1, 1) := by decide +kernel
theorem dX9_key_159 : decode cX9_key 159 = .ok (.iadd, 1) := by decide +kernel
theorem dX9_key_160 : decode cX9_key 160 = .ok (.istore 5, 2) := by decide +kernel
theorem dX9_key_162 : decode cX9_key 162 = .ok (.iinc 6 1, 3) := by decide +kernel
theorem dX9_key_165 : decode cX9_key 165 = .ok (.goto (-39), 3) := by decide +kernel
theorem dX9_key_168 : decode cX9_key 168 = .ok (.iload 5, 2) := by decide +kernel
theorem dX9_key_170 : decode cX9_key 170 = .ok (.iload_n 3, 1) := by decide +kernel
theorem dX9_key_171 : decode cX9_key 171 = .ok (.if_icmp .le 9, 3) := by decide +kernel
theorem dX9_key_174 : decode cX9_key 174 = .ok (.iload 5, 2) := by decide +kernel
theorem dX9_key_176 : decode cX9_key 176 = .ok (.istore_n 3, 1) := by decide +kernel
theorem dX9_key_177 : decode cX9_key 177 = .ok (.iload 4, 2) := by decide +kernel
theorem dX9_key_179 : decode cX9_key 179 = .ok (.istore_n 2, 1) := by decide +kernel
theorem dX9_key_180 : decode cX9_key 180 = .ok (.iinc 4 1, 3) := by decide +kernel
theorem dX9_key_183 : decode cX9_key 183 = .ok (.goto (-122), 3) := by decide +kernel
theorem dX9_key_186 : decode cX9_key 186 = .ok (.iload_n 1, 1) := by decide +kernel
theorem dX9_key_187 : decode cX9_key 187 = .ok (.ifCond .ne 7, 3) := by decide +kernel
theorem dX9_key_190 : decode cX9_key 190 = .ok (.iload_n 2, 1) := by decide +kernel
theorem dX9_key_191 : decode cX9_key 191 = .ok (.goto 4, 3) := by decide +kernel
theorem dX9_key_194 : decode cX9_key 194 = .ok (.iload_n 3, 1) := by decide +kernel
theorem dX9_key_195 : decode cX9_key 195 = .ok (.ireturn, 1) := by decide +kernel
theorem dX9_choose_0 : decode cX9_choose 0 = .ok (.lconst 1, 1) := by decide +kernel
theorem dX9_choose_1 : decode cX9_choose 1 = .ok (.lstore_n 2, 1) := by decide +kernel
theorem dX9_choose_2 : decode cX9_choose 2 = .ok (.iconst 1, 1) := by decide +kernel
theorem dX9_choose_3 : decode cX9_choose 3 = .ok (.istore 4, 2) := by decide +kernel
theorem dX9_choose_5 : decode cX9_choose 5 = .ok (.iload 4, 2) := by decide +kernel
theorem dX9_choose_7 : decode cX9_choose 7 = .ok (.iload_n 1, 1) := by decide +kernel
theorem dX9_choose_8 : decode cX9_choose 8 = .ok (.if_icmp .gt 23, 3) := by decide +kernel
theorem dX9_choose_11 : decode cX9_choose 11 = .ok (.lload_n 2, 1) := by decide +kernel
theorem dX9_choose_12 : decode cX9_choose 12 = .ok (.iload_n 0, 1) := by decide +kernel
theorem dX9_choose_13 : decode cX9_choose 13 = .ok (.iload_n 1, 1) := by decide +kernel
theorem dX9_choose_14 : decode cX9_choose 14 = .ok (.isub, 1) := by decide +kernel
theorem dX9_choose_15 : decode cX9_choose 15 = .ok (.iload 4, 2) := by decide +kernel
theorem dX9_choose_17 : decode cX9_choose 17 = .ok (.iadd, 1) := by decide +kernel
theorem dX9_choose_18 : decode cX9_choose 18 = .ok (.i2l, 1) := by decide +kernel
theorem dX9_choose_19 : decode cX9_choose 19 = .ok (.lmul, 1) := by decide +kernel
theorem dX9_choose_20 : decode cX9_choose 20 = .ok (.iload 4, 2) := by decide +kernel
theorem dX9_choose_22 : decode cX9_choose 22 = .ok (.i2l, 1) := by decide +kernel
theorem dX9_choose_23 : decode cX9_choose 23 = .ok (.ldiv, 1) := by decide +kernel
theorem dX9_choose_24 : decode cX9_choose 24 = .ok (.lstore_n 2, 1) := by decide +kernel
theorem dX9_choose_25 : decode cX9_choose 25 = .ok (.iinc 4 1, 3) := by decide +kernel
theorem dX9_choose_28 : decode cX9_choose 28 = .ok (.goto (-23), 3) := by decide +kernel
theorem dX9_choose_31 : decode cX9_choose 31 = .ok (.lload_n 2, 1) := by decide +kernel
theorem dX9_choose_32 : decode cX9_choose 32 = .ok (.lreturn, 1) := by decide +kernel
theorem dX9_allWays_0 : decode cX9_allWays 0 = .ok (.lconst 1, 1) := by decide +kernel
theorem dX9_allWays_1 : decode cX9_allWays 1 = .ok (.lstore_n 1, 1) := by decide +kernel
theorem dX9_allWays_2 : decode cX9_allWays 2 = .ok (.iconst 1, 1) := by decide +kernel
theorem dX9_allWays_3 : decode cX9_allWays 3 = .ok (.istore_n 3, 1) := by decide +kernel
theorem dX9_allWays_4 : decode cX9_allWays 4 = .ok (.iload_n 3, 1) := by decide +kernel
theorem dX9_allWays_5 : decode cX9_allWays 5 = .ok (.aload_n 0, 1) := by decide +kernel
theorem dX9_allWays_6 : decode cX9_allWays 6 = .ok (.getfield 91, 3) := by decide +kernel
theorem dX9_allWays_9 : decode cX9_allWays 9 = .ok (.if_icmp .gt 26, 3) := by decide +kernel
theorem dX9_allWays_12 : decode cX9_allWays 12 = .ok (.aload_n 0, 1) := by decide +kernel
theorem dX9_allWays_13 : decode cX9_allWays 13 = .ok (.getfield 91, 3) := by decide +kernel
theorem dX9_allWays_16 : decode cX9_allWays 16 = .ok (.iload_n 3, 1) := by decide +kernel
theorem dX9_allWays_17 : decode cX9_allWays 17 = .ok (.invokestatic 261, 3) := by decide +kernel
theorem dX9_allWays_20 : decode cX9_allWays 20 = .ok (.lstore 4, 2) := by decide +kernel
theorem dX9_allWays_22 : decode cX9_allWays 22 = .ok (.lload_n 1, 1) := by decide +kernel
theorem dX9_allWays_23 : decode cX9_allWays 23 = .ok (.lload 4, 2) := by decide +kernel
theorem dX9_allWays_25 : decode cX9_allWays 25 = .ok (.invokestatic 265, 3) := by decide +kernel
theorem dX9_allWays_28 : decode cX9_allWays 28 = .ok (.lstore_n 1, 1) := by decide +kernel
theorem dX9_allWays_29 : decode cX9_allWays 29 = .ok (.iinc 3 1, 3) := by decide +kernel
theorem dX9_allWays_32 : decode cX9_allWays 32 = .ok (.goto (-28), 3) := by decide +kernel
theorem dX9_allWays_35 : decode cX9_allWays 35 = .ok (.lload_n 1, 1) := by decide +kernel
theorem dX9_allWays_36 : decode cX9_allWays 36 = .ok (.lreturn, 1) := by decide +kernel
theorem dX9_leastCommon_0 : decode cX9_leastCommon 0 = .ok (.lload_n 0, 1) := by decide +kernel
theorem dX9_leastCommon_1 : decode cX9_leastCommon 1 = .ok (.lstore 4, 2) := by decide +kernel
theorem dX9_leastCommon_3 : decode cX9_leastCommon 3 = .ok (.lload_n 2, 1) := by decide +kernel
theorem dX9_leastCommon_4 : decode cX9_leastCommon 4 = .ok (.lstore 6, 2) := by decide +kernel
theorem dX9_leastCommon_6 : decode cX9_leastCommon 6 = .ok (.lload 6, 2) := by decide +kernel
theorem dX9_leastCommon_8 : decode cX9_leastCommon 8 = .ok (.lconst 0, 1) := by decide +kernel
theorem dX9_leastCommon_9 : decode cX9_leastCommon 9 = .ok (.lcmp, 1) := by decide +kernel
theorem dX9_leastCommon_10 : decode cX9_leastCommon 10 = .ok (.ifCond .eq 21, 3) := by decide +kernel
theorem dX9_leastCommon_13 : decode cX9_leastCommon 13 = .ok (.lload 4, 2) := by decide +kernel
theorem dX9_leastCommon_15 : decode cX9_leastCommon 15 = .ok (.lload 6, 2) := by decide +kernel
theorem dX9_leastCommon_17 : decode cX9_leastCommon 17 = .ok (.lrem, 1) := by decide +kernel
theorem dX9_leastCommon_18 : decode cX9_leastCommon 18 = .ok (.lstore 8, 2) := by decide +kernel
theorem dX9_leastCommon_20 : decode cX9_leastCommon 20 = .ok (.lload 6, 2) := by decide +kernel
theorem dX9_leastCommon_22 : decode cX9_leastCommon 22 = .ok (.lstore 4, 2) := by decide +kernel
theorem dX9_leastCommon_24 : decode cX9_leastCommon 24 = .ok (.lload 8, 2) := by decide +kernel
theorem dX9_leastCommon_26 : decode cX9_leastCommon 26 = .ok (.lstore 6, 2) := by decide +kernel
theorem dX9_leastCommon_28 : decode cX9_leastCommon 28 = .ok (.goto (-22), 3) := by decide +kernel
theorem dX9_leastCommon_31 : decode cX9_leastCommon 31 = .ok (.lload_n 0, 1) := by decide +kernel
theorem dX9_leastCommon_32 : decode cX9_leastCommon 32 = .ok (.lload 4, 2) := by decide +kernel
theorem dX9_leastCommon_34 : decode cX9_leastCommon 34 = .ok (.ldiv, 1) := by decide +kernel
theorem dX9_leastCommon_35 : decode cX9_leastCommon 35 = .ok (.lload_n 2, 1) := by decide +kernel
theorem dX9_leastCommon_36 : decode cX9_leastCommon 36 = .ok (.lmul, 1) := by decide +kernel
theorem dX9_leastCommon_37 : decode cX9_leastCommon 37 = .ok (.lreturn, 1) := by decide +kernel
theorem dX9_clearNext_0 : decode cX9_clearNext 0 = .ok (.iconst 0, 1) := by decide +kernel
theorem dX9_clearNext_1 : decode cX9_clearNext 1 = .ok (.istore_n 1, 1) := by decide +kernel
theorem dX9_clearNext_2 : decode cX9_clearNext 2 = .ok (.iload_n 1, 1) := by decide +kernel
theorem dX9_clearNext_3 : decode cX9_clearNext 3 = .ok (.sipush 257, 3) := by decide +kernel
theorem dX9_clearNext_6 : decode cX9_clearNext 6 = .ok (.if_icmp .ge 16, 3) := by decide +kernel
theorem dX9_clearNext_9 : decode cX9_clearNext 9 = .ok (.aload_n 0, 1) := by decide +kernel
theorem dX9_clearNext_10 : decode cX9_clearNext 10 = .ok (.getfield 78, 3) := by decide +kernel
theorem dX9_clearNext_13 : decode cX9_clearNext 13 = .ok (.iload_n 1, 1) := by decide +kernel
theorem dX9_clearNext_14 : decode cX9_clearNext 14 = .ok (.lconst 0, 1) := by decide +kernel
theorem dX9_clearNext_15 : decode cX9_clearNext 15 = .ok (.lastore, 1) := by decide +kernel
theorem dX9_clearNext_16 : decode cX9_clearNext 16 = .ok (.iinc 1 1, 3) := by decide +kernel
theorem dX9_clearNext_19 : decode cX9_clearNext 19 = .ok (.goto (-17), 3) := by decide +kernel
theorem dX9_clearNext_22 : decode cX9_clearNext 22 = .ok (.return_, 1) := by decide +kernel
theorem dX9_drawSeats_0 : decode cX9_drawSeats 0 = .ok (.lload_n 1, 1) := by decide +kernel
theorem dX9_drawSeats_1 : decode cX9_drawSeats 1 = .ok (.lload_n 3, 1) := by decide +kernel
theorem dX9_drawSeats_2 : decode cX9_drawSeats 2 = .ok (.aload_n 0, 1) := by decide +kernel
theorem dX9_drawSeats_3 : decode cX9_drawSeats 3 = .ok (.getfield 91, 3) := by decide +kernel
theorem dX9_drawSeats_6 : decode cX9_drawSeats 6 = .ok (.aload_n 0, 1) := by decide +kernel
theorem dX9_drawSeats_7 : decode cX9_drawSeats 7 = .ok (.getfield 183, 3) := by decide +kernel
theorem dX9_drawSeats_10 : decode cX9_drawSeats 10 = .ok (.invokestatic 261, 3) := by decide +kernel
theorem dX9_drawSeats_13 : decode cX9_drawSeats 13 = .ok (.ldiv, 1) := by decide +kernel
theorem dX9_drawSeats_14 : decode cX9_drawSeats 14 = .ok (.lmul, 1) := by decide +kernel
theorem dX9_drawSeats_15 : decode cX9_drawSeats 15 = .ok (.lstore 5, 2) := by decide +kernel
theorem dX9_drawSeats_17 : decode cX9_drawSeats 17 = .ok (.iconst 0, 1) := by decide +kernel
theorem dX9_drawSeats_18 : decode cX9_drawSeats 18 = .ok (.istore 7, 2) := by decide +kernel
theorem dX9_drawSeats_20 : decode cX9_drawSeats 20 = .ok (.iload 7, 2) := by decide +kernel
theorem dX9_drawSeats_22 : decode cX9_drawSeats 22 = .ok (.aload_n 0, 1) := by decide +kernel
theorem dX9_drawSeats_23 : decode cX9_drawSeats 23 = .ok (.invokevirtual 150, 3) := by decide +kernel
theorem dX9_drawSeats_26 : decode cX9_drawSeats 26 = .ok (.if_icmp .gt 37, 3) := by decide +kernel
theorem dX9_drawSeats_29 : decode cX9_drawSeats 29 = .ok (.aload_n 0, 1) := by decide +kernel
theorem dX9_drawSeats_30 : decode cX9_drawSeats 30 = .ok (.getfield 78, 3) := by decide +kernel
theorem dX9_drawSeats_33 : decode cX9_drawSeats 33 = .ok (.iload 7, 2) := by decide +kernel
theorem dX9_drawSeats_35 : decode cX9_drawSeats 35 = .ok (.dup2, 1) := by decide +kernel
theorem dX9_drawSeats_36 : decode cX9_drawSeats 36 = .ok (.laload, 1) := by decide +kernel
theorem dX9_drawSeats_37 : decode cX9_drawSeats 37 = .ok (.iload 7, 2) := by decide +kernel
theorem dX9_drawSeats_39 : decode cX9_drawSeats 39 = .ok (.invokestatic 235, 3) := by decide +kernel
theorem dX9_drawSeats_42 : decode cX9_drawSeats 42 = .ok (.aload_n 0, 1) := by decide +kernel
theorem dX9_drawSeats_43 : decode cX9_drawSeats 43 = .ok (.getfield 183, 3) := by decide +kernel
theorem dX9_drawSeats_46 : decode cX9_drawSeats 46 = .ok (.if_icmp .ne 8, 3) := by decide +kernel
theorem dX9_drawSeats_49 : decode cX9_drawSeats 49 = .ok (.lload 5, 2) := by decide +kernel
theorem dX9_drawSeats_51 : decode cX9_drawSeats 51 = .ok (.goto 4, 3) := by decide +kernel
theorem dX9_drawSeats_54 : decode cX9_drawSeats 54 = .ok (.lconst 0, 1) := by decide +kernel
theorem dX9_drawSeats_55 : decode cX9_drawSeats 55 = .ok (.ladd, 1) := by decide +kernel
theorem dX9_drawSeats_56 : decode cX9_drawSeats 56 = .ok (.lastore, 1) := by decide +kernel
theorem dX9_drawSeats_57 : decode cX9_drawSeats 57 = .ok (.iinc 7 1, 3) := by decide +kernel
theorem dX9_drawSeats_60 : decode cX9_drawSeats 60 = .ok (.goto (-40), 3) := by decide +kernel
theorem dX9_drawSeats_63 : decode cX9_drawSeats 63 = .ok (.return_, 1) := by decide +kernel
theorem dX9_goLot_0 : decode cX9_goLot 0 = .ok (.aload_n 0, 1) := by decide +kernel
theorem dX9_goLot_1 : decode cX9_goLot 1 = .ok (.invokevirtual 269, 3) := by decide +kernel
theorem dX9_goLot_4 : decode cX9_goLot 4 = .ok (.iconst 0, 1) := by decide +kernel
theorem dX9_goLot_5 : decode cX9_goLot 5 = .ok (.istore 4, 2) := by decide +kernel
theorem dX9_goLot_7 : decode cX9_goLot 7 = .ok (.iload 4, 2) := by decide +kernel
theorem dX9_goLot_9 : decode cX9_goLot 9 = .ok (.aload_n 0, 1) := by decide +kernel
theorem dX9_goLot_10 : decode cX9_goLot 10 = .ok (.invokevirtual 150, 3) := by decide +kernel
theorem dX9_goLot_13 : decode cX9_goLot 13 = .ok (.if_icmp .gt 76, 3) := by decide +kernel
theorem dX9_goLot_16 : decode cX9_goLot 16 = .ok (.aload_n 0, 1) := by decide +kernel
theorem dX9_goLot_17 : decode cX9_goLot 17 = .ok (.getfield 74, 3) := by decide +kernel
theorem dX9_goLot_20 : decode cX9_goLot 20 = .ok (.iload 4, 2) := by decide +kernel
theorem dX9_goLot_22 : decode cX9_goLot 22 = .ok (.laload, 1) := by decide +kernel
theorem dX9_goLot_23 : decode cX9_goLot 23 = .ok (.lconst 0, 1) := by decide +kernel
theorem dX9_goLot_24 : decode cX9_goLot 24 = .ok (.lcmp, 1) := by decide +kernel
theorem dX9_goLot_25 : decode cX9_goLot 25 = .ok (.ifCond .eq 58, 3) := by decide +kernel
theorem dX9_goLot_28 : decode cX9_goLot 28 = .ok (.aload_n 0, 1) := by decide +kernel
theorem dX9_goLot_29 : decode cX9_goLot 29 = .ok (.iload 4, 2) := by decide +kernel
theorem dX9_goLot_31 : decode cX9_goLot 31 = .ok (.putfield 154, 3) := by decide +kernel
theorem dX9_goLot_34 : decode cX9_goLot 34 = .ok (.aload_n 0, 1) := by decide +kernel
theorem dX9_goLot_35 : decode cX9_goLot 35 = .ok (.iload_n 1, 1) := by decide +kernel
theorem dX9_goLot_36 : decode cX9_goLot 36 = .ok (.iconst 0, 1) := by decide +kernel
theorem dX9_goLot_37 : decode cX9_goLot 37 = .ok (.iconst 0, 1) := by decide +kernel
theorem dX9_goLot_38 : decode cX9_goLot 38 = .ok (.invokevirtual 195, 3) := by decide +kernel
theorem dX9_goLot_41 : decode cX9_goLot 41 = .ok (.aload_n 0, 1) := by decide +kernel
theorem dX9_goLot_42 : decode cX9_goLot 42 = .ok (.getfield 183, 3) := by decide +kernel
theorem dX9_goLot_45 : decode cX9_goLot 45 = .ok (.ifCond .ne 26, 3) := by decide +kernel
theorem dX9_goLot_48 : decode cX9_goLot 48 = .ok (.aload_n 0, 1) := by decide +kernel
theorem dX9_goLot_49 : decode cX9_goLot 49 = .ok (.getfield 78, 3) := by decide +kernel
theorem dX9_goLot_52 : decode cX9_goLot 52 = .ok (.sipush 256, 3) := by decide +kernel
theorem dX9_goLot_55 : decode cX9_goLot 55 = .ok (.dup2, 1) := by decide +kernel
theorem dX9_goLot_56 : decode cX9_goLot 56 = .ok (.laload, 1) := by decide +kernel
theorem dX9_goLot_57 : decode cX9_goLot 57 = .ok (.aload_n 0, 1) := by decide +kernel
theorem dX9_goLot_58 : decode cX9_goLot 58 = .ok (.getfield 74, 3) := by decide +kernel
theorem dX9_goLot_61 : decode cX9_goLot 61 = .ok (.iload 4, 2) := by decide +kernel
theorem dX9_goLot_63 : decode cX9_goLot 63 = .ok (.laload, 1) := by decide +kernel
theorem dX9_goLot_64 : decode cX9_goLot 64 = .ok (.lload_n 2, 1) := by decide +kernel
theorem dX9_goLot_65 : decode cX9_goLot 65 = .ok (.lmul, 1) := by decide +kernel
theorem dX9_goLot_66 : decode cX9_goLot 66 = .ok (.ladd, 1) := by decide +kernel
theorem dX9_goLot_67 : decode cX9_goLot 67 = .ok (.lastore, 1) := by decide +kernel
theorem dX9_goLot_68 : decode cX9_goLot 68 = .ok (.goto 15, 3) := by decide +kernel
theorem dX9_goLot_71 : decode cX9_goLot 71 = .ok (.aload_n 0, 1) := by decide +kernel
theorem dX9_goLot_72 : decode cX9_goLot 72 = .ok (.aload_n 0, 1) := by decide +kernel
theorem dX9_goLot_73 : decode cX9_goLot 73 = .ok (.getfield 74, 3) := by decide +kernel
theorem dX9_goLot_76 : decode cX9_goLot 76 = .ok (.iload 4, 2) := by decide +kernel
theorem dX9_goLot_78 : decode cX9_goLot 78 = .ok (.laload, 1) := by decide +kernel
theorem dX9_goLot_79 : decode cX9_goLot 79 = .ok (.lload_n 2, 1) := by decide +kernel
theorem dX9_goLot_80 : decode cX9_goLot 80 = .ok (.invokevirtual 272, 3) := by decide +kernel
theorem dX9_goLot_83 : decode cX9_goLot 83 = .ok (.iinc 4 1, 3) := by decide +kernel
theorem dX9_goLot_86 : decode cX9_goLot 86 = .ok (.goto (-79), 3) := by decide +kernel
theorem dX9_goLot_89 : decode cX9_goLot 89 = .ok (.aload_n 0, 1) := by decide +kernel
theorem dX9_goLot_90 : decode cX9_goLot 90 = .ok (.getfield 78, 3) := by decide +kernel
theorem dX9_goLot_93 : decode cX9_goLot 93 = .ok (.aload_n 0, 1) := by decide +kernel
theorem dX9_goLot_94 : decode cX9_goLot 94 = .ok (.invokevirtual 150, 3) := by decide +kernel
theorem dX9_goLot_97 : decode cX9_goLot 97 = .ok (.dup2, 1) := by decide +kernel
theorem dX9_goLot_98 : decode cX9_goLot 98 = .ok (.laload, 1) := by decide +kernel
theorem dX9_goLot_99 : decode cX9_goLot 99 = .ok (.aload_n 0, 1) := by decide +kernel
theorem dX9_goLot_100 : decode cX9_goLot 100 = .ok (.getfield 74, 3) := by decide +kernel
theorem dX9_goLot_103 : decode cX9_goLot 103 = .ok (.sipush 256, 3) := by decide +kernel
theorem dX9_goLot_106 : decode cX9_goLot 106 = .ok (.laload, 1) := by decide +kernel
theorem dX9_goLot_107 : decode cX9_goLot 107 = .ok (.lload_n 2, 1) := by decide +kernel
theorem dX9_goLot_108 : decode cX9_goLot 108 = .ok (.lmul, 1) := by decide +kernel
theorem dX9_goLot_109 : decode cX9_goLot 109 = .ok (.ladd, 1) := by decide +kernel
theorem dX9_goLot_110 : decode cX9_goLot 110 = .ok (.lastore, 1) := by decide +kernel
theorem dX9_goLot_111 : decode cX9_goLot 111 = .ok (.iconst 0, 1) := by decide +kernel
theorem dX9_goLot_112 : decode cX9_goLot 112 = .ok (.istore 4, 2) := by decide +kernel
theorem dX9_goLot_114 : decode cX9_goLot 114 = .ok (.iload 4, 2) := by decide +kernel
theorem dX9_goLot_116 : decode cX9_goLot 116 = .ok (.sipush 257, 3) := by decide +kernel
theorem dX9_goLot_119 : decode cX9_goLot 119 = .ok (.if_icmp .ge 23, 3) := by decide +kernel
theorem dX9_goLot_122 : decode cX9_goLot 122 = .ok (.aload_n 0, 1) := by decide +kernel
theorem dX9_goLot_123 : decode cX9_goLot 123 = .ok (.getfield 74, 3) := by decide +kernel
theorem dX9_goLot_126 : decode cX9_goLot 126 = .ok (.iload 4, 2) := by decide +kernel
theorem dX9_goLot_128 : decode cX9_goLot 128 = .ok (.aload_n 0, 1) := by decide +kernel
theorem dX9_goLot_129 : decode cX9_goLot 129 = .ok (.getfield 78, 3) := by decide +kernel
theorem dX9_goLot_132 : decode cX9_goLot 132 = .ok (.iload 4, 2) := by decide +kernel
theorem dX9_goLot_134 : decode cX9_goLot 134 = .ok (.laload, 1) := by decide +kernel
theorem dX9_goLot_135 : decode cX9_goLot 135 = .ok (.lastore, 1) := by decide +kernel
theorem dX9_goLot_136 : decode cX9_goLot 136 = .ok (.iinc 4 1, 3) := by decide +kernel
theorem dX9_goLot_139 : decode cX9_goLot 139 = .ok (.goto (-25), 3) := by decide +kernel
theorem dX9_goLot_142 : decode cX9_goLot 142 = .ok (.return_, 1) := by decide +kernel
theorem dX9_lot_0 : decode cX9_lot 0 = .ok (.iload_n 1, 1) := by decide +kernel
theorem dX9_lot_1 : decode cX9_lot 1 = .ok (.iconst 0, 1) := by decide +kernel
theorem dX9_lot_2 : decode cX9_lot 2 = .ok (.iconst 1, 1) := by decide +kernel
theorem dX9_lot_3 : decode cX9_lot 3 = .ok (.invokestatic 87, 3) := by decide +kernel
theorem dX9_lot_6 : decode cX9_lot 6 = .ok (.ifCond .eq 10, 3) := by decide +kernel
theorem dX9_lot_9 : decode cX9_lot 9 = .ok (.aload_n 0, 1) := by decide +kernel
theorem dX9_lot_10 : decode cX9_lot 10 = .ok (.invokevirtual 146, 3) := by decide +kernel
theorem dX9_lot_13 : decode cX9_lot 13 = .ok (.ifCond .ne 7, 3) := by decide +kernel
theorem dX9_lot_16 : decode cX9_lot 16 = .ok (.ldc2_w 85, 3) := by decide +kernel
theorem dX9_lot_19 : decode cX9_lot 19 = .ok (.lreturn, 1) := by decide +kernel
theorem dX9_lot_20 : decode cX9_lot 20 = .ok (.aload_n 0, 1) := by decide +kernel
theorem dX9_lot_21 : decode cX9_lot 21 = .ok (.invokevirtual 205, 3) := by decide +kernel
theorem dX9_lot_24 : decode cX9_lot 24 = .ok (.iconst 0, 1) := by decide +kernel
theorem dX9_lot_25 : decode cX9_lot 25 = .ok (.istore_n 2, 1) := by decide +kernel
theorem dX9_lot_26 : decode cX9_lot 26 = .ok (.iload_n 2, 1) := by decide +kernel
theorem dX9_lot_27 : decode cX9_lot 27 = .ok (.sipush 257, 3) := by decide +kernel
theorem dX9_lot_30 : decode cX9_lot 30 = .ok (.if_icmp .ge 16, 3) := by decide +kernel
theorem dX9_lot_33 : decode cX9_lot 33 = .ok (.aload_n 0, 1) := by decide +kernel
theorem dX9_lot_34 : decode cX9_lot 34 = .ok (.getfield 74, 3) := by decide +kernel
theorem dX9_lot_37 : decode cX9_lot 37 = .ok (.iload_n 2, 1) := by decide +kernel
theorem dX9_lot_38 : decode cX9_lot 38 = .ok (.lconst 0, 1) := by decide +kernel
theorem dX9_lot_39 : decode cX9_lot 39 = .ok (.lastore, 1) := by decide +kernel
theorem dX9_lot_40 : decode cX9_lot 40 = .ok (.iinc 2 1, 3) := by decide +kernel
theorem dX9_lot_43 : decode cX9_lot 43 = .ok (.goto (-17), 3) := by decide +kernel
theorem dX9_lot_46 : decode cX9_lot 46 = .ok (.aload_n 0, 1) := by decide +kernel
theorem dX9_lot_47 : decode cX9_lot 47 = .ok (.getfield 74, 3) := by decide +kernel
theorem dX9_lot_50 : decode cX9_lot 50 = .ok (.aload_n 0, 1) := by decide +kernel
theorem dX9_lot_51 : decode cX9_lot 51 = .ok (.invokevirtual 150, 3) := by decide +kernel
theorem dX9_lot_54 : decode cX9_lot 54 = .ok (.lconst 1, 1) := by decide +kernel
theorem dX9_lot_55 : decode cX9_lot 55 = .ok (.lastore, 1) := by decide +kernel
theorem dX9_lot_56 : decode cX9_lot 56 = .ok (.aload_n 0, 1) := by decide +kernel
theorem dX9_lot_57 : decode cX9_lot 57 = .ok (.invokevirtual 276, 3) := by decide +kernel
theorem dX9_lot_60 : decode cX9_lot 60 = .ok (.lstore_n 2, 1) := by decide +kernel
theorem dX9_lot_61 : decode cX9_lot 61 = .ok (.lconst 1, 1) := by decide +kernel
theorem dX9_lot_62 : decode cX9_lot 62 = .ok (.lstore 4, 2) := by decide +kernel
theorem dX9_lot_64 : decode cX9_lot 64 = .ok (.iconst 0, 1) := by decide +kernel
theorem dX9_lot_65 : decode cX9_lot 65 = .ok (.istore 6, 2) := by decide +kernel
theorem dX9_lot_67 : decode cX9_lot 67 = .ok (.iload 6, 2) := by decide +kernel
theorem dX9_lot_69 : decode cX9_lot 69 = .ok (.aload_n 0, 1) := by decide +kernel
theorem dX9_lot_70 : decode cX9_lot 70 = .ok (.getfield 130, 3) := by decide +kernel
theorem dX9_lot_73 : decode cX9_lot 73 = .ok (.iconst 1, 1) := by decide +kernel
theorem dX9_lot_74 : decode cX9_lot 74 = .ok (.isub, 1) := by decide +kernel
theorem dX9_lot_75 : decode cX9_lot 75 = .ok (.if_icmp .ge 27, 3) := by decide +kernel
theorem dX9_lot_78 : decode cX9_lot 78 = .ok (.aload_n 0, 1) := by decide +kernel
theorem dX9_lot_79 : decode cX9_lot 79 = .ok (.aload_n 0, 1) := by decide +kernel
theorem dX9_lot_80 : decode cX9_lot 80 = .ok (.getfield 25, 3) := by decide +kernel
theorem dX9_lot_83 : decode cX9_lot 83 = .ok (.iload 6, 2) := by decide +kernel
theorem dX9_lot_85 : decode cX9_lot 85 = .ok (.iaload, 1) := by decide +kernel
theorem dX9_lot_86 : decode cX9_lot 86 = .ok (.lload_n 2, 1) := by decide +kernel
theorem dX9_lot_87 : decode cX9_lot 87 = .ok (.invokevirtual 280, 3) := by decide +kernel
theorem dX9_lot_90 : decode cX9_lot 90 = .ok (.lload 4, 2) := by decide +kernel
theorem dX9_lot_92 : decode cX9_lot 92 = .ok (.lload_n 2, 1) := by decide +kernel
theorem dX9_lot_93 : decode cX9_lot 93 = .ok (.lmul, 1) := by decide +kernel
theorem dX9_lot_94 : decode cX9_lot 94 = .ok (.lstore 4, 2) := by decide +kernel
theorem dX9_lot_96 : decode cX9_lot 96 = .ok (.iinc 6 1, 3) := by decide +kernel
theorem dX9_lot_99 : decode cX9_lot 99 = .ok (.goto (-32), 3) := by decide +kernel
theorem dX9_lot_102 : decode cX9_lot 102 = .ok (.lconst 0, 1) := by decide +kernel
theorem dX9_lot_103 : decode cX9_lot 103 = .ok (.lstore 6, 2) := by decide +kernel
theorem dX9_lot_105 : decode cX9_lot 105 = .ok (.iconst 0, 1) := by decide +kernel
theorem dX9_lot_106 : decode cX9_lot 106 = .ok (.istore 8, 2) := by decide +kernel
theorem dX9_lot_108 : decode cX9_lot 108 = .ok (.iload 8, 2) := by decide +kernel
theorem dX9_lot_110 : decode cX9_lot 110 = .ok (.aload_n 0, 1) := by decide +kernel
theorem dX9_lot_111 : decode cX9_lot 111 = .ok (.invokevirtual 150, 3) := by decide +kernel
theorem dX9_lot_114 : decode cX9_lot 114 = .ok (.if_icmp .gt 68, 3) := by decide +kernel
theorem dX9_lot_117 : decode cX9_lot 117 = .ok (.aload_n 0, 1) := by decide +kernel
theorem dX9_lot_118 : decode cX9_lot 118 = .ok (.getfield 74, 3) := by decide +kernel
theorem dX9_lot_121 : decode cX9_lot 121 = .ok (.iload 8, 2) := by decide +kernel
theorem dX9_lot_123 : decode cX9_lot 123 = .ok (.laload, 1) := by decide +kernel
theorem dX9_lot_124 : decode cX9_lot 124 = .ok (.lconst 0, 1) := by decide +kernel
theorem dX9_lot_125 : decode cX9_lot 125 = .ok (.lcmp, 1) := by decide +kernel
theorem dX9_lot_126 : decode cX9_lot 126 = .ok (.ifCond .eq 50, 3) := by decide +kernel
theorem dX9_lot_129 : decode cX9_lot 129 = .ok (.aload_n 0, 1) := by decide +kernel
theorem dX9_lot_130 : decode cX9_lot 130 = .ok (.iload 8, 2) := by decide +kernel
theorem dX9_lot_132 : decode cX9_lot 132 = .ok (.putfield 154, 3) := by decide +kernel
theorem dX9_lot_135 : decode cX9_lot 135 = .ok (.aload_n 0, 1) := by decide +kernel
theorem dX9_lot_136 : decode cX9_lot 136 = .ok (.aload_n 0, 1) := by decide +kernel
theorem dX9_lot_137 : decode cX9_lot 137 = .ok (.getfield 25, 3) := by decide +kernel
theorem dX9_lot_140 : decode cX9_lot 140 = .ok (.aload_n 0, 1) := by decide +kernel
theorem dX9_lot_141 : decode cX9_lot 141 = .ok (.getfield 130, 3) := by decide +kernel
theorem dX9_lot_144 : decode cX9_lot 144 = .ok (.iconst 1, 1) := by decide +kernel
theorem dX9_lot_145 : decode cX9_lot 145 = .ok (.isub, 1) := by decide +kernel
theorem dX9_lot_146 : decode cX9_lot 146 = .ok (.iaload, 1) := by decide +kernel
theorem dX9_lot_147 : decode cX9_lot 147 = .ok (.iconst 0, 1) := by decide +kernel
theorem dX9_lot_148 : decode cX9_lot 148 = .ok (.iconst 0, 1) := by decide +kernel
theorem dX9_lot_149 : decode cX9_lot 149 = .ok (.invokevirtual 195, 3) := by decide +kernel
theorem dX9_lot_152 : decode cX9_lot 152 = .ok (.lload 6, 2) := by decide +kernel
theorem dX9_lot_154 : decode cX9_lot 154 = .ok (.aload_n 0, 1) := by decide +kernel
theorem dX9_lot_155 : decode cX9_lot 155 = .ok (.getfield 180, 3) := by decide +kernel
theorem dX9_lot_158 : decode cX9_lot 158 = .ok (.iconst 1, 1) := by decide +kernel
theorem dX9_lot_159 : decode cX9_lot 159 = .ok (.if_icmp .ne 13, 3) := by decide +kernel
theorem dX9_lot_162 : decode cX9_lot 162 = .ok (.aload_n 0, 1) := by decide +kernel
theorem dX9_lot_163 : decode cX9_lot 163 = .ok (.getfield 74, 3) := by decide +kernel
theorem dX9_lot_166 : decode cX9_lot 166 = .ok (.iload 8, 2) := by decide +kernel
theorem dX9_lot_168 : decode cX9_lot 168 = .ok (.laload, 1) := by decide +kernel
theorem dX9_lot_169 : decode cX9_lot 169 = .ok (.goto 4, 3) := by decide +kernel
theorem dX9_lot_172 : decode cX9_lot 172 = .ok (.lconst 0, 1) := by decide +kernel
theorem dX9_lot_173 : decode cX9_lot 173 = .ok (.ladd, 1) := by decide +kernel
theorem dX9_lot_174 : decode cX9_lot 174 = .ok (.lstore 6, 2) := by decide +kernel
theorem dX9_lot_176 : decode cX9_lot 176 = .ok (.iinc 8 1, 3) := by decide +kernel
theorem dX9_lot_179 : decode cX9_lot 179 = .ok (.goto (-71), 3) := by decide +kernel
theorem dX9_lot_182 : decode cX9_lot 182 = .ok (.lload 6, 2) := by decide +kernel
theorem dX9_lot_184 : decode cX9_lot 184 = .ok (.lload 4, 2) := by decide +kernel
theorem dX9_lot_186 : decode cX9_lot 186 = .ok (.iload_n 1, 1) := by decide +kernel
theorem dX9_lot_187 : decode cX9_lot 187 = .ok (.invokestatic 284, 3) := by decide +kernel
theorem dX9_lot_190 : decode cX9_lot 190 = .ok (.lreturn, 1) := by decide +kernel
theorem dX9_fits_0 : decode cX9_fits 0 = .ok (.aload_n 0, 1) := by decide +kernel
theorem dX9_fits_1 : decode cX9_fits 1 = .ok (.iconst 0, 1) := by decide +kernel
theorem dX9_fits_2 : decode cX9_fits 2 = .ok (.putfield 81, 3) := by decide +kernel
theorem dX9_fits_5 : decode cX9_fits 5 = .ok (.iload_n 1, 1) := by decide +kernel
theorem dX9_fits_6 : decode cX9_fits 6 = .ok (.invokestatic 100, 3) := by decide +kernel
theorem dX9_fits_9 : decode cX9_fits 9 = .ok (.ifCond .ne 5, 3) := by decide +kernel
theorem dX9_fits_12 : decode cX9_fits 12 = .ok (.iconst (-1), 1) := by decide +kernel
theorem dX9_fits_13 : decode cX9_fits 13 = .ok (.ireturn, 1) := by decide +kernel
theorem dX9_fits_14 : decode cX9_fits 14 = .ok (.iload_n 2, 1) := by decide +kernel
theorem dX9_fits_15 : decode cX9_fits 15 = .ok (.invokestatic 104, 3) := by decide +kernel
theorem dX9_fits_18 : decode cX9_fits 18 = .ok (.ifCond .ne 6, 3) := by decide +kernel
theorem dX9_fits_21 : decode cX9_fits 21 = .ok (.bipush (-2), 2) := by decide +kernel
theorem dX9_fits_23 : decode cX9_fits 23 = .ok (.ireturn, 1) := by decide +kernel
theorem dX9_fits_24 : decode cX9_fits 24 = .ok (.aload_n 0, 1) := by decide +kernel
theorem dX9_fits_25 : decode cX9_fits 25 = .ok (.iload_n 1, 1) := by decide +kernel
theorem dX9_fits_26 : decode cX9_fits 26 = .ok (.iload_n 2, 1) := by decide +kernel
theorem dX9_fits_27 : decode cX9_fits 27 = .ok (.iload_n 3, 1) := by decide +kernel
theorem dX9_fits_28 : decode cX9_fits 28 = .ok (.aload_n 0, 1) := by decide +kernel
theorem dX9_fits_29 : decode cX9_fits 29 = .ok (.invokevirtual 146, 3) := by decide +kernel
theorem dX9_fits_32 : decode cX9_fits 32 = .ok (.ifCond .eq 10, 3) := by decide +kernel
theorem dX9_fits_35 : decode cX9_fits 35 = .ok (.aload_n 0, 1) := by decide +kernel
theorem dX9_fits_36 : decode cX9_fits 36 = .ok (.getfield 130, 3) := by decide +kernel
theorem dX9_fits_39 : decode cX9_fits 39 = .ok (.goto 4, 3) := by decide +kernel
theorem dX9_fits_42 : decode cX9_fits 42 = .ok (.iconst 0, 1) := by decide +kernel
theorem dX9_fits_43 : decode cX9_fits 43 = .ok (.invokevirtual 107, 3) := by decide +kernel
theorem dX9_fits_46 : decode cX9_fits 46 = .ok (.istore 4, 2) := by decide +kernel
theorem dX9_fits_48 : decode cX9_fits 48 = .ok (.iload 4, 2) := by decide +kernel
theorem dX9_fits_50 : decode cX9_fits 50 = .ok (.ifCond .eq 10, 3) := by decide +kernel
theorem dX9_fits_53 : decode cX9_fits 53 = .ok (.aload_n 0, 1) := by decide +kernel
theorem dX9_fits_54 : decode cX9_fits 54 = .ok (.iload 4, 2) := by decide +kernel
theorem dX9_fits_56 : decode cX9_fits 56 = .ok (.invokevirtual 111, 3) := by decide +kernel
theorem dX9_fits_59 : decode cX9_fits 59 = .ok (.ireturn, 1) := by decide +kernel
theorem dX9_fits_60 : decode cX9_fits 60 = .ok (.aload_n 0, 1) := by decide +kernel
theorem dX9_fits_61 : decode cX9_fits 61 = .ok (.invokevirtual 146, 3) := by decide +kernel
theorem dX9_fits_64 : decode cX9_fits 64 = .ok (.ifCond .ne 6, 3) := by decide +kernel
theorem dX9_fits_67 : decode cX9_fits 67 = .ok (.bipush (-3), 2) := by decide +kernel
theorem dX9_fits_69 : decode cX9_fits 69 = .ok (.ireturn, 1) := by decide +kernel
theorem dX9_fits_70 : decode cX9_fits 70 = .ok (.bipush 80, 2) := by decide +kernel
theorem dX9_fits_72 : decode cX9_fits 72 = .ok (.iload_n 1, 1) := by decide +kernel
theorem dX9_fits_73 : decode cX9_fits 73 = .ok (.imul, 1) := by decide +kernel
theorem dX9_fits_74 : decode cX9_fits 74 = .ok (.iload_n 3, 1) := by decide +kernel
theorem dX9_fits_75 : decode cX9_fits 75 = .ok (.iadd, 1) := by decide +kernel
theorem dX9_fits_76 : decode cX9_fits 76 = .ok (.istore 5, 2) := by decide +kernel
theorem dX9_fits_78 : decode cX9_fits 78 = .ok (.iconst 0, 1) := by decide +kernel
theorem dX9_fits_79 : decode cX9_fits 79 = .ok (.istore 6, 2) := by decide +kernel
theorem dX9_fits_81 : decode cX9_fits 81 = .ok (.iconst 0, 1) := by decide +kernel
theorem dX9_fits_82 : decode cX9_fits 82 = .ok (.istore 7, 2) := by decide +kernel
theorem dX9_fits_84 : decode cX9_fits 84 = .ok (.iload 7, 2) := by decide +kernel
theorem dX9_fits_86 : decode cX9_fits 86 = .ok (.bipush 12, 2) := by decide +kernel
theorem dX9_fits_88 : decode cX9_fits 88 = .ok (.if_icmp .ge 112, 3) := by decide +kernel
theorem dX9_fits_91 : decode cX9_fits 91 = .ok (.aload_n 0, 1) := by decide +kernel
theorem dX9_fits_92 : decode cX9_fits 92 = .ok (.invokevirtual 205, 3) := by decide +kernel
theorem dX9_fits_95 : decode cX9_fits 95 = .ok (.aload_n 0, 1) := by decide +kernel
theorem dX9_fits_96 : decode cX9_fits 96 = .ok (.iload 7, 2) := by decide +kernel
theorem dX9_fits_98 : decode cX9_fits 98 = .ok (.iconst 3, 1) := by decide +kernel
theorem dX9_fits_99 : decode cX9_fits 99 = .ok (.idiv, 1) := by decide +kernel
theorem dX9_fits_100 : decode cX9_fits 100 = .ok (.putfield 164, 3) := by decide +kernel
theorem dX9_fits_103 : decode cX9_fits 103 = .ok (.aload_n 0, 1) := by decide +kernel
theorem dX9_fits_104 : decode cX9_fits 104 = .ok (.iload 7, 2) := by decide +kernel
theorem dX9_fits_106 : decode cX9_fits 106 = .ok (.iconst 3, 1) := by decide +kernel
theorem dX9_fits_107 : decode cX9_fits 107 = .ok (.irem, 1) := by decide +kernel
theorem dX9_fits_108 : decode cX9_fits 108 = .ok (.putfield 167, 3) := by decide +kernel
theorem dX9_fits_111 : decode cX9_fits 111 = .ok (.aload_n 0, 1) := by decide +kernel
theorem dX9_fits_112 : decode cX9_fits 112 = .ok (.aload_n 0, 1) := by decide +kernel
theorem dX9_fits_113 : decode cX9_fits 113 = .ok (.getfield 25, 3) := by decide +kernel
theorem dX9_fits_116 : decode cX9_fits 116 = .ok (.aload_n 0, 1) := by decide +kernel
theorem dX9_fits_117 : decode cX9_fits 117 = .ok (.getfield 130, 3) := by decide +kernel
theorem dX9_fits_120 : decode cX9_fits 120 = .ok (.invokevirtual 208, 3) := by decide +kernel
theorem dX9_fits_123 : decode cX9_fits 123 = .ok (.iconst 1, 1) := by decide +kernel
theorem dX9_fits_124 : decode cX9_fits 124 = .ok (.istore 8, 2) := by decide +kernel
theorem dX9_fits_126 : decode cX9_fits 126 = .ok (.iconst 0, 1) := by decide +kernel
theorem dX9_fits_127 : decode cX9_fits 127 = .ok (.istore 9, 2) := by decide +kernel
theorem dX9_fits_129 : decode cX9_fits 129 = .ok (.iload 9, 2) := by decide +kernel
theorem dX9_fits_131 : decode cX9_fits 131 = .ok (.aload_n 0, 1) := by decide +kernel
theorem dX9_fits_132 : decode cX9_fits 132 = .ok (.getfield 130, 3) := by decide +kernel
theorem dX9_fits_135 : decode cX9_fits 135 = .ok (.if_icmp .ge 41, 3) := by decide +kernel
theorem dX9_fits_138 : decode cX9_fits 138 = .ok (.iload 8, 2) := by decide +kernel
theorem dX9_fits_140 : decode cX9_fits 140 = .ok (.ifCond .eq 27, 3) := by decide +kernel
theorem dX9_fits_143 : decode cX9_fits 143 = .ok (.aload_n 0, 1) := by decide +kernel
theorem dX9_fits_144 : decode cX9_fits 144 = .ok (.getfield 43, 3) := by decide +kernel
theorem dX9_fits_147 : decode cX9_fits 147 = .ok (.iload 9, 2) := by decide +kernel
theorem dX9_fits_149 : decode cX9_fits 149 = .ok (.iaload, 1) := by decide +kernel
theorem dX9_fits_150 : decode cX9_fits 150 = .ok (.aload_n 0, 1) := by decide +kernel
theorem dX9_fits_151 : decode cX9_fits 151 = .ok (.getfield 16, 3) := by decide +kernel
theorem dX9_fits_154 : decode cX9_fits 154 = .ok (.iload 5, 2) := by decide +kernel
theorem dX9_fits_156 : decode cX9_fits 156 = .ok (.iload 9, 2) := by decide +kernel
theorem dX9_fits_158 : decode cX9_fits 158 = .ok (.iadd, 1) := by decide +kernel
theorem dX9_fits_159 : decode cX9_fits 159 = .ok (.iaload, 1) := by decide +kernel
theorem dX9_fits_160 : decode cX9_fits 160 = .ok (.if_icmp .ne 7, 3) := by decide +kernel
theorem dX9_fits_163 : decode cX9_fits 163 = .ok (.iconst 1, 1) := by decide +kernel
theorem dX9_fits_164 : decode cX9_fits 164 = .ok (.goto 4, 3) := by decide +kernel
theorem dX9_fits_167 : decode cX9_fits 167 = .ok (.iconst 0, 1) := by decide +kernel
theorem dX9_fits_168 : decode cX9_fits 168 = .ok (.istore 8, 2) := by decide +kernel
theorem dX9_fits_170 : decode cX9_fits 170 = .ok (.iinc 9 1, 3) := by decide +kernel
theorem dX9_fits_173 : decode cX9_fits 173 = .ok (.goto (-44), 3) := by decide +kernel
theorem dX9_fits_176 : decode cX9_fits 176 = .ok (.iload 6, 2) := by decide +kernel
theorem dX9_fits_178 : decode cX9_fits 178 = .ok (.iload 8, 2) := by decide +kernel
theorem dX9_fits_180 : decode cX9_fits 180 = .ok (.ifCond .eq 10, 3) := by decide +kernel
theorem dX9_fits_183 : decode cX9_fits 183 = .ok (.iconst 1, 1) := by decide +kernel
theorem dX9_fits_184 : decode cX9_fits 184 = .ok (.iload 7, 2) := by decide +kernel
theorem dX9_fits_186 : decode cX9_fits 186 = .ok (.ishl, 1) := by decide +kernel
theorem dX9_fits_187 : decode cX9_fits 187 = .ok (.goto 4, 3) := by decide +kernel
theorem dX9_fits_190 : decode cX9_fits 190 = .ok (.iconst 0, 1) := by decide +kernel
theorem dX9_fits_191 : decode cX9_fits 191 = .ok (.ior, 1) := by decide +kernel
theorem dX9_fits_192 : decode cX9_fits 192 = .ok (.istore 6, 2) := by decide +kernel
theorem dX9_fits_194 : decode cX9_fits 194 = .ok (.iinc 7 1, 3) := by decide +kernel
theorem dX9_fits_197 : decode cX9_fits 197 = .ok (.goto (-113), 3) := by decide +kernel
theorem dX9_fits_200 : decode cX9_fits 200 = .ok (.iload 6, 2) := by decide +kernel
theorem dX9_fits_202 : decode cX9_fits 202 = .ok (.ireturn, 1) := by decide +kernel
theorem dX9_isOnceShut_0 : decode cX9_isOnceShut 0 = .ok (.iconst 0, 1) := by decide +kernel
theorem dX9_isOnceShut_1 : decode cX9_isOnceShut 1 = .ok (.istore_n 1, 1) := by decide +kernel
theorem dX9_isOnceShut_2 : decode cX9_isOnceShut 2 = .ok (.iconst 0, 1) := by decide +kernel
theorem dX9_isOnceShut_3 : decode cX9_isOnceShut 3 = .ok (.istore_n 2, 1) := by decide +kernel
theorem dX9_isOnceShut_4 : decode cX9_isOnceShut 4 = .ok (.iload_n 2, 1) := by decide +kernel
theorem dX9_isOnceShut_5 : decode cX9_isOnceShut 5 = .ok (.aload_n 0, 1) := by decide +kernel
theorem dX9_isOnceShut_6 : decode cX9_isOnceShut 6 = .ok (.getfield 130, 3) := by decide +kernel
theorem dX9_isOnceShut_9 : decode cX9_isOnceShut 9 = .ok (.if_icmp .ge 28, 3) := by decide +kernel
theorem dX9_isOnceShut_12 : decode cX9_isOnceShut 12 = .ok (.iload_n 1, 1) := by decide +kernel
theorem dX9_isOnceShut_13 : decode cX9_isOnceShut 13 = .ok (.ifCond .ne 12, 3) := by decide +kernel
theorem dX9_isOnceShut_16 : decode cX9_isOnceShut 16 = .ok (.aload_n 0, 1) := by decide +kernel
theorem dX9_isOnceShut_17 : decode cX9_isOnceShut 17 = .ok (.getfield 43, 3) := by decide +kernel
theorem dX9_isOnceShut_20 : decode cX9_isOnceShut 20 = .ok (.iload_n 2, 1) := by decide +kernel
theorem dX9_isOnceShut_21 : decode cX9_isOnceShut 21 = .ok (.iaload, 1) := by decide +kernel
theorem dX9_isOnceShut_22 : decode cX9_isOnceShut 22 = .ok (.ifCond .ne 7, 3) := by decide +kernel
theorem dX9_isOnceShut_25 : decode cX9_isOnceShut 25 = .ok (.iconst 1, 1) := by decide +kernel
theorem dX9_isOnceShut_26 : decode cX9_isOnceShut 26 = .ok (.goto 4, 3) := by decide +kernel
theorem dX9_isOnceShut_29 : decode cX9_isOnceShut 29 = .ok (.iconst 0, 1) := by decide +kernel
theorem dX9_isOnceShut_30 : decode cX9_isOnceShut 30 = .ok (.istore_n 1, 1) := by decide +kernel
theorem dX9_isOnceShut_31 : decode cX9_isOnceShut 31 = .ok (.iinc 2 1, 3) := by decide +kernel
theorem dX9_isOnceShut_34 : decode cX9_isOnceShut 34 = .ok (.goto (-30), 3) := by decide +kernel
theorem dX9_isOnceShut_37 : decode cX9_isOnceShut 37 = .ok (.iload_n 1, 1) := by decide +kernel
theorem dX9_isOnceShut_38 : decode cX9_isOnceShut 38 = .ok (.ireturn, 1) := by decide +kernel
theorem dX9_safe_0 : decode cX9_safe 0 = .ok (.aload_n 0, 1) := by decide +kernel
theorem dX9_safe_1 : decode cX9_safe 1 = .ok (.invokevirtual 146, 3) := by decide +kernel
theorem dX9_safe_4 : decode cX9_safe 4 = .ok (.ifCond .ne 6, 3) := by decide +kernel
theorem dX9_safe_7 : decode cX9_safe 7 = .ok (.bipush (-3), 2) := by decide +kernel
theorem dX9_safe_9 : decode cX9_safe 9 = .ok (.ireturn, 1) := by decide +kernel
theorem dX9_safe_10 : decode cX9_safe 10 = .ok (.sipush 4095, 3) := by decide +kernel
theorem dX9_safe_13 : decode cX9_safe 13 = .ok (.istore_n 1, 1) := by decide +kernel
theorem dX9_safe_14 : decode cX9_safe 14 = .ok (.aload_n 0, 1) := by decide +kernel
theorem dX9_safe_15 : decode cX9_safe 15 = .ok (.invokevirtual 252, 3) := by decide +kernel
theorem dX9_safe_18 : decode cX9_safe 18 = .ok (.iconst 1, 1) := by decide +kernel
theorem dX9_safe_19 : decode cX9_safe 19 = .ok (.istore_n 2, 1) := by decide +kernel
theorem dX9_safe_20 : decode cX9_safe 20 = .ok (.iload_n 2, 1) := by decide +kernel
theorem dX9_safe_21 : decode cX9_safe 21 = .ok (.ifCond .eq 85, 3) := by decide +kernel
theorem dX9_safe_24 : decode cX9_safe 24 = .ok (.iload_n 1, 1) := by decide +kernel
theorem dX9_safe_25 : decode cX9_safe 25 = .ok (.ifCond .eq 81, 3) := by decide +kernel
theorem dX9_safe_28 : decode cX9_safe 28 = .ok (.iconst 0, 1) := by decide +kernel
theorem dX9_safe_29 : decode cX9_safe 29 = .ok (.istore_n 3, 1) := by decide +kernel
theorem dX9_safe_30 : decode cX9_safe 30 = .ok (.iload_n 3, 1) := by decide +kernel
theorem dX9_safe_31 : decode cX9_safe 31 = .ok (.bipush 12, 2) := by decide +kernel
theorem dX9_safe_33 : decode cX9_safe 33 = .ok (.if_icmp .ge 65, 3) := by decide +kernel
theorem dX9_safe_36 : decode cX9_safe 36 = .ok (.iload_n 1, 1) := by decide +kernel
theorem dX9_safe_37 : decode cX9_safe 37 = .ok (.iload_n 3, 1) := by decide +kernel
theorem dX9_safe_38 : decode cX9_safe 38 = .ok (.ishr, 1) := by decide +kernel
theorem dX9_safe_39 : decode cX9_safe 39 = .ok (.iconst 1, 1) := by decide +kernel
theorem dX9_safe_40 : decode cX9_safe 40 = .ok (.iand, 1) := by decide +kernel
theorem dX9_safe_41 : decode cX9_safe 41 = .ok (.iconst 1, 1) := by decide +kernel
theorem dX9_safe_42 : decode cX9_safe 42 = .ok (.if_icmp .ne 50, 3) := by decide +kernel
theorem dX9_safe_45 : decode cX9_safe 45 = .ok (.aload_n 0, 1) := by decide +kernel
theorem dX9_safe_46 : decode cX9_safe 46 = .ok (.invokevirtual 205, 3) := by decide +kernel
theorem dX9_safe_49 : decode cX9_safe 49 = .ok (.aload_n 0, 1) := by decide +kernel
theorem dX9_safe_50 : decode cX9_safe 50 = .ok (.iload_n 3, 1) := by decide +kernel
theorem dX9_safe_51 : decode cX9_safe 51 = .ok (.iconst 3, 1) := by decide +kernel
theorem dX9_safe_52 : decode cX9_safe 52 = .ok (.idiv, 1) := by decide +kernel
theorem dX9_safe_53 : decode cX9_safe 53 = .ok (.putfield 164, 3) := by decide +kernel
theorem dX9_safe_56 : decode cX9_safe 56 = .ok (.aload_n 0, 1) := by decide +kernel
theorem dX9_safe_57 : decode cX9_safe 57 = .ok (.iload_n 3, 1) := by decide +kernel
theorem dX9_safe_58 : decode cX9_safe 58 = .ok (.iconst 3, 1) := by decide +kernel
theorem dX9_safe_59 : decode cX9_safe 59 = .ok (.irem, 1) := by decide +kernel
theorem dX9_safe_60 : decode cX9_safe 60 = .ok (.putfield 167, 3) := by decide +kernel
theorem dX9_safe_63 : decode cX9_safe 63 = .ok (.aload_n 0, 1) := by decide +kernel
theorem dX9_safe_64 : decode cX9_safe 64 = .ok (.aload_n 0, 1) := by decide +kernel
theorem dX9_safe_65 : decode cX9_safe 65 = .ok (.getfield 65, 3) := by decide +kernel
theorem dX9_safe_68 : decode cX9_safe 68 = .ok (.aload_n 0, 1) := by decide +kernel
theorem dX9_safe_69 : decode cX9_safe 69 = .ok (.getfield 130, 3) := by decide +kernel
theorem dX9_safe_72 : decode cX9_safe 72 = .ok (.invokevirtual 208, 3) := by decide +kernel
theorem dX9_safe_75 : decode cX9_safe 75 = .ok (.iload_n 1, 1) := by decide +kernel
theorem dX9_safe_76 : decode cX9_safe 76 = .ok (.aload_n 0, 1) := by decide +kernel
theorem dX9_safe_77 : decode cX9_safe 77 = .ok (.invokevirtual 288, 3) := by decide +kernel
theorem dX9_safe_80 : decode cX9_safe 80 = .ok (.ifCond .eq 9, 3) := by decide +kernel
theorem dX9_safe_83 : decode cX9_safe 83 = .ok (.iconst 1, 1) := by decide +kernel
theorem dX9_safe_84 : decode cX9_safe 84 = .ok (.iload_n 3, 1) := by decide +kernel
theorem dX9_safe_85 : decode cX9_safe 85 = .ok (.ishl, 1) := by decide +kernel
theorem dX9_safe_86 : decode cX9_safe 86 = .ok (.goto 4, 3) := by decide +kernel
theorem dX9_safe_89 : decode cX9_safe 89 = .ok (.iconst 0, 1) := by decide +kernel
theorem dX9_safe_90 : decode cX9_safe 90 = .ok (.isub, 1) := by decide +kernel
theorem dX9_safe_91 : decode cX9_safe 91 = .ok (.istore_n 1, 1) := by decide +kernel
theorem dX9_safe_92 : decode cX9_safe 92 = .ok (.iinc 3 1, 3) := by decide +kernel
theorem dX9_safe_95 : decode cX9_safe 95 = .ok (.goto (-65), 3) := by decide +kernel
theorem dX9_safe_98 : decode cX9_safe 98 = .ok (.aload_n 0, 1) := by decide +kernel
theorem dX9_safe_99 : decode cX9_safe 99 = .ok (.invokevirtual 258, 3) := by decide +kernel
theorem dX9_safe_102 : decode cX9_safe 102 = .ok (.istore_n 2, 1) := by decide +kernel
theorem dX9_safe_103 : decode cX9_safe 103 = .ok (.goto (-83), 3) := by decide +kernel
theorem dX9_safe_106 : decode cX9_safe 106 = .ok (.iload_n 1, 1) := by decide +kernel
theorem dX9_safe_107 : decode cX9_safe 107 = .ok (.ireturn, 1) := by decide +kernel
theorem dX9_sheet_0 : decode cX9_sheet 0 = .ok (.aload_n 0, 1) := by decide +kernel
theorem dX9_sheet_1 : decode cX9_sheet 1 = .ok (.iconst 0, 1) := by decide +kernel
theorem dX9_sheet_2 : decode cX9_sheet 2 = .ok (.putfield 81, 3) := by decide +kernel
theorem dX9_sheet_5 : decode cX9_sheet 5 = .ok (.iload_n 1, 1) := by decide +kernel
theorem dX9_sheet_6 : decode cX9_sheet 6 = .ok (.invokestatic 100, 3) := by decide +kernel
theorem dX9_sheet_9 : decode cX9_sheet 9 = .ok (.ifCond .ne 5, 3) := by decide +kernel
theorem dX9_sheet_12 : decode cX9_sheet 12 = .ok (.iconst (-1), 1) := by decide +kernel
theorem dX9_sheet_13 : decode cX9_sheet 13 = .ok (.ireturn, 1) := by decide +kernel
theorem dX9_sheet_14 : decode cX9_sheet 14 = .ok (.iload_n 2, 1) := by decide +kernel
theorem dX9_sheet_15 : decode cX9_sheet 15 = .ok (.invokestatic 104, 3) := by decide +kernel
theorem dX9_sheet_18 : decode cX9_sheet 18 = .ok (.ifCond .eq 9, 3) := by decide +kernel
theorem dX9_sheet_21 : decode cX9_sheet 21 = .ok (.iload_n 3, 1) := by decide +kernel
theorem dX9_sheet_22 : decode cX9_sheet 22 = .ok (.bipush 80, 2) := by decide +kernel
theorem dX9_sheet_24 : decode cX9_sheet 24 = .ok (.if_icmp .le 6, 3) := by decide +kernel
theorem dX9_sheet_27 : decode cX9_sheet 27 = .ok (.bipush (-2), 2) := by decide +kernel
theorem dX9_sheet_29 : decode cX9_sheet 29 = .ok (.ireturn, 1) := by decide +kernel
theorem dX9_sheet_30 : decode cX9_sheet 30 = .ok (.iload_n 3, 1) := by decide +kernel
theorem dX9_sheet_31 : decode cX9_sheet 31 = .ok (.ifCond .ge 9, 3) := by decide +kernel
theorem dX9_sheet_34 : decode cX9_sheet 34 = .ok (.aload_n 0, 1) := by decide +kernel
theorem dX9_sheet_35 : decode cX9_sheet 35 = .ok (.iconst 4, 1) := by decide +kernel
theorem dX9_sheet_36 : decode cX9_sheet 36 = .ok (.invokevirtual 111, 3) := by decide +kernel
theorem dX9_sheet_39 : decode cX9_sheet 39 = .ok (.ireturn, 1) := by decide +kernel
theorem dX9_sheet_40 : decode cX9_sheet 40 = .ok (.aload_n 0, 1) := by decide +kernel
theorem dX9_sheet_41 : decode cX9_sheet 41 = .ok (.getfield 9, 3) := by decide +kernel
theorem dX9_sheet_44 : decode cX9_sheet 44 = .ok (.iload_n 1, 1) := by decide +kernel
theorem dX9_sheet_45 : decode cX9_sheet 45 = .ok (.iload_n 2, 1) := by decide +kernel
theorem dX9_sheet_46 : decode cX9_sheet 46 = .ok (.iastore, 1) := by decide +kernel
theorem dX9_sheet_47 : decode cX9_sheet 47 = .ok (.aload_n 0, 1) := by decide +kernel
theorem dX9_sheet_48 : decode cX9_sheet 48 = .ok (.getfield 13, 3) := by decide +kernel
theorem dX9_sheet_51 : decode cX9_sheet 51 = .ok (.iload_n 1, 1) := by decide +kernel
theorem dX9_sheet_52 : decode cX9_sheet 52 = .ok (.iload_n 3, 1) := by decide +kernel
theorem dX9_sheet_53 : decode cX9_sheet 53 = .ok (.iastore, 1) := by decide +kernel
theorem dX9_sheet_54 : decode cX9_sheet 54 = .ok (.iconst 0, 1) := by decide +kernel
theorem dX9_sheet_55 : decode cX9_sheet 55 = .ok (.istore 4, 2) := by decide +kernel
theorem dX9_sheet_57 : decode cX9_sheet 57 = .ok (.iload 4, 2) := by decide +kernel
theorem dX9_sheet_59 : decode cX9_sheet 59 = .ok (.bipush 80, 2) := by decide +kernel
theorem dX9_sheet_61 : decode cX9_sheet 61 = .ok (.if_icmp .ge 22, 3) := by decide +kernel
theorem dX9_sheet_64 : decode cX9_sheet 64 = .ok (.aload_n 0, 1) := by decide +kernel
theorem dX9_sheet_65 : decode cX9_sheet 65 = .ok (.getfield 16, 3) := by decide +kernel
theorem dX9_sheet_68 : decode cX9_sheet 68 = .ok (.bipush 80, 2) := by decide +kernel
theorem dX9_sheet_70 : decode cX9_sheet 70 = .ok (.iload_n 1, 1) := by decide +kernel
theorem dX9_sheet_71 : decode cX9_sheet 71 = .ok (.imul, 1) := by decide +kernel
theorem dX9_sheet_72 : decode cX9_sheet 72 = .ok (.iload 4, 2) := by decide +kernel
theorem dX9_sheet_74 : decode cX9_sheet 74 = .ok (.iadd, 1) := by decide +kernel
theorem dX9_sheet_75 : decode cX9_sheet 75 = .ok (.iconst 0, 1) := by decide +kernel
theorem dX9_sheet_76 : decode cX9_sheet 76 = .ok (.iastore, 1) := by decide +kernel
theorem dX9_sheet_77 : decode cX9_sheet 77 = .ok (.iinc 4 1, 3) := by decide +kernel
theorem dX9_sheet_80 : decode cX9_sheet 80 = .ok (.goto (-23), 3) := by decide +kernel
theorem dX9_sheet_83 : decode cX9_sheet 83 = .ok (.iconst 1, 1) := by decide +kernel
theorem dX9_sheet_84 : decode cX9_sheet 84 = .ok (.ireturn, 1) := by decide +kernel
theorem dX9_lose_0 : decode cX9_lose 0 = .ok (.iload_n 1, 1) := by decide +kernel
theorem dX9_lose_1 : decode cX9_lose 1 = .ok (.invokestatic 100, 3) := by decide +kernel
theorem dX9_lose_4 : decode cX9_lose 4 = .ok (.ifCond .ne 5, 3) := by decide +kernel
theorem dX9_lose_7 : decode cX9_lose 7 = .ok (.iconst (-1), 1) := by decide +kernel
theorem dX9_lose_8 : decode cX9_lose 8 = .ok (.ireturn, 1) := by decide +kernel
theorem dX9_lose_9 : decode cX9_lose 9 = .ok (.aload_n 0, 1) := by decide +kernel
theorem dX9_lose_10 : decode cX9_lose 10 = .ok (.getfield 9, 3) := by decide +kernel
theorem dX9_lose_13 : decode cX9_lose 13 = .ok (.iload_n 1, 1) := by decide +kernel
theorem dX9_lose_14 : decode cX9_lose 14 = .ok (.iaload, 1) := by decide +kernel
theorem dX9_lose_15 : decode cX9_lose 15 = .ok (.bipush (-9), 2) := by decide +kernel
theorem dX9_lose_17 : decode cX9_lose 17 = .ok (.if_icmp .ne 7, 3) := by decide +kernel
theorem dX9_lose_20 : decode cX9_lose 20 = .ok (.iconst 0, 1) := by decide +kernel
theorem dX9_lose_21 : decode cX9_lose 21 = .ok (.goto 4, 3) := by decide +kernel
theorem dX9_lose_24 : decode cX9_lose 24 = .ok (.iconst 1, 1) := by decide +kernel
theorem dX9_lose_25 : decode cX9_lose 25 = .ok (.istore_n 2, 1) := by decide +kernel
theorem dX9_lose_26 : decode cX9_lose 26 = .ok (.aload_n 0, 1) := by decide +kernel
theorem dX9_lose_27 : decode cX9_lose 27 = .ok (.getfield 9, 3) := by decide +kernel
theorem dX9_lose_30 : decode cX9_lose 30 = .ok (.iload_n 1, 1) := by decide +kernel
theorem dX9_lose_31 : decode cX9_lose 31 = .ok (.bipush (-9), 2) := by decide +kernel
theorem dX9_lose_33 : decode cX9_lose 33 = .ok (.iastore, 1) := by decide +kernel
theorem dX9_lose_34 : decode cX9_lose 34 = .ok (.iload_n 2, 1) := by decide +kernel
theorem dX9_lose_35 : decode cX9_lose 35 = .ok (.ireturn, 1) := by decide +kernel
theorem dX9_put_0 : decode cX9_put 0 = .ok (.aload_n 0, 1) := by decide +kernel
theorem dX9_put_1 : decode cX9_put 1 = .ok (.iconst 0, 1) := by decide +kernel
theorem dX9_put_2 : decode cX9_put 2 = .ok (.putfield 81, 3) := by decide +kernel
theorem dX9_put_5 : decode cX9_put 5 = .ok (.iload_n 1, 1) := by decide +kernel
theorem dX9_put_6 : decode cX9_put 6 = .ok (.invokestatic 100, 3) := by decide +kernel
theorem dX9_put_9 : decode cX9_put 9 = .ok (.ifCond .ne 5, 3) := by decide +kernel
theorem dX9_put_12 : decode cX9_put 12 = .ok (.iconst (-1), 1) := by decide +kernel
theorem dX9_put_13 : decode cX9_put 13 = .ok (.ireturn, 1) := by decide +kernel
theorem dX9_put_14 : decode cX9_put 14 = .ok (.aload_n 0, 1) := by decide +kernel
theorem dX9_put_15 : decode cX9_put 15 = .ok (.getfield 9, 3) := by decide +kernel
theorem dX9_put_18 : decode cX9_put 18 = .ok (.iload_n 1, 1) := by decide +kernel
theorem dX9_put_19 : decode cX9_put 19 = .ok (.iaload, 1) := by decide +kernel
theorem dX9_put_20 : decode cX9_put 20 = .ok (.bipush (-9), 2) := by decide +kernel
theorem dX9_put_22 : decode cX9_put 22 = .ok (.if_icmp .ne 9, 3) := by decide +kernel
theorem dX9_put_25 : decode cX9_put 25 = .ok (.aload_n 0, 1) := by decide +kernel
theorem dX9_put_26 : decode cX9_put 26 = .ok (.iconst 1, 1) := by decide +kernel
theorem dX9_put_27 : decode cX9_put 27 = .ok (.invokevirtual 111, 3) := by decide +kernel
theorem dX9_put_30 : decode cX9_put 30 = .ok (.ireturn, 1) := by decide +kernel
theorem dX9_put_31 : decode cX9_put 31 = .ok (.iload_n 2, 1) := by decide +kernel
theorem dX9_put_32 : decode cX9_put 32 = .ok (.iconst 0, 1) := by decide +kernel
theorem dX9_put_33 : decode cX9_put 33 = .ok (.aload_n 0, 1) := by decide +kernel
theorem dX9_put_34 : decode cX9_put 34 = .ok (.getfield 13, 3) := by decide +kernel
theorem dX9_put_37 : decode cX9_put 37 = .ok (.iload_n 1, 1) := by decide +kernel
theorem dX9_put_38 : decode cX9_put 38 = .ok (.iaload, 1) := by decide +kernel
theorem dX9_put_39 : decode cX9_put 39 = .ok (.iconst 1, 1) := by decide +kernel
theorem dX9_put_40 : decode cX9_put 40 = .ok (.isub, 1) := by decide +kernel
theorem dX9_put_41 : decode cX9_put 41 = .ok (.invokestatic 87, 3) := by decide +kernel
theorem dX9_put_44 : decode cX9_put 44 = .ok (.ifCond .ne 9, 3) := by decide +kernel
theorem dX9_put_47 : decode cX9_put 47 = .ok (.aload_n 0, 1) := by decide +kernel
theorem dX9_put_48 : decode cX9_put 48 = .ok (.iconst 3, 1) := by decide +kernel
theorem dX9_put_49 : decode cX9_put 49 = .ok (.invokevirtual 111, 3) := by decide +kernel
theorem dX9_put_52 : decode cX9_put 52 = .ok (.ireturn, 1) := by decide +kernel
theorem dX9_put_53 : decode cX9_put 53 = .ok (.aload_n 0, 1) := by decide +kernel
theorem dX9_put_54 : decode cX9_put 54 = .ok (.getfield 16, 3) := by decide +kernel
theorem dX9_put_57 : decode cX9_put 57 = .ok (.bipush 80, 2) := by decide +kernel
theorem dX9_put_59 : decode cX9_put 59 = .ok (.iload_n 1, 1) := by decide +kernel
theorem dX9_put_60 : decode cX9_put 60 = .ok (.imul, 1) := by decide +kernel
theorem dX9_put_61 : decode cX9_put 61 = .ok (.iload_n 2, 1) := by decide +kernel
theorem dX9_put_62 : decode cX9_put 62 = .ok (.iadd, 1) := by decide +kernel
theorem dX9_put_63 : decode cX9_put 63 = .ok (.aload_n 0, 1) := by decide +kernel
theorem dX9_put_64 : decode cX9_put 64 = .ok (.getfield 9, 3) := by decide +kernel
theorem dX9_put_67 : decode cX9_put 67 = .ok (.iload_n 1, 1) := by decide +kernel
theorem dX9_put_68 : decode cX9_put 68 = .ok (.iaload, 1) := by decide +kernel
theorem dX9_put_69 : decode cX9_put 69 = .ok (.ifCond .ne 8, 3) := by decide +kernel
theorem dX9_put_72 : decode cX9_put 72 = .ok (.iload_n 3, 1) := by decide +kernel
theorem dX9_put_73 : decode cX9_put 73 = .ok (.i2b, 1) := by decide +kernel
theorem dX9_put_74 : decode cX9_put 74 = .ok (.goto 19, 3) := by decide +kernel
theorem dX9_put_77 : decode cX9_put 77 = .ok (.aload_n 0, 1) := by decide +kernel
theorem dX9_put_78 : decode cX9_put 78 = .ok (.getfield 9, 3) := by decide +kernel
theorem dX9_put_81 : decode cX9_put 81 = .ok (.iload_n 1, 1) := by decide +kernel
theorem dX9_put_82 : decode cX9_put 82 = .ok (.iaload, 1) := by decide +kernel
theorem dX9_put_83 : decode cX9_put 83 = .ok (.iconst 1, 1) := by decide +kernel
theorem dX9_put_84 : decode cX9_put 84 = .ok (.if_icmp .ne 8, 3) := by decide +kernel
theorem dX9_put_87 : decode cX9_put 87 = .ok (.iload_n 3, 1) := by decide +kernel
theorem dX9_put_88 : decode cX9_put 88 = .ok (.i2s, 1) := by decide +kernel
theorem dX9_put_89 : decode cX9_put 89 = .ok (.goto 4, 3) := by decide +kernel
theorem dX9_put_92 : decode cX9_put 92 = .ok (.iload_n 3, 1) := by decide +kernel
theorem dX9_put_93 : decode cX9_put 93 = .ok (.iastore, 1) := by decide +kernel
theorem dX9_put_94 : decode cX9_put 94 = .ok (.iconst 1, 1) := by decide +kernel
theorem dX9_put_95 : decode cX9_put 95 = .ok (.ireturn, 1) := by decide +kernel
theorem dX9_cell_0 : decode cX9_cell 0 = .ok (.aload_n 0, 1) := by decide +kernel
theorem dX9_cell_1 : decode cX9_cell 1 = .ok (.iconst 0, 1) := by decide +kernel
theorem dX9_cell_2 : decode cX9_cell 2 = .ok (.putfield 81, 3) := by decide +kernel
theorem dX9_cell_5 : decode cX9_cell 5 = .ok (.iload_n 1, 1) := by decide +kernel
theorem dX9_cell_6 : decode cX9_cell 6 = .ok (.invokestatic 100, 3) := by decide +kernel
theorem dX9_cell_9 : decode cX9_cell 9 = .ok (.ifCond .eq 10, 3) := by decide +kernel
theorem dX9_cell_12 : decode cX9_cell 12 = .ok (.iload_n 3, 1) := by decide +kernel
theorem dX9_cell_13 : decode cX9_cell 13 = .ok (.invokestatic 104, 3) := by decide +kernel
theorem dX9_cell_16 : decode cX9_cell 16 = .ok (.ifCond .ne 7, 3) := by decide +kernel
theorem dX9_cell_19 : decode cX9_cell 19 = .ok (.ldc2_w 85, 3) := by decide +kernel
theorem dX9_cell_22 : decode cX9_cell 22 = .ok (.lreturn, 1) := by decide +kernel
theorem dX9_cell_23 : decode cX9_cell 23 = .ok (.aload_n 0, 1) := by decide +kernel
theorem dX9_cell_24 : decode cX9_cell 24 = .ok (.getfield 9, 3) := by decide +kernel
theorem dX9_cell_27 : decode cX9_cell 27 = .ok (.iload_n 1, 1) := by decide +kernel
theorem dX9_cell_28 : decode cX9_cell 28 = .ok (.iaload, 1) := by decide +kernel
theorem dX9_cell_29 : decode cX9_cell 29 = .ok (.bipush (-9), 2) := by decide +kernel
theorem dX9_cell_31 : decode cX9_cell 31 = .ok (.if_icmp .eq 19, 3) := by decide +kernel
theorem dX9_cell_34 : decode cX9_cell 34 = .ok (.aload_n 0, 1) := by decide +kernel
theorem dX9_cell_35 : decode cX9_cell 35 = .ok (.getfield 9, 3) := by decide +kernel
theorem dX9_cell_38 : decode cX9_cell 38 = .ok (.iload_n 1, 1) := by decide +kernel
theorem dX9_cell_39 : decode cX9_cell 39 = .ok (.iaload, 1) := by decide +kernel
theorem dX9_cell_40 : decode cX9_cell 40 = .ok (.iload_n 3, 1) := by decide +kernel
theorem dX9_cell_41 : decode cX9_cell 41 = .ok (.if_icmp .eq 9, 3) := by decide +kernel
theorem dX9_cell_44 : decode cX9_cell 44 = .ok (.aload_n 0, 1) := by decide +kernel
theorem dX9_cell_45 : decode cX9_cell 45 = .ok (.iconst 2, 1) := by decide +kernel
theorem dX9_cell_46 : decode cX9_cell 46 = .ok (.invokevirtual 291, 3) := by decide +kernel
theorem dX9_cell_49 : decode cX9_cell 49 = .ok (.lreturn, 1) := by decide +kernel
theorem dX9_cell_50 : decode cX9_cell 50 = .ok (.aload_n 0, 1) := by decide +kernel
theorem dX9_cell_51 : decode cX9_cell 51 = .ok (.getfield 9, 3) := by decide +kernel
theorem dX9_cell_54 : decode cX9_cell 54 = .ok (.iload_n 1, 1) := by decide +kernel
theorem dX9_cell_55 : decode cX9_cell 55 = .ok (.iaload, 1) := by decide +kernel
theorem dX9_cell_56 : decode cX9_cell 56 = .ok (.bipush (-9), 2) := by decide +kernel
theorem dX9_cell_58 : decode cX9_cell 58 = .ok (.if_icmp .ne 9, 3) := by decide +kernel
theorem dX9_cell_61 : decode cX9_cell 61 = .ok (.aload_n 0, 1) := by decide +kernel
theorem dX9_cell_62 : decode cX9_cell 62 = .ok (.iconst 1, 1) := by decide +kernel
theorem dX9_cell_63 : decode cX9_cell 63 = .ok (.invokevirtual 291, 3) := by decide +kernel
theorem dX9_cell_66 : decode cX9_cell 66 = .ok (.lreturn, 1) := by decide +kernel
theorem dX9_cell_67 : decode cX9_cell 67 = .ok (.iload_n 2, 1) := by decide +kernel
theorem dX9_cell_68 : decode cX9_cell 68 = .ok (.iconst 0, 1) := by decide +kernel
theorem dX9_cell_69 : decode cX9_cell 69 = .ok (.aload_n 0, 1) := by decide +kernel
theorem dX9_cell_70 : decode cX9_cell 70 = .ok (.getfield 13, 3) := by decide +kernel
theorem dX9_cell_73 : decode cX9_cell 73 = .ok (.iload_n 1, 1) := by decide +kernel
theorem dX9_cell_74 : decode cX9_cell 74 = .ok (.iaload, 1) := by decide +kernel
theorem dX9_cell_75 : decode cX9_cell 75 = .ok (.iconst 1, 1) := by decide +kernel
theorem dX9_cell_76 : decode cX9_cell 76 = .ok (.isub, 1) := by decide +kernel
theorem dX9_cell_77 : decode cX9_cell 77 = .ok (.invokestatic 87, 3) := by decide +kernel
theorem dX9_cell_80 : decode cX9_cell 80 = .ok (.ifCond .ne 9, 3) := by decide +kernel
theorem dX9_cell_83 : decode cX9_cell 83 = .ok (.aload_n 0, 1) := by decide +kernel
theorem dX9_cell_84 : decode cX9_cell 84 = .ok (.iconst 3, 1) := by decide +kernel
theorem dX9_cell_85 : decode cX9_cell 85 = .ok (.invokevirtual 291, 3) := by decide +kernel
theorem dX9_cell_88 : decode cX9_cell 88 = .ok (.lreturn, 1) := by decide +kernel
theorem dX9_cell_89 : decode cX9_cell 89 = .ok (.aload_n 0, 1) := by decide +kernel
theorem dX9_cell_90 : decode cX9_cell 90 = .ok (.getfield 16, 3) := by decide +kernel
theorem dX9_cell_93 : decode cX9_cell 93 = .ok (.bipush 80, 2) := by decide +kernel
theorem dX9_cell_95 : decode cX9_cell 95 = .ok (.iload_n 1, 1) := by decide +kernel
theorem dX9_cell_96 : decode cX9_cell 96 = .ok (.imul, 1) := by decide +kernel
theorem dX9_cell_97 : decode cX9_cell 97 = .ok (.iload_n 2, 1) := by decide +kernel
theorem dX9_cell_98 : decode cX9_cell 98 = .ok (.iadd, 1) := by decide +kernel
theorem dX9_cell_99 : decode cX9_cell 99 = .ok (.iaload, 1) := by decide +kernel
theorem dX9_cell_100 : decode cX9_cell 100 = .ok (.i2l, 1) := by decide +kernel
theorem dX9_cell_101 : decode cX9_cell 101 = .ok (.lreturn, 1) := by decide +kernel
theorem dX9_copy_0 : decode cX9_copy 0 = .ok (.aload_n 0, 1) := by decide +kernel
theorem dX9_copy_1 : decode cX9_copy 1 = .ok (.iconst 0, 1) := by decide +kernel
theorem dX9_copy_2 : decode cX9_copy 2 = .ok (.putfield 81, 3) := by decide +kernel
theorem dX9_copy_5 : decode cX9_copy 5 = .ok (.iload_n 1, 1) := by decide +kernel
theorem dX9_copy_6 : decode cX9_copy 6 = .ok (.invokestatic 100, 3) := by decide +kernel
theorem dX9_copy_9 : decode cX9_copy 9 = .ok (.ifCond .eq 10, 3) := by decide +kernel
theorem dX9_copy_12 : decode cX9_copy 12 = .ok (.iload_n 3, 1) := by decide +kernel
theorem dX9_copy_13 : decode cX9_copy 13 = .ok (.invokestatic 100, 3) := by decide +kernel
theorem dX9_copy_16 : decode cX9_copy 16 = .ok (.ifCond .ne 5, 3) := by decide +kernel
theorem dX9_copy_19 : decode cX9_copy 19 = .ok (.iconst (-1), 1) := by decide +kernel
theorem dX9_copy_20 : decode cX9_copy 20 = .ok (.ireturn, 1) := by decide +kernel
theorem dX9_copy_21 : decode cX9_copy 21 = .ok (.aload_n 0, 1) := by decide +kernel
theorem dX9_copy_22 : decode cX9_copy 22 = .ok (.getfield 9, 3) := by decide +kernel
theorem dX9_copy_25 : decode cX9_copy 25 = .ok (.iload_n 1, 1) := by decide +kernel
theorem dX9_copy_26 : decode cX9_copy 26 = .ok (.iaload, 1) := by decide +kernel
theorem dX9_copy_27 : decode cX9_copy 27 = .ok (.bipush (-9), 2) := by decide +kernel
theorem dX9_copy_29 : decode cX9_copy 29 = .ok (.if_icmp .eq 14, 3) := by decide +kernel
theorem dX9_copy_32 : decode cX9_copy 32 = .ok (.aload_n 0, 1) := by decide +kernel
theorem dX9_copy_33 : decode cX9_copy 33 = .ok (.getfield 9, 3) := by decide +kernel
theorem dX9_copy_36 : decode cX9_copy 36 = .ok (.iload_n 3, 1) := by decide +kernel
theorem dX9_copy_37 : decode cX9_copy 37 = .ok (.iaload, 1) := by decide +kernel
theorem dX9_copy_38 : decode cX9_copy 38 = .ok (.bipush (-9), 2) := by decide +kernel
theorem dX9_copy_40 : decode cX9_copy 40 = .ok (.if_icmp .ne 9, 3) := by decide +kernel
theorem dX9_copy_43 : decode cX9_copy 43 = .ok (.aload_n 0, 1) := by decide +kernel
theorem dX9_copy_44 : decode cX9_copy 44 = .ok (.iconst 1, 1) := by decide +kernel
theorem dX9_copy_45 : decode cX9_copy 45 = .ok (.invokevirtual 111, 3) := by decide +kernel
theorem dX9_copy_48 : decode cX9_copy 48 = .ok (.ireturn, 1) := by decide +kernel
theorem dX9_copy_49 : decode cX9_copy 49 = .ok (.aload_n 0, 1) := by decide +kernel
theorem dX9_copy_50 : decode cX9_copy 50 = .ok (.getfield 9, 3) := by decide +kernel
theorem dX9_copy_53 : decode cX9_copy 53 = .ok (.iload_n 1, 1) := by decide +kernel
theorem dX9_copy_54 : decode cX9_copy 54 = .ok (.iaload, 1) := by decide +kernel
theorem dX9_copy_55 : decode cX9_copy 55 = .ok (.aload_n 0, 1) := by decide +kernel
theorem dX9_copy_56 : decode cX9_copy 56 = .ok (.getfield 9, 3) := by decide +kernel
theorem dX9_copy_59 : decode cX9_copy 59 = .ok (.iload_n 3, 1) := by decide +kernel
theorem dX9_copy_60 : decode cX9_copy 60 = .ok (.iaload, 1) := by decide +kernel
theorem dX9_copy_61 : decode cX9_copy 61 = .ok (.if_icmp .eq 9, 3) := by decide +kernel
theorem dX9_copy_64 : decode cX9_copy 64 = .ok (.aload_n 0, 1) := by decide +kernel
theorem dX9_copy_65 : decode cX9_copy 65 = .ok (.iconst 2, 1) := by decide +kernel
theorem dX9_copy_66 : decode cX9_copy 66 = .ok (.invokevirtual 111, 3) := by decide +kernel
theorem dX9_copy_69 : decode cX9_copy 69 = .ok (.ireturn, 1) := by decide +kernel
theorem dX9_copy_70 : decode cX9_copy 70 = .ok (.iload_n 2, 1) := by decide +kernel
theorem dX9_copy_71 : decode cX9_copy 71 = .ok (.ifCond .lt 38, 3) := by decide +kernel
theorem dX9_copy_74 : decode cX9_copy 74 = .ok (.iload 4, 2) := by decide +kernel
theorem dX9_copy_76 : decode cX9_copy 76 = .ok (.ifCond .lt 33, 3) := by decide +kernel
theorem dX9_copy_79 : decode cX9_copy 79 = .ok (.iload 5, 2) := by decide +kernel
theorem dX9_copy_81 : decode cX9_copy 81 = .ok (.ifCond .lt 28, 3) := by decide +kernel
theorem dX9_copy_84 : decode cX9_copy 84 = .ok (.iload_n 2, 1) := by decide +kernel
theorem dX9_copy_85 : decode cX9_copy 85 = .ok (.aload_n 0, 1) := by decide +kernel
theorem dX9_copy_86 : decode cX9_copy 86 = .ok (.getfield 13, 3) := by decide +kernel
theorem dX9_copy_89 : decode cX9_copy 89 = .ok (.iload_n 1, 1) := by decide +kernel
theorem dX9_copy_90 : decode cX9_copy 90 = .ok (.iaload, 1) := by decide +kernel
theorem dX9_copy_91 : decode cX9_copy 91 = .ok (.if_icmp .gt 18, 3) := by decide +kernel
theorem dX9_copy_94 : decode cX9_copy 94 = .ok (.iload 4, 2) := by decide +kernel
theorem dX9_copy_96 : decode cX9_copy 96 = .ok (.aload_n 0, 1) := by decide +kernel
theorem dX9_copy_97 : decode cX9_copy 97 = .ok (.getfield 13, 3) := by decide +kernel
theorem dX9_copy_100 : decode cX9_copy 100 = .ok (.iload_n 3, 1) := by decide +kernel
theorem dX9_copy_101 : decode cX9_copy 101 = .ok (.iaload, 1) := by decide +kernel
theorem dX9_copy_102 : decode cX9_copy 102 = .ok (.if_icmp .gt 7, 3) := by decide +kernel
theorem dX9_copy_105 : decode cX9_copy 105 = .ok (.iconst 1, 1) := by decide +kernel
theorem dX9_copy_106 : decode cX9_copy 106 = .ok (.goto 4, 3) := by decide +kernel
theorem dX9_copy_109 : decode cX9_copy 109 = .ok (.iconst 0, 1) := by decide +kernel
theorem dX9_copy_110 : decode cX9_copy 110 = .ok (.istore 6, 2) := by decide +kernel
theorem dX9_copy_112 : decode cX9_copy 112 = .ok (.iload 6, 2) := by decide +kernel
theorem dX9_copy_114 : decode cX9_copy 114 = .ok (.ifCond .eq 30, 3) := by decide +kernel
theorem dX9_copy_117 : decode cX9_copy 117 = .ok (.iload 5, 2) := by decide +kernel
theorem dX9_copy_119 : decode cX9_copy 119 = .ok (.aload_n 0, 1) := by decide +kernel
theorem dX9_copy_120 : decode cX9_copy 120 = .ok (.getfield 13, 3) := by decide +kernel
theorem dX9_copy_123 : decode cX9_copy 123 = .ok (.iload_n 1, 1) := by decide +kernel
theorem dX9_copy_124 : decode cX9_copy 124 = .ok (.iaload, 1) := by decide +kernel
theorem dX9_copy_125 : decode cX9_copy 125 = .ok (.iload_n 2, 1) := by decide +kernel
theorem dX9_copy_126 : decode cX9_copy 126 = .ok (.isub, 1) := by decide +kernel
theorem dX9_copy_127 : decode cX9_copy 127 = .ok (.if_icmp .gt 17, 3) := by decide +kernel
theorem dX9_copy_130 : decode cX9_copy 130 = .ok (.iload 5, 2) := by decide +kernel
theorem dX9_copy_132 : decode cX9_copy 132 = .ok (.aload_n 0, 1) := by decide +kernel
theorem dX9_copy_133 : decode cX9_copy 133 = .ok (.getfield 13, 3) := by decide +kernel
theorem dX9_copy_136 : decode cX9_copy 136 = .ok (.iload_n 3, 1) := by decide +kernel
theorem dX9_copy_137 : decode cX9_copy 137 = .ok (.iaload, 1) := by decide +kernel
theorem dX9_copy_138 : decode cX9_copy 138 = .ok (.iload 4, 2) := by decide +kernel
theorem dX9_copy_140 : decode cX9_copy 140 = .ok (.isub, 1) := by decide +kernel
theorem dX9_copy_141 : decode cX9_copy 141 = .ok (.if_icmp .le 9, 3) := by decide +kernel
theorem dX9_copy_144 : decode cX9_copy 144 = .ok (.aload_n 0, 1) := by decide +kernel
theorem dX9_copy_145 : decode cX9_copy 145 = .ok (.iconst 3, 1) := by decide +kernel
theorem dX9_copy_146 : decode cX9_copy 146 = .ok (.invokevirtual 111, 3) := by decide +kernel
theorem dX9_copy_149 : decode cX9_copy 149 = .ok (.ireturn, 1) := by decide +kernel
theorem dX9_copy_150 : decode cX9_copy 150 = .ok (.iload_n 2, 1) := by decide +kernel
theorem dX9_copy_151 : decode cX9_copy 151 = .ok (.iload 4, 2) := by decide +kernel
theorem dX9_copy_153 : decode cX9_copy 153 = .ok (.if_icmp .ge 7, 3) := by decide +kernel
theorem dX9_copy_156 : decode cX9_copy 156 = .ok (.iconst 1, 1) := by decide +kernel
theorem dX9_copy_157 : decode cX9_copy 157 = .ok (.goto 4, 3) := by decide +kernel
theorem dX9_copy_160 : decode cX9_copy 160 = .ok (.iconst 0, 1) := by decide +kernel
theorem dX9_copy_161 : decode cX9_copy 161 = .ok (.istore 7, 2) := by decide +kernel
theorem dX9_copy_163 : decode cX9_copy 163 = .ok (.iconst 0, 1) := by decide +kernel
theorem dX9_copy_164 : decode cX9_copy 164 = .ok (.istore 8, 2) := by decide +kernel
theorem dX9_copy_166 : decode cX9_copy 166 = .ok (.iload 8, 2) := by decide +kernel
theorem dX9_copy_168 : decode cX9_copy 168 = .ok (.iload 5, 2) := by decide +kernel
theorem dX9_copy_170 : decode cX9_copy 170 = .ok (.if_icmp .ge 57, 3) := by decide +kernel
theorem dX9_copy_173 : decode cX9_copy 173 = .ok (.iload 7, 2) := by decide +kernel
theorem dX9_copy_175 : decode cX9_copy 175 = .ok (.ifCond .eq 13, 3) := by decide +kernel
theorem dX9_copy_178 : decode cX9_copy 178 = .ok (.iload 5, 2) := by decide +kernel
theorem dX9_copy_180 : decode cX9_copy 180 = .ok (.iconst 1, 1) := by decide +kernel
theorem dX9_copy_181 : decode cX9_copy 181 = .ok (.isub, 1) := by decide +kernel
theorem dX9_copy_182 : decode cX9_copy 182 = .ok (.iload 8, 2) := by decide +kernel
theorem dX9_copy_184 : decode cX9_copy 184 = .ok (.isub, 1) := by decide +kernel
theorem dX9_copy_185 : decode cX9_copy 185 = .ok (.goto 5, 3) := by decide +kernel
theorem dX9_copy_188 : decode cX9_copy 188 = .ok (.iload 8, 2) := by decide +kernel
theorem dX9_copy_190 : decode cX9_copy 190 = .ok (.istore 9, 2) := by decide +kernel
theorem dX9_copy_192 : decode cX9_copy 192 = .ok (.aload_n 0, 1) := by decide +kernel
theorem dX9_copy_193 : decode cX9_copy 193 = .ok (.getfield 16, 3) := by decide +kernel
theorem dX9_copy_196 : decode cX9_copy 196 = .ok (.bipush 80, 2) := by decide +kernel
theorem dX9_copy_198 : decode cX9_copy 198 = .ok (.iload_n 3, 1) := by decide +kernel
theorem dX9_copy_199 : decode cX9_copy 199 = .ok (.imul, 1) := by decide +kernel
theorem dX9_copy_200 : decode cX9_copy 200 = .ok (.iload 4, 2) := by decide +kernel
theorem dX9_copy_202 : decode cX9_copy 202 = .ok (.iadd, 1) := by decide +kernel
theorem dX9_copy_203 : decode cX9_copy 203 = .ok (.iload 9, 2) := by decide +kernel
theorem dX9_copy_205 : decode cX9_copy 205 = .ok (.iadd, 1) := by decide +kernel
theorem dX9_copy_206 : decode cX9_copy 206 = .ok (.aload_n 0, 1) := by decide +kernel
theorem dX9_copy_207 : decode cX9_copy 207 = .ok (.getfield 16, 3) := by decide +kernel
theorem dX9_copy_210 : decode cX9_copy 210 = .ok (.bipush 80, 2) := by decide +kernel
theorem dX9_copy_212 : decode cX9_copy 212 = .ok (.iload_n 1, 1) := by decide +kernel
theorem dX9_copy_213 : decode cX9_copy 213 = .ok (.imul, 1) := by decide +kernel
theorem dX9_copy_214 : decode cX9_copy 214 = .ok (.iload_n 2, 1) := by decide +kernel
theorem dX9_copy_215 : decode cX9_copy 215 = .ok (.iadd, 1) := by decide +kernel
theorem dX9_copy_216 : decode cX9_copy 216 = .ok (.iload 9, 2) := by decide +kernel
theorem dX9_copy_218 : decode cX9_copy 218 = .ok (.iadd, 1) := by decide +kernel
theorem dX9_copy_219 : decode cX9_copy 219 = .ok (.iaload, 1) := by decide +kernel
theorem dX9_copy_220 : decode cX9_copy 220 = .ok (.iastore, 1) := by decide +kernel
theorem dX9_copy_221 : decode cX9_copy 221 = .ok (.iinc 8 1, 3) := by decide +kernel
theorem dX9_copy_224 : decode cX9_copy 224 = .ok (.goto (-58), 3) := by decide +kernel
theorem dX9_copy_227 : decode cX9_copy 227 = .ok (.iload 5, 2) := by decide +kernel
theorem dX9_copy_229 : decode cX9_copy 229 = .ok (.ireturn, 1) := by decide +kernel
theorem dX9_begins_0 : decode cX9_begins 0 = .ok (.aload_n 0, 1) := by decide +kernel
theorem dX9_begins_1 : decode cX9_begins 1 = .ok (.bipush 31, 2) := by decide +kernel
theorem dX9_begins_3 : decode cX9_begins 3 = .ok (.aload_n 0, 1) := by decide +kernel
theorem dX9_begins_4 : decode cX9_begins 4 = .ok (.getfield 295, 3) := by decide +kernel
theorem dX9_begins_7 : decode cX9_begins 7 = .ok (.imul, 1) := by decide +kernel
theorem dX9_begins_8 : decode cX9_begins 8 = .ok (.iload_n 1, 1) := by decide +kernel
theorem dX9_begins_9 : decode cX9_begins 9 = .ok (.iadd, 1) := by decide +kernel
theorem dX9_begins_10 : decode cX9_begins 10 = .ok (.putfield 295, 3) := by decide +kernel
theorem dX9_begins_13 : decode cX9_begins 13 = .ok (.return_, 1) := by decide +kernel
theorem dX9_tell_0 : decode cX9_tell 0 = .ok (.aload_n 0, 1) := by decide +kernel
theorem dX9_tell_1 : decode cX9_tell 1 = .ok (.iload_n 1, 1) := by decide +kernel
theorem dX9_tell_2 : decode cX9_tell 2 = .ok (.invokevirtual 140, 3) := by decide +kernel
theorem dX9_tell_5 : decode cX9_tell 5 = .ok (.ifCond .ne 5, 3) := by decide +kernel
theorem dX9_tell_8 : decode cX9_tell 8 = .ok (.iconst (-1), 1) := by decide +kernel
theorem dX9_tell_9 : decode cX9_tell 9 = .ok (.ireturn, 1) := by decide +kernel
theorem dX9_tell_10 : decode cX9_tell 10 = .ok (.aload_n 0, 1) := by decide +kernel
theorem dX9_tell_11 : decode cX9_tell 11 = .ok (.getfield 22, 3) := by decide +kernel
theorem dX9_tell_14 : decode cX9_tell 14 = .ok (.iload_n 1, 1) := by decide +kernel
theorem dX9_tell_15 : decode cX9_tell 15 = .ok (.iaload, 1) := by decide +kernel
theorem dX9_tell_16 : decode cX9_tell 16 = .ok (.invokestatic 235, 3) := by decide +kernel
theorem dX9_tell_19 : decode cX9_tell 19 = .ok (.istore_n 2, 1) := by decide +kernel
theorem dX9_tell_20 : decode cX9_tell 20 = .ok (.aload_n 0, 1) := by decide +kernel
theorem dX9_tell_21 : decode cX9_tell 21 = .ok (.getfield 19, 3) := by decide +kernel
theorem dX9_tell_24 : decode cX9_tell 24 = .ok (.iload_n 1, 1) := by decide +kernel
theorem dX9_tell_25 : decode cX9_tell 25 = .ok (.iaload, 1) := by decide +kernel
theorem dX9_tell_26 : decode cX9_tell 26 = .ok (.lookupswitch 68 #[(1, 26), (2, 41)], 26) := by decide +kernel
theorem dX9_tell_52 : decode cX9_tell 52 = .ok (.aload_n 0, 1) := by decide +kernel
theorem dX9_tell_53 : decode cX9_tell 53 = .ok (.iconst 2, 1) := by decide +kernel
theorem dX9_tell_54 : decode cX9_tell 54 = .ok (.invokevirtual 298, 3) := by decide +kernel
theorem dX9_tell_57 : decode cX9_tell 57 = .ok (.aload_n 0, 1) := by decide +kernel
theorem dX9_tell_58 : decode cX9_tell 58 = .ok (.iconst 1, 1) := by decide +kernel
theorem dX9_tell_59 : decode cX9_tell 59 = .ok (.invokevirtual 298, 3) := by decide +kernel
theorem dX9_tell_62 : decode cX9_tell 62 = .ok (.iload_n 2, 1) := by decide +kernel
theorem dX9_tell_63 : decode cX9_tell 63 = .ok (.bipush 100, 2) := by decide +kernel
theorem dX9_tell_65 : decode cX9_tell 65 = .ok (.iadd, 1) := by decide +kernel
theorem dX9_tell_66 : decode cX9_tell 66 = .ok (.ireturn, 1) := by decide +kernel
theorem dX9_tell_67 : decode cX9_tell 67 = .ok (.aload_n 0, 1) := by decide +kernel
theorem dX9_tell_68 : decode cX9_tell 68 = .ok (.iconst 3, 1) := by decide +kernel
theorem dX9_tell_69 : decode cX9_tell 69 = .ok (.invokevirtual 298, 3) := by decide +kernel
theorem dX9_tell_72 : decode cX9_tell 72 = .ok (.aload_n 0, 1) := by decide +kernel
theorem dX9_tell_73 : decode cX9_tell 73 = .ok (.iconst 2, 1) := by decide +kernel
theorem dX9_tell_74 : decode cX9_tell 74 = .ok (.invokevirtual 298, 3) := by decide +kernel
theorem dX9_tell_77 : decode cX9_tell 77 = .ok (.aload_n 0, 1) := by decide +kernel
theorem dX9_tell_78 : decode cX9_tell 78 = .ok (.iconst 1, 1) := by decide +kernel
theorem dX9_tell_79 : decode cX9_tell 79 = .ok (.invokevirtual 298, 3) := by decide +kernel
theorem dX9_tell_82 : decode cX9_tell 82 = .ok (.aload_n 0, 1) := by decide +kernel
theorem dX9_tell_83 : decode cX9_tell 83 = .ok (.iconst 1, 1) := by decide +kernel
theorem dX9_tell_84 : decode cX9_tell 84 = .ok (.invokevirtual 298, 3) := by decide +kernel
theorem dX9_tell_87 : decode cX9_tell 87 = .ok (.iconst 2, 1) := by decide +kernel
theorem dX9_tell_88 : decode cX9_tell 88 = .ok (.iload_n 2, 1) := by decide +kernel
theorem dX9_tell_89 : decode cX9_tell 89 = .ok (.imul, 1) := by decide +kernel
theorem dX9_tell_90 : decode cX9_tell 90 = .ok (.bipush 100, 2) := by decide +kernel
theorem dX9_tell_92 : decode cX9_tell 92 = .ok (.iadd, 1) := by decide +kernel
theorem dX9_tell_93 : decode cX9_tell 93 = .ok (.ireturn, 1) := by decide +kernel
theorem dX9_tell_94 : decode cX9_tell 94 = .ok (.aload_n 0, 1) := by decide +kernel
theorem dX9_tell_95 : decode cX9_tell 95 = .ok (.iconst 1, 1) := by decide +kernel
theorem dX9_tell_96 : decode cX9_tell 96 = .ok (.invokevirtual 298, 3) := by decide +kernel
theorem dX9_tell_99 : decode cX9_tell 99 = .ok (.iload_n 2, 1) := by decide +kernel
theorem dX9_tell_100 : decode cX9_tell 100 = .ok (.ireturn, 1) := by decide +kernel
theorem dX9_swear_0 : decode cX9_swear 0 = .ok (.aload_n 0, 1) := by decide +kernel
theorem dX9_swear_1 : decode cX9_swear 1 = .ok (.iload_n 1, 1) := by decide +kernel
theorem dX9_swear_2 : decode cX9_swear 2 = .ok (.invokevirtual 140, 3) := by decide +kernel
theorem dX9_swear_5 : decode cX9_swear 5 = .ok (.ifCond .ne 5, 3) := by decide +kernel
theorem dX9_swear_8 : decode cX9_swear 8 = .ok (.iconst (-1), 1) := by decide +kernel
theorem dX9_swear_9 : decode cX9_swear 9 = .ok (.ireturn, 1) := by decide +kernel
theorem dX9_swear_10 : decode cX9_swear 10 = .ok (.aload_n 0, 1) := by decide +kernel
theorem dX9_swear_11 : decode cX9_swear 11 = .ok (.aload_n 0, 1) := by decide +kernel
theorem dX9_swear_12 : decode cX9_swear 12 = .ok (.getfield 19, 3) := by decide +kernel
theorem dX9_swear_15 : decode cX9_swear 15 = .ok (.iload_n 1, 1) := by decide +kernel
theorem dX9_swear_16 : decode cX9_swear 16 = .ok (.iaload, 1) := by decide +kernel
theorem dX9_swear_17 : decode cX9_swear 17 = .ok (.iconst 2, 1) := by decide +kernel
theorem dX9_swear_18 : decode cX9_swear 18 = .ok (.if_icmp .ne 7, 3) := by decide +kernel
theorem dX9_swear_21 : decode cX9_swear 21 = .ok (.iconst 5, 1) := by decide +kernel
theorem dX9_swear_22 : decode cX9_swear 22 = .ok (.goto 4, 3) := by decide +kernel
theorem dX9_swear_25 : decode cX9_swear 25 = .ok (.iconst 4, 1) := by decide +kernel
theorem dX9_swear_26 : decode cX9_swear 26 = .ok (.invokevirtual 298, 3) := by decide +kernel
theorem dX9_swear_29 : decode cX9_swear 29 = .ok (.aload_n 0, 1) := by decide +kernel
theorem dX9_swear_30 : decode cX9_swear 30 = .ok (.getfield 19, 3) := by decide +kernel
theorem dX9_swear_33 : decode cX9_swear 33 = .ok (.iload_n 1, 1) := by decide +kernel
theorem dX9_swear_34 : decode cX9_swear 34 = .ok (.iaload, 1) := by decide +kernel
theorem dX9_swear_35 : decode cX9_swear 35 = .ok (.iconst 2, 1) := by decide +kernel
theorem dX9_swear_36 : decode cX9_swear 36 = .ok (.if_icmp .ne 8, 3) := by decide +kernel
theorem dX9_swear_39 : decode cX9_swear 39 = .ok (.bipush 30, 2) := by decide +kernel
theorem dX9_swear_41 : decode cX9_swear 41 = .ok (.goto 4, 3) := by decide +kernel
theorem dX9_swear_44 : decode cX9_swear 44 = .ok (.iload_n 1, 1) := by decide +kernel
theorem dX9_swear_45 : decode cX9_swear 45 = .ok (.ireturn, 1) := by decide +kernel
theorem dX9_as_0 : decode cX9_as 0 = .ok (.aload_n 0, 1) := by decide +kernel
theorem dX9_as_1 : decode cX9_as 1 = .ok (.iconst 0, 1) := by decide +kernel
theorem dX9_as_2 : decode cX9_as 2 = .ok (.putfield 81, 3) := by decide +kernel
theorem dX9_as_5 : decode cX9_as 5 = .ok (.aload_n 0, 1) := by decide +kernel
theorem dX9_as_6 : decode cX9_as 6 = .ok (.iload_n 1, 1) := by decide +kernel
theorem dX9_as_7 : decode cX9_as 7 = .ok (.invokevirtual 140, 3) := by decide +kernel
theorem dX9_as_10 : decode cX9_as 10 = .ok (.ifCond .ne 5, 3) := by decide +kernel
theorem dX9_as_13 : decode cX9_as 13 = .ok (.iconst (-1), 1) := by decide +kernel
theorem dX9_as_14 : decode cX9_as 14 = .ok (.ireturn, 1) := by decide +kernel
theorem dX9_as_15 : decode cX9_as 15 = .ok (.iload_n 2, 1) := by decide +kernel
theorem dX9_as_16 : decode cX9_as 16 = .ok (.iconst 0, 1) := by decide +kernel
theorem dX9_as_17 : decode cX9_as 17 = .ok (.iconst 2, 1) := by decide +kernel
theorem dX9_as_18 : decode cX9_as 18 = .ok (.invokestatic 87, 3) := by decide +kernel
theorem dX9_as_21 : decode cX9_as 21 = .ok (.ifCond .ne 6, 3) := by decide +kernel
theorem dX9_as_24 : decode cX9_as 24 = .ok (.bipush (-2), 2) := by decide +kernel
theorem dX9_as_26 : decode cX9_as 26 = .ok (.ireturn, 1) := by decide +kernel
theorem dX9_as_27 : decode cX9_as 27 = .ok (.aload_n 0, 1) := by decide +kernel
theorem dX9_as_28 : decode cX9_as 28 = .ok (.getfield 19, 3) := by decide +kernel
theorem dX9_as_31 : decode cX9_as 31 = .ok (.iload_n 1, 1) := by decide +kernel
theorem dX9_as_32 : decode cX9_as 32 = .ok (.iaload, 1) := by decide +kernel
theorem dX9_as_33 : decode cX9_as 33 = .ok (.iload_n 2, 1) := by decide +kernel
theorem dX9_as_34 : decode cX9_as 34 = .ok (.if_icmp .lt 7, 3) := by decide +kernel
theorem dX9_as_37 : decode cX9_as 37 = .ok (.iconst 1, 1) := by decide +kernel
theorem dX9_as_38 : decode cX9_as 38 = .ok (.goto 8, 3) := by decide +kernel
theorem dX9_as_41 : decode cX9_as 41 = .ok (.aload_n 0, 1) := by decide +kernel
theorem dX9_as_42 : decode cX9_as 42 = .ok (.iconst 2, 1) := by decide +kernel
theorem dX9_as_43 : decode cX9_as 43 = .ok (.invokevirtual 111, 3) := by decide +kernel
theorem dX9_as_46 : decode cX9_as 46 = .ok (.ireturn, 1) := by decide +kernel
theorem dX9_trace_0 : decode cX9_trace 0 = .ok (.aload_n 0, 1) := by decide +kernel
theorem dX9_trace_1 : decode cX9_trace 1 = .ok (.getfield 295, 3) := by decide +kernel
theorem dX9_trace_4 : decode cX9_trace 4 = .ok (.ireturn, 1) := by decide +kernel
theorem dX9_fault_0 : decode cX9_fault 0 = .ok (.aload_n 0, 1) := by decide +kernel
theorem dX9_fault_1 : decode cX9_fault 1 = .ok (.getfield 81, 3) := by decide +kernel
theorem dX9_fault_4 : decode cX9_fault 4 = .ok (.ireturn, 1) := by decide +kernel
theorem dX9_many_0 : decode cX9_many 0 = .ok (.iload_n 1, 1) := by decide +kernel
theorem dX9_many_1 : decode cX9_many 1 = .ok (.tableswitch 60 0 4 #[35, 40, 45, 50, 55], 35) := by decide +kernel
theorem dX9_many_36 : decode cX9_many 36 = .ok (.aload_n 0, 1) := by decide +kernel
theorem dX9_many_37 : decode cX9_many 37 = .ok (.getfield 91, 3) := by decide +kernel
theorem dX9_many_40 : decode cX9_many 40 = .ok (.ireturn, 1) := by decide +kernel
theorem dX9_many_41 : decode cX9_many 41 = .ok (.aload_n 0, 1) := by decide +kernel
theorem dX9_many_42 : decode cX9_many 42 = .ok (.getfield 94, 3) := by decide +kernel
theorem dX9_many_45 : decode cX9_many 45 = .ok (.ireturn, 1) := by decide +kernel
theorem dX9_many_46 : decode cX9_many 46 = .ok (.aload_n 0, 1) := by decide +kernel
theorem dX9_many_47 : decode cX9_many 47 = .ok (.getfield 124, 3) := by decide +kernel
theorem dX9_many_50 : decode cX9_many 50 = .ok (.ireturn, 1) := by decide +kernel
theorem dX9_many_51 : decode cX9_many 51 = .ok (.aload_n 0, 1) := by decide +kernel
theorem dX9_many_52 : decode cX9_many 52 = .ok (.getfield 127, 3) := by decide +kernel
theorem dX9_many_55 : decode cX9_many 55 = .ok (.ireturn, 1) := by decide +kernel
theorem dX9_many_56 : decode cX9_many 56 = .ok (.aload_n 0, 1) := by decide +kernel
theorem dX9_many_57 : decode cX9_many 57 = .ok (.getfield 130, 3) := by decide +kernel
theorem dX9_many_60 : decode cX9_many 60 = .ok (.ireturn, 1) := by decide +kernel
theorem dX9_many_61 : decode cX9_many 61 = .ok (.bipush (-2), 2) := by decide +kernel
theorem dX9_many_63 : decode cX9_many 63 = .ok (.ireturn, 1) := by decide +kernel
end
section
theorem dL_law_0 : decode cL_law 0 = .ok (.new 7, 3) := by decide +kernel
theorem dL_law_3 : decode cL_law 3 = .ok (.dup, 1) := by decide +kernel
theorem dL_law_4 : decode cL_law 4 = .ok (.invokespecial 9, 3) := by decide +kernel
theorem dL_law_7 : decode cL_law 7 = .ok (.astore_n 1, 1) := by decide +kernel
theorem dL_law_8 : decode cL_law 8 = .ok (.new 10, 3) := by decide +kernel
theorem dL_law_11 : decode cL_law 11 = .ok (.dup, 1) := by decide +kernel
theorem dL_law_12 : decode cL_law 12 = .ok (.invokespecial 12, 3) := by decide +kernel
theorem dL_law_15 : decode cL_law 15 = .ok (.astore_n 2, 1) := by decide +kernel
theorem dL_law_16 : decode cL_law 16 = .ok (.iconst 0, 1) := by decide +kernel
theorem dL_law_17 : decode cL_law 17 = .ok (.istore_n 3, 1) := by decide +kernel
theorem dL_law_18 : decode cL_law 18 = .ok (.iload_n 3, 1) := by decide +kernel
theorem dL_law_19 : decode cL_law 19 = .ok (.aload_n 0, 1) := by decide +kernel
theorem dL_law_20 : decode cL_law 20 = .ok (.arraylength, 1) := by decide +kernel
theorem dL_law_21 : decode cL_law 21 = .ok (.bipush 6, 2) := by decide +kernel
theorem dL_law_23 : decode cL_law 23 = .ok (.isub, 1) := by decide +kernel
theorem dL_law_24 : decode cL_law 24 = .ok (.if_icmp .gt 1014, 3) := by decide +kernel
theorem dL_law_27 : decode cL_law 27 = .ok (.aload_n 0, 1) := by decide +kernel
theorem dL_law_28 : decode cL_law 28 = .ok (.iload_n 3, 1) := by decide +kernel
theorem dL_law_29 : decode cL_law 29 = .ok (.iaload, 1) := by decide +kernel
theorem dL_law_30 : decode cL_law 30 = .ok (.bipush 31, 2) := by decide +kernel
theorem dL_law_32 : decode cL_law 32 = .ok (.iand, 1) := by decide +kernel
theorem dL_law_33 : decode cL_law 33 = .ok (.tableswitch 999 0 27 #[127, 180, 213, 272, 295, 318, 371, 404, 427, 440, 463, 486, 519, 552, 575, 599, 642, 655, 698, 721, 764, 808, 871, 894, 917, 950, 963, 976], 127) := by decide +kernel
theorem dL_law_160 : decode cL_law 160 = .ok (.aload_n 1, 1) := by decide +kernel
theorem dL_law_161 : decode cL_law 161 = .ok (.aload_n 0, 1) := by decide +kernel
theorem dL_law_162 : decode cL_law 162 = .ok (.iload_n 3, 1) := by decide +kernel
theorem dL_law_163 : decode cL_law 163 = .ok (.iconst 1, 1) := by decide +kernel
theorem dL_law_164 : decode cL_law 164 = .ok (.iadd, 1) := by decide +kernel
theorem dL_law_165 : decode cL_law 165 = .ok (.iaload, 1) := by decide +kernel
theorem dL_law_166 : decode cL_law 166 = .ok (.aload_n 0, 1) := by decide +kernel
theorem dL_law_167 : decode cL_law 167 = .ok (.iload_n 3, 1) := by decide +kernel
theorem dL_law_168 : decode cL_law 168 = .ok (.iconst 2, 1) := by decide +kernel
theorem dL_law_169 : decode cL_law 169 = .ok (.iadd, 1) := by decide +kernel
theorem dL_law_170 : decode cL_law 170 = .ok (.iaload, 1) := by decide +kernel
theorem dL_law_171 : decode cL_law 171 = .ok (.aload_n 0, 1) := by decide +kernel
theorem dL_law_172 : decode cL_law 172 = .ok (.iload_n 3, 1) := by decide +kernel
theorem dL_law_173 : decode cL_law 173 = .ok (.iconst 3, 1) := by decide +kernel
theorem dL_law_174 : decode cL_law 174 = .ok (.iadd, 1) := by decide +kernel
theorem dL_law_175 : decode cL_law 175 = .ok (.iaload, 1) := by decide +kernel
theorem dL_law_176 : decode cL_law 176 = .ok (.aload_n 0, 1) := by decide +kernel
theorem dL_law_177 : decode cL_law 177 = .ok (.iload_n 3, 1) := by decide +kernel
theorem dL_law_178 : decode cL_law 178 = .ok (.iconst 4, 1) := by decide +kernel
theorem dL_law_179 : decode cL_law 179 = .ok (.iadd, 1) := by decide +kernel
theorem dL_law_180 : decode cL_law 180 = .ok (.iaload, 1) := by decide +kernel
theorem dL_law_181 : decode cL_law 181 = .ok (.invokevirtual 13, 3) := by decide +kernel
theorem dL_law_184 : decode cL_law 184 = .ok (.aload_n 2, 1) := by decide +kernel
theorem dL_law_185 : decode cL_law 185 = .ok (.aload_n 0, 1) := by decide +kernel
theorem dL_law_186 : decode cL_law 186 = .ok (.iload_n 3, 1) := by decide +kernel
theorem dL_law_187 : decode cL_law 187 = .ok (.iconst 1, 1) := by decide +kernel
theorem dL_law_188 : decode cL_law 188 = .ok (.iadd, 1) := by decide +kernel
theorem dL_law_189 : decode cL_law 189 = .ok (.iaload, 1) := by decide +kernel
theorem dL_law_190 : decode cL_law 190 = .ok (.aload_n 0, 1) := by decide +kernel
theorem dL_law_191 : decode cL_law 191 = .ok (.iload_n 3, 1) := by decide +kernel
theorem dL_law_192 : decode cL_law 192 = .ok (.iconst 2, 1) := by decide +kernel
theorem dL_law_193 : decode cL_law 193 = .ok (.iadd, 1) := by decide +kernel
theorem dL_law_194 : decode cL_law 194 = .ok (.iaload, 1) := by decide +kernel
theorem dL_law_195 : decode cL_law 195 = .ok (.aload_n 0, 1) := by decide +kernel
theorem dL_law_196 : decode cL_law 196 = .ok (.iload_n 3, 1) := by decide +kernel
theorem dL_law_197 : decode cL_law 197 = .ok (.iconst 3, 1) := by decide +kernel
theorem dL_law_198 : decode cL_law 198 = .ok (.iadd, 1) := by decide +kernel
theorem dL_law_199 : decode cL_law 199 = .ok (.iaload, 1) := by decide +kernel
theorem dL_law_200 : decode cL_law 200 = .ok (.aload_n 0, 1) := by decide +kernel
theorem dL_law_201 : decode cL_law 201 = .ok (.iload_n 3, 1) := by decide +kernel
theorem dL_law_202 : decode cL_law 202 = .ok (.iconst 4, 1) := by decide +kernel
theorem dL_law_203 : decode cL_law 203 = .ok (.iadd, 1) := by decide +kernel
theorem dL_law_204 : decode cL_law 204 = .ok (.iaload, 1) := by decide +kernel
theorem dL_law_205 : decode cL_law 205 = .ok (.invokevirtual 17, 3) := by decide +kernel
theorem dL_law_208 : decode cL_law 208 = .ok (.if_icmp .eq 824, 3) := by decide +kernel
theorem dL_law_211 : decode cL_law 211 = .ok (.iconst 0, 1) := by decide +kernel
theorem dL_law_212 : decode cL_law 212 = .ok (.ireturn, 1) := by decide +kernel
theorem dL_law_213 : decode cL_law 213 = .ok (.aload_n 1, 1) := by decide +kernel
theorem dL_law_214 : decode cL_law 214 = .ok (.aload_n 0, 1) := by decide +kernel
theorem dL_law_215 : decode cL_law 215 = .ok (.iload_n 3, 1) := by decide +kernel
theorem dL_law_216 : decode cL_law 216 = .ok (.iconst 1, 1) := by decide +kernel
theorem dL_law_217 : decode cL_law 217 = .ok (.iadd, 1) := by decide +kernel
theorem dL_law_218 : decode cL_law 218 = .ok (.iaload, 1) := by decide +kernel
theorem dL_law_219 : decode cL_law 219 = .ok (.aload_n 0, 1) := by decide +kernel
theorem dL_law_220 : decode cL_law 220 = .ok (.iload_n 3, 1) := by decide +kernel
theorem dL_law_221 : decode cL_law 221 = .ok (.iconst 2, 1) := by decide +kernel
theorem dL_law_222 : decode cL_law 222 = .ok (.iadd, 1) := by decide +kernel
theorem dL_law_223 : decode cL_law 223 = .ok (.iaload, 1) := by decide +kernel
theorem dL_law_224 : decode cL_law 224 = .ok (.invokevirtual 18, 3) := by decide +kernel
theorem dL_law_227 : decode cL_law 227 = .ok (.aload_n 2, 1) := by decide +kernel
theorem dL_law_228 : decode cL_law 228 = .ok (.aload_n 0, 1) := by decide +kernel
theorem dL_law_229 : decode cL_law 229 = .ok (.iload_n 3, 1) := by decide +kernel
theorem dL_law_230 : decode cL_law 230 = .ok (.iconst 1, 1) := by decide +kernel
theorem dL_law_231 : decode cL_law 231 = .ok (.iadd, 1) := by decide +kernel
theorem dL_law_232 : decode cL_law 232 = .ok (.iaload, 1) := by decide +kernel
theorem dL_law_233 : decode cL_law 233 = .ok (.aload_n 0, 1) := by decide +kernel
theorem dL_law_234 : decode cL_law 234 = .ok (.iload_n 3, 1) := by decide +kernel
theorem dL_law_235 : decode cL_law 235 = .ok (.iconst 2, 1) := by decide +kernel
theorem dL_law_236 : decode cL_law 236 = .ok (.iadd, 1) := by decide +kernel
theorem dL_law_237 : decode cL_law 237 = .ok (.iaload, 1) := by decide +kernel
theorem dL_law_238 : decode cL_law 238 = .ok (.invokevirtual 22, 3) := by decide +kernel
theorem dL_law_241 : decode cL_law 241 = .ok (.if_icmp .eq 791, 3) := by decide +kernel
theorem dL_law_244 : decode cL_law 244 = .ok (.iconst 0, 1) := by decide +kernel
theorem dL_law_245 : decode cL_law 245 = .ok (.ireturn, 1) := by decide +kernel
theorem dL_law_246 : decode cL_law 246 = .ok (.aload_n 1, 1) := by decide +kernel
theorem dL_law_247 : decode cL_law 247 = .ok (.aload_n 0, 1) := by decide +kernel
theorem dL_law_248 : decode cL_law 248 = .ok (.iload_n 3, 1) := by decide +kernel
theorem dL_law_249 : decode cL_law 249 = .ok (.iconst 1, 1) := by decide +kernel
theorem dL_law_250 : decode cL_law 250 = .ok (.iadd, 1) := by decide +kernel
theorem dL_law_251 : decode cL_law 251 = .ok (.iaload, 1) := by decide +kernel
theorem dL_law_252 : decode cL_law 252 = .ok (.aload_n 0, 1) := by decide +kernel
theorem dL_law_253 : decode cL_law 253 = .ok (.iload_n 3, 1) := by decide +kernel
theorem dL_law_254 : decode cL_law 254 = .ok (.iconst 2, 1) := by decide +kernel
theorem dL_law_255 : decode cL_law 255 = .ok (.iadd, 1) := by decide +kernel
theorem dL_law_256 : decode cL_law 256 = .ok (.iaload, 1) := by decide +kernel
theorem dL_law_257 : decode cL_law 257 = .ok (.aload_n 0, 1) := by decide +kernel
theorem dL_law_258 : decode cL_law 258 = .ok (.iload_n 3, 1) := by decide +kernel
theorem dL_law_259 : decode cL_law 259 = .ok (.iconst 3, 1) := by decide +kernel
theorem dL_law_260 : decode cL_law 260 = .ok (.iadd, 1) := by decide +kernel
theorem dL_law_261 : decode cL_law 261 = .ok (.iaload, 1) := by decide +kernel
theorem dL_law_262 : decode cL_law 262 = .ok (.ifCond .eq 7, 3) := by decide +kernel
theorem dL_law_265 : decode cL_law 265 = .ok (.iconst 1, 1) := by decide +kernel
theorem dL_law_266 : decode cL_law 266 = .ok (.goto 4, 3) := by decide +kernel
theorem dL_law_269 : decode cL_law 269 = .ok (.iconst 0, 1) := by decide +kernel
theorem dL_law_270 : decode cL_law 270 = .ok (.invokevirtual 23, 3) := by decide +kernel
theorem dL_law_273 : decode cL_law 273 = .ok (.aload_n 2, 1) := by decide +kernel
theorem dL_law_274 : decode cL_law 274 = .ok (.aload_n 0, 1) := by decide +kernel
theorem dL_law_275 : decode cL_law 275 = .ok (.iload_n 3, 1) := by decide +kernel
theorem dL_law_276 : decode cL_law 276 = .ok (.iconst 1, 1) := by decide +kernel
theorem dL_law_277 : decode cL_law 277 = .ok (.iadd, 1) := by decide +kernel
theorem dL_law_278 : decode cL_law 278 = .ok (.iaload, 1) := by decide +kernel
theorem dL_law_279 : decode cL_law 279 = .ok (.aload_n 0, 1) := by decide +kernel
theorem dL_law_280 : decode cL_law 280 = .ok (.iload_n 3, 1) := by decide +kernel
theorem dL_law_281 : decode cL_law 281 = .ok (.iconst 2, 1) := by decide +kernel
theorem dL_law_282 : decode cL_law 282 = .ok (.iadd, 1) := by decide +kernel
theorem dL_law_283 : decode cL_law 283 = .ok (.iaload, 1) := by decide +kernel
theorem dL_law_284 : decode cL_law 284 = .ok (.aload_n 0, 1) := by decide +kernel
theorem dL_law_285 : decode cL_law 285 = .ok (.iload_n 3, 1) := by decide +kernel
theorem dL_law_286 : decode cL_law 286 = .ok (.iconst 3, 1) := by decide +kernel
theorem dL_law_287 : decode cL_law 287 = .ok (.iadd, 1) := by decide +kernel
theorem dL_law_288 : decode cL_law 288 = .ok (.iaload, 1) := by decide +kernel
theorem dL_law_289 : decode cL_law 289 = .ok (.ifCond .eq 7, 3) := by decide +kernel
theorem dL_law_292 : decode cL_law 292 = .ok (.iconst 1, 1) := by decide +kernel
theorem dL_law_293 : decode cL_law 293 = .ok (.goto 4, 3) := by decide +kernel
theorem dL_law_296 : decode cL_law 296 = .ok (.iconst 0, 1) := by decide +kernel
theorem dL_law_297 : decode cL_law 297 = .ok (.invokevirtual 27, 3) := by decide +kernel
theorem dL_law_300 : decode cL_law 300 = .ok (.if_icmp .eq 732, 3) := by decide +kernel
theorem dL_law_303 : decode cL_law 303 = .ok (.iconst 0, 1) := by decide +kernel
theorem dL_law_304 : decode cL_law 304 = .ok (.ireturn, 1) := by decide +kernel
theorem dL_law_305 : decode cL_law 305 = .ok (.aload_n 1, 1) := by decide +kernel
theorem dL_law_306 : decode cL_law 306 = .ok (.aload_n 0, 1) := by decide +kernel
theorem dL_law_307 : decode cL_law 307 = .ok (.iload_n 3, 1) := by decide +kernel
theorem dL_law_308 : decode cL_law 308 = .ok (.iconst 1, 1) := by decide +kernel
theorem dL_law_309 : decode cL_law 309 = .ok (.iadd, 1) := by decide +kernel
theorem dL_law_310 : decode cL_law 310 = .ok (.iaload, 1) := by decide +kernel
theorem dL_law_311 : decode cL_law 311 = .ok (.invokevirtual 28, 3) := by decide +kernel
theorem dL_law_314 : decode cL_law 314 = .ok (.aload_n 2, 1) := by decide +kernel
theorem dL_law_315 : decode cL_law 315 = .ok (.aload_n 0, 1) := by decide +kernel
theorem dL_law_316 : decode cL_law 316 = .ok (.iload_n 3, 1) := by decide +kernel
theorem dL_law_317 : decode cL_law 317 = .ok (.iconst 1, 1) := by decide +kernel
theorem dL_law_318 : decode cL_law 318 = .ok (.iadd, 1) := by decide +kernel
theorem dL_law_319 : decode cL_law 319 = .ok (.iaload, 1) := by decide +kernel
theorem dL_law_320 : decode cL_law 320 = .ok (.invokevirtual 32, 3) := by decide +kernel
theorem dL_law_323 : decode cL_law 323 = .ok (.if_icmp .eq 709, 3) := by decide +kernel
theorem dL_law_326 : decode cL_law 326 = .ok (.iconst 0, 1) := by decide +kernel
theorem dL_law_327 : decode cL_law 327 = .ok (.ireturn, 1) := by decide +kernel
theorem dL_law_328 : decode cL_law 328 = .ok (.aload_n 1, 1) := by decide +kernel
theorem dL_law_329 : decode cL_law 329 = .ok (.aload_n 0, 1) := by decide +kernel
theorem dL_law_330 : decode cL_law 330 = .ok (.iload_n 3, 1) := by decide +kernel
theorem dL_law_331 : decode cL_law 331 = .ok (.iconst 1, 1) := by decide +kernel
theorem dL_law_332 : decode cL_law 332 = .ok (.iadd, 1) := by decide +kernel
theorem dL_law_333 : decode cL_law 333 = .ok (.iaload, 1) := by decide +kernel
theorem dL_law_334 : decode cL_law 334 = .ok (.invokevirtual 33, 3) := by decide +kernel
theorem dL_law_337 : decode cL_law 337 = .ok (.aload_n 2, 1) := by decide +kernel
theorem dL_law_338 : decode cL_law 338 = .ok (.aload_n 0, 1) := by decide +kernel
theorem dL_law_339 : decode cL_law 339 = .ok (.iload_n 3, 1) := by decide +kernel
theorem dL_law_340 : decode cL_law 340 = .ok (.iconst 1, 1) := by decide +kernel
theorem dL_law_341 : decode cL_law 341 = .ok (.iadd, 1) := by decide +kernel
theorem dL_law_342 : decode cL_law 342 = .ok (.iaload, 1) := by decide +kernel
theorem dL_law_343 : decode cL_law 343 = .ok (.invokevirtual 36, 3) := by decide +kernel
theorem dL_law_346 : decode cL_law 346 = .ok (.if_icmp .eq 686, 3) := by decide +kernel
theorem dL_law_349 : decode cL_law 349 = .ok (.iconst 0, 1) := by decide +kernel
theorem dL_law_350 : decode cL_law 350 = .ok (.ireturn, 1) := by decide +kernel
theorem dL_law_351 : decode cL_law 351 = .ok (.aload_n 1, 1) := by decide +kernel
theorem dL_law_352 : decode cL_law 352 = .ok (.aload_n 0, 1) := by decide +kernel
theorem dL_law_353 : decode cL_law 353 = .ok (.iload_n 3, 1) := by decide +kernel
theorem dL_law_354 : decode cL_law 354 = .ok (.iconst 1, 1) := by decide +kernel
theorem dL_law_355 : decode cL_law 355 = .ok (.iadd, 1) := by decide +kernel
theorem dL_law_356 : decode cL_law 356 = .ok (.iaload, 1) := by decide +kernel
theorem dL_law_357 : decode cL_law 357 = .ok (.aload_n 0, 1) := by decide +kernel
theorem dL_law_358 : decode cL_law 358 = .ok (.iload_n 3, 1) := by decide +kernel
theorem dL_law_359 : decode cL_law 359 = .ok (.iconst 2, 1) := by decide +kernel
theorem dL_law_360 : decode cL_law 360 = .ok (.iadd, 1) := by decide +kernel
theorem dL_law_361 : decode cL_law 361 = .ok (.iaload, 1) := by decide +kernel
theorem dL_law_362 : decode cL_law 362 = .ok (.aload_n 0, 1) := by decide +kernel
theorem dL_law_363 : decode cL_law 363 = .ok (.iload_n 3, 1) := by decide +kernel
theorem dL_law_364 : decode cL_law 364 = .ok (.iconst 3, 1) := by decide +kernel
theorem dL_law_365 : decode cL_law 365 = .ok (.iadd, 1) := by decide +kernel
theorem dL_law_366 : decode cL_law 366 = .ok (.iaload, 1) := by decide +kernel
theorem dL_law_367 : decode cL_law 367 = .ok (.aload_n 0, 1) := by decide +kernel
theorem dL_law_368 : decode cL_law 368 = .ok (.iload_n 3, 1) := by decide +kernel
theorem dL_law_369 : decode cL_law 369 = .ok (.iconst 4, 1) := by decide +kernel
theorem dL_law_370 : decode cL_law 370 = .ok (.iadd, 1) := by decide +kernel
theorem dL_law_371 : decode cL_law 371 = .ok (.iaload, 1) := by decide +kernel
theorem dL_law_372 : decode cL_law 372 = .ok (.invokevirtual 37, 3) := by decide +kernel
theorem dL_law_375 : decode cL_law 375 = .ok (.aload_n 2, 1) := by decide +kernel
theorem dL_law_376 : decode cL_law 376 = .ok (.aload_n 0, 1) := by decide +kernel
theorem dL_law_377 : decode cL_law 377 = .ok (.iload_n 3, 1) := by decide +kernel
theorem dL_law_378 : decode cL_law 378 = .ok (.iconst 1, 1) := by decide +kernel
theorem dL_law_379 : decode cL_law 379 = .ok (.iadd, 1) := by decide +kernel
theorem dL_law_380 : decode cL_law 380 = .ok (.iaload, 1) := by decide +kernel
theorem dL_law_381 : decode cL_law 381 = .ok (.aload_n 0, 1) := by decide +kernel
theorem dL_law_382 : decode cL_law 382 = .ok (.iload_n 3, 1) := by decide +kernel
theorem dL_law_383 : decode cL_law 383 = .ok (.iconst 2, 1) := by decide +kernel
theorem dL_law_384 : decode cL_law 384 = .ok (.iadd, 1) := by decide +kernel
theorem dL_law_385 : decode cL_law 385 = .ok (.iaload, 1) := by decide +kernel
theorem dL_law_386 : decode cL_law 386 = .ok (.aload_n 0, 1) := by decide +kernel
theorem dL_law_387 : decode cL_law 387 = .ok (.iload_n 3, 1) := by decide +kernel
theorem dL_law_388 : decode cL_law 388 = .ok (.iconst 3, 1) := by decide +kernel
theorem dL_law_389 : decode cL_law 389 = .ok (.iadd, 1) := by decide +kernel
theorem dL_law_390 : decode cL_law 390 = .ok (.iaload, 1) := by decide +kernel
theorem dL_law_391 : decode cL_law 391 = .ok (.aload_n 0, 1) := by decide +kernel
theorem dL_law_392 : decode cL_law 392 = .ok (.iload_n 3, 1) := by decide +kernel
theorem dL_law_393 : decode cL_law 393 = .ok (.iconst 4, 1) := by decide +kernel
theorem dL_law_394 : decode cL_law 394 = .ok (.iadd, 1) := by decide +kernel
theorem dL_law_395 : decode cL_law 395 = .ok (.iaload, 1) := by decide +kernel
theorem dL_law_396 : decode cL_law 396 = .ok (.invokevirtual 40, 3) := by decide +kernel
theorem dL_law_399 : decode cL_law 399 = .ok (.if_icmp .eq 633, 3) := by decide +kernel
theorem dL_law_402 : decode cL_law 402 = .ok (.iconst 0, 1) := by decide +kernel
theorem dL_law_403 : decode cL_law 403 = .ok (.ireturn, 1) := by decide +kernel
theorem dL_law_404 : decode cL_law 404 = .ok (.aload_n 1, 1) := by decide +kernel
theorem dL_law_405 : decode cL_law 405 = .ok (.aload_n 0, 1) := by decide +kernel
theorem dL_law_406 : decode cL_law 406 = .ok (.iload_n 3, 1) := by decide +kernel
theorem dL_law_407 : decode cL_law 407 = .ok (.iconst 1, 1) := by decide +kernel
theorem dL_law_408 : decode cL_law 408 = .ok (.iadd, 1) := by decide +kernel
theorem dL_law_409 : decode cL_law 409 = .ok (.iaload, 1) := by decide +kernel
theorem dL_law_410 : decode cL_law 410 = .ok (.aload_n 0, 1) := by decide +kernel
theorem dL_law_411 : decode cL_law 411 = .ok (.iload_n 3, 1) := by decide +kernel
theorem dL_law_412 : decode cL_law 412 = .ok (.iconst 2, 1) := by decide +kernel
theorem dL_law_413 : decode cL_law 413 = .ok (.iadd, 1) := by decide +kernel
theorem dL_law_414 : decode cL_law 414 = .ok (.iaload, 1) := by decide +kernel
theorem dL_law_415 : decode cL_law 415 = .ok (.invokevirtual 41, 3) := by decide +kernel
theorem dL_law_418 : decode cL_law 418 = .ok (.aload_n 2, 1) := by decide +kernel
theorem dL_law_419 : decode cL_law 419 = .ok (.aload_n 0, 1) := by decide +kernel
theorem dL_law_420 : decode cL_law 420 = .ok (.iload_n 3, 1) := by decide +kernel
theorem dL_law_421 : decode cL_law 421 = .ok (.iconst 1, 1) := by decide +kernel
theorem dL_law_422 : decode cL_law 422 = .ok (.iadd, 1) := by decide +kernel
theorem dL_law_423 : decode cL_law 423 = .ok (.iaload, 1) := by decide +kernel
theorem dL_law_424 : decode cL_law 424 = .ok (.aload_n 0, 1) := by decide +kernel
theorem dL_law_425 : decode cL_law 425 = .ok (.iload_n 3, 1) := by decide +kernel
theorem dL_law_426 : decode cL_law 426 = .ok (.iconst 2, 1) := by decide +kernel
theorem dL_law_427 : decode cL_law 427 = .ok (.iadd, 1) := by decide +kernel
theorem dL_law_428 : decode cL_law 428 = .ok (.iaload, 1) := by decide +kernel
theorem dL_law_429 : decode cL_law 429 = .ok (.invokevirtual 44, 3) := by decide +kernel
theorem dL_law_432 : decode cL_law 432 = .ok (.if_icmp .eq 600, 3) := by decide +kernel
theorem dL_law_435 : decode cL_law 435 = .ok (.iconst 0, 1) := by decide +kernel
theorem dL_law_436 : decode cL_law 436 = .ok (.ireturn, 1) := by decide +kernel
theorem dL_law_437 : decode cL_law 437 = .ok (.aload_n 1, 1) := by decide +kernel
theorem dL_law_438 : decode cL_law 438 = .ok (.aload_n 0, 1) := by decide +kernel
theorem dL_law_439 : decode cL_law 439 = .ok (.iload_n 3, 1) := by decide +kernel
theorem dL_law_440 : decode cL_law 440 = .ok (.iconst 1, 1) := by decide +kernel
theorem dL_law_441 : decode cL_law 441 = .ok (.iadd, 1) := by decide +kernel
theorem dL_law_442 : decode cL_law 442 = .ok (.iaload, 1) := by decide +kernel
theorem dL_law_443 : decode cL_law 443 = .ok (.invokevirtual 45, 3) := by decide +kernel
theorem dL_law_446 : decode cL_law 446 = .ok (.aload_n 2, 1) := by decide +kernel
theorem dL_law_447 : decode cL_law 447 = .ok (.aload_n 0, 1) := by decide +kernel
theorem dL_law_448 : decode cL_law 448 = .ok (.iload_n 3, 1) := by decide +kernel
theorem dL_law_449 : decode cL_law 449 = .ok (.iconst 1, 1) := by decide +kernel
theorem dL_law_450 : decode cL_law 450 = .ok (.iadd, 1) := by decide +kernel
theorem dL_law_451 : decode cL_law 451 = .ok (.iaload, 1) := by decide +kernel
theorem dL_law_452 : decode cL_law 452 = .ok (.invokevirtual 48, 3) := by decide +kernel
theorem dL_law_455 : decode cL_law 455 = .ok (.if_icmp .eq 577, 3) := by decide +kernel
theorem dL_law_458 : decode cL_law 458 = .ok (.iconst 0, 1) := by decide +kernel
theorem dL_law_459 : decode cL_law 459 = .ok (.ireturn, 1) := by decide +kernel
theorem dL_law_460 : decode cL_law 460 = .ok (.aload_n 1, 1) := by decide +kernel
theorem dL_law_461 : decode cL_law 461 = .ok (.invokevirtual 49, 3) := by decide +kernel
theorem dL_law_464 : decode cL_law 464 = .ok (.aload_n 2, 1) := by decide +kernel
theorem dL_law_465 : decode cL_law 465 = .ok (.invokevirtual 53, 3) := by decide +kernel
theorem dL_law_468 : decode cL_law 468 = .ok (.if_icmp .eq 564, 3) := by decide +kernel
theorem dL_law_471 : decode cL_law 471 = .ok (.iconst 0, 1) := by decide +kernel
theorem dL_law_472 : decode cL_law 472 = .ok (.ireturn, 1) := by decide +kernel
theorem dL_law_473 : decode cL_law 473 = .ok (.aload_n 1, 1) := by decide +kernel
theorem dL_law_474 : decode cL_law 474 = .ok (.aload_n 0, 1) := by decide +kernel
theorem dL_law_475 : decode cL_law 475 = .ok (.iload_n 3, 1) := by decide +kernel
theorem dL_law_476 : decode cL_law 476 = .ok (.iconst 1, 1) := by decide +kernel
theorem dL_law_477 : decode cL_law 477 = .ok (.iadd, 1) := by decide +kernel
theorem dL_law_478 : decode cL_law 478 = .ok (.iaload, 1) := by decide +kernel
theorem dL_law_479 : decode cL_law 479 = .ok (.invokevirtual 54, 3) := by decide +kernel
theorem dL_law_482 : decode cL_law 482 = .ok (.aload_n 2, 1) := by decide +kernel
theorem dL_law_483 : decode cL_law 483 = .ok (.aload_n 0, 1) := by decide +kernel
theorem dL_law_484 : decode cL_law 484 = .ok (.iload_n 3, 1) := by decide +kernel
theorem dL_law_485 : decode cL_law 485 = .ok (.iconst 1, 1) := by decide +kernel
theorem dL_law_486 : decode cL_law 486 = .ok (.iadd, 1) := by decide +kernel
theorem dL_law_487 : decode cL_law 487 = .ok (.iaload, 1) := by decide +kernel
theorem dL_law_488 : decode cL_law 488 = .ok (.invokevirtual 57, 3) := by decide +kernel
theorem dL_law_491 : decode cL_law 491 = .ok (.if_icmp .eq 541, 3) := by decide +kernel
theorem dL_law_494 : decode cL_law 494 = .ok (.iconst 0, 1) := by decide +kernel
theorem dL_law_495 : decode cL_law 495 = .ok (.ireturn, 1) := by decide +kernel
theorem dL_law_496 : decode cL_law 496 = .ok (.aload_n 1, 1) := by decide +kernel
theorem dL_law_497 : decode cL_law 497 = .ok (.aload_n 0, 1) := by decide +kernel
theorem dL_law_498 : decode cL_law 498 = .ok (.iload_n 3, 1) := by decide +kernel
theorem dL_law_499 : decode cL_law 499 = .ok (.iconst 1, 1) := by decide +kernel
theorem dL_law_500 : decode cL_law 500 = .ok (.iadd, 1) := by decide +kernel
theorem dL_law_501 : decode cL_law 501 = .ok (.iaload, 1) := by decide +kernel
theorem dL_law_502 : decode cL_law 502 = .ok (.invokevirtual 58, 3) := by decide +kernel
theorem dL_law_505 : decode cL_law 505 = .ok (.aload_n 2, 1) := by decide +kernel
theorem dL_law_506 : decode cL_law 506 = .ok (.aload_n 0, 1) := by decide +kernel
theorem dL_law_507 : decode cL_law 507 = .ok (.iload_n 3, 1) := by decide +kernel
theorem dL_law_508 : decode cL_law 508 = .ok (.iconst 1, 1) := by decide +kernel
theorem dL_law_509 : decode cL_law 509 = .ok (.iadd, 1) := by decide +kernel
theorem dL_law_510 : decode cL_law 510 = .ok (.iaload, 1) := by decide +kernel
theorem dL_law_511 : decode cL_law 511 = .ok (.invokevirtual 61, 3) := by decide +kernel
theorem dL_law_514 : decode cL_law 514 = .ok (.if_icmp .eq 518, 3) := by decide +kernel
theorem dL_law_517 : decode cL_law 517 = .ok (.iconst 0, 1) := by decide +kernel
theorem dL_law_518 : decode cL_law 518 = .ok (.ireturn, 1) := by decide +kernel
theorem dL_law_519 : decode cL_law 519 = .ok (.aload_n 1, 1) := by decide +kernel
theorem dL_law_520 : decode cL_law 520 = .ok (.aload_n 0, 1) := by decide +kernel
theorem dL_law_521 : decode cL_law 521 = .ok (.iload_n 3, 1) := by decide +kernel
theorem dL_law_522 : decode cL_law 522 = .ok (.iconst 1, 1) := by decide +kernel
theorem dL_law_523 : decode cL_law 523 = .ok (.iadd, 1) := by decide +kernel
theorem dL_law_524 : decode cL_law 524 = .ok (.iaload, 1) := by decide +kernel
theorem dL_law_525 : decode cL_law 525 = .ok (.aload_n 0, 1) := by decide +kernel
theorem dL_law_526 : decode cL_law 526 = .ok (.iload_n 3, 1) := by decide +kernel
theorem dL_law_527 : decode cL_law 527 = .ok (.iconst 2, 1) := by decide +kernel
theorem dL_law_528 : decode cL_law 528 = .ok (.iadd, 1) := by decide +kernel
theorem dL_law_529 : decode cL_law 529 = .ok (.iaload, 1) := by decide +kernel
theorem dL_law_530 : decode cL_law 530 = .ok (.invokevirtual 62, 3) := by decide +kernel
theorem dL_law_533 : decode cL_law 533 = .ok (.aload_n 2, 1) := by decide +kernel
theorem dL_law_534 : decode cL_law 534 = .ok (.aload_n 0, 1) := by decide +kernel
theorem dL_law_535 : decode cL_law 535 = .ok (.iload_n 3, 1) := by decide +kernel
theorem dL_law_536 : decode cL_law 536 = .ok (.iconst 1, 1) := by decide +kernel
theorem dL_law_537 : decode cL_law 537 = .ok (.iadd, 1) := by decide +kernel
theorem dL_law_538 : decode cL_law 538 = .ok (.iaload, 1) := by decide +kernel
theorem dL_law_539 : decode cL_law 539 = .ok (.aload_n 0, 1) := by decide +kernel
theorem dL_law_540 : decode cL_law 540 = .ok (.iload_n 3, 1) := by decide +kernel
theorem dL_law_541 : decode cL_law 541 = .ok (.iconst 2, 1) := by decide +kernel
theorem dL_law_542 : decode cL_law 542 = .ok (.iadd, 1) := by decide +kernel
theorem dL_law_543 : decode cL_law 543 = .ok (.iaload, 1) := by decide +kernel
theorem dL_law_544 : decode cL_law 544 = .ok (.invokevirtual 65, 3) := by decide +kernel
theorem dL_law_547 : decode cL_law 547 = .ok (.if_icmp .eq 485, 3) := by decide +kernel
theorem dL_law_550 : decode cL_law 550 = .ok (.iconst 0, 1) := by decide +kernel
theorem dL_law_551 : decode cL_law 551 = .ok (.ireturn, 1) := by decide +kernel
theorem dL_law_552 : decode cL_law 552 = .ok (.aload_n 1, 1) := by decide +kernel
theorem dL_law_553 : decode cL_law 553 = .ok (.aload_n 0, 1) := by decide +kernel
theorem dL_law_554 : decode cL_law 554 = .ok (.iload_n 3, 1) := by decide +kernel
theorem dL_law_555 : decode cL_law 555 = .ok (.iconst 1, 1) := by decide +kernel
theorem dL_law_556 : decode cL_law 556 = .ok (.iadd, 1) := by decide +kernel
theorem dL_law_557 : decode cL_law 557 = .ok (.iaload, 1) := by decide +kernel
theorem dL_law_558 : decode cL_law 558 = .ok (.aload_n 0, 1) := by decide +kernel
theorem dL_law_559 : decode cL_law 559 = .ok (.iload_n 3, 1) := by decide +kernel
theorem dL_law_560 : decode cL_law 560 = .ok (.iconst 2, 1) := by decide +kernel
theorem dL_law_561 : decode cL_law 561 = .ok (.iadd, 1) := by decide +kernel
theorem dL_law_562 : decode cL_law 562 = .ok (.iaload, 1) := by decide +kernel
theorem dL_law_563 : decode cL_law 563 = .ok (.invokevirtual 66, 3) := by decide +kernel
theorem dL_law_566 : decode cL_law 566 = .ok (.aload_n 2, 1) := by decide +kernel
theorem dL_law_567 : decode cL_law 567 = .ok (.aload_n 0, 1) := by decide +kernel
theorem dL_law_568 : decode cL_law 568 = .ok (.iload_n 3, 1) := by decide +kernel
theorem dL_law_569 : decode cL_law 569 = .ok (.iconst 1, 1) := by decide +kernel
theorem dL_law_570 : decode cL_law 570 = .ok (.iadd, 1) := by decide +kernel
theorem dL_law_571 : decode cL_law 571 = .ok (.iaload, 1) := by decide +kernel
theorem dL_law_572 : decode cL_law 572 = .ok (.aload_n 0, 1) := by decide +kernel
theorem dL_law_573 : decode cL_law 573 = .ok (.iload_n 3, 1) := by decide +kernel
theorem dL_law_574 : decode cL_law 574 = .ok (.iconst 2, 1) := by decide +kernel
theorem dL_law_575 : decode cL_law 575 = .ok (.iadd, 1) := by decide +kernel
theorem dL_law_576 : decode cL_law 576 = .ok (.iaload, 1) := by decide +kernel
theorem dL_law_577 : decode cL_law 577 = .ok (.invokevirtual 69, 3) := by decide +kernel
theorem dL_law_580 : decode cL_law 580 = .ok (.if_icmp .eq 452, 3) := by decide +kernel
theorem dL_law_583 : decode cL_law 583 = .ok (.iconst 0, 1) := by decide +kernel
theorem dL_law_584 : decode cL_law 584 = .ok (.ireturn, 1) := by decide +kernel
theorem dL_law_585 : decode cL_law 585 = .ok (.aload_n 1, 1) := by decide +kernel
theorem dL_law_586 : decode cL_law 586 = .ok (.aload_n 0, 1) := by decide +kernel
theorem dL_law_587 : decode cL_law 587 = .ok (.iload_n 3, 1) := by decide +kernel
theorem dL_law_588 : decode cL_law 588 = .ok (.iconst 1, 1) := by decide +kernel
theorem dL_law_589 : decode cL_law 589 = .ok (.iadd, 1) := by decide +kernel
theorem dL_law_590 : decode cL_law 590 = .ok (.iaload, 1) := by decide +kernel
theorem dL_law_591 : decode cL_law 591 = .ok (.invokevirtual 70, 3) := by decide +kernel
theorem dL_law_594 : decode cL_law 594 = .ok (.aload_n 2, 1) := by decide +kernel
theorem dL_law_595 : decode cL_law 595 = .ok (.aload_n 0, 1) := by decide +kernel
theorem dL_law_596 : decode cL_law 596 = .ok (.iload_n 3, 1) := by decide +kernel
theorem dL_law_597 : decode cL_law 597 = .ok (.iconst 1, 1) := by decide +kernel
theorem dL_law_598 : decode cL_law 598 = .ok (.iadd, 1) := by decide +kernel
theorem dL_law_599 : decode cL_law 599 = .ok (.iaload, 1) := by decide +kernel
theorem dL_law_600 : decode cL_law 600 = .ok (.invokevirtual 73, 3) := by decide +kernel
theorem dL_law_603 : decode cL_law 603 = .ok (.if_icmp .eq 429, 3) := by decide +kernel
theorem dL_law_606 : decode cL_law 606 = .ok (.iconst 0, 1) := by decide +kernel
theorem dL_law_607 : decode cL_law 607 = .ok (.ireturn, 1) := by decide +kernel
theorem dL_law_608 : decode cL_law 608 = .ok (.aload_n 1, 1) := by decide +kernel
theorem dL_law_609 : decode cL_law 609 = .ok (.aload_n 0, 1) := by decide +kernel
theorem dL_law_610 : decode cL_law 610 = .ok (.iload_n 3, 1) := by decide +kernel
theorem dL_law_611 : decode cL_law 611 = .ok (.iconst 1, 1) := by decide +kernel
theorem dL_law_612 : decode cL_law 612 = .ok (.iadd, 1) := by decide +kernel
theorem dL_law_613 : decode cL_law 613 = .ok (.iaload, 1) := by decide +kernel
theorem dL_law_614 : decode cL_law 614 = .ok (.invokevirtual 74, 3) := by decide +kernel
theorem dL_law_617 : decode cL_law 617 = .ok (.aload_n 2, 1) := by decide +kernel
theorem dL_law_618 : decode cL_law 618 = .ok (.aload_n 0, 1) := by decide +kernel
theorem dL_law_619 : decode cL_law 619 = .ok (.iload_n 3, 1) := by decide +kernel
theorem dL_law_620 : decode cL_law 620 = .ok (.iconst 1, 1) := by decide +kernel
theorem dL_law_621 : decode cL_law 621 = .ok (.iadd, 1) := by decide +kernel
theorem dL_law_622 : decode cL_law 622 = .ok (.iaload, 1) := by decide +kernel
theorem dL_law_623 : decode cL_law 623 = .ok (.invokevirtual 78, 3) := by decide +kernel
theorem dL_law_626 : decode cL_law 626 = .ok (.lcmp, 1) := by decide +kernel
theorem dL_law_627 : decode cL_law 627 = .ok (.ifCond .eq 405, 3) := by decide +kernel
theorem dL_law_630 : decode cL_law 630 = .ok (.iconst 0, 1) := by decide +kernel
theorem dL_law_631 : decode cL_law 631 = .ok (.ireturn, 1) := by decide +kernel
theorem dL_law_632 : decode cL_law 632 = .ok (.aload_n 1, 1) := by decide +kernel
theorem dL_law_633 : decode cL_law 633 = .ok (.aload_n 0, 1) := by decide +kernel
theorem dL_law_634 : decode cL_law 634 = .ok (.iload_n 3, 1) := by decide +kernel
theorem dL_law_635 : decode cL_law 635 = .ok (.iconst 1, 1) := by decide +kernel
theorem dL_law_636 : decode cL_law 636 = .ok (.iadd, 1) := by decide +kernel
theorem dL_law_637 : decode cL_law 637 = .ok (.iaload, 1) := by decide +kernel
theorem dL_law_638 : decode cL_law 638 = .ok (.aload_n 0, 1) := by decide +kernel
theorem dL_law_639 : decode cL_law 639 = .ok (.iload_n 3, 1) := by decide +kernel
theorem dL_law_640 : decode cL_law 640 = .ok (.iconst 2, 1) := by decide +kernel
theorem dL_law_641 : decode cL_law 641 = .ok (.iadd, 1) := by decide +kernel
theorem dL_law_642 : decode cL_law 642 = .ok (.iaload, 1) := by decide +kernel
theorem dL_law_643 : decode cL_law 643 = .ok (.aload_n 0, 1) := by decide +kernel
theorem dL_law_644 : decode cL_law 644 = .ok (.iload_n 3, 1) := by decide +kernel
theorem dL_law_645 : decode cL_law 645 = .ok (.iconst 3, 1) := by decide +kernel
theorem dL_law_646 : decode cL_law 646 = .ok (.iadd, 1) := by decide +kernel
theorem dL_law_647 : decode cL_law 647 = .ok (.iaload, 1) := by decide +kernel
theorem dL_law_648 : decode cL_law 648 = .ok (.invokevirtual 79, 3) := by decide +kernel
theorem dL_law_651 : decode cL_law 651 = .ok (.aload_n 2, 1) := by decide +kernel
theorem dL_law_652 : decode cL_law 652 = .ok (.aload_n 0, 1) := by decide +kernel
theorem dL_law_653 : decode cL_law 653 = .ok (.iload_n 3, 1) := by decide +kernel
theorem dL_law_654 : decode cL_law 654 = .ok (.iconst 1, 1) := by decide +kernel
theorem dL_law_655 : decode cL_law 655 = .ok (.iadd, 1) := by decide +kernel
theorem dL_law_656 : decode cL_law 656 = .ok (.iaload, 1) := by decide +kernel
theorem dL_law_657 : decode cL_law 657 = .ok (.aload_n 0, 1) := by decide +kernel
theorem dL_law_658 : decode cL_law 658 = .ok (.iload_n 3, 1) := by decide +kernel
theorem dL_law_659 : decode cL_law 659 = .ok (.iconst 2, 1) := by decide +kernel
theorem dL_law_660 : decode cL_law 660 = .ok (.iadd, 1) := by decide +kernel
theorem dL_law_661 : decode cL_law 661 = .ok (.iaload, 1) := by decide +kernel
theorem dL_law_662 : decode cL_law 662 = .ok (.aload_n 0, 1) := by decide +kernel
theorem dL_law_663 : decode cL_law 663 = .ok (.iload_n 3, 1) := by decide +kernel
theorem dL_law_664 : decode cL_law 664 = .ok (.iconst 3, 1) := by decide +kernel
theorem dL_law_665 : decode cL_law 665 = .ok (.iadd, 1) := by decide +kernel
theorem dL_law_666 : decode cL_law 666 = .ok (.iaload, 1) := by decide +kernel
theorem dL_law_667 : decode cL_law 667 = .ok (.invokevirtual 83, 3) := by decide +kernel
theorem dL_law_670 : decode cL_law 670 = .ok (.if_icmp .eq 362, 3) := by decide +kernel
theorem dL_law_673 : decode cL_law 673 = .ok (.iconst 0, 1) := by decide +kernel
theorem dL_law_674 : decode cL_law 674 = .ok (.ireturn, 1) := by decide +kernel
theorem dL_law_675 : decode cL_law 675 = .ok (.aload_n 1, 1) := by decide +kernel
theorem dL_law_676 : decode cL_law 676 = .ok (.invokevirtual 84, 3) := by decide +kernel
theorem dL_law_679 : decode cL_law 679 = .ok (.aload_n 2, 1) := by decide +kernel
theorem dL_law_680 : decode cL_law 680 = .ok (.invokevirtual 87, 3) := by decide +kernel
theorem dL_law_683 : decode cL_law 683 = .ok (.if_icmp .eq 349, 3) := by decide +kernel
theorem dL_law_686 : decode cL_law 686 = .ok (.iconst 0, 1) := by decide +kernel
theorem dL_law_687 : decode cL_law 687 = .ok (.ireturn, 1) := by decide +kernel
theorem dL_law_688 : decode cL_law 688 = .ok (.aload_n 1, 1) := by decide +kernel
theorem dL_law_689 : decode cL_law 689 = .ok (.aload_n 0, 1) := by decide +kernel
theorem dL_law_690 : decode cL_law 690 = .ok (.iload_n 3, 1) := by decide +kernel
theorem dL_law_691 : decode cL_law 691 = .ok (.iconst 1, 1) := by decide +kernel
theorem dL_law_692 : decode cL_law 692 = .ok (.iadd, 1) := by decide +kernel
theorem dL_law_693 : decode cL_law 693 = .ok (.iaload, 1) := by decide +kernel
theorem dL_law_694 : decode cL_law 694 = .ok (.aload_n 0, 1) := by decide +kernel
theorem dL_law_695 : decode cL_law 695 = .ok (.iload_n 3, 1) := by decide +kernel
theorem dL_law_696 : decode cL_law 696 = .ok (.iconst 2, 1) := by decide +kernel
theorem dL_law_697 : decode cL_law 697 = .ok (.iadd, 1) := by decide +kernel
theorem dL_law_698 : decode cL_law 698 = .ok (.iaload, 1) := by decide +kernel
theorem dL_law_699 : decode cL_law 699 = .ok (.aload_n 0, 1) := by decide +kernel
theorem dL_law_700 : decode cL_law 700 = .ok (.iload_n 3, 1) := by decide +kernel
theorem dL_law_701 : decode cL_law 701 = .ok (.iconst 3, 1) := by decide +kernel
theorem dL_law_702 : decode cL_law 702 = .ok (.iadd, 1) := by decide +kernel
theorem dL_law_703 : decode cL_law 703 = .ok (.iaload, 1) := by decide +kernel
theorem dL_law_704 : decode cL_law 704 = .ok (.invokevirtual 88, 3) := by decide +kernel
theorem dL_law_707 : decode cL_law 707 = .ok (.aload_n 2, 1) := by decide +kernel
theorem dL_law_708 : decode cL_law 708 = .ok (.aload_n 0, 1) := by decide +kernel
theorem dL_law_709 : decode cL_law 709 = .ok (.iload_n 3, 1) := by decide +kernel
theorem dL_law_710 : decode cL_law 710 = .ok (.iconst 1, 1) := by decide +kernel
theorem dL_law_711 : decode cL_law 711 = .ok (.iadd, 1) := by decide +kernel
theorem dL_law_712 : decode cL_law 712 = .ok (.iaload, 1) := by decide +kernel
theorem dL_law_713 : decode cL_law 713 = .ok (.aload_n 0, 1) := by decide +kernel
theorem dL_law_714 : decode cL_law 714 = .ok (.iload_n 3, 1) := by decide +kernel
theorem dL_law_715 : decode cL_law 715 = .ok (.iconst 2, 1) := by decide +kernel
theorem dL_law_716 : decode cL_law 716 = .ok (.iadd, 1) := by decide +kernel
theorem dL_law_717 : decode cL_law 717 = .ok (.iaload, 1) := by decide +kernel
theorem dL_law_718 : decode cL_law 718 = .ok (.aload_n 0, 1) := by decide +kernel
theorem dL_law_719 : decode cL_law 719 = .ok (.iload_n 3, 1) := by decide +kernel
theorem dL_law_720 : decode cL_law 720 = .ok (.iconst 3, 1) := by decide +kernel
theorem dL_law_721 : decode cL_law 721 = .ok (.iadd, 1) := by decide +kernel
theorem dL_law_722 : decode cL_law 722 = .ok (.iaload, 1) := by decide +kernel
theorem dL_law_723 : decode cL_law 723 = .ok (.invokevirtual 91, 3) := by decide +kernel
theorem dL_law_726 : decode cL_law 726 = .ok (.if_icmp .eq 306, 3) := by decide +kernel
theorem dL_law_729 : decode cL_law 729 = .ok (.iconst 0, 1) := by decide +kernel
theorem dL_law_730 : decode cL_law 730 = .ok (.ireturn, 1) := by decide +kernel
theorem dL_law_731 : decode cL_law 731 = .ok (.aload_n 1, 1) := by decide +kernel
theorem dL_law_732 : decode cL_law 732 = .ok (.aload_n 0, 1) := by decide +kernel
theorem dL_law_733 : decode cL_law 733 = .ok (.iload_n 3, 1) := by decide +kernel
theorem dL_law_734 : decode cL_law 734 = .ok (.iconst 1, 1) := by decide +kernel
theorem dL_law_735 : decode cL_law 735 = .ok (.iadd, 1) := by decide +kernel
theorem dL_law_736 : decode cL_law 736 = .ok (.iaload, 1) := by decide +kernel
theorem dL_law_737 : decode cL_law 737 = .ok (.invokevirtual 92, 3) := by decide +kernel
theorem dL_law_740 : decode cL_law 740 = .ok (.aload_n 2, 1) := by decide +kernel
theorem dL_law_741 : decode cL_law 741 = .ok (.aload_n 0, 1) := by decide +kernel
theorem dL_law_742 : decode cL_law 742 = .ok (.iload_n 3, 1) := by decide +kernel
theorem dL_law_743 : decode cL_law 743 = .ok (.iconst 1, 1) := by decide +kernel
theorem dL_law_744 : decode cL_law 744 = .ok (.iadd, 1) := by decide +kernel
theorem dL_law_745 : decode cL_law 745 = .ok (.iaload, 1) := by decide +kernel
theorem dL_law_746 : decode cL_law 746 = .ok (.invokevirtual 95, 3) := by decide +kernel
theorem dL_law_749 : decode cL_law 749 = .ok (.if_icmp .eq 283, 3) := by decide +kernel
theorem dL_law_752 : decode cL_law 752 = .ok (.iconst 0, 1) := by decide +kernel
theorem dL_law_753 : decode cL_law 753 = .ok (.ireturn, 1) := by decide +kernel
theorem dL_law_754 : decode cL_law 754 = .ok (.aload_n 1, 1) := by decide +kernel
theorem dL_law_755 : decode cL_law 755 = .ok (.aload_n 0, 1) := by decide +kernel
theorem dL_law_756 : decode cL_law 756 = .ok (.iload_n 3, 1) := by decide +kernel
theorem dL_law_757 : decode cL_law 757 = .ok (.iconst 1, 1) := by decide +kernel
theorem dL_law_758 : decode cL_law 758 = .ok (.iadd, 1) := by decide +kernel
theorem dL_law_759 : decode cL_law 759 = .ok (.iaload, 1) := by decide +kernel
theorem dL_law_760 : decode cL_law 760 = .ok (.aload_n 0, 1) := by decide +kernel
theorem dL_law_761 : decode cL_law 761 = .ok (.iload_n 3, 1) := by decide +kernel
theorem dL_law_762 : decode cL_law 762 = .ok (.iconst 2, 1) := by decide +kernel
theorem dL_law_763 : decode cL_law 763 = .ok (.iadd, 1) := by decide +kernel
theorem dL_law_764 : decode cL_law 764 = .ok (.iaload, 1) := by decide +kernel
theorem dL_law_765 : decode cL_law 765 = .ok (.aload_n 0, 1) := by decide +kernel
theorem dL_law_766 : decode cL_law 766 = .ok (.iload_n 3, 1) := by decide +kernel
theorem dL_law_767 : decode cL_law 767 = .ok (.iconst 3, 1) := by decide +kernel
theorem dL_law_768 : decode cL_law 768 = .ok (.iadd, 1) := by decide +kernel
theorem dL_law_769 : decode cL_law 769 = .ok (.iaload, 1) := by decide +kernel
theorem dL_law_770 : decode cL_law 770 = .ok (.invokevirtual 96, 3) := by decide +kernel
theorem dL_law_773 : decode cL_law 773 = .ok (.aload_n 2, 1) := by decide +kernel
theorem dL_law_774 : decode cL_law 774 = .ok (.aload_n 0, 1) := by decide +kernel
theorem dL_law_775 : decode cL_law 775 = .ok (.iload_n 3, 1) := by decide +kernel
theorem dL_law_776 : decode cL_law 776 = .ok (.iconst 1, 1) := by decide +kernel
theorem dL_law_777 : decode cL_law 777 = .ok (.iadd, 1) := by decide +kernel
theorem dL_law_778 : decode cL_law 778 = .ok (.iaload, 1) := by decide +kernel
theorem dL_law_779 : decode cL_law 779 = .ok (.aload_n 0, 1) := by decide +kernel
theorem dL_law_780 : decode cL_law 780 = .ok (.iload_n 3, 1) := by decide +kernel
theorem dL_law_781 : decode cL_law 781 = .ok (.iconst 2, 1) := by decide +kernel
theorem dL_law_782 : decode cL_law 782 = .ok (.iadd, 1) := by decide +kernel
theorem dL_law_783 : decode cL_law 783 = .ok (.iaload, 1) := by decide +kernel
theorem dL_law_784 : decode cL_law 784 = .ok (.aload_n 0, 1) := by decide +kernel
theorem dL_law_785 : decode cL_law 785 = .ok (.iload_n 3, 1) := by decide +kernel
theorem dL_law_786 : decode cL_law 786 = .ok (.iconst 3, 1) := by decide +kernel
theorem dL_law_787 : decode cL_law 787 = .ok (.iadd, 1) := by decide +kernel
theorem dL_law_788 : decode cL_law 788 = .ok (.iaload, 1) := by decide +kernel
theorem dL_law_789 : decode cL_law 789 = .ok (.invokevirtual 99, 3) := by decide +kernel
theorem dL_law_792 : decode cL_law 792 = .ok (.if_icmp .eq 240, 3) := by decide +kernel
theorem dL_law_795 : decode cL_law 795 = .ok (.iconst 0, 1) := by decide +kernel
theorem dL_law_796 : decode cL_law 796 = .ok (.ireturn, 1) := by decide +kernel
theorem dL_law_797 : decode cL_law 797 = .ok (.aload_n 1, 1) := by decide +kernel
theorem dL_law_798 : decode cL_law 798 = .ok (.aload_n 0, 1) := by decide +kernel
theorem dL_law_799 : decode cL_law 799 = .ok (.iload_n 3, 1) := by decide +kernel
theorem dL_law_800 : decode cL_law 800 = .ok (.iconst 1, 1) := by decide +kernel
theorem dL_law_801 : decode cL_law 801 = .ok (.iadd, 1) := by decide +kernel
theorem dL_law_802 : decode cL_law 802 = .ok (.iaload, 1) := by decide +kernel
theorem dL_law_803 : decode cL_law 803 = .ok (.aload_n 0, 1) := by decide +kernel
theorem dL_law_804 : decode cL_law 804 = .ok (.iload_n 3, 1) := by decide +kernel
theorem dL_law_805 : decode cL_law 805 = .ok (.iconst 2, 1) := by decide +kernel
theorem dL_law_806 : decode cL_law 806 = .ok (.iadd, 1) := by decide +kernel
theorem dL_law_807 : decode cL_law 807 = .ok (.iaload, 1) := by decide +kernel
theorem dL_law_808 : decode cL_law 808 = .ok (.aload_n 0, 1) := by decide +kernel
theorem dL_law_809 : decode cL_law 809 = .ok (.iload_n 3, 1) := by decide +kernel
theorem dL_law_810 : decode cL_law 810 = .ok (.iconst 3, 1) := by decide +kernel
theorem dL_law_811 : decode cL_law 811 = .ok (.iadd, 1) := by decide +kernel
theorem dL_law_812 : decode cL_law 812 = .ok (.iaload, 1) := by decide +kernel
theorem dL_law_813 : decode cL_law 813 = .ok (.invokevirtual 100, 3) := by decide +kernel
theorem dL_law_816 : decode cL_law 816 = .ok (.aload_n 2, 1) := by decide +kernel
theorem dL_law_817 : decode cL_law 817 = .ok (.aload_n 0, 1) := by decide +kernel
theorem dL_law_818 : decode cL_law 818 = .ok (.iload_n 3, 1) := by decide +kernel
theorem dL_law_819 : decode cL_law 819 = .ok (.iconst 1, 1) := by decide +kernel
theorem dL_law_820 : decode cL_law 820 = .ok (.iadd, 1) := by decide +kernel
theorem dL_law_821 : decode cL_law 821 = .ok (.iaload, 1) := by decide +kernel
theorem dL_law_822 : decode cL_law 822 = .ok (.aload_n 0, 1) := by decide +kernel
theorem dL_law_823 : decode cL_law 823 = .ok (.iload_n 3, 1) := by decide +kernel
theorem dL_law_824 : decode cL_law 824 = .ok (.iconst 2, 1) := by decide +kernel
theorem dL_law_825 : decode cL_law 825 = .ok (.iadd, 1) := by decide +kernel
theorem dL_law_826 : decode cL_law 826 = .ok (.iaload, 1) := by decide +kernel
theorem dL_law_827 : decode cL_law 827 = .ok (.aload_n 0, 1) := by decide +kernel
theorem dL_law_828 : decode cL_law 828 = .ok (.iload_n 3, 1) := by decide +kernel
theorem dL_law_829 : decode cL_law 829 = .ok (.iconst 3, 1) := by decide +kernel
theorem dL_law_830 : decode cL_law 830 = .ok (.iadd, 1) := by decide +kernel
theorem dL_law_831 : decode cL_law 831 = .ok (.iaload, 1) := by decide +kernel
theorem dL_law_832 : decode cL_law 832 = .ok (.invokevirtual 104, 3) := by decide +kernel
theorem dL_law_835 : decode cL_law 835 = .ok (.lcmp, 1) := by decide +kernel
theorem dL_law_836 : decode cL_law 836 = .ok (.ifCond .eq 196, 3) := by decide +kernel
theorem dL_law_839 : decode cL_law 839 = .ok (.iconst 0, 1) := by decide +kernel
theorem dL_law_840 : decode cL_law 840 = .ok (.ireturn, 1) := by decide +kernel
theorem dL_law_841 : decode cL_law 841 = .ok (.aload_n 1, 1) := by decide +kernel
theorem dL_law_842 : decode cL_law 842 = .ok (.aload_n 0, 1) := by decide +kernel
theorem dL_law_843 : decode cL_law 843 = .ok (.iload_n 3, 1) := by decide +kernel
theorem dL_law_844 : decode cL_law 844 = .ok (.iconst 1, 1) := by decide +kernel
theorem dL_law_845 : decode cL_law 845 = .ok (.iadd, 1) := by decide +kernel
theorem dL_law_846 : decode cL_law 846 = .ok (.iaload, 1) := by decide +kernel
theorem dL_law_847 : decode cL_law 847 = .ok (.aload_n 0, 1) := by decide +kernel
theorem dL_law_848 : decode cL_law 848 = .ok (.iload_n 3, 1) := by decide +kernel
theorem dL_law_849 : decode cL_law 849 = .ok (.iconst 2, 1) := by decide +kernel
theorem dL_law_850 : decode cL_law 850 = .ok (.iadd, 1) := by decide +kernel
theorem dL_law_851 : decode cL_law 851 = .ok (.iaload, 1) := by decide +kernel
theorem dL_law_852 : decode cL_law 852 = .ok (.aload_n 0, 1) := by decide +kernel
theorem dL_law_853 : decode cL_law 853 = .ok (.iload_n 3, 1) := by decide +kernel
theorem dL_law_854 : decode cL_law 854 = .ok (.iconst 3, 1) := by decide +kernel
theorem dL_law_855 : decode cL_law 855 = .ok (.iadd, 1) := by decide +kernel
theorem dL_law_856 : decode cL_law 856 = .ok (.iaload, 1) := by decide +kernel
theorem dL_law_857 : decode cL_law 857 = .ok (.aload_n 0, 1) := by decide +kernel
theorem dL_law_858 : decode cL_law 858 = .ok (.iload_n 3, 1) := by decide +kernel
theorem dL_law_859 : decode cL_law 859 = .ok (.iconst 4, 1) := by decide +kernel
theorem dL_law_860 : decode cL_law 860 = .ok (.iadd, 1) := by decide +kernel
theorem dL_law_861 : decode cL_law 861 = .ok (.iaload, 1) := by decide +kernel
theorem dL_law_862 : decode cL_law 862 = .ok (.aload_n 0, 1) := by decide +kernel
theorem dL_law_863 : decode cL_law 863 = .ok (.iload_n 3, 1) := by decide +kernel
theorem dL_law_864 : decode cL_law 864 = .ok (.iconst 5, 1) := by decide +kernel
theorem dL_law_865 : decode cL_law 865 = .ok (.iadd, 1) := by decide +kernel
theorem dL_law_866 : decode cL_law 866 = .ok (.iaload, 1) := by decide +kernel
theorem dL_law_867 : decode cL_law 867 = .ok (.invokevirtual 105, 3) := by decide +kernel
theorem dL_law_870 : decode cL_law 870 = .ok (.aload_n 2, 1) := by decide +kernel
theorem dL_law_871 : decode cL_law 871 = .ok (.aload_n 0, 1) := by decide +kernel
theorem dL_law_872 : decode cL_law 872 = .ok (.iload_n 3, 1) := by decide +kernel
theorem dL_law_873 : decode cL_law 873 = .ok (.iconst 1, 1) := by decide +kernel
theorem dL_law_874 : decode cL_law 874 = .ok (.iadd, 1) := by decide +kernel
theorem dL_law_875 : decode cL_law 875 = .ok (.iaload, 1) := by decide +kernel
theorem dL_law_876 : decode cL_law 876 = .ok (.aload_n 0, 1) := by decide +kernel
theorem dL_law_877 : decode cL_law 877 = .ok (.iload_n 3, 1) := by decide +kernel
theorem dL_law_878 : decode cL_law 878 = .ok (.iconst 2, 1) := by decide +kernel
theorem dL_law_879 : decode cL_law 879 = .ok (.iadd, 1) := by decide +kernel
theorem dL_law_880 : decode cL_law 880 = .ok (.iaload, 1) := by decide +kernel
theorem dL_law_881 : decode cL_law 881 = .ok (.aload_n 0, 1) := by decide +kernel
theorem dL_law_882 : decode cL_law 882 = .ok (.iload_n 3, 1) := by decide +kernel
theorem dL_law_883 : decode cL_law 883 = .ok (.iconst 3, 1) := by decide +kernel
theorem dL_law_884 : decode cL_law 884 = .ok (.iadd, 1) := by decide +kernel
theorem dL_law_885 : decode cL_law 885 = .ok (.iaload, 1) := by decide +kernel
theorem dL_law_886 : decode cL_law 886 = .ok (.aload_n 0, 1) := by decide +kernel
theorem dL_law_887 : decode cL_law 887 = .ok (.iload_n 3, 1) := by decide +kernel
theorem dL_law_888 : decode cL_law 888 = .ok (.iconst 4, 1) := by decide +kernel
theorem dL_law_889 : decode cL_law 889 = .ok (.iadd, 1) := by decide +kernel
theorem dL_law_890 : decode cL_law 890 = .ok (.iaload, 1) := by decide +kernel
theorem dL_law_891 : decode cL_law 891 = .ok (.aload_n 0, 1) := by decide +kernel
theorem dL_law_892 : decode cL_law 892 = .ok (.iload_n 3, 1) := by decide +kernel
theorem dL_law_893 : decode cL_law 893 = .ok (.iconst 5, 1) := by decide +kernel
theorem dL_law_894 : decode cL_law 894 = .ok (.iadd, 1) := by decide +kernel
theorem dL_law_895 : decode cL_law 895 = .ok (.iaload, 1) := by decide +kernel
theorem dL_law_896 : decode cL_law 896 = .ok (.invokevirtual 109, 3) := by decide +kernel
theorem dL_law_899 : decode cL_law 899 = .ok (.if_icmp .eq 133, 3) := by decide +kernel
theorem dL_law_902 : decode cL_law 902 = .ok (.iconst 0, 1) := by decide +kernel
theorem dL_law_903 : decode cL_law 903 = .ok (.ireturn, 1) := by decide +kernel
theorem dL_law_904 : decode cL_law 904 = .ok (.aload_n 1, 1) := by decide +kernel
theorem dL_law_905 : decode cL_law 905 = .ok (.aload_n 0, 1) := by decide +kernel
theorem dL_law_906 : decode cL_law 906 = .ok (.iload_n 3, 1) := by decide +kernel
theorem dL_law_907 : decode cL_law 907 = .ok (.iconst 1, 1) := by decide +kernel
theorem dL_law_908 : decode cL_law 908 = .ok (.iadd, 1) := by decide +kernel
theorem dL_law_909 : decode cL_law 909 = .ok (.iaload, 1) := by decide +kernel
theorem dL_law_910 : decode cL_law 910 = .ok (.invokevirtual 110, 3) := by decide +kernel
theorem dL_law_913 : decode cL_law 913 = .ok (.aload_n 2, 1) := by decide +kernel
theorem dL_law_914 : decode cL_law 914 = .ok (.aload_n 0, 1) := by decide +kernel
theorem dL_law_915 : decode cL_law 915 = .ok (.iload_n 3, 1) := by decide +kernel
theorem dL_law_916 : decode cL_law 916 = .ok (.iconst 1, 1) := by decide +kernel
theorem dL_law_917 : decode cL_law 917 = .ok (.iadd, 1) := by decide +kernel
theorem dL_law_918 : decode cL_law 918 = .ok (.iaload, 1) := by decide +kernel
theorem dL_law_919 : decode cL_law 919 = .ok (.invokevirtual 113, 3) := by decide +kernel
theorem dL_law_922 : decode cL_law 922 = .ok (.if_icmp .eq 110, 3) := by decide +kernel
theorem dL_law_925 : decode cL_law 925 = .ok (.iconst 0, 1) := by decide +kernel
theorem dL_law_926 : decode cL_law 926 = .ok (.ireturn, 1) := by decide +kernel
theorem dL_law_927 : decode cL_law 927 = .ok (.aload_n 1, 1) := by decide +kernel
theorem dL_law_928 : decode cL_law 928 = .ok (.aload_n 0, 1) := by decide +kernel
theorem dL_law_929 : decode cL_law 929 = .ok (.iload_n 3, 1) := by decide +kernel
theorem dL_law_930 : decode cL_law 930 = .ok (.iconst 1, 1) := by decide +kernel
theorem dL_law_931 : decode cL_law 931 = .ok (.iadd, 1) := by decide +kernel
theorem dL_law_932 : decode cL_law 932 = .ok (.iaload, 1) := by decide +kernel
theorem dL_law_933 : decode cL_law 933 = .ok (.invokevirtual 114, 3) := by decide +kernel
theorem dL_law_936 : decode cL_law 936 = .ok (.aload_n 2, 1) := by decide +kernel
theorem dL_law_937 : decode cL_law 937 = .ok (.aload_n 0, 1) := by decide +kernel
theorem dL_law_938 : decode cL_law 938 = .ok (.iload_n 3, 1) := by decide +kernel
theorem dL_law_939 : decode cL_law 939 = .ok (.iconst 1, 1) := by decide +kernel
theorem dL_law_940 : decode cL_law 940 = .ok (.iadd, 1) := by decide +kernel
theorem dL_law_941 : decode cL_law 941 = .ok (.iaload, 1) := by decide +kernel
theorem dL_law_942 : decode cL_law 942 = .ok (.invokevirtual 117, 3) := by decide +kernel
theorem dL_law_945 : decode cL_law 945 = .ok (.if_icmp .eq 87, 3) := by decide +kernel
theorem dL_law_948 : decode cL_law 948 = .ok (.iconst 0, 1) := by decide +kernel
theorem dL_law_949 : decode cL_law 949 = .ok (.ireturn, 1) := by decide +kernel
theorem dL_law_950 : decode cL_law 950 = .ok (.aload_n 1, 1) := by decide +kernel
theorem dL_law_951 : decode cL_law 951 = .ok (.aload_n 0, 1) := by decide +kernel
theorem dL_law_952 : decode cL_law 952 = .ok (.iload_n 3, 1) := by decide +kernel
theorem dL_law_953 : decode cL_law 953 = .ok (.iconst 1, 1) := by decide +kernel
theorem dL_law_954 : decode cL_law 954 = .ok (.iadd, 1) := by decide +kernel
theorem dL_law_955 : decode cL_law 955 = .ok (.iaload, 1) := by decide +kernel
theorem dL_law_956 : decode cL_law 956 = .ok (.aload_n 0, 1) := by decide +kernel
theorem dL_law_957 : decode cL_law 957 = .ok (.iload_n 3, 1) := by decide +kernel
theorem dL_law_958 : decode cL_law 958 = .ok (.iconst 2, 1) := by decide +kernel
theorem dL_law_959 : decode cL_law 959 = .ok (.iadd, 1) := by decide +kernel
theorem dL_law_960 : decode cL_law 960 = .ok (.iaload, 1) := by decide +kernel
theorem dL_law_961 : decode cL_law 961 = .ok (.invokevirtual 118, 3) := by decide +kernel
theorem dL_law_964 : decode cL_law 964 = .ok (.aload_n 2, 1) := by decide +kernel
theorem dL_law_965 : decode cL_law 965 = .ok (.aload_n 0, 1) := by decide +kernel
theorem dL_law_966 : decode cL_law 966 = .ok (.iload_n 3, 1) := by decide +kernel
theorem dL_law_967 : decode cL_law 967 = .ok (.iconst 1, 1) := by decide +kernel
theorem dL_law_968 : decode cL_law 968 = .ok (.iadd, 1) := by decide +kernel
theorem dL_law_969 : decode cL_law 969 = .ok (.iaload, 1) := by decide +kernel
theorem dL_law_970 : decode cL_law 970 = .ok (.aload_n 0, 1) := by decide +kernel
theorem dL_law_971 : decode cL_law 971 = .ok (.iload_n 3, 1) := by decide +kernel
theorem dL_law_972 : decode cL_law 972 = .ok (.iconst 2, 1) := by decide +kernel
theorem dL_law_973 : decode cL_law 973 = .ok (.iadd, 1) := by decide +kernel
theorem dL_law_974 : decode cL_law 974 = .ok (.iaload, 1) := by decide +kernel
theorem dL_law_975 : decode cL_law 975 = .ok (.invokevirtual 121, 3) := by decide +kernel
theorem dL_law_978 : decode cL_law 978 = .ok (.if_icmp .eq 54, 3) := by decide +kernel
theorem dL_law_981 : decode cL_law 981 = .ok (.iconst 0, 1) := by decide +kernel
theorem dL_law_982 : decode cL_law 982 = .ok (.ireturn, 1) := by decide +kernel
theorem dL_law_983 : decode cL_law 983 = .ok (.aload_n 1, 1) := by decide +kernel
theorem dL_law_984 : decode cL_law 984 = .ok (.invokevirtual 122, 3) := by decide +kernel
theorem dL_law_987 : decode cL_law 987 = .ok (.aload_n 2, 1) := by decide +kernel
theorem dL_law_988 : decode cL_law 988 = .ok (.invokevirtual 125, 3) := by decide +kernel
theorem dL_law_991 : decode cL_law 991 = .ok (.if_icmp .eq 41, 3) := by decide +kernel
theorem dL_law_994 : decode cL_law 994 = .ok (.iconst 0, 1) := by decide +kernel
theorem dL_law_995 : decode cL_law 995 = .ok (.ireturn, 1) := by decide +kernel
theorem dL_law_996 : decode cL_law 996 = .ok (.aload_n 1, 1) := by decide +kernel
theorem dL_law_997 : decode cL_law 997 = .ok (.invokevirtual 126, 3) := by decide +kernel
theorem dL_law_1000 : decode cL_law 1000 = .ok (.aload_n 2, 1) := by decide +kernel
theorem dL_law_1001 : decode cL_law 1001 = .ok (.invokevirtual 129, 3) := by decide +kernel
theorem dL_law_1004 : decode cL_law 1004 = .ok (.if_icmp .eq 28, 3) := by decide +kernel
theorem dL_law_1007 : decode cL_law 1007 = .ok (.iconst 0, 1) := by decide +kernel
theorem dL_law_1008 : decode cL_law 1008 = .ok (.ireturn, 1) := by decide +kernel
theorem dL_law_1009 : decode cL_law 1009 = .ok (.aload_n 1, 1) := by decide +kernel
theorem dL_law_1010 : decode cL_law 1010 = .ok (.aload_n 0, 1) := by decide +kernel
theorem dL_law_1011 : decode cL_law 1011 = .ok (.iload_n 3, 1) := by decide +kernel
theorem dL_law_1012 : decode cL_law 1012 = .ok (.iconst 1, 1) := by decide +kernel
theorem dL_law_1013 : decode cL_law 1013 = .ok (.iadd, 1) := by decide +kernel
theorem dL_law_1014 : decode cL_law 1014 = .ok (.iaload, 1) := by decide +kernel
theorem dL_law_1015 : decode cL_law 1015 = .ok (.invokevirtual 130, 3) := by decide +kernel
theorem dL_law_1018 : decode cL_law 1018 = .ok (.aload_n 2, 1) := by decide +kernel
theorem dL_law_1019 : decode cL_law 1019 = .ok (.aload_n 0, 1) := by decide +kernel
theorem dL_law_1020 : decode cL_law 1020 = .ok (.iload_n 3, 1) := by decide +kernel
theorem dL_law_1021 : decode cL_law 1021 = .ok (.iconst 1, 1) := by decide +kernel
theorem dL_law_1022 : decode cL_law 1022 = .ok (.iadd, 1) := by decide +kernel
theorem dL_law_1023 : decode cL_law 1023 = .ok (.iaload, 1) := by decide +kernel
theorem dL_law_1024 : decode cL_law 1024 = .ok (.invokevirtual 133, 3) := by decide +kernel
theorem dL_law_1027 : decode cL_law 1027 = .ok (.if_icmp .eq 5, 3) := by decide +kernel
theorem dL_law_1030 : decode cL_law 1030 = .ok (.iconst 0, 1) := by decide +kernel
theorem dL_law_1031 : decode cL_law 1031 = .ok (.ireturn, 1) := by decide +kernel
theorem dL_law_1032 : decode cL_law 1032 = .ok (.iinc 3 6, 3) := by decide +kernel
theorem dL_law_1035 : decode cL_law 1035 = .ok (.goto (-1017), 3) := by decide +kernel
theorem dL_law_1038 : decode cL_law 1038 = .ok (.iconst 1, 1) := by decide +kernel
theorem dL_law_1039 : decode cL_law 1039 = .ok (.ireturn, 1) := by decide +kernel
end
section
/-! ===== the state of both systems as numbers; the world that holds it; the judgement V ===== -/
/-- numbers: a field's by its key (64 * its object + its slot), an array's by its object and place; long fields, long arrays -/
abbrev St : Type := (Nat → Int32) × (Nat → Nat → Int32) × (Nat → Int64) × (Nat → Nat → Int64)
/-- a world: classes and slots; the array classes; the objects' addresses; the address of ORDERS_OF's array -/
abbrev WT : Type := va_G × (Nat → ClassId) × (Nat → Nat) × Nat
/-- where the machine stands: all that stays while a method runs -/
abbrev KT : Type := Program × Launch × Env × Room × State × MethodId × Array Value × List Frame × Method × Code × Nat × Nat × (State → Prop)
/-- the tables' words that hold in every state that a call comes to -/
def tbl : List Cond := lw_tbl.filter goodWord
abbrev NW : Nat := 59
/-- objects: class, and of each field: 0 an int, 1 a long, n + 2 the object n -/
def shpO : Nat → Option (Nat × List Nat)
  | 0 => some (8, [3, 12, 16, 17, 23, 25, 30, 33, 0, 0])
  | 2 => some (6, [8, 0, 0])
  | 3 => some (6, [9, 0, 0])
  | 4 => some (6, [10, 0, 0])
  | 5 => some (6, [11, 0, 0])
  | 10 => some (7, [0, 0, 0, 0, 0, 0, 0, 13, 14, 15])
  | 14 => some (2, [12, 0, 0, 0, 0, 0])
  | 15 => some (0, [12, 16, 18, 19, 20, 21, 22])
  | 21 => some (5, [16, 17, 24, 0, 0, 0])
  | 23 => some (1, [12, 16, 26, 27, 28, 29])
  | 28 => some (4, [12, 16, 31, 0, 32])
  | 31 => some (3, [12, 16, 34, 35, 36, 1, 1])
  | 35 => some (9, [0, 0, 38, 39, 40, 0, 0, 41, 42, 0, 0, 0, 43, 0, 0, 0, 44, 45, 0, 0, 0, 0, 0, 0, 0, 0, 0, 46, 47, 48, 49, 50, 0, 0, 51, 52, 53, 54, 55, 56, 57, 58, 59, 60])
  | _ => none
/-- arrays: kind of their places (0 int, 1 long, 2 boolean, 3 Sheet), length -/
def shpA : Nat → Option (Nat × Nat)
  | 1 => some (3, 4)
  | 6 => some (0, 80)
  | 7 => some (0, 80)
  | 8 => some (0, 80)
  | 9 => some (0, 80)
  | 11 => some (0, 8)
  | 12 => some (0, 6)
  | 13 => some (0, 6)
  | 16 => some (0, 6)
  | 17 => some (0, 6)
  | 18 => some (0, 6)
  | 19 => some (0, 6)
  | 20 => some (0, 6)
  | 22 => some (0, 256)
  | 24 => some (0, 256)
  | 25 => some (0, 256)
  | 26 => some (0, 256)
  | 27 => some (0, 256)
  | 29 => some (0, 6)
  | 30 => some (0, 6)
  | 32 => some (0, 9)
  | 33 => some (1, 9)
  | 34 => some (1, 9)
  | 36 => some (0, 4)
  | 37 => some (0, 4)
  | 38 => some (0, 320)
  | 39 => some (0, 8)
  | 40 => some (0, 8)
  | 41 => some (0, 6)
  | 42 => some (0, 8)
  | 43 => some (0, 8)
  | 44 => some (0, 6)
  | 45 => some (0, 6)
  | 46 => some (0, 6)
  | 47 => some (0, 6)
  | 48 => some (0, 4096)
  | 49 => some (0, 7)
  | 50 => some (2, 7)
  | 51 => some (0, 7)
  | 52 => some (0, 7)
  | 53 => some (0, 7)
  | 54 => some (0, 6)
  | 55 => some (0, 6)
  | 56 => some (0, 6)
  | 57 => some (1, 257)
  | 58 => some (1, 257)
  | _ => none
def fv (ω : WT) (σ : St) (k i : Nat) : Nat → Value
  | 0 => .int (σ.1 (64 * k + i))
  | 1 => .long (σ.2.2.1 (64 * k + i))
  | n + 2 => .ref (ω.2.2.1 n)
def fvs (ω : WT) (σ : St) (k : Nat) (fl : List Nat) : List Value := (List.range fl.length).map (fun i => fv ω σ k i (fl.getD i 0))
def ce (ω : WT) (σ : St) (k : Nat) : va_E := match shpO k with
  | some (ci, fl) => .inr (ci, fvs ω σ k fl)
  | none => match shpA k with
    | some (0, n) => .inl (ω.2.1 0, n, .inl (σ.2.1 k))
    | some (1, n) => .inl (ω.2.1 1, n, .inr (.inl (σ.2.2.2 k)))
    | some (2, n) => .inl (ω.2.1 2, n, .inl (σ.2.1 k))
    | some (_, n) => .inl (ω.2.1 3, n, .inr (.inr (.inr (.inr (fun i => some (ω.2.2.1 (2 + i)))))))
    | none => .inr (0, [])
def wd (ω : WT) (σ : St) : va_W := (List.range NW).map (fun k => (ω.2.2.1 k, ce ω σ k))
def wA (ω : WT) : Nat → Prop := fun q => ∃ k, k < NW ∧ q = ω.2.2.1 k
def Wf (ω : WT) : Prop := ∀ i j, i < NW → j < NW → ω.2.2.1 i = ω.2.2.1 j → i = j
abbrev tysW (ω : WT) : List (ClassId × FieldType) := [(ω.2.1 0, .int), (ω.2.1 1, .long), (ω.2.1 2, .boolean), (ω.2.1 3, .object "WonBySeats$Sheet")]
def Hold (ω : WT) (σ : St) (H : Heap) : Prop := va_P ω.1 vwCl (wd ω σ) H
def facV (j : Nat) : Value := .int (nI (([1, 1, 2, 6, 24, 120, 720] : List Nat).getD j 0))
def Stt (ω : WT) (U : State) (H : Heap) : Prop := va_Z "WonBySeats$Orders" "ORDERS_OF" "[I" (.ref ω.2.2.2) (wA ω) U H ∧ va_T .int ω.2.2.2 7 facV (wA ω) U H
def pS (σ : St) (key : Nat) (v : Int32) : St := (fun j => if j = key then v else σ.1 j, σ.2)
def pA (σ : St) (k i : Nat) (v : Int32) : St := (σ.1, fun j => if j = k then upd (σ.2.1 k) i v else σ.2.1 j, σ.2.2)
def pF (σ : St) (k : Nat) (f : Nat → Int32) : St := (σ.1, fun j => if j = k then f else σ.2.1 j, σ.2.2)
def pL (σ : St) (key : Nat) (v : Int64) : St := (σ.1, σ.2.1, fun j => if j = key then v else σ.2.2.1 j, σ.2.2.2)
def pM (σ : St) (k i : Nat) (v : Int64) : St := (σ.1, σ.2.1, σ.2.2.1, fun j => if j = k then vp_updL (σ.2.2.2 k) i v else σ.2.2.2 j)
def pG (σ : St) (k : Nat) (f : Nat → Int64) : St := (σ.1, σ.2.1, σ.2.2.1, fun j => if j = k then f else σ.2.2.2 j)
/-- the judgement: the machine, at pc with these locals and this stack, the world as σ says, comes to its goal -/
def V (ω : WT) (κ : KT) (pc : Nat) (L : List (Nat × Value)) (S : List Value) (σ : St) : Prop := match κ with
  | (p, l, e, R, s, m, args, below, meth, c, cells, slots, Q) => ∀ (H : Heap) (locs : List Loc) (ls : Array Slot), va_S (wA ω) s.heap H locs → Hold ω σ H → lv_has ls c.maxLocals L → W p l e R s m args below meth c H locs cells slots Q (F0 m pc ls S)
/-- what is known where a method of this code stands -/
def Cx (ω : WT) (κ : KT) (l : Launch) (y : MethodName) (cc : ByteArray) (nL d : Nat) : Prop := match κ with
  | (p, l', _, R, s, m, args, _, _, c, cells, slots, _) => p.tables.exec = Jvm.exec ∧ c.code = cc ∧ c.maxLocals = nL ∧ s.vm.findClass y.cls = some m.cls ∧ (∀ w ∈ tbl, w.before args s = true) ∧ va_K ω.1 vwCl (tysW ω) s ∧ Wf ω ∧ Stt ω s s.heap ∧ l' = l ∧ d ≤ R.frames ∧ 40 * d ≤ R.locals ∧ cells ≤ R.cells ∧ slots ≤ R.slots
abbrev rmD (d : Nat) : Room := { frames := d, cells := 0, slots := 0, locals := 40 * d }
def PB (ω : WT) (σ : St) (U : State) : Prop := Hold ω σ U.heap ∧ va_K ω.1 vwCl (tysW ω) U ∧ Stt ω U U.heap
def QM (ω : WT) (post : Option Value → St → Prop) : Array Value → State → Outcome → State → Prop := fun _ st oc t => (∃ (v : Option Value) (σ' : St), oc = .returned v ∧ post v σ' ∧ Hold ω σ' t.heap) ∧ va_F (wA ω) st t
/-- a method's contract: from the world σ with these arguments it returns, and post holds of its answer and the world behind it -/
def Sp (ω : WT) (l : Launch) (y : MethodName) (cc : ByteArray) (nL : Nat) (ret : Option FieldType) (d : Nat) (as : List Value) (σ : St) (post : Option Value → St → Prop) : Prop :=
  Met l y (.code y cc nL ret :: tbl) (rmD d) (va_Pc as (PB ω σ)) (QM ω post) 0 0 (wA ω)
def Cm (ω : WT) (κ : KT) (l : Launch) (y : MethodName) (cc : ByteArray) (nL d : Nat) (ret : Option FieldType) (post : Option Value → St → Prop) : Prop := Cx ω κ l y cc nL d ∧ match κ with
  | (_, _, _, _, s, _, args, below, meth, _, cells, slots, Q) => meth.sig.returnType = ret ∧ meth.locks = false ∧ Q = MQ below (QM ω post) args s cells slots (wA ω)
theorem tbl_good : GoodIn tbl tbl := fun w hw => ⟨hw, good_of_word (List.mem_filter.mp hw).2⟩
theorem tbl_in {w : Cond} (i : Nat) (h : lw_tbl[i]? = some w) (hg : goodWord w = true) : w ∈ tbl := List.mem_filter.mpr ⟨List.mem_of_getElem? h, hg⟩
theorem shpO_len {k ci : Nat} {fl : List Nat} (h : shpO k = some (ci, fl)) : fl.length ≤ 50 := by
  unfold shpO at h
  split at h <;> first | (cases h; decide) | cases h
theorem wd_at (ω : WT) (σ : St) {k : Nat} (h : k < NW) : (wd ω σ)[k]? = some (ω.2.2.1 k, ce ω σ k) := by
  simp [wd, h]
theorem wd_set {ω : WT} {σ σ' : St} {k : Nat} (e : va_E) (he : ce ω σ' k = e) (ho : ∀ j, j ≠ k → ce ω σ' j = ce ω σ j) : (wd ω σ).set k (ω.2.2.1 k, e) = wd ω σ' := by
  apply List.ext_getElem?
  intro j
  by_cases hj : j = k
  · subst hj
    by_cases hl : j < NW
    · rw [List.getElem?_set_self (by simp [wd, hl]), wd_at _ _ hl, he]
    · rw [List.getElem?_eq_none (by simp [wd]; omega), List.getElem?_eq_none (by simp [wd]; omega)]
  · rw [List.getElem?_set_ne (Ne.symm hj)]
    by_cases hl : j < NW
    · rw [wd_at _ _ hl, wd_at _ _ hl, ho j hj]
    · rw [List.getElem?_eq_none (by simp [wd]; omega), List.getElem?_eq_none (by simp [wd]; omega)]
theorem wd_D {ω : WT} (h : Wf ω) (σ : St) : va_D (wA ω) (wd ω σ) := by
  have key : ∀ (k : Nat) (q : Nat × va_E), (wd ω σ)[k]? = some q → k < NW ∧ q.1 = ω.2.2.1 k := by
    intro k q hq
    have hl : k < NW := by
      have := (List.getElem?_eq_some_iff.mp hq).1
      simpa [wd] using this
    rw [wd_at _ _ hl] at hq
    cases hq
    exact ⟨hl, rfl⟩
  refine ⟨fun i j p q hi hj e => ?_, fun k q hk => ?_⟩
  · obtain ⟨h1, h2⟩ := key i p hi
    obtain ⟨h3, h4⟩ := key j q hj
    exact h i j h1 h3 (by rw [← h2, ← h4]; exact e)
  · obtain ⟨h1, h2⟩ := key k q hk
    exact ⟨k, h1, h2⟩
theorem shpO_lt {k : Nat} {x : Nat × List Nat} (h : shpO k = some x) : k < NW := by
  unfold shpO at h
  split at h <;> first | decide | cases h
theorem shpA_lt {k : Nat} {x : Nat × Nat} (h : shpA k = some x) : k < NW := by
  unfold shpA at h
  split at h <;> first | decide | cases h
theorem shpA_O {k : Nat} {x : Nat × Nat} (h : shpA k = some x) : shpO k = none := by
  unfold shpA at h
  split at h <;> first | rfl | cases h
theorem ce_O {ω : WT} {σ : St} {k ci : Nat} {fl : List Nat} (h : shpO k = some (ci, fl)) : ce ω σ k = .inr (ci, fvs ω σ k fl) := by simp [ce, h]
theorem ce_A0 {ω : WT} {σ : St} {k n : Nat} (h : shpA k = some (0, n)) : ce ω σ k = .inl (ω.2.1 0, n, .inl (σ.2.1 k)) := by simp [ce, shpA_O h, h]
theorem ce_A1 {ω : WT} {σ : St} {k n : Nat} (h : shpA k = some (1, n)) : ce ω σ k = .inl (ω.2.1 1, n, .inr (.inl (σ.2.2.2 k))) := by simp [ce, shpA_O h, h]
theorem ce_A2 {ω : WT} {σ : St} {k n : Nat} (h : shpA k = some (2, n)) : ce ω σ k = .inl (ω.2.1 2, n, .inl (σ.2.1 k)) := by simp [ce, shpA_O h, h]
theorem ce_A3 {ω : WT} {σ : St} {k n : Nat} (h : shpA k = some (3, n)) : ce ω σ k = .inl (ω.2.1 3, n, .inr (.inr (.inr (.inr (fun i => some (ω.2.2.1 (2 + i))))))) := by simp [ce, shpA_O h, h]
theorem fvs_get {ω : WT} {σ : St} {k i c : Nat} {fl : List Nat} (h : fl[i]? = some c) : (fvs ω σ k fl)[i]? = some (fv ω σ k i c) := by
  have hl := (List.getElem?_eq_some_iff.mp h).1
  have e : fl[i] = c := Option.some.inj ((List.getElem?_eq_getElem hl).symm.trans h)
  simp [fvs, hl, e]
theorem fvs_len {ω : WT} {σ : St} {k : Nat} {fl : List Nat} : (fvs ω σ k fl).length = fl.length := by simp [fvs]
theorem fv_cong {ω : WT} {σ σ' : St} {k i : Nat} (h1 : σ'.1 (64 * k + i) = σ.1 (64 * k + i)) (h2 : σ'.2.2.1 (64 * k + i) = σ.2.2.1 (64 * k + i)) (c : Nat) : fv ω σ' k i c = fv ω σ k i c := by
  match c with
  | 0 => simp [fv, h1]
  | 1 => simp [fv, h2]
  | n + 2 => rfl
theorem ce_cong {ω : WT} {σ σ' : St} {k : Nat} (h1 : ∀ i, i < 64 → σ'.1 (64 * k + i) = σ.1 (64 * k + i)) (h2 : ∀ i, i < 64 → σ'.2.2.1 (64 * k + i) = σ.2.2.1 (64 * k + i)) (h3 : σ'.2.1 k = σ.2.1 k) (h4 : σ'.2.2.2 k = σ.2.2.2 k) : ce ω σ' k = ce ω σ k := by
  unfold ce
  split
  · rename_i ci fl h
    have hl := shpO_len h
    congr 2
    unfold fvs
    apply List.map_congr_left
    intro i hi
    have := List.mem_range.mp hi
    exact fv_cong (h1 i (by omega)) (h2 i (by omega)) _
  · rw [h3, h4]
/-- a field's new number -/
theorem wd_pS {ω : WT} {σ : St} {k ci i : Nat} {fl : List Nat} (h : shpO k = some (ci, fl)) (hi : fl[i]? = some 0) (v : Int32) : (wd ω σ).set k (ω.2.2.1 k, .inr (ci, (fvs ω σ k fl).set i (.int v))) = wd ω (pS σ (64 * k + i) v) := by
  have hl := shpO_len h
  have hil := (List.getElem?_eq_some_iff.mp hi).1
  refine wd_set _ ?_ (fun j hj => ce_cong (fun a ha => ?_) (fun _ _ => rfl) rfl rfl)
  · rw [ce_O h]
    congr 2
    apply List.ext_getElem?
    intro j
    by_cases hj : j = i
    · subst hj
      rw [List.getElem?_set_self (by rw [fvs_len]; exact hil), fvs_get hi]
      simp [fv, pS]
    · rw [List.getElem?_set_ne (Ne.symm hj)]
      by_cases hjl : j < fl.length
      · have e : fl[j]? = some fl[j] := List.getElem?_eq_getElem hjl
        rw [fvs_get e, fvs_get e]
        congr 1
        exact fv_cong (σ := σ) (σ' := pS σ (64 * k + i) v) (by simp [pS, hj]) rfl _
      · rw [List.getElem?_eq_none (by rw [fvs_len]; omega), List.getElem?_eq_none (by rw [fvs_len]; omega)]
  · simp only [pS]
    rw [if_neg (by omega)]
theorem wd_pL {ω : WT} {σ : St} {k ci i : Nat} {fl : List Nat} (h : shpO k = some (ci, fl)) (hi : fl[i]? = some 1) (v : Int64) : (wd ω σ).set k (ω.2.2.1 k, .inr (ci, (fvs ω σ k fl).set i (.long v))) = wd ω (pL σ (64 * k + i) v) := by
  have hl := shpO_len h
  have hil := (List.getElem?_eq_some_iff.mp hi).1
  refine wd_set _ ?_ (fun j hj => ce_cong (fun _ _ => rfl) (fun a ha => ?_) rfl rfl)
  · rw [ce_O h]
    congr 2
    apply List.ext_getElem?
    intro j
    by_cases hj : j = i
    · subst hj
      rw [List.getElem?_set_self (by rw [fvs_len]; exact hil), fvs_get hi]
      simp [fv, pL]
    · rw [List.getElem?_set_ne (Ne.symm hj)]
      by_cases hjl : j < fl.length
      · have e : fl[j]? = some fl[j] := List.getElem?_eq_getElem hjl
        rw [fvs_get e, fvs_get e]
        congr 1
        exact fv_cong (σ := σ) (σ' := pL σ (64 * k + i) v) rfl (by simp [pL, hj]) _
      · rw [List.getElem?_eq_none (by rw [fvs_len]; omega), List.getElem?_eq_none (by rw [fvs_len]; omega)]
  · simp only [pL]
    rw [if_neg (by omega)]
theorem wd_pF {ω : WT} {σ : St} {k n : Nat} (h : shpA k = some (0, n)) (f : Nat → Int32) : (wd ω σ).set k (ω.2.2.1 k, .inl (ω.2.1 0, n, .inl f)) = wd ω (pF σ k f) := by
  refine wd_set _ ?_ (fun j hj => ce_cong (fun _ _ => rfl) (fun _ _ => rfl) (by simp [pF, hj]) rfl)
  rw [ce_A0 h]
  simp [pF]
theorem wd_pZ {ω : WT} {σ : St} {k n : Nat} (h : shpA k = some (2, n)) (f : Nat → Int32) : (wd ω σ).set k (ω.2.2.1 k, .inl (ω.2.1 2, n, .inl f)) = wd ω (pF σ k f) := by
  refine wd_set _ ?_ (fun j hj => ce_cong (fun _ _ => rfl) (fun _ _ => rfl) (by simp [pF, hj]) rfl)
  rw [ce_A2 h]
  simp [pF]
theorem wd_pG {ω : WT} {σ : St} {k n : Nat} (h : shpA k = some (1, n)) (f : Nat → Int64) : (wd ω σ).set k (ω.2.2.1 k, .inl (ω.2.1 1, n, .inr (.inl f))) = wd ω (pG σ k f) := by
  refine wd_set _ ?_ (fun j hj => ce_cong (fun _ _ => rfl) (fun _ _ => rfl) rfl (by simp [pG, hj]))
  rw [ce_A1 h]
  simp [pG]
end
section
/-! ===== the rows of V: one an instruction ===== -/
def insL (a : Nat × Value) : List (Nat × Value) → List (Nat × Value)
  | [] => [a]
  | q :: r => bif Nat.blt a.1 q.1 then a :: q :: r else q :: insL a r
theorem insL_mem {a q : Nat × Value} : ∀ {l : List (Nat × Value)}, q ∈ insL a l → q ∈ a :: l
  | [], h => h
  | b :: r, h => by
    unfold insL at h
    cases hb : Nat.blt a.1 b.1
    · rw [hb] at h
      rcases List.mem_cons.mp h with h | h
      · subst h; simp
      · have := insL_mem h
        rcases List.mem_cons.mp this with h | h
        · subst h; simp
        · simp [h]
    · rw [hb] at h
      exact h
def stL (i : Nat) (v : Value) (L : List (Nat × Value)) : List (Nat × Value) := insL (i, v) (L.filter (fun q => !(q.1 == i) && !(q.1 + 1 == i && q.2.category == 2)))
def stL2 (i : Nat) (v : Value) (L : List (Nat × Value)) : List (Nat × Value) := insL (i, v) (L.filter (fun q => !(q.1 == i) && (!(q.1 == i + 1) && !(q.1 + 1 == i && q.2.category == 2))))
theorem lvh_ins {ls : Array Slot} {nL i : Nat} {v : Value} {L : List (Nat × Value)} (h : lv_has ls nL ((i, v) :: L)) : lv_has ls nL (insL (i, v) L) := ⟨h.1, h.2.1, fun q hq => h.2.2 q (insL_mem hq)⟩
section RULES
variable {ω : WT} {κ : KT} {l : Launch} {y : MethodName} {cc : ByteArray} {nL d pc : Nat} {L L' : List (Nat × Value)} {S : List Value} {σ : St} {ret : Option FieldType} {post : Option Value → St → Prop}
theorem V_sub (k : List Nat) (hl : lv_pick L k = L') (h : V ω κ pc L' S σ) : V ω κ pc L S σ := by
  obtain ⟨p, l', e, R, s, m, args, below, meth, c, cells, slots, Q⟩ := κ
  exact fun H locs ls hS hH h2 => h H locs ls hS hH (lv_sub h2 k hl)
theorem V_iconst {n : Int} {v : Int32} (K : Cx ω κ l y cc nL d) (hd : decode cc pc = .ok (.iconst n, 1)) (hv : Int32.ofInt n = v) (k : V ω κ (pc + 1) L (.int v :: S) σ) : V ω κ pc L S σ := by
  obtain ⟨p, l', e, R, s, m, args, below, meth, c, cells, slots, Q⟩ := κ
  exact fun H locs ls hS hH hl => lv_iconst K.1 K.2.1 hd hv (k H locs ls hS hH hl)
theorem V_bipush {n : Int} {v : Int32} (K : Cx ω κ l y cc nL d) (hd : decode cc pc = .ok (.bipush n, 2)) (hv : (Int8.ofInt n).toInt32 = v) (k : V ω κ (pc + 2) L (.int v :: S) σ) : V ω κ pc L S σ := by
  obtain ⟨p, l', e, R, s, m, args, below, meth, c, cells, slots, Q⟩ := κ
  exact fun H locs ls hS hH hl => lv_bipush K.1 K.2.1 hd hv (k H locs ls hS hH hl)
theorem V_sipush {n : Int} {v : Int32} (K : Cx ω κ l y cc nL d) (hd : decode cc pc = .ok (.sipush n, 3)) (hv : (Int16.ofInt n).toInt32 = v) (k : V ω κ (pc + 3) L (.int v :: S) σ) : V ω κ pc L S σ := by
  obtain ⟨p, l', e, R, s, m, args, below, meth, c, cells, slots, Q⟩ := κ
  exact fun H locs ls hS hH hl => lv_sipush K.1 K.2.1 hd hv (k H locs ls hS hH hl)
theorem V_lconst {n : Fin 2} {v : Int64} (K : Cx ω κ l y cc nL d) (hd : decode cc pc = .ok (.lconst n, 1)) (hv : Int64.ofNat (n : Nat) = v) (k : V ω κ (pc + 1) L (.long v :: S) σ) : V ω κ pc L S σ := by
  obtain ⟨p, l', e, R, s, m, args, below, meth, c, cells, slots, Q⟩ := κ
  exact fun H locs ls hS hH hl => lv_lconst K.1 K.2.1 hd hv (k H locs ls hS hH hl)
theorem V_iload_n {n : Fin 4} {i : Nat} {x : Int32} (j : Nat) (K : Cx ω κ l y cc nL d) (hd : decode cc pc = .ok (.iload_n n, 1)) (hi : (n : Nat) = i) (hj : L[j]? = some (i, .int x)) (k : V ω κ (pc + 1) L (.int x :: S) σ) : V ω κ pc L S σ := by
  obtain ⟨p, l', e, R, s, m, args, below, meth, c, cells, slots, Q⟩ := κ
  exact fun H locs ls hS hH hl => lv_iload_n K.1 K.2.1 hd hi (lv_at hl j hj) (k H locs ls hS hH hl)
theorem V_iload {i : Nat} {x : Int32} (j : Nat) (K : Cx ω κ l y cc nL d) (hd : decode cc pc = .ok (.iload i, 2)) (hj : L[j]? = some (i, .int x)) (k : V ω κ (pc + 2) L (.int x :: S) σ) : V ω κ pc L S σ := by
  obtain ⟨p, l', e, R, s, m, args, below, meth, c, cells, slots, Q⟩ := κ
  exact fun H locs ls hS hH hl => lv_iload K.1 K.2.1 hd (lv_at hl j hj) (k H locs ls hS hH hl)
theorem V_lload_n {n : Fin 4} {i : Nat} {x : Int64} (j : Nat) (K : Cx ω κ l y cc nL d) (hd : decode cc pc = .ok (.lload_n n, 1)) (hi : (n : Nat) = i) (hj : L[j]? = some (i, .long x)) (k : V ω κ (pc + 1) L (.long x :: S) σ) : V ω κ pc L S σ := by
  obtain ⟨p, l', e, R, s, m, args, below, meth, c, cells, slots, Q⟩ := κ
  exact fun H locs ls hS hH hl => lv_lload_n K.1 K.2.1 hd hi (lv_at hl j hj) (k H locs ls hS hH hl)
theorem V_lload {i : Nat} {x : Int64} (j : Nat) (K : Cx ω κ l y cc nL d) (hd : decode cc pc = .ok (.lload i, 2)) (hj : L[j]? = some (i, .long x)) (k : V ω κ (pc + 2) L (.long x :: S) σ) : V ω κ pc L S σ := by
  obtain ⟨p, l', e, R, s, m, args, below, meth, c, cells, slots, Q⟩ := κ
  exact fun H locs ls hS hH hl => lv_lload K.1 K.2.1 hd (lv_at hl j hj) (k H locs ls hS hH hl)
theorem V_aload_n {n : Fin 4} {i x : Nat} (j : Nat) (K : Cx ω κ l y cc nL d) (hd : decode cc pc = .ok (.aload_n n, 1)) (hi : (n : Nat) = i) (hj : L[j]? = some (i, .ref x)) (k : V ω κ (pc + 1) L (.ref x :: S) σ) : V ω κ pc L S σ := by
  obtain ⟨p, l', e, R, s, m, args, below, meth, c, cells, slots, Q⟩ := κ
  exact fun H locs ls hS hH hl => lv_aload_n K.1 K.2.1 hd hi (lv_at hl j hj) (k H locs ls hS hH hl)
theorem V_aload {i x : Nat} (j : Nat) (K : Cx ω κ l y cc nL d) (hd : decode cc pc = .ok (.aload i, 2)) (hj : L[j]? = some (i, .ref x)) (k : V ω κ (pc + 2) L (.ref x :: S) σ) : V ω κ pc L S σ := by
  obtain ⟨p, l', e, R, s, m, args, below, meth, c, cells, slots, Q⟩ := κ
  exact fun H locs ls hS hH hl => lv_aload K.1 K.2.1 hd (lv_at hl j hj) (k H locs ls hS hH hl)
theorem V_istore_n {n : Fin 4} {i : Nat} {x : Int32} (K : Cx ω κ l y cc nL d) (hd : decode cc pc = .ok (.istore_n n, 1)) (hi : (n : Nat) = i) (hn : i < nL) (hl : stL i (.int x) L = L') (k : V ω κ (pc + 1) L' S σ) : V ω κ pc L (.int x :: S) σ := by
  obtain ⟨p, l', e, R, s, m, args, below, meth, c, cells, slots, Q⟩ := κ
  exact fun H locs ls hS hH h2 => lv_istore_n K.1 K.2.1 hd hi h2 (by rw [K.2.2.1]; exact hn) rfl (fun ls h2 => k H locs ls hS hH (hl ▸ lvh_ins h2))
theorem V_istore {i : Nat} {x : Int32} (K : Cx ω κ l y cc nL d) (hd : decode cc pc = .ok (.istore i, 2)) (hn : i < nL) (hl : stL i (.int x) L = L') (k : V ω κ (pc + 2) L' S σ) : V ω κ pc L (.int x :: S) σ := by
  obtain ⟨p, l', e, R, s, m, args, below, meth, c, cells, slots, Q⟩ := κ
  exact fun H locs ls hS hH h2 => lv_istore K.1 K.2.1 hd h2 (by rw [K.2.2.1]; exact hn) rfl (fun ls h2 => k H locs ls hS hH (hl ▸ lvh_ins h2))
theorem V_astore_n {n : Fin 4} {i x : Nat} (K : Cx ω κ l y cc nL d) (hd : decode cc pc = .ok (.astore_n n, 1)) (hi : (n : Nat) = i) (hn : i < nL) (hl : stL i (.ref x) L = L') (k : V ω κ (pc + 1) L' S σ) : V ω κ pc L (.ref x :: S) σ := by
  obtain ⟨p, l', e, R, s, m, args, below, meth, c, cells, slots, Q⟩ := κ
  exact fun H locs ls hS hH h2 => lv_astore_n K.1 K.2.1 hd hi h2 (by rw [K.2.2.1]; exact hn) rfl (fun ls h2 => k H locs ls hS hH (hl ▸ lvh_ins h2))
theorem V_astore {i x : Nat} (K : Cx ω κ l y cc nL d) (hd : decode cc pc = .ok (.astore i, 2)) (hn : i < nL) (hl : stL i (.ref x) L = L') (k : V ω κ (pc + 2) L' S σ) : V ω κ pc L (.ref x :: S) σ := by
  obtain ⟨p, l', e, R, s, m, args, below, meth, c, cells, slots, Q⟩ := κ
  exact fun H locs ls hS hH h2 => lv_astore K.1 K.2.1 hd h2 (by rw [K.2.2.1]; exact hn) rfl (fun ls h2 => k H locs ls hS hH (hl ▸ lvh_ins h2))
theorem V_lstore_n {n : Fin 4} {i : Nat} {x : Int64} (K : Cx ω κ l y cc nL d) (hd : decode cc pc = .ok (.lstore_n n, 1)) (hi : (n : Nat) = i) (hn : i + 1 < nL) (hl : stL2 i (.long x) L = L') (k : V ω κ (pc + 1) L' S σ) : V ω κ pc L (.long x :: S) σ := by
  obtain ⟨p, l', e, R, s, m, args, below, meth, c, cells, slots, Q⟩ := κ
  exact fun H locs ls hS hH h2 => lv_lstore_n K.1 K.2.1 hd hi h2 (by rw [K.2.2.1]; exact hn) rfl (fun ls h2 => k H locs ls hS hH (hl ▸ lvh_ins h2))
theorem V_lstore {i : Nat} {x : Int64} (K : Cx ω κ l y cc nL d) (hd : decode cc pc = .ok (.lstore i, 2)) (hn : i + 1 < nL) (hl : stL2 i (.long x) L = L') (k : V ω κ (pc + 2) L' S σ) : V ω κ pc L (.long x :: S) σ := by
  obtain ⟨p, l', e, R, s, m, args, below, meth, c, cells, slots, Q⟩ := κ
  exact fun H locs ls hS hH h2 => lv_lstore K.1 K.2.1 hd h2 (by rw [K.2.2.1]; exact hn) rfl (fun ls h2 => k H locs ls hS hH (hl ▸ lvh_ins h2))
theorem V_iinc {i : Nat} {n : Int} {x v : Int32} (j : Nat) (K : Cx ω κ l y cc nL d) (hd : decode cc pc = .ok (.iinc i n, 3)) (hj : L[j]? = some (i, .int x)) (hv : x + Int32.ofInt n = v) (hn : i < nL) (hl : stL i (.int v) L = L') (k : V ω κ (pc + 3) L' S σ) : V ω κ pc L S σ := by
  obtain ⟨p, l', e, R, s, m, args, below, meth, c, cells, slots, Q⟩ := κ
  exact fun H locs ls hS hH h2 => lv_iinc K.1 K.2.1 hd h2 hj hv (by rw [K.2.2.1]; exact hn) rfl (fun ls h2 => k H locs ls hS hH (hl ▸ lvh_ins h2))
theorem V_iadd {x y' : Int32} (K : Cx ω κ l y cc nL d) (hd : decode cc pc = .ok (.iadd, 1)) (k : V ω κ (pc + 1) L (.int (x + y') :: S) σ) : V ω κ pc L (.int y' :: .int x :: S) σ := by
  obtain ⟨p, l', e, R, s, m, args, below, meth, c, cells, slots, Q⟩ := κ
  exact fun H locs ls hS hH hl => lv_iadd K.1 K.2.1 hd (k H locs ls hS hH hl)
theorem V_isub {x y' : Int32} (K : Cx ω κ l y cc nL d) (hd : decode cc pc = .ok (.isub, 1)) (k : V ω κ (pc + 1) L (.int (x - y') :: S) σ) : V ω κ pc L (.int y' :: .int x :: S) σ := by
  obtain ⟨p, l', e, R, s, m, args, below, meth, c, cells, slots, Q⟩ := κ
  exact fun H locs ls hS hH hl => lv_isub K.1 K.2.1 hd (k H locs ls hS hH hl)
theorem V_imul {x y' : Int32} (K : Cx ω κ l y cc nL d) (hd : decode cc pc = .ok (.imul, 1)) (k : V ω κ (pc + 1) L (.int (x * y') :: S) σ) : V ω κ pc L (.int y' :: .int x :: S) σ := by
  obtain ⟨p, l', e, R, s, m, args, below, meth, c, cells, slots, Q⟩ := κ
  exact fun H locs ls hS hH hl => lv_imul K.1 K.2.1 hd (k H locs ls hS hH hl)
theorem V_iand {x y' : Int32} (K : Cx ω κ l y cc nL d) (hd : decode cc pc = .ok (.iand, 1)) (k : V ω κ (pc + 1) L (.int (x &&& y') :: S) σ) : V ω κ pc L (.int y' :: .int x :: S) σ := by
  obtain ⟨p, l', e, R, s, m, args, below, meth, c, cells, slots, Q⟩ := κ
  exact fun H locs ls hS hH hl => lv_iand K.1 K.2.1 hd (k H locs ls hS hH hl)
theorem V_ior {x y' : Int32} (K : Cx ω κ l y cc nL d) (hd : decode cc pc = .ok (.ior, 1)) (k : V ω κ (pc + 1) L (.int (x ||| y') :: S) σ) : V ω κ pc L (.int y' :: .int x :: S) σ := by
  obtain ⟨p, l', e, R, s, m, args, below, meth, c, cells, slots, Q⟩ := κ
  exact fun H locs ls hS hH hl => lv_ior K.1 K.2.1 hd (k H locs ls hS hH hl)
theorem V_ixor {x y' : Int32} (K : Cx ω κ l y cc nL d) (hd : decode cc pc = .ok (.ixor, 1)) (k : V ω κ (pc + 1) L (.int (x ^^^ y') :: S) σ) : V ω κ pc L (.int y' :: .int x :: S) σ := by
  obtain ⟨p, l', e, R, s, m, args, below, meth, c, cells, slots, Q⟩ := κ
  exact fun H locs ls hS hH hl => lv_ixor K.1 K.2.1 hd (k H locs ls hS hH hl)
theorem V_ladd {x y' : Int64} (K : Cx ω κ l y cc nL d) (hd : decode cc pc = .ok (.ladd, 1)) (k : V ω κ (pc + 1) L (.long (x + y') :: S) σ) : V ω κ pc L (.long y' :: .long x :: S) σ := by
  obtain ⟨p, l', e, R, s, m, args, below, meth, c, cells, slots, Q⟩ := κ
  exact fun H locs ls hS hH hl => lv_ladd K.1 K.2.1 hd (k H locs ls hS hH hl)
theorem V_lsub {x y' : Int64} (K : Cx ω κ l y cc nL d) (hd : decode cc pc = .ok (.lsub, 1)) (k : V ω κ (pc + 1) L (.long (x - y') :: S) σ) : V ω κ pc L (.long y' :: .long x :: S) σ := by
  obtain ⟨p, l', e, R, s, m, args, below, meth, c, cells, slots, Q⟩ := κ
  exact fun H locs ls hS hH hl => lv_lsub K.1 K.2.1 hd (k H locs ls hS hH hl)
theorem V_lmul {x y' : Int64} (K : Cx ω κ l y cc nL d) (hd : decode cc pc = .ok (.lmul, 1)) (k : V ω κ (pc + 1) L (.long (x * y') :: S) σ) : V ω κ pc L (.long y' :: .long x :: S) σ := by
  obtain ⟨p, l', e, R, s, m, args, below, meth, c, cells, slots, Q⟩ := κ
  exact fun H locs ls hS hH hl => lv_lmul K.1 K.2.1 hd (k H locs ls hS hH hl)
theorem V_ishl {x y' : Int32} (K : Cx ω κ l y cc nL d) (hd : decode cc pc = .ok (.ishl, 1)) (k : V ω κ (pc + 1) L (.int (x <<< (y' &&& 31)) :: S) σ) : V ω κ pc L (.int y' :: .int x :: S) σ := by
  obtain ⟨p, l', e, R, s, m, args, below, meth, c, cells, slots, Q⟩ := κ
  exact fun H locs ls hS hH hl => lv_ishl K.1 K.2.1 hd (k H locs ls hS hH hl)
theorem V_ishr {x y' : Int32} (K : Cx ω κ l y cc nL d) (hd : decode cc pc = .ok (.ishr, 1)) (k : V ω κ (pc + 1) L (.int (x >>> (y' &&& 31)) :: S) σ) : V ω κ pc L (.int y' :: .int x :: S) σ := by
  obtain ⟨p, l', e, R, s, m, args, below, meth, c, cells, slots, Q⟩ := κ
  exact fun H locs ls hS hH hl => lv_ishr K.1 K.2.1 hd (k H locs ls hS hH hl)
theorem V_idiv {x y' : Int32} (K : Cx ω κ l y cc nL d) (hd : decode cc pc = .ok (.idiv, 1)) (hne : ¬ y' = 0) (k : V ω κ (pc + 1) L (.int (x / y') :: S) σ) : V ω κ pc L (.int y' :: .int x :: S) σ := by
  obtain ⟨p, l', e, R, s, m, args, below, meth, c, cells, slots, Q⟩ := κ
  exact fun H locs ls hS hH hl => lv_idiv K.1 K.2.1 hd hne (k H locs ls hS hH hl)
theorem V_irem {x y' : Int32} (K : Cx ω κ l y cc nL d) (hd : decode cc pc = .ok (.irem, 1)) (hne : ¬ y' = 0) (k : V ω κ (pc + 1) L (.int (x - x / y' * y') :: S) σ) : V ω κ pc L (.int y' :: .int x :: S) σ := by
  obtain ⟨p, l', e, R, s, m, args, below, meth, c, cells, slots, Q⟩ := κ
  exact fun H locs ls hS hH hl => lv_irem K.1 K.2.1 hd hne (k H locs ls hS hH hl)
theorem V_ldiv {x y' : Int64} (K : Cx ω κ l y cc nL d) (hd : decode cc pc = .ok (.ldiv, 1)) (hne : ¬ y' = 0) (k : V ω κ (pc + 1) L (.long (x / y') :: S) σ) : V ω κ pc L (.long y' :: .long x :: S) σ := by
  obtain ⟨p, l', e, R, s, m, args, below, meth, c, cells, slots, Q⟩ := κ
  exact fun H locs ls hS hH hl => lv_ldiv K.1 K.2.1 hd hne (k H locs ls hS hH hl)
theorem V_lrem {x y' : Int64} (K : Cx ω κ l y cc nL d) (hd : decode cc pc = .ok (.lrem, 1)) (hne : ¬ y' = 0) (k : V ω κ (pc + 1) L (.long (x - x / y' * y') :: S) σ) : V ω κ pc L (.long y' :: .long x :: S) σ := by
  obtain ⟨p, l', e, R, s, m, args, below, meth, c, cells, slots, Q⟩ := κ
  exact fun H locs ls hS hH hl => lv_lrem K.1 K.2.1 hd hne (k H locs ls hS hH hl)
theorem V_iushr {x y' : Int32} (K : Cx ω κ l y cc nL d) (hd : decode cc pc = .ok (.iushr, 1)) (k : V ω κ (pc + 1) L (.int ((x.toUInt32 >>> (y'.toUInt32 &&& Int32.toUInt32 31)).toInt32) :: S) σ) : V ω κ pc L (.int y' :: .int x :: S) σ := by
  obtain ⟨p, l', e, R, s, m, args, below, meth, c, cells, slots, Q⟩ := κ
  exact fun H locs ls hS hH hl => lv_iushr K.1 K.2.1 hd rfl (k H locs ls hS hH hl)
theorem V_i2l {x : Int32} (K : Cx ω κ l y cc nL d) (hd : decode cc pc = .ok (.i2l, 1)) (k : V ω κ (pc + 1) L (.long x.toInt64 :: S) σ) : V ω κ pc L (.int x :: S) σ := by
  obtain ⟨p, l', e, R, s, m, args, below, meth, c, cells, slots, Q⟩ := κ
  exact fun H locs ls hS hH hl => lv_i2l K.1 K.2.1 hd rfl (k H locs ls hS hH hl)
theorem V_i2b {x : Int32} (K : Cx ω κ l y cc nL d) (hd : decode cc pc = .ok (.i2b, 1)) (k : V ω κ (pc + 1) L (.int x.toInt8.toInt32 :: S) σ) : V ω κ pc L (.int x :: S) σ := by
  obtain ⟨p, l', e, R, s, m, args, below, meth, c, cells, slots, Q⟩ := κ
  exact fun H locs ls hS hH hl => lv_i2b K.1 K.2.1 hd rfl (k H locs ls hS hH hl)
theorem V_i2s {x : Int32} (K : Cx ω κ l y cc nL d) (hd : decode cc pc = .ok (.i2s, 1)) (k : V ω κ (pc + 1) L (.int x.toInt16.toInt32 :: S) σ) : V ω κ pc L (.int x :: S) σ := by
  obtain ⟨p, l', e, R, s, m, args, below, meth, c, cells, slots, Q⟩ := κ
  exact fun H locs ls hS hH hl => lv_i2s K.1 K.2.1 hd rfl (k H locs ls hS hH hl)
theorem V_dup {va : Value} (K : Cx ω κ l y cc nL d) (hd : decode cc pc = .ok (.dup, 1)) (hva : va.category = 1) (k : V ω κ (pc + 1) L (va :: va :: S) σ) : V ω κ pc L (va :: S) σ := by
  obtain ⟨p, l', e, R, s, m, args, below, meth, c, cells, slots, Q⟩ := κ
  exact fun H locs ls hS hH hl => lv_dup K.1 K.2.1 hd hva (k H locs ls hS hH hl)
theorem V_pop {va : Value} (K : Cx ω κ l y cc nL d) (hd : decode cc pc = .ok (.pop, 1)) (hva : va.category = 1) (k : V ω κ (pc + 1) L S σ) : V ω κ pc L (va :: S) σ := by
  obtain ⟨p, l', e, R, s, m, args, below, meth, c, cells, slots, Q⟩ := κ
  exact fun H locs ls hS hH hl => lv_pop K.1 K.2.1 hd hva (k H locs ls hS hH hl)
theorem V_dup2 {va vb : Value} (K : Cx ω κ l y cc nL d) (hd : decode cc pc = .ok (.dup2, 1)) (hva : va.category = 1) (hvb : vb.category = 1) (k : V ω κ (pc + 1) L (va :: vb :: va :: vb :: S) σ) : V ω κ pc L (va :: vb :: S) σ := by
  obtain ⟨p, l', e, R, s, m, args, below, meth, c, cells, slots, Q⟩ := κ
  exact fun H locs ls hS hH hl => lv_dup2_11 K.1 K.2.1 hd hva hvb (k H locs ls hS hH hl)
theorem V_lcmp {x y' : Int64} (K : Cx ω κ l y cc nL d) (hd : decode cc pc = .ok (.lcmp, 1)) (k : V ω κ (pc + 1) L (.int (lg_cmp x y') :: S) σ) : V ω κ pc L (.long y' :: .long x :: S) σ := by
  obtain ⟨p, l', e, R, s, m, args, below, meth, c, cells, slots, Q⟩ := κ
  exact fun H locs ls hS hH hl => W.lcmp K.1 K.2.1 hd (k H locs ls hS hH hl)
theorem V_if_eq {x : Int32} {off : Int} {tgt : Nat} (K : Cx ω κ l y cc nL d) (hd : decode cc pc = .ok (.ifCond .eq off, 3)) (ht : (pc : Int) + off = (tgt : Int)) (kt : x = 0 → V ω κ tgt L S σ) (kf : ¬ x = 0 → V ω κ (pc + 3) L S σ) : V ω κ pc L (.int x :: S) σ := by
  obtain ⟨p, l', e, R, s, m, args, below, meth, c, cells, slots, Q⟩ := κ
  exact fun H locs ls hS hH hl => lv_if_eq K.1 K.2.1 hd ht (fun h => kt h H locs ls hS hH hl) (fun h => kf h H locs ls hS hH hl)
theorem V_icmp_eq {x y' : Int32} {off : Int} {tgt : Nat} (K : Cx ω κ l y cc nL d) (hd : decode cc pc = .ok (.if_icmp .eq off, 3)) (ht : (pc : Int) + off = (tgt : Int)) (kt : x = y' → V ω κ tgt L S σ) (kf : ¬ x = y' → V ω κ (pc + 3) L S σ) : V ω κ pc L (.int y' :: .int x :: S) σ := by
  obtain ⟨p, l', e, R, s, m, args, below, meth, c, cells, slots, Q⟩ := κ
  exact fun H locs ls hS hH hl => lv_icmp_eq K.1 K.2.1 hd ht (fun h => kt h H locs ls hS hH hl) (fun h => kf h H locs ls hS hH hl)
theorem V_if_ne {x : Int32} {off : Int} {tgt : Nat} (K : Cx ω κ l y cc nL d) (hd : decode cc pc = .ok (.ifCond .ne off, 3)) (ht : (pc : Int) + off = (tgt : Int)) (kt : ¬ x = 0 → V ω κ tgt L S σ) (kf : x = 0 → V ω κ (pc + 3) L S σ) : V ω κ pc L (.int x :: S) σ := by
  obtain ⟨p, l', e, R, s, m, args, below, meth, c, cells, slots, Q⟩ := κ
  exact fun H locs ls hS hH hl => lv_if_ne K.1 K.2.1 hd ht (fun h => kt h H locs ls hS hH hl) (fun h => kf h H locs ls hS hH hl)
theorem V_icmp_ne {x y' : Int32} {off : Int} {tgt : Nat} (K : Cx ω κ l y cc nL d) (hd : decode cc pc = .ok (.if_icmp .ne off, 3)) (ht : (pc : Int) + off = (tgt : Int)) (kt : ¬ x = y' → V ω κ tgt L S σ) (kf : x = y' → V ω κ (pc + 3) L S σ) : V ω κ pc L (.int y' :: .int x :: S) σ := by
  obtain ⟨p, l', e, R, s, m, args, below, meth, c, cells, slots, Q⟩ := κ
  exact fun H locs ls hS hH hl => lv_icmp_ne K.1 K.2.1 hd ht (fun h => kt h H locs ls hS hH hl) (fun h => kf h H locs ls hS hH hl)
theorem V_if_lt {x : Int32} {off : Int} {tgt : Nat} (K : Cx ω κ l y cc nL d) (hd : decode cc pc = .ok (.ifCond .lt off, 3)) (ht : (pc : Int) + off = (tgt : Int)) (kt : x < 0 → V ω κ tgt L S σ) (kf : ¬ x < 0 → V ω κ (pc + 3) L S σ) : V ω κ pc L (.int x :: S) σ := by
  obtain ⟨p, l', e, R, s, m, args, below, meth, c, cells, slots, Q⟩ := κ
  exact fun H locs ls hS hH hl => lv_if_lt K.1 K.2.1 hd ht (fun h => kt h H locs ls hS hH hl) (fun h => kf h H locs ls hS hH hl)
theorem V_icmp_lt {x y' : Int32} {off : Int} {tgt : Nat} (K : Cx ω κ l y cc nL d) (hd : decode cc pc = .ok (.if_icmp .lt off, 3)) (ht : (pc : Int) + off = (tgt : Int)) (kt : x < y' → V ω κ tgt L S σ) (kf : ¬ x < y' → V ω κ (pc + 3) L S σ) : V ω κ pc L (.int y' :: .int x :: S) σ := by
  obtain ⟨p, l', e, R, s, m, args, below, meth, c, cells, slots, Q⟩ := κ
  exact fun H locs ls hS hH hl => lv_icmp_lt K.1 K.2.1 hd ht (fun h => kt h H locs ls hS hH hl) (fun h => kf h H locs ls hS hH hl)
theorem V_if_ge {x : Int32} {off : Int} {tgt : Nat} (K : Cx ω κ l y cc nL d) (hd : decode cc pc = .ok (.ifCond .ge off, 3)) (ht : (pc : Int) + off = (tgt : Int)) (kt : 0 ≤ x → V ω κ tgt L S σ) (kf : ¬ 0 ≤ x → V ω κ (pc + 3) L S σ) : V ω κ pc L (.int x :: S) σ := by
  obtain ⟨p, l', e, R, s, m, args, below, meth, c, cells, slots, Q⟩ := κ
  exact fun H locs ls hS hH hl => lv_if_ge K.1 K.2.1 hd ht (fun h => kt h H locs ls hS hH hl) (fun h => kf h H locs ls hS hH hl)
theorem V_icmp_ge {x y' : Int32} {off : Int} {tgt : Nat} (K : Cx ω κ l y cc nL d) (hd : decode cc pc = .ok (.if_icmp .ge off, 3)) (ht : (pc : Int) + off = (tgt : Int)) (kt : y' ≤ x → V ω κ tgt L S σ) (kf : ¬ y' ≤ x → V ω κ (pc + 3) L S σ) : V ω κ pc L (.int y' :: .int x :: S) σ := by
  obtain ⟨p, l', e, R, s, m, args, below, meth, c, cells, slots, Q⟩ := κ
  exact fun H locs ls hS hH hl => lv_icmp_ge K.1 K.2.1 hd ht (fun h => kt h H locs ls hS hH hl) (fun h => kf h H locs ls hS hH hl)
theorem V_if_gt {x : Int32} {off : Int} {tgt : Nat} (K : Cx ω κ l y cc nL d) (hd : decode cc pc = .ok (.ifCond .gt off, 3)) (ht : (pc : Int) + off = (tgt : Int)) (kt : 0 < x → V ω κ tgt L S σ) (kf : ¬ 0 < x → V ω κ (pc + 3) L S σ) : V ω κ pc L (.int x :: S) σ := by
  obtain ⟨p, l', e, R, s, m, args, below, meth, c, cells, slots, Q⟩ := κ
  exact fun H locs ls hS hH hl => lv_if_gt K.1 K.2.1 hd ht (fun h => kt h H locs ls hS hH hl) (fun h => kf h H locs ls hS hH hl)
theorem V_icmp_gt {x y' : Int32} {off : Int} {tgt : Nat} (K : Cx ω κ l y cc nL d) (hd : decode cc pc = .ok (.if_icmp .gt off, 3)) (ht : (pc : Int) + off = (tgt : Int)) (kt : y' < x → V ω κ tgt L S σ) (kf : ¬ y' < x → V ω κ (pc + 3) L S σ) : V ω κ pc L (.int y' :: .int x :: S) σ := by
  obtain ⟨p, l', e, R, s, m, args, below, meth, c, cells, slots, Q⟩ := κ
  exact fun H locs ls hS hH hl => lv_icmp_gt K.1 K.2.1 hd ht (fun h => kt h H locs ls hS hH hl) (fun h => kf h H locs ls hS hH hl)
theorem V_if_le {x : Int32} {off : Int} {tgt : Nat} (K : Cx ω κ l y cc nL d) (hd : decode cc pc = .ok (.ifCond .le off, 3)) (ht : (pc : Int) + off = (tgt : Int)) (kt : x ≤ 0 → V ω κ tgt L S σ) (kf : ¬ x ≤ 0 → V ω κ (pc + 3) L S σ) : V ω κ pc L (.int x :: S) σ := by
  obtain ⟨p, l', e, R, s, m, args, below, meth, c, cells, slots, Q⟩ := κ
  exact fun H locs ls hS hH hl => lv_if_le K.1 K.2.1 hd ht (fun h => kt h H locs ls hS hH hl) (fun h => kf h H locs ls hS hH hl)
theorem V_icmp_le {x y' : Int32} {off : Int} {tgt : Nat} (K : Cx ω κ l y cc nL d) (hd : decode cc pc = .ok (.if_icmp .le off, 3)) (ht : (pc : Int) + off = (tgt : Int)) (kt : x ≤ y' → V ω κ tgt L S σ) (kf : ¬ x ≤ y' → V ω κ (pc + 3) L S σ) : V ω κ pc L (.int y' :: .int x :: S) σ := by
  obtain ⟨p, l', e, R, s, m, args, below, meth, c, cells, slots, Q⟩ := κ
  exact fun H locs ls hS hH hl => lv_icmp_le K.1 K.2.1 hd ht (fun h => kt h H locs ls hS hH hl) (fun h => kf h H locs ls hS hH hl)
theorem V_goto {off : Int} {tgt : Nat} (K : Cx ω κ l y cc nL d) (hd : decode cc pc = .ok (.goto off, 3)) (ht : (pc : Int) + off = (tgt : Int)) (k : V ω κ tgt L S σ) : V ω κ pc L S σ := by
  obtain ⟨p, l', e, R, s, m, args, below, meth, c, cells, slots, Q⟩ := κ
  exact fun H locs ls hS hH hl => lv_goto K.1 K.2.1 hd ht (k H locs ls hS hH hl)
end RULES
end
section
/-! ===== the rows of V: fields, arrays, switches, constants ===== -/
section RULES2
variable {ω : WT} {κ : KT} {l : Launch} {y : MethodName} {cc : ByteArray} {nL d pc : Nat} {L L' : List (Nat × Value)} {S : List Value} {σ : St} {ret : Option FieldType} {post : Option Value → St → Prop}
/-- a field of an object: its class's row, its link's word -/
abbrev FW (own : String) (idx : Nat) (C : String) (T : u_T) (N i : Nat) : Prop := (∀ w ∈ u_ws C T N, w ∈ tbl) ∧ i < N ∧ Cond.fieldLink own idx C (T i).2.1 (T i).2.2.1 ∈ tbl ∧ (T i).1 = C
theorem V_get {idx k i ci N c : Nat} {fl : List Nat} {C : String} {T : u_T} {v : Value} (K : Cx ω κ l y cc nL d) (hd : decode cc pc = .ok (.getfield idx, 3)) (ho : shpO k = some (ci, fl)) (hc : vwCl[ci]? = some (C, T, N)) (hw : FW y.cls idx C T N i) (hf : fl[i]? = some c) (hv : fv ω σ k i c = v) (kk : V ω κ (pc + 3) L (v :: S) σ) : V ω κ pc L (.ref (ω.2.2.1 k) :: S) σ := by
  subst hv
  obtain ⟨p, l', e, R, s, m, args, below, meth, cd, cells, slots, Q⟩ := κ
  obtain ⟨hx, hb, hml, hown, hts, hK, hWf, hSt, -⟩ := K
  exact fun H locs ls hS hH hl => va_get hx hb hts hw.1 hown hK hH k (by rw [wd_at _ _ (shpO_lt ho), ce_O ho]) hc i hw.2.1 (hts _ hw.2.2.1) (by rw [hw.2.2.2]; exact fun _ h => h) (fvs_get hf) hd (kk H locs ls hS hH hl)
/-- a field that may be written: kinds of its class's fields, their names, not final -/
abbrev PW (C : String) (T : u_T) (N i : Nat) (ty : Nat → FieldType) : Prop := (∀ k, k < N → parseFieldDescriptor (T k).2.2.1 = some (ty k)) ∧ (∀ a, a < N → ∀ b, b < N → a ≠ b → (T a).2.1 ≠ (T b).2.1) ∧ (T i).2.2.2 = false
theorem V_putI {idx k i ci N key : Nat} {fl : List Nat} {C : String} {T : u_T} {ty : Nat → FieldType} {v : Int32} (K : Cx ω κ l y cc nL d) (hd : decode cc pc = .ok (.putfield idx, 3)) (ho : shpO k = some (ci, fl)) (hc : vwCl[ci]? = some (C, T, N)) (hw : FW y.cls idx C T N i) (hp : PW C T N i ty) (hf : fl[i]? = some 0) (hn : narrow (ty i) (.int v) = .int v) (hfit : fits (ty i) (.int v) = true) (hk : 64 * k + i = key) (kk : V ω κ (pc + 3) L S (pS σ key v)) : V ω κ pc L (.int v :: .ref (ω.2.2.1 k) :: S) σ := by
  subst hk
  obtain ⟨p, l', e, R, s, m, args, below, meth, cd, cells, slots, Q⟩ := κ
  obtain ⟨hx, hb, hml, hown, hts, hK, hWf, hSt, -⟩ := K
  exact fun H locs ls hS hH hl => va_put hx hb hts hw.1 ty hp.1 hp.2.1 hown hK hH (wd_D hWf σ) hS k (by rw [wd_at _ _ (shpO_lt ho), ce_O ho]) hc i hw.2.1 (hts _ hw.2.2.1) (by rw [hw.2.2.2]; exact fun _ h => h) hp.2.2 (hp.1 i hw.2.1) hn hfit (by rw [fvs_len]; exact (List.getElem?_eq_some_iff.mp hf).1) hd
    (fun H1 locs1 h1 h2 h3 => kk H1 locs1 ls h3 (by rw [wd_pS ho hf] at h1; exact h1) hl)
theorem V_putL {idx k i ci N key : Nat} {fl : List Nat} {C : String} {T : u_T} {ty : Nat → FieldType} {v : Int64} (K : Cx ω κ l y cc nL d) (hd : decode cc pc = .ok (.putfield idx, 3)) (ho : shpO k = some (ci, fl)) (hc : vwCl[ci]? = some (C, T, N)) (hw : FW y.cls idx C T N i) (hp : PW C T N i ty) (hf : fl[i]? = some 1) (hn : narrow (ty i) (.long v) = .long v) (hfit : fits (ty i) (.long v) = true) (hk : 64 * k + i = key) (kk : V ω κ (pc + 3) L S (pL σ key v)) : V ω κ pc L (.long v :: .ref (ω.2.2.1 k) :: S) σ := by
  subst hk
  obtain ⟨p, l', e, R, s, m, args, below, meth, cd, cells, slots, Q⟩ := κ
  obtain ⟨hx, hb, hml, hown, hts, hK, hWf, hSt, -⟩ := K
  exact fun H locs ls hS hH hl => va_put hx hb hts hw.1 ty hp.1 hp.2.1 hown hK hH (wd_D hWf σ) hS k (by rw [wd_at _ _ (shpO_lt ho), ce_O ho]) hc i hw.2.1 (hts _ hw.2.2.1) (by rw [hw.2.2.2]; exact fun _ h => h) hp.2.2 (hp.1 i hw.2.1) hn hfit (by rw [fvs_len]; exact (List.getElem?_eq_some_iff.mp hf).1) hd
    (fun H1 locs1 h1 h2 h3 => kk H1 locs1 ls h3 (by rw [wd_pL ho hf] at h1; exact h1) hl)
theorem V_iaload {k n : Nat} {i v : Int32} (K : Cx ω κ l y cc nL d) (hd : decode cc pc = .ok (.iaload, 1)) (ho : shpA k = some (0, n)) (hin : vp_in i n) (hv : σ.2.1 k i.toNatClampNeg = v) (kk : V ω κ (pc + 1) L (.int v :: S) σ) : V ω κ pc L (.int i :: .ref (ω.2.2.1 k) :: S) σ := by
  subst hv
  obtain ⟨p, l', e, R, s, m, args, below, meth, cd, cells, slots, Q⟩ := κ
  obtain ⟨hx, hb, hml, hown, hts, hK, hWf, hSt, -⟩ := K
  exact fun H locs ls hS hH hl => va_iald hx hb hK hH k 0 (by rw [wd_at _ _ (shpA_lt ho), ce_A0 ho]) rfl hin hd (kk H locs ls hS hH hl)
theorem V_baload {k n : Nat} {i v : Int32} (K : Cx ω κ l y cc nL d) (hd : decode cc pc = .ok (.baload, 1)) (ho : shpA k = some (2, n)) (hin : vp_in i n) (hv : σ.2.1 k i.toNatClampNeg = v) (kk : V ω κ (pc + 1) L (.int v :: S) σ) : V ω κ pc L (.int i :: .ref (ω.2.2.1 k) :: S) σ := by
  subst hv
  obtain ⟨p, l', e, R, s, m, args, below, meth, cd, cells, slots, Q⟩ := κ
  obtain ⟨hx, hb, hml, hown, hts, hK, hWf, hSt, -⟩ := K
  exact fun H locs ls hS hH hl => va_zald hx hb hK hH k 2 (by rw [wd_at _ _ (shpA_lt ho), ce_A2 ho]) rfl hin hd (kk H locs ls hS hH hl)
theorem V_laload {k n : Nat} {i : Int32} {v : Int64} (K : Cx ω κ l y cc nL d) (hd : decode cc pc = .ok (.laload, 1)) (ho : shpA k = some (1, n)) (hin : vp_in i n) (hv : σ.2.2.2 k i.toNatClampNeg = v) (kk : V ω κ (pc + 1) L (.long v :: S) σ) : V ω κ pc L (.int i :: .ref (ω.2.2.1 k) :: S) σ := by
  subst hv
  obtain ⟨p, l', e, R, s, m, args, below, meth, cd, cells, slots, Q⟩ := κ
  obtain ⟨hx, hb, hml, hown, hts, hK, hWf, hSt, -⟩ := K
  exact fun H locs ls hS hH hl => va_lald hx hb hK hH k 1 (by rw [wd_at _ _ (shpA_lt ho), ce_A1 ho]) rfl hin hd (kk H locs ls hS hH hl)
theorem V_aaload {k n : Nat} {i : Int32} (K : Cx ω κ l y cc nL d) (hd : decode cc pc = .ok (.aaload, 1)) (ho : shpA k = some (3, n)) (hin : vp_in i n) (kk : V ω κ (pc + 1) L (.ref (ω.2.2.1 (2 + i.toNatClampNeg)) :: S) σ) : V ω κ pc L (.int i :: .ref (ω.2.2.1 k) :: S) σ := by
  obtain ⟨p, l', e, R, s, m, args, below, meth, cd, cells, slots, Q⟩ := κ
  obtain ⟨hx, hb, hml, hown, hts, hK, hWf, hSt, -⟩ := K
  exact fun H locs ls hS hH hl => va_aldq (C := "WonBySeats$Sheet") (f := fun i => some (ω.2.2.1 (2 + i))) hx hb hK hH k 3 (by rw [wd_at _ _ (shpA_lt ho), ce_A3 ho]) rfl hin hd (kk H locs ls hS hH hl)
theorem V_iastore {k n : Nat} {i v : Int32} (K : Cx ω κ l y cc nL d) (hd : decode cc pc = .ok (.iastore, 1)) (ho : shpA k = some (0, n)) (hin : vp_in i n) (kk : V ω κ (pc + 1) L S (pA σ k i.toNatClampNeg v)) : V ω κ pc L (.int v :: .int i :: .ref (ω.2.2.1 k) :: S) σ := by
  obtain ⟨p, l', e, R, s, m, args, below, meth, cd, cells, slots, Q⟩ := κ
  obtain ⟨hx, hb, hml, hown, hts, hK, hWf, hSt, -⟩ := K
  exact fun H locs ls hS hH hl => va_iast hx hb hK hH (wd_D hWf σ) hS k 0 (by rw [wd_at _ _ (shpA_lt ho), ce_A0 ho]) rfl hin hd
    (fun H1 locs1 h1 h2 h3 => kk H1 locs1 ls h3 (by rw [wd_pF ho] at h1; exact h1) hl)
theorem V_bastore {k n : Nat} {i v : Int32} (K : Cx ω κ l y cc nL d) (hd : decode cc pc = .ok (.bastore, 1)) (ho : shpA k = some (2, n)) (hin : vp_in i n) (hv : vp_nar .boolean v = v) (kk : V ω κ (pc + 1) L S (pA σ k i.toNatClampNeg v)) : V ω κ pc L (.int v :: .int i :: .ref (ω.2.2.1 k) :: S) σ := by
  obtain ⟨p, l', e, R, s, m, args, below, meth, cd, cells, slots, Q⟩ := κ
  obtain ⟨hx, hb, hml, hown, hts, hK, hWf, hSt, -⟩ := K
  exact fun H locs ls hS hH hl => va_zast hx hb hK hH (wd_D hWf σ) hS k 2 (by rw [wd_at _ _ (shpA_lt ho), ce_A2 ho]) rfl hin hd
    (fun H1 locs1 h1 h2 h3 => kk H1 locs1 ls h3 (by rw [wd_pZ ho, hv] at h1; exact h1) hl)
theorem V_lastore {k n : Nat} {i : Int32} {v : Int64} (K : Cx ω κ l y cc nL d) (hd : decode cc pc = .ok (.lastore, 1)) (ho : shpA k = some (1, n)) (hin : vp_in i n) (kk : V ω κ (pc + 1) L S (pM σ k i.toNatClampNeg v)) : V ω κ pc L (.long v :: .int i :: .ref (ω.2.2.1 k) :: S) σ := by
  obtain ⟨p, l', e, R, s, m, args, below, meth, cd, cells, slots, Q⟩ := κ
  obtain ⟨hx, hb, hml, hown, hts, hK, hWf, hSt, -⟩ := K
  exact fun H locs ls hS hH hl => va_last hx hb hK hH (wd_D hWf σ) hS k 1 (by rw [wd_at _ _ (shpA_lt ho), ce_A1 ho]) rfl hin hd
    (fun H1 locs1 h1 h2 h3 => kk H1 locs1 ls h3 (by rw [wd_pG ho] at h1; exact h1) hl)
theorem V_alenI {k n : Nat} {v : Int32} (K : Cx ω κ l y cc nL d) (hd : decode cc pc = .ok (.arraylength, 1)) (ho : shpA k = some (0, n)) (hv : Int32.ofNat n = v) (kk : V ω κ (pc + 1) L (.int v :: S) σ) : V ω κ pc L (.ref (ω.2.2.1 k) :: S) σ := by
  obtain ⟨p, l', e, R, s, m, args, below, meth, cd, cells, slots, Q⟩ := κ
  obtain ⟨hx, hb, hml, hown, hts, hK, hWf, hSt, -⟩ := K
  exact fun H locs ls hS hH hl => va_alen hx hb hK hH k 0 (by rw [wd_at _ _ (shpA_lt ho), ce_A0 ho]) rfl hv hd (kk H locs ls hS hH hl)
theorem V_alenL {k n : Nat} {v : Int32} (K : Cx ω κ l y cc nL d) (hd : decode cc pc = .ok (.arraylength, 1)) (ho : shpA k = some (1, n)) (hv : Int32.ofNat n = v) (kk : V ω κ (pc + 1) L (.int v :: S) σ) : V ω κ pc L (.ref (ω.2.2.1 k) :: S) σ := by
  obtain ⟨p, l', e, R, s, m, args, below, meth, cd, cells, slots, Q⟩ := κ
  obtain ⟨hx, hb, hml, hown, hts, hK, hWf, hSt, -⟩ := K
  exact fun H locs ls hS hH hl => va_alen hx hb hK hH k 1 (by rw [wd_at _ _ (shpA_lt ho), ce_A1 ho]) rfl hv hd (kk H locs ls hS hH hl)
/-- ORDERS_OF: its array, its numbers -/
theorem V_getstatic {idx : Nat} (K : Cx ω κ l y cc nL d) (hd : decode cc pc = .ok (.getstatic idx, 3)) (hw : Cond.fieldLink y.cls idx "WonBySeats$Orders" "ORDERS_OF" "[I" ∈ tbl) (kk : V ω κ (pc + 3) L (.ref ω.2.2.2 :: S) σ) : V ω κ pc L S σ := by
  obtain ⟨p, l', e, R, s, m, args, below, meth, cd, cells, slots, Q⟩ := κ
  obtain ⟨hx, hb, hml, hown, hts, hK, hWf, hSt, -⟩ := K
  exact fun H locs ls hS hH hl => va_gets hx hb hSt.1 hS hown (hts _ hw) (fun _ h => h) hd (kk H locs ls hS hH hl)
theorem V_ialoadT {i v : Int32} (K : Cx ω κ l y cc nL d) (hd : decode cc pc = .ok (.iaload, 1)) (hin : vp_in i 7) (hv : nI (([1, 1, 2, 6, 24, 120, 720] : List Nat).getD i.toNatClampNeg 0) = v) (kk : V ω κ (pc + 1) L (.int v :: S) σ) : V ω κ pc L (.int i :: .ref ω.2.2.2 :: S) σ := by
  subst hv
  obtain ⟨p, l', e, R, s, m, args, below, meth, cd, cells, slots, Q⟩ := κ
  obtain ⟨hx, hb, hml, hown, hts, hK, hWf, hSt, -⟩ := K
  exact fun H locs ls hS hH hl => va_ti hx hb hSt.2 hS hin rfl hd (kk H locs ls hS hH hl)
theorem V_ldc {idx : Nat} {v : Int32} (K : Cx ω κ l y cc nL d) (hd : decode cc pc = .ok (.ldc idx, 2)) (hw : Cond.constant y.cls idx v ∈ tbl) (kk : V ω κ (pc + 2) L (.int v :: S) σ) : V ω κ pc L S σ := by
  obtain ⟨p, l', e, R, s, m, args, below, meth, cd, cells, slots, Q⟩ := κ
  obtain ⟨hx, hb, hml, hown, hts, hK, hWf, hSt, -⟩ := K
  exact fun H locs ls hS hH hl => lv_ldc hx hb hown (hts _ hw) hd (kk H locs ls hS hH hl)
theorem V_ldc_w {idx : Nat} {v : Int32} (K : Cx ω κ l y cc nL d) (hd : decode cc pc = .ok (.ldc_w idx, 3)) (hw : Cond.constant y.cls idx v ∈ tbl) (kk : V ω κ (pc + 3) L (.int v :: S) σ) : V ω κ pc L S σ := by
  obtain ⟨p, l', e, R, s, m, args, below, meth, cd, cells, slots, Q⟩ := κ
  obtain ⟨hx, hb, hml, hown, hts, hK, hWf, hSt, -⟩ := K
  exact fun H locs ls hS hH hl => lv_ldcw hx hb hown (hts _ hw) hd (kk H locs ls hS hH hl)
theorem V_ldc2_w {idx : Nat} {v : Int64} (K : Cx ω κ l y cc nL d) (hd : decode cc pc = .ok (.ldc2_w idx, 3)) (hw : Cond.constantLong y.cls idx v ∈ tbl) (kk : V ω κ (pc + 3) L (.long v :: S) σ) : V ω κ pc L S σ := by
  obtain ⟨p, l', e, R, s, m, args, below, meth, cd, cells, slots, Q⟩ := κ
  obtain ⟨hx, hb, hml, hown, hts, hK, hWf, hSt, -⟩ := K
  exact fun H locs ls hS hH hl => lv_ldc2 hx hb hown (hts _ hw) hd (kk H locs ls hS hH hl)
theorem V_tableOut {dflt lo hi : Int} {offs : Array Int} {len : Nat} {x : Int32} {tgt : Nat} (K : Cx ω κ l y cc nL d) (hd : decode cc pc = .ok (.tableswitch dflt lo hi offs, len)) (h : x.toInt < lo ∨ hi < x.toInt) (ht : (pc : Int) + dflt = (tgt : Int)) (k : V ω κ tgt L S σ) : V ω κ pc L (.int x :: S) σ := by
  obtain ⟨p, l', e, R, s, m, args, below, meth, c, cells, slots, Q⟩ := κ
  exact fun H locs ls hS hH hl => lv_tableOut K.1 K.2.1 hd h ht (k H locs ls hS hH hl)
theorem V_tableIn {dflt lo hi : Int} {offs : Array Int} {len : Nat} {x : Int32} {off : Int} {tgt : Nat} (K : Cx ω κ l y cc nL d) (hd : decode cc pc = .ok (.tableswitch dflt lo hi offs, len)) (h1 : ¬ x.toInt < lo) (h2 : ¬ hi < x.toInt) (ho : offs[(x.toInt - lo).toNat]? = some off) (ht : (pc : Int) + off = (tgt : Int)) (k : V ω κ tgt L S σ) : V ω κ pc L (.int x :: S) σ := by
  obtain ⟨p, l', e, R, s, m, args, below, meth, c, cells, slots, Q⟩ := κ
  exact fun H locs ls hS hH hl => lv_tableIn K.1 K.2.1 hd h1 h2 ho ht (k H locs ls hS hH hl)
theorem V_lookup {dflt : Int} {ps : Array (Int × Int)} {len : Nat} {x : Int32} {off : Int} {tgt : Nat} (K : Cx ω κ l y cc nL d) (hd : decode cc pc = .ok (.lookupswitch dflt ps, len)) (hp : (ps.toList.zip (ps.toList.drop 1)).all (fun (a, next) => a.1 < next.1) = true) (ho : Op.lookupswitch.offset ps.toList dflt x.toInt = off) (ht : (pc : Int) + off = (tgt : Int)) (k : V ω κ tgt L S σ) : V ω κ pc L (.int x :: S) σ := by
  obtain ⟨p, l', e, R, s, m, args, below, meth, c, cells, slots, Q⟩ := κ
  exact fun H locs ls hS hH hl => lv_lookup K.1 K.2.1 hd hp ho ht (k H locs ls hS hH hl)
/-- System.arraycopy of ints -/
theorem V_copyI {idx k0 k1 n0 n1 : Nat} {sp dp n : Int32} (K : Cx ω κ l y cc nL d) (hd : decode cc pc = .ok (.invokestatic idx, 3)) (hw : Cond.methodLink y.cls idx arraycopyName ∈ tbl) (h0 : shpA k0 = some (0, n0)) (h1 : shpA k1 = some (0, n1)) (hsp : ¬ sp < 0) (hdp : ¬ dp < 0) (hn : ¬ n < 0) (h4 : sp.toNatClampNeg + n.toNatClampNeg ≤ n0) (h5 : dp.toNatClampNeg + n.toNatClampNeg ≤ n1) (hdd : 2 ≤ d) (hS0 : (S.map fun v => v.category).sum ≤ 8)
    (kk : V ω κ (pc + 3) L S (pF σ k1 (va_cpy (σ.2.1 k0) (σ.2.1 k1) sp.toNatClampNeg dp.toNatClampNeg n.toNatClampNeg))) : V ω κ pc L (.int n :: .int dp :: .ref (ω.2.2.1 k1) :: .int sp :: .ref (ω.2.2.1 k0) :: S) σ := by
  obtain ⟨p, l', e, R, s, m, args, below, meth, cd, cells, slots, Q⟩ := κ
  obtain ⟨hx, hb, hml, hown, hts, hK, hWf, hSt, -, hfr, hlo, -, -⟩ := K
  intro H locs ls hS hH hl
  refine va_copyi hx hb hl.1.symm hown (hts _ hw) (hts _ (by decide +kernel)) (hts _ (by decide +kernel)) (hts _ (by decide +kernel)) hK hH (wd_D hWf σ) hS k0 k1 0 0 (by rw [wd_at _ _ (shpA_lt h0), ce_A0 h0]) (by rw [wd_at _ _ (shpA_lt h1), ce_A0 h1]) rfl rfl rfl hsp hdp hn h4 h5 (fun _ _ => rfl) (by omega) ?_ hd
    (fun H1 locs1 h6 h7 h8 => kk H1 locs1 ls h8 (by rw [wd_pF h1] at h6; exact h6) hl)
  have : nativeFrameWords "java/lang/System" "arraycopy" 5 ≤ 40 := by decide
  omega
theorem V_copyL {idx k0 k1 n0 n1 : Nat} {sp dp n : Int32} (K : Cx ω κ l y cc nL d) (hd : decode cc pc = .ok (.invokestatic idx, 3)) (hw : Cond.methodLink y.cls idx arraycopyName ∈ tbl) (h0 : shpA k0 = some (1, n0)) (h1 : shpA k1 = some (1, n1)) (hsp : ¬ sp < 0) (hdp : ¬ dp < 0) (hn : ¬ n < 0) (h4 : sp.toNatClampNeg + n.toNatClampNeg ≤ n0) (h5 : dp.toNatClampNeg + n.toNatClampNeg ≤ n1) (hdd : 2 ≤ d) (hS0 : (S.map fun v => v.category).sum ≤ 8)
    (kk : V ω κ (pc + 3) L S (pG σ k1 (va_cpy (σ.2.2.2 k0) (σ.2.2.2 k1) sp.toNatClampNeg dp.toNatClampNeg n.toNatClampNeg))) : V ω κ pc L (.int n :: .int dp :: .ref (ω.2.2.1 k1) :: .int sp :: .ref (ω.2.2.1 k0) :: S) σ := by
  obtain ⟨p, l', e, R, s, m, args, below, meth, cd, cells, slots, Q⟩ := κ
  obtain ⟨hx, hb, hml, hown, hts, hK, hWf, hSt, -, hfr, hlo, -, -⟩ := K
  intro H locs ls hS hH hl
  refine va_copyl hx hb hl.1.symm hown (hts _ hw) (hts _ (by decide +kernel)) (hts _ (by decide +kernel)) (hts _ (by decide +kernel)) hK hH (wd_D hWf σ) hS k0 k1 1 1 (by rw [wd_at _ _ (shpA_lt h0), ce_A1 h0]) (by rw [wd_at _ _ (shpA_lt h1), ce_A1 h1]) rfl rfl rfl hsp hdp hn h4 h5 (fun _ _ => rfl) (by omega) ?_ hd
    (fun H1 locs1 h6 h7 h8 => kk H1 locs1 ls h8 (by rw [wd_pG h1] at h6; exact h6) hl)
  have : nativeFrameWords "java/lang/System" "arraycopy" 5 ≤ 40 := by decide
  omega
end RULES2
end
section
/-! ===== the rows of V: returns, calls; a contract out of a walk ===== -/
theorem Stt.moved {ω : WT} {u U : State} {H : Heap} (hvm : u.vm.Alike U.vm) (h : Stt ω u H) : Stt ω U H := ⟨h.1.moved hvm, h.2.moved hvm⟩
theorem PB.blind {ω : WT} {σ : St} {as : List Value} : FrameBlind (va_Pc as (PB ω σ)) := fun a U g mk h => ⟨h.1, h.2.1, va_K.moved (u := U) (U := U.calling g mk a) (Vm.Alike.refl U.vm) h.2.2.1, h.2.2.2.moved (u := U) (U := U.calling g mk a) (Vm.Alike.refl U.vm)⟩
section RULES3
variable {ω : WT} {κ : KT} {l : Launch} {y : MethodName} {cc : ByteArray} {nL d pc : Nat} {L L' : List (Nat × Value)} {S : List Value} {σ : St} {ret : Option FieldType} {post : Option Value → St → Prop}
theorem Sp.of {as : List Value} (hy : plainName y.cls = true) (hlen : (lg_sl as).length ≤ nL) (hWf : Wf ω) (body : ∀ κ, Cm ω κ l y cc nL d ret post → V ω κ 0 (lv_args 0 as) [] σ) : Sp ω l y cc nL ret d as σ post := by
  refine Met.ofW (cc := cc) (maxL := nL) (ret := ret) hy rfl ?_
  intro p e s m args below meth c s₁ B hml hv
  obtain ⟨rfl, hH, hK, hSt⟩ := hv
  have hts := atoms_spec (ws := .code y cc nL ret :: tbl) B.pre
  have hown : s.vm.findClass y.cls = some m.cls := findClass_of_methodNamed B.named
  have hl := lv_entry as (n := nL) hlen
  rw [lg_entry_eq]
  exact body (p, l, e, rmD d, s, m, as.toArray, below, meth, c, 0, 0, MQ below (QM ω post) as.toArray s 0 0 (wA ω))
    ⟨⟨B.exec, B.bytes, hml, hown, fun w hw => hts w (List.mem_cons_of_mem _ hw), hK, hWf, hSt, rfl, Nat.le_refl _, Nat.le_refl _, Nat.le_refl _, Nat.le_refl _⟩, B.returns, B.notSynchronized, rfl⟩
    s.heap [] _ va_S.rf hH (by rw [hml]; exact hl)
theorem Sp.imp {as : List Value} {post' : Option Value → St → Prop} (h : Sp ω l y cc nL ret d as σ post) (hi : ∀ v σ', post v σ' → post' v σ') : Sp ω l y cc nL ret d as σ post' := by
  intro p e hp h1 h2 s m args below h3 h4 h5 h6
  obtain ⟨k, o, a1, a2, a3, ⟨⟨v, σ', b1, b2, b3⟩, b4⟩, a5⟩ := h p e hp h1 h2 s m args below h3 h4 h5 h6
  exact ⟨k, o, a1, a2, a3, ⟨⟨v, σ', b1, hi v σ' b2, b3⟩, b4⟩, a5⟩
theorem V_iret {v : Int32} (K : Cm ω κ l y cc nL d (some .int) post) (hd : decode cc pc = .ok (.ireturn, 1)) (h : post (some (.int v)) σ) : V ω κ pc L [.int v] σ := by
  obtain ⟨p, l', e, R, s, m, args, below, meth, cd, cells, slots, Q⟩ := κ
  obtain ⟨⟨hx, hb, -⟩, hr, hlk, rfl⟩ := K
  exact fun H locs ls hS hH hl => W.iret hx hb hr (fun t ht hW => ⟨⟨_, σ, rfl, h, by rw [ht]; exact hH⟩, hS.F ht⟩) hS.2.2 hd hlk
theorem V_zret {v : Int32} (K : Cm ω κ l y cc nL d (some .boolean) post) (hd : decode cc pc = .ok (.ireturn, 1)) (hz : v = 0 ∨ v = 1) (h : post (some (.int v)) σ) : V ω κ pc L [.int v] σ := by
  obtain ⟨p, l', e, R, s, m, args, below, meth, cd, cells, slots, Q⟩ := κ
  obtain ⟨⟨hx, hb, -⟩, hr, hlk, rfl⟩ := K
  exact fun H locs ls hS hH hl => W.zret hx hb hr (by rcases hz with rfl | rfl <;> rfl) (fun t ht hW => ⟨⟨_, σ, rfl, h, by rw [ht]; exact hH⟩, hS.F ht⟩) hS.2.2 hd hlk
theorem V_lret {v : Int64} (K : Cm ω κ l y cc nL d (some .long) post) (hd : decode cc pc = .ok (.lreturn, 1)) (h : post (some (.long v)) σ) : V ω κ pc L [.long v] σ := by
  obtain ⟨p, l', e, R, s, m, args, below, meth, cd, cells, slots, Q⟩ := κ
  obtain ⟨⟨hx, hb, -⟩, hr, hlk, rfl⟩ := K
  exact fun H locs ls hS hH hl => W.lret hx hb hr (fun t ht hW => ⟨⟨_, σ, rfl, h, by rw [ht]; exact hH⟩, hS.F ht⟩) hS.2.2 hd hlk
theorem V_vret (K : Cm ω κ l y cc nL d none post) (hd : decode cc pc = .ok (.return_, 1)) (h : post none σ) : V ω κ pc L [] σ := by
  obtain ⟨p, l', e, R, s, m, args, below, meth, cd, cells, slots, Q⟩ := κ
  obtain ⟨⟨hx, hb, -⟩, hr, hlk, rfl⟩ := K
  exact fun H locs ls hS hH hl => W.vret hx hb hr (fun t ht hW => ⟨⟨_, σ, rfl, h, by rw [ht]; exact hH⟩, hS.F ht⟩) hS.2.2 hd hlk
theorem W_run {p : Program} {e : Env} {R : Room} {s : State} {m : MethodId} {args : Array Value} {below : List Frame} {meth : Method} {c : Code} {H : Heap} {locs : List Loc} {cells slots : Nat} {Q : State → Prop} {ls : Array Slot} {st0 rest : List Value} {a : Array Value} {post' : Option Value → St → Prop}
    (hr : va_Run p l e R s m args below meth c H locs cells slots 0 0 (F0 m pc ls st0) rest (QM ω post' a) (wA ω)) (hS : va_S (wA ω) s.heap H locs)
    (kk : ∀ (v : Option Value) (σ' : St) (H1 : Heap) (locs1 : List Loc), post' v σ' → Hold ω σ' H1 → va_S (wA ω) s.heap H1 locs1 → W p l e R s m args below meth c H1 locs1 cells slots Q (F0 m (pc + 3) ls (v.toList ++ rest))) : W p l e R s m args below meth c H locs cells slots Q (F0 m pc ls st0) := by
  intro T hT X
  obtain ⟨v, st₀, t, T', L, h0, X', hL, e1, e2, ⟨⟨v', σ', hv, hp, hb⟩, hz, hk⟩, st⟩ := hr T hT X
  cases hv
  rw [h0] at hz hk
  obtain ⟨t2, a1, b1⟩ := kk v σ' T'.heap (locs ++ L) hp (by rw [e1]; exact hb)
    ⟨Nat.le_trans hS.1 (by rw [e1]; exact hz), fun q h1 h2 => by rw [e1, hk q (Nat.lt_of_lt_of_le h1 hS.1) h2]; exact hS.2.1 q h1 h2, fun q hq => by
      rcases List.mem_append.mp hq with h | h
      · exact hS.2.2 q h
      · exact hL q h⟩ T' rfl X'
  exact ⟨t2, st t2 a1, b1⟩
/-- a call's words: the link, the callee's code, how many arguments it takes -/
abbrev CW (own : String) (idx : Nat) (y : MethodName) (cc : ByteArray) (nL : Nat) (ret : Option FieldType) (n : Nat) : Prop := Cond.methodLink own idx y ∈ tbl ∧ Cond.initialized y.cls ∈ tbl ∧ Cond.code y cc nL ret ∈ tbl ∧ (y.cls ≠ "java/lang/invoke/MethodHandle" ∧ y.cls ≠ "java/lang/invoke/VarHandle" ∧ (parseMethodDescriptor y.desc).map (fun d => d.parameters.length) = some n) ∧ nL ≤ 21
abbrev CWV (own : String) (idx : Nat) (y : MethodName) (cc : ByteArray) (nL : Nat) (ret : Option FieldType) (n : Nat) : Prop := CW own idx y cc nL ret n ∧ Cond.instanceMethod y ∈ tbl ∧ Cond.selects y.cls y y ∈ tbl
abbrev CWS (own : String) (idx : Nat) (y : MethodName) (cc : ByteArray) (nL : Nat) (ret : Option FieldType) (n : Nat) : Prop := CW own idx y cc nL ret n ∧ Cond.static y ∈ tbl
theorem cw_B {R : Room} {s : State} {args : Array Value} {own : String} {idx n d' : Nat} {y' : MethodName} {cc' : ByteArray} {nL' : Nat} {ret' : Option FieldType} (hts : ∀ w ∈ tbl, w.before args s = true) (h : CW own idx y' cc' nL' ret' n) (hf : d' + 1 ≤ R.frames) (hlo : 40 * (d' + 1) ≤ R.locals) : CallB R s args own idx y' cc' nL' ret' (.code y' cc' nL' ret' :: tbl) (rmD d') 0 0 n := by
  obtain ⟨h1, h2, h3, h4, h5⟩ := h
  refine callB_of n hts (fun w hw => ?_) rfl rfl rfl (hts _ h2) (hts _ h1) h4 ⟨hf, by show 8 + (nL' + 11) + 40 * d' ≤ R.locals; omega⟩
  rcases List.mem_cons.mp hw with rfl | hw
  · exact tbl_good _ h3
  · exact tbl_good _ hw
theorem pb_at {ω : WT} {σ : St} {s U : State} {H : Heap} {locs : List Loc} (hS : va_S (wA ω) s.heap H locs) (hH : Hold ω σ H) (hK : va_K ω.1 vwCl (tysW ω) s) (hSt : Stt ω s s.heap) (hU : U.heap = H) (hW : s.WarmedH U.vm) : PB ω σ U := by
  refine ⟨by rw [hU]; exact hH, va_K.moved hW.alike hK, ?_⟩
  rw [hU]
  exact ⟨(hSt.1.kept hS.2.1).moved hW.alike, (hSt.2.kept hS.2.1).moved hW.alike⟩
theorem V_callV {idx k ci n d' nL' N : Nat} {fl : List Nat} {T : u_T} {y' : MethodName} {cc' : ByteArray} {ret' : Option FieldType} {As rest : List Value} {post' : Option Value → St → Prop} (K : Cx ω κ l y cc nL d) (hd : decode cc pc = .ok (.invokevirtual idx, 3)) (hw : CWV y.cls idx y' cc' nL' ret' n) (ho : shpO k = some (ci, fl)) (hc : vwCl[ci]? = some (y'.cls, T, N)) (hn : As.length = n) (hdd : d' + 1 ≤ d) (hst : S = As.reverse ++ .ref (ω.2.2.1 k) :: rest) (hW : (rest.map fun v => v.category).sum ≤ 8) (hM : Sp ω l y' cc' nL' ret' d' (.ref (ω.2.2.1 k) :: As) σ post')
    (kk : ∀ (v : Option Value) (σ' : St), post' v σ' → V ω κ (pc + 3) L (v.toList ++ rest) σ') : V ω κ pc L S σ := by
  obtain ⟨p, l', e, R, s, m, args, below, meth, cd, cells, slots, Q⟩ := κ
  obtain ⟨hx, hb, hml, hown, hts, hK, hWf, hSt, rfl, hfr, hlo, hce, hsl⟩ := K
  intro H locs ls hS hH hl
  refine W_run (va_runV (Ts := tbl) ⟨hx, hb, hml, hown, hts⟩ hM ⟨cw_B hts hw.1 (by omega) (by omega), hts _ hw.2.1, hts _ hw.2.2⟩ ⟨PB.blind, va_recv hK hH hc (q0 := k) (by rw [wd_at _ _ (shpO_lt ho), ce_O ho]), fun U hU hW => ⟨rfl, pb_at hS hH hK hSt hU hW⟩⟩ rfl hn (by rw [← hml]; exact hl.1) hst (by show 2 * 0 + _ ≤ 8; omega) hd ⟨hce, hsl⟩) hS (fun v σ' H1 locs1 hp h1 h2 => kk v σ' hp H1 locs1 ls h2 h1 hl)
theorem V_callS {idx n d' nL' : Nat} {y' : MethodName} {cc' : ByteArray} {ret' : Option FieldType} {As rest : List Value} {post' : Option Value → St → Prop} (K : Cx ω κ l y cc nL d) (hd : decode cc pc = .ok (.invokestatic idx, 3)) (hw : CWS y.cls idx y' cc' nL' ret' n) (hn : As.length = n) (hdd : d' + 1 ≤ d) (hst : S = As.reverse ++ rest) (hW : (rest.map fun v => v.category).sum ≤ 8) (hM : Sp ω l y' cc' nL' ret' d' As σ post')
    (kk : ∀ (v : Option Value) (σ' : St), post' v σ' → V ω κ (pc + 3) L (v.toList ++ rest) σ') : V ω κ pc L S σ := by
  obtain ⟨p, l', e, R, s, m, args, below, meth, cd, cells, slots, Q⟩ := κ
  obtain ⟨hx, hb, hml, hown, hts, hK, hWf, hSt, rfl, hfr, hlo, hce, hsl⟩ := K
  intro H locs ls hS hH hl
  refine W_run (va_runS (Ts := tbl) ⟨hx, hb, hml, hown, hts⟩ hM ⟨cw_B hts hw.1 (by omega) (by omega), hts _ hw.2⟩ ⟨PB.blind, fun U hU hW => ⟨rfl, pb_at hS hH hK hSt hU hW⟩⟩ rfl hn (by rw [← hml]; exact hl.1) hst (by show 2 * 0 + _ ≤ 8; omega) hd ⟨hce, hsl⟩) hS (fun v σ' H1 locs1 hp h1 h2 => kk v σ' hp H1 locs1 ls h2 h1 hl)
/-- contracts that say their answer and the state behind -/
def rI (r : Int32) (σ1 : St) : Option Value → St → Prop := fun v σ' => v = some (.int r) ∧ σ' = σ1
def rJ (r : Int64) (σ1 : St) : Option Value → St → Prop := fun v σ' => v = some (.long r) ∧ σ' = σ1
def rV (σ1 : St) : Option Value → St → Prop := fun v σ' => v = none ∧ σ' = σ1
theorem go_I {r : Int32} {σ1 : St} {rest : List Value} (k : V ω κ pc L (.int r :: rest) σ1) : ∀ (v : Option Value) (σ' : St), rI r σ1 v σ' → V ω κ pc L (v.toList ++ rest) σ' := fun _ _ h => by obtain ⟨rfl, rfl⟩ := h; exact k
theorem go_J {r : Int64} {σ1 : St} {rest : List Value} (k : V ω κ pc L (.long r :: rest) σ1) : ∀ (v : Option Value) (σ' : St), rJ r σ1 v σ' → V ω κ pc L (v.toList ++ rest) σ' := fun _ _ h => by obtain ⟨rfl, rfl⟩ := h; exact k
theorem go_V {σ1 : St} {rest : List Value} (k : V ω κ pc L rest σ1) : ∀ (v : Option Value) (σ' : St), rV σ1 v σ' → V ω κ pc L (v.toList ++ rest) σ' := fun _ _ h => by obtain ⟨rfl, rfl⟩ := h; exact k
end RULES3
end
section
theorem itX0 : ∀ w ∈ u_ws RX0 TX0 7, w ∈ tbl := by decide +kernel
theorem itX1 : ∀ w ∈ u_ws RX1 TX1 6, w ∈ tbl := by decide +kernel
theorem itX2 : ∀ w ∈ u_ws RX2 TX2 6, w ∈ tbl := by decide +kernel
theorem itX3 : ∀ w ∈ u_ws RX3 TX3 7, w ∈ tbl := by decide +kernel
theorem itX4 : ∀ w ∈ u_ws RX4 TX4 5, w ∈ tbl := by decide +kernel
theorem itX5 : ∀ w ∈ u_ws RX5 TX5 6, w ∈ tbl := by decide +kernel
theorem itX6 : ∀ w ∈ u_ws RX6 TX6 3, w ∈ tbl := by decide +kernel
theorem itX7 : ∀ w ∈ u_ws RX7 TX7 10, w ∈ tbl := by decide +kernel
theorem itX8 : ∀ w ∈ u_ws RX8 TX8 10, w ∈ tbl := by decide +kernel
theorem itX9 : ∀ w ∈ u_ws RX9 TX9 44, w ∈ tbl := by decide +kernel
theorem fw_X6_9 : FW RX6 9 RX6 TX6 3 0 := ⟨itX6, by decide, tbl_in 88 (by decide +kernel) rfl, rfl⟩
theorem fw_X8_253 : FW RX8 253 RX6 TX6 3 0 := ⟨itX6, by decide, tbl_in 89 (by decide +kernel) rfl, rfl⟩
theorem fw_X6_15 : FW RX6 15 RX6 TX6 3 1 := ⟨itX6, by decide, tbl_in 90 (by decide +kernel) rfl, rfl⟩
theorem fw_X6_25 : FW RX6 25 RX6 TX6 3 2 := ⟨itX6, by decide, tbl_in 91 (by decide +kernel) rfl, rfl⟩
theorem fw_X8_250 : FW RX8 250 RX6 TX6 3 2 := ⟨itX6, by decide, tbl_in 92 (by decide +kernel) rfl, rfl⟩
theorem fw_X7_21 : FW RX7 21 RX7 TX7 10 0 := ⟨itX7, by decide, tbl_in 107 (by decide +kernel) rfl, rfl⟩
theorem fw_X3_39 : FW RX3 39 RX7 TX7 10 0 := ⟨itX7, by decide, tbl_in 108 (by decide +kernel) rfl, rfl⟩
theorem fw_X8_85 : FW RX8 85 RX7 TX7 10 0 := ⟨itX7, by decide, tbl_in 109 (by decide +kernel) rfl, rfl⟩
theorem fw_X2_30 : FW RX2 30 RX7 TX7 10 0 := ⟨itX7, by decide, tbl_in 110 (by decide +kernel) rfl, rfl⟩
theorem fw_X7_25 : FW RX7 25 RX7 TX7 10 1 := ⟨itX7, by decide, tbl_in 111 (by decide +kernel) rfl, rfl⟩
theorem fw_X4_56 : FW RX4 56 RX7 TX7 10 1 := ⟨itX7, by decide, tbl_in 112 (by decide +kernel) rfl, rfl⟩
theorem fw_X8_278 : FW RX8 278 RX7 TX7 10 1 := ⟨itX7, by decide, tbl_in 113 (by decide +kernel) rfl, rfl⟩
theorem fw_X2_22 : FW RX2 22 RX7 TX7 10 2 := ⟨itX7, by decide, tbl_in 114 (by decide +kernel) rfl, rfl⟩
theorem fw_X8_111 : FW RX8 111 RX7 TX7 10 2 := ⟨itX7, by decide, tbl_in 115 (by decide +kernel) rfl, rfl⟩
theorem fw_X7_61 : FW RX7 61 RX7 TX7 10 2 := ⟨itX7, by decide, tbl_in 116 (by decide +kernel) rfl, rfl⟩
theorem fw_X2_25 : FW RX2 25 RX7 TX7 10 3 := ⟨itX7, by decide, tbl_in 117 (by decide +kernel) rfl, rfl⟩
theorem fw_X8_114 : FW RX8 114 RX7 TX7 10 3 := ⟨itX7, by decide, tbl_in 118 (by decide +kernel) rfl, rfl⟩
theorem fw_X7_64 : FW RX7 64 RX7 TX7 10 3 := ⟨itX7, by decide, tbl_in 119 (by decide +kernel) rfl, rfl⟩
theorem fw_X0_35 : FW RX0 35 RX7 TX7 10 4 := ⟨itX7, by decide, tbl_in 120 (by decide +kernel) rfl, rfl⟩
theorem fw_X3_45 : FW RX3 45 RX7 TX7 10 4 := ⟨itX7, by decide, tbl_in 121 (by decide +kernel) rfl, rfl⟩
theorem fw_X1_48 : FW RX1 48 RX7 TX7 10 4 := ⟨itX7, by decide, tbl_in 122 (by decide +kernel) rfl, rfl⟩
theorem fw_X4_47 : FW RX4 47 RX7 TX7 10 4 := ⟨itX7, by decide, tbl_in 123 (by decide +kernel) rfl, rfl⟩
theorem fw_X7_28 : FW RX7 28 RX7 TX7 10 4 := ⟨itX7, by decide, tbl_in 124 (by decide +kernel) rfl, rfl⟩
theorem fw_X8_120 : FW RX8 120 RX7 TX7 10 4 := ⟨itX7, by decide, tbl_in 125 (by decide +kernel) rfl, rfl⟩
theorem fw_X2_77 : FW RX2 77 RX7 TX7 10 5 := ⟨itX7, by decide, tbl_in 126 (by decide +kernel) rfl, rfl⟩
theorem fw_X7_67 : FW RX7 67 RX7 TX7 10 5 := ⟨itX7, by decide, tbl_in 127 (by decide +kernel) rfl, rfl⟩
theorem fw_X2_74 : FW RX2 74 RX7 TX7 10 6 := ⟨itX7, by decide, tbl_in 128 (by decide +kernel) rfl, rfl⟩
theorem fw_X7_70 : FW RX7 70 RX7 TX7 10 6 := ⟨itX7, by decide, tbl_in 129 (by decide +kernel) rfl, rfl⟩
theorem fw_X7_9 : FW RX7 9 RX7 TX7 10 7 := ⟨itX7, by decide, tbl_in 130 (by decide +kernel) rfl, rfl⟩
theorem fw_X8_93 : FW RX8 93 RX7 TX7 10 7 := ⟨itX7, by decide, tbl_in 131 (by decide +kernel) rfl, rfl⟩
theorem fw_X7_15 : FW RX7 15 RX7 TX7 10 8 := ⟨itX7, by decide, tbl_in 132 (by decide +kernel) rfl, rfl⟩
theorem fw_X0_47 : FW RX0 47 RX7 TX7 10 8 := ⟨itX7, by decide, tbl_in 133 (by decide +kernel) rfl, rfl⟩
theorem fw_X3_48 : FW RX3 48 RX7 TX7 10 8 := ⟨itX7, by decide, tbl_in 134 (by decide +kernel) rfl, rfl⟩
theorem fw_X1_54 : FW RX1 54 RX7 TX7 10 8 := ⟨itX7, by decide, tbl_in 135 (by decide +kernel) rfl, rfl⟩
theorem fw_X8_104 : FW RX8 104 RX7 TX7 10 8 := ⟨itX7, by decide, tbl_in 136 (by decide +kernel) rfl, rfl⟩
theorem fw_X4_59 : FW RX4 59 RX7 TX7 10 8 := ⟨itX7, by decide, tbl_in 137 (by decide +kernel) rfl, rfl⟩
theorem fw_X7_18 : FW RX7 18 RX7 TX7 10 9 := ⟨itX7, by decide, tbl_in 138 (by decide +kernel) rfl, rfl⟩
theorem fw_X0_50 : FW RX0 50 RX7 TX7 10 9 := ⟨itX7, by decide, tbl_in 139 (by decide +kernel) rfl, rfl⟩
theorem fw_X3_51 : FW RX3 51 RX7 TX7 10 9 := ⟨itX7, by decide, tbl_in 140 (by decide +kernel) rfl, rfl⟩
theorem fw_X1_57 : FW RX1 57 RX7 TX7 10 9 := ⟨itX7, by decide, tbl_in 141 (by decide +kernel) rfl, rfl⟩
theorem fw_X4_53 : FW RX4 53 RX7 TX7 10 9 := ⟨itX7, by decide, tbl_in 142 (by decide +kernel) rfl, rfl⟩
theorem fw_X8_127 : FW RX8 127 RX7 TX7 10 9 := ⟨itX7, by decide, tbl_in 143 (by decide +kernel) rfl, rfl⟩
theorem fw_X2_9 : FW RX2 9 RX2 TX2 6 0 := ⟨itX2, by decide, tbl_in 171 (by decide +kernel) rfl, rfl⟩
theorem fw_X2_15 : FW RX2 15 RX2 TX2 6 1 := ⟨itX2, by decide, tbl_in 172 (by decide +kernel) rfl, rfl⟩
theorem fw_X2_19 : FW RX2 19 RX2 TX2 6 2 := ⟨itX2, by decide, tbl_in 173 (by decide +kernel) rfl, rfl⟩
theorem fw_X0_57 : FW RX0 57 RX2 TX2 6 3 := ⟨itX2, by decide, tbl_in 174 (by decide +kernel) rfl, rfl⟩
theorem fw_X2_52 : FW RX2 52 RX2 TX2 6 3 := ⟨itX2, by decide, tbl_in 175 (by decide +kernel) rfl, rfl⟩
theorem fw_X0_59 : FW RX0 59 RX2 TX2 6 4 := ⟨itX2, by decide, tbl_in 176 (by decide +kernel) rfl, rfl⟩
theorem fw_X1_79 : FW RX1 79 RX2 TX2 6 4 := ⟨itX2, by decide, tbl_in 177 (by decide +kernel) rfl, rfl⟩
theorem fw_X3_93 : FW RX3 93 RX2 TX2 6 4 := ⟨itX2, by decide, tbl_in 178 (by decide +kernel) rfl, rfl⟩
theorem fw_X4_66 : FW RX4 66 RX2 TX2 6 4 := ⟨itX2, by decide, tbl_in 179 (by decide +kernel) rfl, rfl⟩
theorem fw_X2_55 : FW RX2 55 RX2 TX2 6 4 := ⟨itX2, by decide, tbl_in 180 (by decide +kernel) rfl, rfl⟩
theorem fw_X0_61 : FW RX0 61 RX2 TX2 6 5 := ⟨itX2, by decide, tbl_in 181 (by decide +kernel) rfl, rfl⟩
theorem fw_X3_90 : FW RX3 90 RX2 TX2 6 5 := ⟨itX2, by decide, tbl_in 182 (by decide +kernel) rfl, rfl⟩
theorem fw_X2_58 : FW RX2 58 RX2 TX2 6 5 := ⟨itX2, by decide, tbl_in 183 (by decide +kernel) rfl, rfl⟩
theorem fw_X4_82 : FW RX4 82 RX2 TX2 6 5 := ⟨itX2, by decide, tbl_in 184 (by decide +kernel) rfl, rfl⟩
theorem fw_X0_27 : FW RX0 27 RX0 TX0 7 0 := ⟨itX0, by decide, tbl_in 204 (by decide +kernel) rfl, rfl⟩
theorem fw_X0_31 : FW RX0 31 RX0 TX0 7 1 := ⟨itX0, by decide, tbl_in 205 (by decide +kernel) rfl, rfl⟩
theorem fw_X0_9 : FW RX0 9 RX0 TX0 7 2 := ⟨itX0, by decide, tbl_in 206 (by decide +kernel) rfl, rfl⟩
theorem fw_X8_130 : FW RX8 130 RX0 TX0 7 2 := ⟨itX0, by decide, tbl_in 207 (by decide +kernel) rfl, rfl⟩
theorem fw_X0_15 : FW RX0 15 RX0 TX0 7 3 := ⟨itX0, by decide, tbl_in 208 (by decide +kernel) rfl, rfl⟩
theorem fw_X8_133 : FW RX8 133 RX0 TX0 7 3 := ⟨itX0, by decide, tbl_in 209 (by decide +kernel) rfl, rfl⟩
theorem fw_X0_18 : FW RX0 18 RX0 TX0 7 4 := ⟨itX0, by decide, tbl_in 210 (by decide +kernel) rfl, rfl⟩
theorem fw_X5_55 : FW RX5 55 RX0 TX0 7 4 := ⟨itX0, by decide, tbl_in 211 (by decide +kernel) rfl, rfl⟩
theorem fw_X8_136 : FW RX8 136 RX0 TX0 7 4 := ⟨itX0, by decide, tbl_in 212 (by decide +kernel) rfl, rfl⟩
theorem fw_X0_21 : FW RX0 21 RX0 TX0 7 5 := ⟨itX0, by decide, tbl_in 213 (by decide +kernel) rfl, rfl⟩
theorem fw_X8_139 : FW RX8 139 RX0 TX0 7 5 := ⟨itX0, by decide, tbl_in 214 (by decide +kernel) rfl, rfl⟩
theorem fw_X0_24 : FW RX0 24 RX0 TX0 7 6 := ⟨itX0, by decide, tbl_in 215 (by decide +kernel) rfl, rfl⟩
theorem fw_X5_15 : FW RX5 15 RX5 TX5 6 0 := ⟨itX5, by decide, tbl_in 237 (by decide +kernel) rfl, rfl⟩
theorem fw_X5_19 : FW RX5 19 RX5 TX5 6 1 := ⟨itX5, by decide, tbl_in 238 (by decide +kernel) rfl, rfl⟩
theorem fw_X5_9 : FW RX5 9 RX5 TX5 6 2 := ⟨itX5, by decide, tbl_in 239 (by decide +kernel) rfl, rfl⟩
theorem fw_X5_35 : FW RX5 35 RX5 TX5 6 3 := ⟨itX5, by decide, tbl_in 240 (by decide +kernel) rfl, rfl⟩
theorem fw_X5_43 : FW RX5 43 RX5 TX5 6 4 := ⟨itX5, by decide, tbl_in 241 (by decide +kernel) rfl, rfl⟩
theorem fw_X8_155 : FW RX8 155 RX5 TX5 6 4 := ⟨itX5, by decide, tbl_in 242 (by decide +kernel) rfl, rfl⟩
theorem fw_X5_46 : FW RX5 46 RX5 TX5 6 5 := ⟨itX5, by decide, tbl_in 243 (by decide +kernel) rfl, rfl⟩
theorem fw_X8_158 : FW RX8 158 RX5 TX5 6 5 := ⟨itX5, by decide, tbl_in 244 (by decide +kernel) rfl, rfl⟩
theorem fw_X1_24 : FW RX1 24 RX1 TX1 6 0 := ⟨itX1, by decide, tbl_in 264 (by decide +kernel) rfl, rfl⟩
theorem fw_X1_28 : FW RX1 28 RX1 TX1 6 1 := ⟨itX1, by decide, tbl_in 265 (by decide +kernel) rfl, rfl⟩
theorem fw_X1_9 : FW RX1 9 RX1 TX1 6 2 := ⟨itX1, by decide, tbl_in 266 (by decide +kernel) rfl, rfl⟩
theorem fw_X1_15 : FW RX1 15 RX1 TX1 6 3 := ⟨itX1, by decide, tbl_in 267 (by decide +kernel) rfl, rfl⟩
theorem fw_X1_18 : FW RX1 18 RX1 TX1 6 4 := ⟨itX1, by decide, tbl_in 268 (by decide +kernel) rfl, rfl⟩
theorem fw_X1_21 : FW RX1 21 RX1 TX1 6 5 := ⟨itX1, by decide, tbl_in 269 (by decide +kernel) rfl, rfl⟩
theorem fw_X4_18 : FW RX4 18 RX4 TX4 5 0 := ⟨itX4, by decide, tbl_in 289 (by decide +kernel) rfl, rfl⟩
theorem fw_X4_22 : FW RX4 22 RX4 TX4 5 1 := ⟨itX4, by decide, tbl_in 290 (by decide +kernel) rfl, rfl⟩
theorem fw_X4_9 : FW RX4 9 RX4 TX4 5 2 := ⟨itX4, by decide, tbl_in 291 (by decide +kernel) rfl, rfl⟩
theorem fw_X4_26 : FW RX4 26 RX4 TX4 5 3 := ⟨itX4, by decide, tbl_in 292 (by decide +kernel) rfl, rfl⟩
theorem fw_X4_15 : FW RX4 15 RX4 TX4 5 4 := ⟨itX4, by decide, tbl_in 293 (by decide +kernel) rfl, rfl⟩
theorem fw_X8_179 : FW RX8 179 RX4 TX4 5 4 := ⟨itX4, by decide, tbl_in 294 (by decide +kernel) rfl, rfl⟩
theorem fw_X3_22 : FW RX3 22 RX3 TX3 7 0 := ⟨itX3, by decide, tbl_in 312 (by decide +kernel) rfl, rfl⟩
theorem fw_X3_26 : FW RX3 26 RX3 TX3 7 1 := ⟨itX3, by decide, tbl_in 313 (by decide +kernel) rfl, rfl⟩
theorem fw_X3_9 : FW RX3 9 RX3 TX3 7 2 := ⟨itX3, by decide, tbl_in 314 (by decide +kernel) rfl, rfl⟩
theorem fw_X3_15 : FW RX3 15 RX3 TX3 7 3 := ⟨itX3, by decide, tbl_in 315 (by decide +kernel) rfl, rfl⟩
theorem fw_X3_19 : FW RX3 19 RX3 TX3 7 4 := ⟨itX3, by decide, tbl_in 316 (by decide +kernel) rfl, rfl⟩
theorem fw_X3_64 : FW RX3 64 RX3 TX3 7 5 := ⟨itX3, by decide, tbl_in 317 (by decide +kernel) rfl, rfl⟩
theorem fw_X8_199 : FW RX8 199 RX3 TX3 7 5 := ⟨itX3, by decide, tbl_in 318 (by decide +kernel) rfl, rfl⟩
theorem fw_X3_68 : FW RX3 68 RX3 TX3 7 6 := ⟨itX3, by decide, tbl_in 319 (by decide +kernel) rfl, rfl⟩
theorem fw_X8_203 : FW RX8 203 RX3 TX3 7 6 := ⟨itX3, by decide, tbl_in 320 (by decide +kernel) rfl, rfl⟩
theorem fw_X8_13 : FW RX8 13 RX8 TX8 10 0 := ⟨itX8, by decide, tbl_in 337 (by decide +kernel) rfl, rfl⟩
theorem fw_X8_21 : FW RX8 21 RX8 TX8 10 1 := ⟨itX8, by decide, tbl_in 338 (by decide +kernel) rfl, rfl⟩
theorem fw_X8_30 : FW RX8 30 RX8 TX8 10 2 := ⟨itX8, by decide, tbl_in 339 (by decide +kernel) rfl, rfl⟩
theorem fw_X8_39 : FW RX8 39 RX8 TX8 10 3 := ⟨itX8, by decide, tbl_in 340 (by decide +kernel) rfl, rfl⟩
theorem fw_X8_48 : FW RX8 48 RX8 TX8 10 4 := ⟨itX8, by decide, tbl_in 341 (by decide +kernel) rfl, rfl⟩
theorem fw_X8_55 : FW RX8 55 RX8 TX8 10 5 := ⟨itX8, by decide, tbl_in 342 (by decide +kernel) rfl, rfl⟩
theorem fw_X8_62 : FW RX8 62 RX8 TX8 10 6 := ⟨itX8, by decide, tbl_in 343 (by decide +kernel) rfl, rfl⟩
theorem fw_X8_69 : FW RX8 69 RX8 TX8 10 7 := ⟨itX8, by decide, tbl_in 344 (by decide +kernel) rfl, rfl⟩
theorem fw_X8_275 : FW RX8 275 RX8 TX8 10 8 := ⟨itX8, by decide, tbl_in 345 (by decide +kernel) rfl, rfl⟩
theorem fw_X8_220 : FW RX8 220 RX8 TX8 10 9 := ⟨itX8, by decide, tbl_in 346 (by decide +kernel) rfl, rfl⟩
theorem fw_X4_69 : Cond.fieldLink RX4 69 "WonBySeats$Orders" "ORDERS_OF" "[I" ∈ tbl := tbl_in 623 (by decide +kernel) rfl
theorem fw_X9_81 : FW RX9 81 RX9 TX9 44 0 := ⟨itX9, by decide, tbl_in 778 (by decide +kernel) rfl, rfl⟩
theorem fw_X9_295 : FW RX9 295 RX9 TX9 44 1 := ⟨itX9, by decide, tbl_in 779 (by decide +kernel) rfl, rfl⟩
theorem fw_X9_9 : FW RX9 9 RX9 TX9 44 2 := ⟨itX9, by decide, tbl_in 780 (by decide +kernel) rfl, rfl⟩
theorem fw_X9_13 : FW RX9 13 RX9 TX9 44 3 := ⟨itX9, by decide, tbl_in 781 (by decide +kernel) rfl, rfl⟩
theorem fw_X9_16 : FW RX9 16 RX9 TX9 44 4 := ⟨itX9, by decide, tbl_in 782 (by decide +kernel) rfl, rfl⟩
theorem fw_X9_91 : FW RX9 91 RX9 TX9 44 5 := ⟨itX9, by decide, tbl_in 783 (by decide +kernel) rfl, rfl⟩
theorem fw_X9_94 : FW RX9 94 RX9 TX9 44 6 := ⟨itX9, by decide, tbl_in 784 (by decide +kernel) rfl, rfl⟩
theorem fw_X9_19 : FW RX9 19 RX9 TX9 44 7 := ⟨itX9, by decide, tbl_in 785 (by decide +kernel) rfl, rfl⟩
theorem fw_X9_22 : FW RX9 22 RX9 TX9 44 8 := ⟨itX9, by decide, tbl_in 786 (by decide +kernel) rfl, rfl⟩
theorem fw_X9_124 : FW RX9 124 RX9 TX9 44 9 := ⟨itX9, by decide, tbl_in 787 (by decide +kernel) rfl, rfl⟩
theorem fw_X9_127 : FW RX9 127 RX9 TX9 44 10 := ⟨itX9, by decide, tbl_in 788 (by decide +kernel) rfl, rfl⟩
theorem fw_X9_130 : FW RX9 130 RX9 TX9 44 11 := ⟨itX9, by decide, tbl_in 789 (by decide +kernel) rfl, rfl⟩
theorem fw_X9_25 : FW RX9 25 RX9 TX9 44 12 := ⟨itX9, by decide, tbl_in 790 (by decide +kernel) rfl, rfl⟩
theorem fw_X9_97 : FW RX9 97 RX9 TX9 44 13 := ⟨itX9, by decide, tbl_in 791 (by decide +kernel) rfl, rfl⟩
theorem fw_X9_118 : FW RX9 118 RX9 TX9 44 14 := ⟨itX9, by decide, tbl_in 792 (by decide +kernel) rfl, rfl⟩
theorem fw_X9_121 : FW RX9 121 RX9 TX9 44 15 := ⟨itX9, by decide, tbl_in 793 (by decide +kernel) rfl, rfl⟩
theorem fw_X9_28 : FW RX9 28 RX9 TX9 44 16 := ⟨itX9, by decide, tbl_in 794 (by decide +kernel) rfl, rfl⟩
theorem fw_X9_31 : FW RX9 31 RX9 TX9 44 17 := ⟨itX9, by decide, tbl_in 795 (by decide +kernel) rfl, rfl⟩
theorem fw_X9_154 : FW RX9 154 RX9 TX9 44 18 := ⟨itX9, by decide, tbl_in 796 (by decide +kernel) rfl, rfl⟩
theorem fw_X9_157 : FW RX9 157 RX9 TX9 44 19 := ⟨itX9, by decide, tbl_in 797 (by decide +kernel) rfl, rfl⟩
theorem fw_X9_161 : FW RX9 161 RX9 TX9 44 20 := ⟨itX9, by decide, tbl_in 798 (by decide +kernel) rfl, rfl⟩
theorem fw_X9_164 : FW RX9 164 RX9 TX9 44 21 := ⟨itX9, by decide, tbl_in 799 (by decide +kernel) rfl, rfl⟩
theorem fw_X9_167 : FW RX9 167 RX9 TX9 44 22 := ⟨itX9, by decide, tbl_in 800 (by decide +kernel) rfl, rfl⟩
theorem fw_X9_170 : FW RX9 170 RX9 TX9 44 23 := ⟨itX9, by decide, tbl_in 801 (by decide +kernel) rfl, rfl⟩
theorem fw_X9_173 : FW RX9 173 RX9 TX9 44 24 := ⟨itX9, by decide, tbl_in 802 (by decide +kernel) rfl, rfl⟩
theorem fw_X9_180 : FW RX9 180 RX9 TX9 44 25 := ⟨itX9, by decide, tbl_in 803 (by decide +kernel) rfl, rfl⟩
theorem fw_X9_183 : FW RX9 183 RX9 TX9 44 26 := ⟨itX9, by decide, tbl_in 804 (by decide +kernel) rfl, rfl⟩
theorem fw_X9_34 : FW RX9 34 RX9 TX9 44 27 := ⟨itX9, by decide, tbl_in 805 (by decide +kernel) rfl, rfl⟩
theorem fw_X9_37 : FW RX9 37 RX9 TX9 44 28 := ⟨itX9, by decide, tbl_in 806 (by decide +kernel) rfl, rfl⟩
theorem fw_X9_40 : FW RX9 40 RX9 TX9 44 29 := ⟨itX9, by decide, tbl_in 807 (by decide +kernel) rfl, rfl⟩
theorem fw_X9_43 : FW RX9 43 RX9 TX9 44 30 := ⟨itX9, by decide, tbl_in 808 (by decide +kernel) rfl, rfl⟩
theorem fw_X9_46 : FW RX9 46 RX9 TX9 44 31 := ⟨itX9, by decide, tbl_in 809 (by decide +kernel) rfl, rfl⟩
theorem fw_X9_221 : FW RX9 221 RX9 TX9 44 32 := ⟨itX9, by decide, tbl_in 810 (by decide +kernel) rfl, rfl⟩
theorem fw_X9_224 : FW RX9 224 RX9 TX9 44 33 := ⟨itX9, by decide, tbl_in 811 (by decide +kernel) rfl, rfl⟩
theorem fw_X9_49 : FW RX9 49 RX9 TX9 44 34 := ⟨itX9, by decide, tbl_in 812 (by decide +kernel) rfl, rfl⟩
theorem fw_X9_52 : FW RX9 52 RX9 TX9 44 35 := ⟨itX9, by decide, tbl_in 813 (by decide +kernel) rfl, rfl⟩
theorem fw_X9_56 : FW RX9 56 RX9 TX9 44 36 := ⟨itX9, by decide, tbl_in 814 (by decide +kernel) rfl, rfl⟩
theorem fw_X9_59 : FW RX9 59 RX9 TX9 44 37 := ⟨itX9, by decide, tbl_in 815 (by decide +kernel) rfl, rfl⟩
theorem fw_X9_62 : FW RX9 62 RX9 TX9 44 38 := ⟨itX9, by decide, tbl_in 816 (by decide +kernel) rfl, rfl⟩
theorem fw_X9_65 : FW RX9 65 RX9 TX9 44 39 := ⟨itX9, by decide, tbl_in 817 (by decide +kernel) rfl, rfl⟩
theorem fw_X9_68 : FW RX9 68 RX9 TX9 44 40 := ⟨itX9, by decide, tbl_in 818 (by decide +kernel) rfl, rfl⟩
theorem fw_X9_71 : FW RX9 71 RX9 TX9 44 41 := ⟨itX9, by decide, tbl_in 819 (by decide +kernel) rfl, rfl⟩
theorem fw_X9_74 : FW RX9 74 RX9 TX9 44 42 := ⟨itX9, by decide, tbl_in 820 (by decide +kernel) rfl, rfl⟩
theorem fw_X9_78 : FW RX9 78 RX9 TX9 44 43 := ⟨itX9, by decide, tbl_in 821 (by decide +kernel) rfl, rfl⟩
theorem pw_X2_1 : PW RX2 TX2 6 1 tyX2 := ⟨tyX2_ok, nmX2, rfl⟩
theorem pw_X2_2 : PW RX2 TX2 6 2 tyX2 := ⟨tyX2_ok, nmX2, rfl⟩
theorem pw_X2_3 : PW RX2 TX2 6 3 tyX2 := ⟨tyX2_ok, nmX2, rfl⟩
theorem pw_X2_4 : PW RX2 TX2 6 4 tyX2 := ⟨tyX2_ok, nmX2, rfl⟩
theorem pw_X2_5 : PW RX2 TX2 6 5 tyX2 := ⟨tyX2_ok, nmX2, rfl⟩
theorem pw_X3_5 : PW RX3 TX3 7 5 tyX3 := ⟨tyX3_ok, nmX3, rfl⟩
theorem pw_X3_6 : PW RX3 TX3 7 6 tyX3 := ⟨tyX3_ok, nmX3, rfl⟩
theorem pw_X4_3 : PW RX4 TX4 5 3 tyX4 := ⟨tyX4_ok, nmX4, rfl⟩
theorem pw_X5_3 : PW RX5 TX5 6 3 tyX5 := ⟨tyX5_ok, nmX5, rfl⟩
theorem pw_X5_4 : PW RX5 TX5 6 4 tyX5 := ⟨tyX5_ok, nmX5, rfl⟩
theorem pw_X5_5 : PW RX5 TX5 6 5 tyX5 := ⟨tyX5_ok, nmX5, rfl⟩
theorem pw_X6_1 : PW RX6 TX6 3 1 tyX6 := ⟨tyX6_ok, nmX6, rfl⟩
theorem pw_X6_2 : PW RX6 TX6 3 2 tyX6 := ⟨tyX6_ok, nmX6, rfl⟩
theorem pw_X7_0 : PW RX7 TX7 10 0 tyX7 := ⟨tyX7_ok, nmX7, rfl⟩
theorem pw_X7_1 : PW RX7 TX7 10 1 tyX7 := ⟨tyX7_ok, nmX7, rfl⟩
theorem pw_X7_2 : PW RX7 TX7 10 2 tyX7 := ⟨tyX7_ok, nmX7, rfl⟩
theorem pw_X7_3 : PW RX7 TX7 10 3 tyX7 := ⟨tyX7_ok, nmX7, rfl⟩
theorem pw_X7_4 : PW RX7 TX7 10 4 tyX7 := ⟨tyX7_ok, nmX7, rfl⟩
theorem pw_X7_5 : PW RX7 TX7 10 5 tyX7 := ⟨tyX7_ok, nmX7, rfl⟩
theorem pw_X7_6 : PW RX7 TX7 10 6 tyX7 := ⟨tyX7_ok, nmX7, rfl⟩
theorem pw_X8_8 : PW RX8 TX8 10 8 tyX8 := ⟨tyX8_ok, nmX8, rfl⟩
theorem pw_X8_9 : PW RX8 TX8 10 9 tyX8 := ⟨tyX8_ok, nmX8, rfl⟩
theorem pw_X9_0 : PW RX9 TX9 44 0 tyX9 := ⟨tyX9_ok, nmX9, rfl⟩
theorem pw_X9_1 : PW RX9 TX9 44 1 tyX9 := ⟨tyX9_ok, nmX9, rfl⟩
theorem pw_X9_5 : PW RX9 TX9 44 5 tyX9 := ⟨tyX9_ok, nmX9, rfl⟩
theorem pw_X9_6 : PW RX9 TX9 44 6 tyX9 := ⟨tyX9_ok, nmX9, rfl⟩
theorem pw_X9_9 : PW RX9 TX9 44 9 tyX9 := ⟨tyX9_ok, nmX9, rfl⟩
theorem pw_X9_10 : PW RX9 TX9 44 10 tyX9 := ⟨tyX9_ok, nmX9, rfl⟩
theorem pw_X9_11 : PW RX9 TX9 44 11 tyX9 := ⟨tyX9_ok, nmX9, rfl⟩
theorem pw_X9_13 : PW RX9 TX9 44 13 tyX9 := ⟨tyX9_ok, nmX9, rfl⟩
theorem pw_X9_14 : PW RX9 TX9 44 14 tyX9 := ⟨tyX9_ok, nmX9, rfl⟩
theorem pw_X9_15 : PW RX9 TX9 44 15 tyX9 := ⟨tyX9_ok, nmX9, rfl⟩
theorem pw_X9_18 : PW RX9 TX9 44 18 tyX9 := ⟨tyX9_ok, nmX9, rfl⟩
theorem pw_X9_19 : PW RX9 TX9 44 19 tyX9 := ⟨tyX9_ok, nmX9, rfl⟩
theorem pw_X9_20 : PW RX9 TX9 44 20 tyX9 := ⟨tyX9_ok, nmX9, rfl⟩
theorem pw_X9_21 : PW RX9 TX9 44 21 tyX9 := ⟨tyX9_ok, nmX9, rfl⟩
theorem pw_X9_22 : PW RX9 TX9 44 22 tyX9 := ⟨tyX9_ok, nmX9, rfl⟩
theorem pw_X9_23 : PW RX9 TX9 44 23 tyX9 := ⟨tyX9_ok, nmX9, rfl⟩
theorem pw_X9_24 : PW RX9 TX9 44 24 tyX9 := ⟨tyX9_ok, nmX9, rfl⟩
theorem pw_X9_25 : PW RX9 TX9 44 25 tyX9 := ⟨tyX9_ok, nmX9, rfl⟩
theorem pw_X9_26 : PW RX9 TX9 44 26 tyX9 := ⟨tyX9_ok, nmX9, rfl⟩
theorem pw_X9_32 : PW RX9 TX9 44 32 tyX9 := ⟨tyX9_ok, nmX9, rfl⟩
theorem pw_X9_33 : PW RX9 TX9 44 33 tyX9 := ⟨tyX9_ok, nmX9, rfl⟩
theorem cw_L_13 : CWV RL 13 yX8_town cX8_town 7 (some .int) 4 := ⟨⟨tbl_in 368 (by decide +kernel) rfl, tbl_in 59 (by decide +kernel) rfl, tbl_in 371 (by decide +kernel) rfl, by decide +kernel, by decide⟩, tbl_in 369 (by decide +kernel) rfl, tbl_in 370 (by decide +kernel) rfl⟩
theorem cw_X8_73 : CWV RX8 73 yX8_whyNotTaken cX8_whyNotTaken 6 (some .int) 4 := ⟨⟨tbl_in 372 (by decide +kernel) rfl, tbl_in 59 (by decide +kernel) rfl, tbl_in 375 (by decide +kernel) rfl, by decide +kernel, by decide⟩, tbl_in 374 (by decide +kernel) rfl, tbl_in 0 (by decide +kernel) rfl⟩
theorem cw_X8_223 : CWS RX8 223 yX8_isSheet cX8_isSheet 1 (some .boolean) 1 := ⟨⟨tbl_in 376 (by decide +kernel) rfl, tbl_in 59 (by decide +kernel) rfl, tbl_in 378 (by decide +kernel) rfl, by decide +kernel, by decide⟩, tbl_in 377 (by decide +kernel) rfl⟩
theorem cw_X8_226 : CWS RX8 226 yX8_isSort cX8_isSort 1 (some .boolean) 1 := ⟨⟨tbl_in 379 (by decide +kernel) rfl, tbl_in 59 (by decide +kernel) rfl, tbl_in 381 (by decide +kernel) rfl, by decide +kernel, by decide⟩, tbl_in 380 (by decide +kernel) rfl⟩
theorem cw_X8_235 : CWV RX8 235 yX6_hasRow cX6_hasRow 1 (some .boolean) 0 := ⟨⟨tbl_in 382 (by decide +kernel) rfl, tbl_in 60 (by decide +kernel) rfl, tbl_in 385 (by decide +kernel) rfl, by decide +kernel, by decide⟩, tbl_in 383 (by decide +kernel) rfl, tbl_in 384 (by decide +kernel) rfl⟩
theorem cw_X8_229 : CWV RX8 229 yX8_failed cX8_failed 2 (some .int) 1 := ⟨⟨tbl_in 386 (by decide +kernel) rfl, tbl_in 59 (by decide +kernel) rfl, tbl_in 389 (by decide +kernel) rfl, by decide +kernel, by decide⟩, tbl_in 388 (by decide +kernel) rfl, tbl_in 1 (by decide +kernel) rfl⟩
theorem cw_X8_241 : CWV RX8 241 yX6_hasCells cX6_hasCells 3 (some .boolean) 2 := ⟨⟨tbl_in 390 (by decide +kernel) rfl, tbl_in 60 (by decide +kernel) rfl, tbl_in 393 (by decide +kernel) rfl, by decide +kernel, by decide⟩, tbl_in 391 (by decide +kernel) rfl, tbl_in 392 (by decide +kernel) rfl⟩
theorem cw_X8_77 : CWS RX8 77 yX7_firstFault cX7_firstFault 7 (some .int) 3 := ⟨⟨tbl_in 394 (by decide +kernel) rfl, tbl_in 61 (by decide +kernel) rfl, tbl_in 396 (by decide +kernel) rfl, by decide +kernel, by decide⟩, tbl_in 395 (by decide +kernel) rfl⟩
theorem cw_X7_31 : CWV RX7 31 yX6_at cX6_at 2 (some .int) 1 := ⟨⟨tbl_in 397 (by decide +kernel) rfl, tbl_in 60 (by decide +kernel) rfl, tbl_in 400 (by decide +kernel) rfl, by decide +kernel, by decide⟩, tbl_in 398 (by decide +kernel) rfl, tbl_in 399 (by decide +kernel) rfl⟩
theorem cw_X7_37 : CWS RX7 37 yX7_isDigitOfMatters cX7_isDigitOfMatters 1 (some .boolean) 1 := ⟨⟨tbl_in 401 (by decide +kernel) rfl, tbl_in 61 (by decide +kernel) rfl, tbl_in 403 (by decide +kernel) rfl, by decide +kernel, by decide⟩, tbl_in 402 (by decide +kernel) rfl⟩
theorem cw_X7_41 : CWS RX7 41 yX7_goesOn cX7_goesOn 2 (some .boolean) 2 := ⟨⟨tbl_in 404 (by decide +kernel) rfl, tbl_in 61 (by decide +kernel) rfl, tbl_in 406 (by decide +kernel) rfl, by decide +kernel, by decide⟩, tbl_in 405 (by decide +kernel) rfl⟩
theorem cw_X7_45 : CWS RX7 45 yX7_kindOf cX7_kindOf 1 (some .int) 1 := ⟨⟨tbl_in 407 (by decide +kernel) rfl, tbl_in 61 (by decide +kernel) rfl, tbl_in 409 (by decide +kernel) rfl, by decide +kernel, by decide⟩, tbl_in 408 (by decide +kernel) rfl⟩
theorem cw_X8_81 : CWV RX8 81 yX7_found cX7_found 6 none 3 := ⟨⟨tbl_in 410 (by decide +kernel) rfl, tbl_in 61 (by decide +kernel) rfl, tbl_in 413 (by decide +kernel) rfl, by decide +kernel, by decide⟩, tbl_in 411 (by decide +kernel) rfl, tbl_in 412 (by decide +kernel) rfl⟩
theorem cw_X7_48 : CWV RX7 48 yX7_clear cX7_clear 1 none 0 := ⟨⟨tbl_in 414 (by decide +kernel) rfl, tbl_in 61 (by decide +kernel) rfl, tbl_in 417 (by decide +kernel) rfl, by decide +kernel, by decide⟩, tbl_in 416 (by decide +kernel) rfl, tbl_in 2 (by decide +kernel) rfl⟩
theorem cw_X7_73 : CWS RX7 73 yJ7_fill_53178 cJ7_fill_53178 4 none 2 := ⟨⟨tbl_in 418 (by decide +kernel) rfl, tbl_in 69 (by decide +kernel) rfl, tbl_in 420 (by decide +kernel) rfl, by decide +kernel, by decide⟩, tbl_in 419 (by decide +kernel) rfl⟩
theorem cw_X7_51 : CWS RX7 51 yJ9_min_7cf53 cJ9_min_7cf53 2 (some .int) 2 := ⟨⟨tbl_in 421 (by decide +kernel) rfl, tbl_in 70 (by decide +kernel) rfl, tbl_in 423 (by decide +kernel) rfl, by decide +kernel, by decide⟩, tbl_in 422 (by decide +kernel) rfl⟩
theorem cw_X7_57 : CWV RX7 57 yX7_settle cX7_settle 2 none 1 := ⟨⟨tbl_in 424 (by decide +kernel) rfl, tbl_in 61 (by decide +kernel) rfl, tbl_in 427 (by decide +kernel) rfl, by decide +kernel, by decide⟩, tbl_in 426 (by decide +kernel) rfl, tbl_in 3 (by decide +kernel) rfl⟩
theorem cw_L_18 : CWV RL 18 yX8_ofOne cX8_ofOne 3 (some .int) 2 := ⟨⟨tbl_in 428 (by decide +kernel) rfl, tbl_in 59 (by decide +kernel) rfl, tbl_in 431 (by decide +kernel) rfl, by decide +kernel, by decide⟩, tbl_in 429 (by decide +kernel) rfl, tbl_in 430 (by decide +kernel) rfl⟩
theorem cw_X8_89 : CWV RX8 89 yX7_hasOne cX7_hasOne 2 (some .boolean) 1 := ⟨⟨tbl_in 432 (by decide +kernel) rfl, tbl_in 61 (by decide +kernel) rfl, tbl_in 435 (by decide +kernel) rfl, by decide +kernel, by decide⟩, tbl_in 433 (by decide +kernel) rfl, tbl_in 434 (by decide +kernel) rfl⟩
theorem cw_X8_97 : CWV RX8 97 yX7_hasMatter cX7_hasMatter 2 (some .boolean) 1 := ⟨⟨tbl_in 436 (by decide +kernel) rfl, tbl_in 61 (by decide +kernel) rfl, tbl_in 439 (by decide +kernel) rfl, by decide +kernel, by decide⟩, tbl_in 437 (by decide +kernel) rfl, tbl_in 438 (by decide +kernel) rfl⟩
theorem cw_X8_100 : CWV RX8 100 yX7_wishesYes cX7_wishesYes 3 (some .boolean) 2 := ⟨⟨tbl_in 440 (by decide +kernel) rfl, tbl_in 61 (by decide +kernel) rfl, tbl_in 443 (by decide +kernel) rfl, by decide +kernel, by decide⟩, tbl_in 441 (by decide +kernel) rfl, tbl_in 442 (by decide +kernel) rfl⟩
theorem cw_L_23 : CWV RL 23 yX8_wish cX8_wish 4 (some .int) 3 := ⟨⟨tbl_in 444 (by decide +kernel) rfl, tbl_in 59 (by decide +kernel) rfl, tbl_in 447 (by decide +kernel) rfl, by decide +kernel, by decide⟩, tbl_in 445 (by decide +kernel) rfl, tbl_in 446 (by decide +kernel) rfl⟩
theorem cw_L_28 : CWV RL 28 yX8_measure cX8_measure 3 (some .int) 1 := ⟨⟨tbl_in 448 (by decide +kernel) rfl, tbl_in 59 (by decide +kernel) rfl, tbl_in 451 (by decide +kernel) rfl, by decide +kernel, by decide⟩, tbl_in 449 (by decide +kernel) rfl, tbl_in 450 (by decide +kernel) rfl⟩
theorem cw_X8_107 : CWV RX8 107 yX7_stands cX7_stands 1 (some .boolean) 0 := ⟨⟨tbl_in 452 (by decide +kernel) rfl, tbl_in 61 (by decide +kernel) rfl, tbl_in 455 (by decide +kernel) rfl, by decide +kernel, by decide⟩, tbl_in 453 (by decide +kernel) rfl, tbl_in 454 (by decide +kernel) rfl⟩
theorem cw_L_33 : CWV RL 33 yX8_law cX8_law 3 (some .int) 1 := ⟨⟨tbl_in 456 (by decide +kernel) rfl, tbl_in 59 (by decide +kernel) rfl, tbl_in 459 (by decide +kernel) rfl, by decide +kernel, by decide⟩, tbl_in 457 (by decide +kernel) rfl, tbl_in 458 (by decide +kernel) rfl⟩
theorem cw_L_37 : CWV RL 37 yX8_agenda cX8_agenda 6 (some .int) 4 := ⟨⟨tbl_in 460 (by decide +kernel) rfl, tbl_in 59 (by decide +kernel) rfl, tbl_in 463 (by decide +kernel) rfl, by decide +kernel, by decide⟩, tbl_in 461 (by decide +kernel) rfl, tbl_in 462 (by decide +kernel) rfl⟩
theorem cw_X8_117 : CWV RX8 117 yX7_takeAgenda cX7_takeAgenda 7 (some .int) 3 := ⟨⟨tbl_in 464 (by decide +kernel) rfl, tbl_in 61 (by decide +kernel) rfl, tbl_in 467 (by decide +kernel) rfl, by decide +kernel, by decide⟩, tbl_in 465 (by decide +kernel) rfl, tbl_in 466 (by decide +kernel) rfl⟩
theorem cw_X7_79 : CWV RX7 79 yX7_hasMatter cX7_hasMatter 2 (some .boolean) 1 := ⟨⟨tbl_in 468 (by decide +kernel) rfl, tbl_in 61 (by decide +kernel) rfl, tbl_in 439 (by decide +kernel) rfl, by decide +kernel, by decide⟩, tbl_in 437 (by decide +kernel) rfl, tbl_in 438 (by decide +kernel) rfl⟩
theorem cw_X7_82 : CWS RX7 82 yJ6_bitCount_0f7a4 cJ6_bitCount_0f7a4 1 (some .int) 1 := ⟨⟨tbl_in 469 (by decide +kernel) rfl, tbl_in 71 (by decide +kernel) rfl, tbl_in 471 (by decide +kernel) rfl, by decide +kernel, by decide⟩, tbl_in 470 (by decide +kernel) rfl⟩
theorem cw_L_41 : CWV RL 41 yX8_vote cX8_vote 3 (some .int) 2 := ⟨⟨tbl_in 475 (by decide +kernel) rfl, tbl_in 59 (by decide +kernel) rfl, tbl_in 478 (by decide +kernel) rfl, by decide +kernel, by decide⟩, tbl_in 476 (by decide +kernel) rfl, tbl_in 477 (by decide +kernel) rfl⟩
theorem cw_X8_123 : CWV RX8 123 yX8_runOnce cX8_runOnce 1 (some .int) 0 := ⟨⟨tbl_in 479 (by decide +kernel) rfl, tbl_in 59 (by decide +kernel) rfl, tbl_in 482 (by decide +kernel) rfl, by decide +kernel, by decide⟩, tbl_in 481 (by decide +kernel) rfl, tbl_in 4 (by decide +kernel) rfl⟩
theorem cw_X8_149 : CWV RX8 149 yX2_useOwnRules cX2_useOwnRules 1 none 0 := ⟨⟨tbl_in 483 (by decide +kernel) rfl, tbl_in 62 (by decide +kernel) rfl, tbl_in 486 (by decide +kernel) rfl, by decide +kernel, by decide⟩, tbl_in 484 (by decide +kernel) rfl, tbl_in 485 (by decide +kernel) rfl⟩
theorem cw_X2_26 : CWV RX2 26 yX2_useRules cX2_useRules 3 none 2 := ⟨⟨tbl_in 487 (by decide +kernel) rfl, tbl_in 62 (by decide +kernel) rfl, tbl_in 490 (by decide +kernel) rfl, by decide +kernel, by decide⟩, tbl_in 488 (by decide +kernel) rfl, tbl_in 489 (by decide +kernel) rfl⟩
theorem cw_X8_185 : CWV RX8 185 yX2_opening cX2_opening 1 (some .int) 0 := ⟨⟨tbl_in 491 (by decide +kernel) rfl, tbl_in 62 (by decide +kernel) rfl, tbl_in 494 (by decide +kernel) rfl, by decide +kernel, by decide⟩, tbl_in 492 (by decide +kernel) rfl, tbl_in 493 (by decide +kernel) rfl⟩
theorem cw_X2_33 : CWS RX2 33 yJ9_max_7cf53 cJ9_max_7cf53 2 (some .int) 2 := ⟨⟨tbl_in 495 (by decide +kernel) rfl, tbl_in 70 (by decide +kernel) rfl, tbl_in 497 (by decide +kernel) rfl, by decide +kernel, by decide⟩, tbl_in 496 (by decide +kernel) rfl⟩
theorem cw_X2_39 : CWV RX2 39 yX7_everybody cX7_everybody 1 (some .int) 0 := ⟨⟨tbl_in 498 (by decide +kernel) rfl, tbl_in 61 (by decide +kernel) rfl, tbl_in 501 (by decide +kernel) rfl, by decide +kernel, by decide⟩, tbl_in 499 (by decide +kernel) rfl, tbl_in 500 (by decide +kernel) rfl⟩
theorem cw_X8_188 : CWV RX8 188 yX0_go cX0_go 5 (some .int) 2 := ⟨⟨tbl_in 502 (by decide +kernel) rfl, tbl_in 63 (by decide +kernel) rfl, tbl_in 505 (by decide +kernel) rfl, by decide +kernel, by decide⟩, tbl_in 503 (by decide +kernel) rfl, tbl_in 504 (by decide +kernel) rfl⟩
theorem cw_X0_41 : CWS RX0 41 yX2_sittingAt cX2_sittingAt 1 (some .int) 1 := ⟨⟨tbl_in 506 (by decide +kernel) rfl, tbl_in 62 (by decide +kernel) rfl, tbl_in 508 (by decide +kernel) rfl, by decide +kernel, by decide⟩, tbl_in 507 (by decide +kernel) rfl⟩
theorem cw_X0_53 : CWV RX0 53 yX2_step cX2_step 7 (some .int) 3 := ⟨⟨tbl_in 509 (by decide +kernel) rfl, tbl_in 62 (by decide +kernel) rfl, tbl_in 512 (by decide +kernel) rfl, by decide +kernel, by decide⟩, tbl_in 510 (by decide +kernel) rfl, tbl_in 511 (by decide +kernel) rfl⟩
theorem cw_X2_43 : CWS RX2 43 yX2_sittingAt cX2_sittingAt 1 (some .int) 1 := ⟨⟨tbl_in 513 (by decide +kernel) rfl, tbl_in 62 (by decide +kernel) rfl, tbl_in 508 (by decide +kernel) rfl, by decide +kernel, by decide⟩, tbl_in 507 (by decide +kernel) rfl⟩
theorem cw_X2_61 : CWV RX2 61 yX2_sayings cX2_sayings 10 (some .int) 3 := ⟨⟨tbl_in 514 (by decide +kernel) rfl, tbl_in 62 (by decide +kernel) rfl, tbl_in 517 (by decide +kernel) rfl, by decide +kernel, by decide⟩, tbl_in 516 (by decide +kernel) rfl, tbl_in 5 (by decide +kernel) rfl⟩
theorem cw_X2_47 : CWS RX2 47 yJ6_bitCount_0f7a4 cJ6_bitCount_0f7a4 1 (some .int) 1 := ⟨⟨tbl_in 518 (by decide +kernel) rfl, tbl_in 71 (by decide +kernel) rfl, tbl_in 471 (by decide +kernel) rfl, by decide +kernel, by decide⟩, tbl_in 470 (by decide +kernel) rfl⟩
theorem cw_X2_65 : CWS RX2 65 yJ9_min_7cf53 cJ9_min_7cf53 2 (some .int) 2 := ⟨⟨tbl_in 519 (by decide +kernel) rfl, tbl_in 70 (by decide +kernel) rfl, tbl_in 423 (by decide +kernel) rfl, by decide +kernel, by decide⟩, tbl_in 422 (by decide +kernel) rfl⟩
theorem cw_X2_68 : CWV RX2 68 yX2_seatsFor cX2_seatsFor 3 (some .int) 2 := ⟨⟨tbl_in 520 (by decide +kernel) rfl, tbl_in 62 (by decide +kernel) rfl, tbl_in 523 (by decide +kernel) rfl, by decide +kernel, by decide⟩, tbl_in 522 (by decide +kernel) rfl, tbl_in 6 (by decide +kernel) rfl⟩
theorem cw_X2_71 : CWV RX2 71 yX2_seated cX2_seated 3 (some .int) 2 := ⟨⟨tbl_in 524 (by decide +kernel) rfl, tbl_in 62 (by decide +kernel) rfl, tbl_in 527 (by decide +kernel) rfl, by decide +kernel, by decide⟩, tbl_in 526 (by decide +kernel) rfl, tbl_in 7 (by decide +kernel) rfl⟩
theorem cw_X2_80 : CWS RX2 80 yX2_firstOf cX2_firstOf 5 (some .int) 2 := ⟨⟨tbl_in 528 (by decide +kernel) rfl, tbl_in 62 (by decide +kernel) rfl, tbl_in 530 (by decide +kernel) rfl, by decide +kernel, by decide⟩, tbl_in 529 (by decide +kernel) rfl⟩
theorem cw_X2_83 : CWV RX2 83 yX2_winnersFirst cX2_winnersFirst 4 (some .int) 1 := ⟨⟨tbl_in 531 (by decide +kernel) rfl, tbl_in 62 (by decide +kernel) rfl, tbl_in 534 (by decide +kernel) rfl, by decide +kernel, by decide⟩, tbl_in 533 (by decide +kernel) rfl, tbl_in 8 (by decide +kernel) rfl⟩
theorem cw_X2_86 : CWV RX2 86 yX2_inTurn cX2_inTurn 4 (some .int) 1 := ⟨⟨tbl_in 535 (by decide +kernel) rfl, tbl_in 62 (by decide +kernel) rfl, tbl_in 538 (by decide +kernel) rfl, by decide +kernel, by decide⟩, tbl_in 537 (by decide +kernel) rfl, tbl_in 9 (by decide +kernel) rfl⟩
theorem cw_L_45 : CWV RL 45 yX8_decided cX8_decided 3 (some .int) 1 := ⟨⟨tbl_in 539 (by decide +kernel) rfl, tbl_in 59 (by decide +kernel) rfl, tbl_in 542 (by decide +kernel) rfl, by decide +kernel, by decide⟩, tbl_in 540 (by decide +kernel) rfl, tbl_in 541 (by decide +kernel) rfl⟩
theorem cw_X8_142 : CWV RX8 142 yX7_placeOf cX7_placeOf 3 (some .int) 1 := ⟨⟨tbl_in 543 (by decide +kernel) rfl, tbl_in 61 (by decide +kernel) rfl, tbl_in 546 (by decide +kernel) rfl, by decide +kernel, by decide⟩, tbl_in 544 (by decide +kernel) rfl, tbl_in 545 (by decide +kernel) rfl⟩
theorem cw_L_49 : CWV RL 49 yX8_sits cX8_sits 2 (some .int) 0 := ⟨⟨tbl_in 547 (by decide +kernel) rfl, tbl_in 59 (by decide +kernel) rfl, tbl_in 550 (by decide +kernel) rfl, by decide +kernel, by decide⟩, tbl_in 548 (by decide +kernel) rfl, tbl_in 549 (by decide +kernel) rfl⟩
theorem cw_X8_146 : CWS RX8 146 yX2_sittingAt cX2_sittingAt 1 (some .int) 1 := ⟨⟨tbl_in 551 (by decide +kernel) rfl, tbl_in 62 (by decide +kernel) rfl, tbl_in 508 (by decide +kernel) rfl, by decide +kernel, by decide⟩, tbl_in 507 (by decide +kernel) rfl⟩
theorem cw_L_54 : CWV RL 54 yX8_ever cX8_ever 2 (some .int) 1 := ⟨⟨tbl_in 552 (by decide +kernel) rfl, tbl_in 59 (by decide +kernel) rfl, tbl_in 555 (by decide +kernel) rfl, by decide +kernel, by decide⟩, tbl_in 553 (by decide +kernel) rfl, tbl_in 554 (by decide +kernel) rfl⟩
theorem cw_X8_152 : CWV RX8 152 yX5_find cX5_find 3 none 0 := ⟨⟨tbl_in 556 (by decide +kernel) rfl, tbl_in 64 (by decide +kernel) rfl, tbl_in 559 (by decide +kernel) rfl, by decide +kernel, by decide⟩, tbl_in 557 (by decide +kernel) rfl, tbl_in 558 (by decide +kernel) rfl⟩
theorem cw_X5_23 : CWS RX5 23 yJ7_fill_53178 cJ7_fill_53178 4 none 2 := ⟨⟨tbl_in 560 (by decide +kernel) rfl, tbl_in 69 (by decide +kernel) rfl, tbl_in 420 (by decide +kernel) rfl, by decide +kernel, by decide⟩, tbl_in 419 (by decide +kernel) rfl⟩
theorem cw_X5_29 : CWV RX5 29 yX2_opening cX2_opening 1 (some .int) 0 := ⟨⟨tbl_in 561 (by decide +kernel) rfl, tbl_in 62 (by decide +kernel) rfl, tbl_in 494 (by decide +kernel) rfl, by decide +kernel, by decide⟩, tbl_in 492 (by decide +kernel) rfl, tbl_in 493 (by decide +kernel) rfl⟩
theorem cw_X5_39 : CWV RX5 39 yX2_slotOf cX2_slotOf 3 (some .int) 1 := ⟨⟨tbl_in 562 (by decide +kernel) rfl, tbl_in 62 (by decide +kernel) rfl, tbl_in 565 (by decide +kernel) rfl, by decide +kernel, by decide⟩, tbl_in 563 (by decide +kernel) rfl, tbl_in 564 (by decide +kernel) rfl⟩
theorem cw_X5_49 : CWV RX5 49 yX0_go cX0_go 5 (some .int) 2 := ⟨⟨tbl_in 566 (by decide +kernel) rfl, tbl_in 63 (by decide +kernel) rfl, tbl_in 505 (by decide +kernel) rfl, by decide +kernel, by decide⟩, tbl_in 503 (by decide +kernel) rfl, tbl_in 504 (by decide +kernel) rfl⟩
theorem cw_L_58 : CWV RL 58 yX8_often cX8_often 3 (some .int) 1 := ⟨⟨tbl_in 567 (by decide +kernel) rfl, tbl_in 59 (by decide +kernel) rfl, tbl_in 570 (by decide +kernel) rfl, by decide +kernel, by decide⟩, tbl_in 568 (by decide +kernel) rfl, tbl_in 569 (by decide +kernel) rfl⟩
theorem cw_X8_161 : CWV RX8 161 yX5_timesWonByYes cX5_timesWonByYes 5 (some .int) 1 := ⟨⟨tbl_in 571 (by decide +kernel) rfl, tbl_in 64 (by decide +kernel) rfl, tbl_in 574 (by decide +kernel) rfl, by decide +kernel, by decide⟩, tbl_in 572 (by decide +kernel) rfl, tbl_in 573 (by decide +kernel) rfl⟩
theorem cw_L_62 : CWV RL 62 yX8_sway cX8_sway 4 (some .int) 2 := ⟨⟨tbl_in 575 (by decide +kernel) rfl, tbl_in 59 (by decide +kernel) rfl, tbl_in 578 (by decide +kernel) rfl, by decide +kernel, by decide⟩, tbl_in 576 (by decide +kernel) rfl, tbl_in 577 (by decide +kernel) rfl⟩
theorem cw_X8_164 : CWS RX8 164 yJ6_bitCount_0f7a4 cJ6_bitCount_0f7a4 1 (some .int) 1 := ⟨⟨tbl_in 579 (by decide +kernel) rfl, tbl_in 71 (by decide +kernel) rfl, tbl_in 471 (by decide +kernel) rfl, by decide +kernel, by decide⟩, tbl_in 470 (by decide +kernel) rfl⟩
theorem cw_X8_169 : CWV RX8 169 yX7_everybody cX7_everybody 1 (some .int) 0 := ⟨⟨tbl_in 580 (by decide +kernel) rfl, tbl_in 61 (by decide +kernel) rfl, tbl_in 501 (by decide +kernel) rfl, by decide +kernel, by decide⟩, tbl_in 499 (by decide +kernel) rfl, tbl_in 500 (by decide +kernel) rfl⟩
theorem cw_X8_172 : CWV RX8 172 yX1_fewestSayings cX1_fewestSayings 6 (some .int) 2 := ⟨⟨tbl_in 581 (by decide +kernel) rfl, tbl_in 65 (by decide +kernel) rfl, tbl_in 584 (by decide +kernel) rfl, by decide +kernel, by decide⟩, tbl_in 582 (by decide +kernel) rfl, tbl_in 583 (by decide +kernel) rfl⟩
theorem cw_X1_32 : CWS RX1 32 yJ7_fill_53178 cJ7_fill_53178 4 none 2 := ⟨⟨tbl_in 585 (by decide +kernel) rfl, tbl_in 69 (by decide +kernel) rfl, tbl_in 420 (by decide +kernel) rfl, by decide +kernel, by decide⟩, tbl_in 419 (by decide +kernel) rfl⟩
theorem cw_X1_38 : CWV RX1 38 yX2_opening cX2_opening 1 (some .int) 0 := ⟨⟨tbl_in 586 (by decide +kernel) rfl, tbl_in 62 (by decide +kernel) rfl, tbl_in 494 (by decide +kernel) rfl, by decide +kernel, by decide⟩, tbl_in 492 (by decide +kernel) rfl, tbl_in 493 (by decide +kernel) rfl⟩
theorem cw_X1_44 : CWV RX1 44 yX2_slotOf cX2_slotOf 3 (some .int) 1 := ⟨⟨tbl_in 587 (by decide +kernel) rfl, tbl_in 62 (by decide +kernel) rfl, tbl_in 565 (by decide +kernel) rfl, by decide +kernel, by decide⟩, tbl_in 563 (by decide +kernel) rfl, tbl_in 564 (by decide +kernel) rfl⟩
theorem cw_X1_60 : CWV RX1 60 yX1_voteFromAll cX1_voteFromAll 11 (some .int) 3 := ⟨⟨tbl_in 588 (by decide +kernel) rfl, tbl_in 65 (by decide +kernel) rfl, tbl_in 591 (by decide +kernel) rfl, by decide +kernel, by decide⟩, tbl_in 590 (by decide +kernel) rfl, tbl_in 10 (by decide +kernel) rfl⟩
theorem cw_X1_64 : CWS RX1 64 yX2_sittingAt cX2_sittingAt 1 (some .int) 1 := ⟨⟨tbl_in 592 (by decide +kernel) rfl, tbl_in 62 (by decide +kernel) rfl, tbl_in 508 (by decide +kernel) rfl, by decide +kernel, by decide⟩, tbl_in 507 (by decide +kernel) rfl⟩
theorem cw_X1_67 : CWS RX1 67 yJ6_bitCount_0f7a4 cJ6_bitCount_0f7a4 1 (some .int) 1 := ⟨⟨tbl_in 593 (by decide +kernel) rfl, tbl_in 71 (by decide +kernel) rfl, tbl_in 471 (by decide +kernel) rfl, by decide +kernel, by decide⟩, tbl_in 470 (by decide +kernel) rfl⟩
theorem cw_X1_72 : CWV RX1 72 yX2_step cX2_step 7 (some .int) 3 := ⟨⟨tbl_in 594 (by decide +kernel) rfl, tbl_in 62 (by decide +kernel) rfl, tbl_in 512 (by decide +kernel) rfl, by decide +kernel, by decide⟩, tbl_in 510 (by decide +kernel) rfl, tbl_in 511 (by decide +kernel) rfl⟩
theorem cw_X1_75 : CWV RX1 75 yX1_reach cX1_reach 4 none 2 := ⟨⟨tbl_in 595 (by decide +kernel) rfl, tbl_in 65 (by decide +kernel) rfl, tbl_in 598 (by decide +kernel) rfl, by decide +kernel, by decide⟩, tbl_in 597 (by decide +kernel) rfl, tbl_in 11 (by decide +kernel) rfl⟩
theorem cw_X1_82 : CWS RX1 82 yX1_isFewer cX1_isFewer 2 (some .boolean) 2 := ⟨⟨tbl_in 599 (by decide +kernel) rfl, tbl_in 65 (by decide +kernel) rfl, tbl_in 601 (by decide +kernel) rfl, by decide +kernel, by decide⟩, tbl_in 600 (by decide +kernel) rfl⟩
theorem cp_X1_86 : Cond.methodLink RX1 86 arraycopyName ∈ tbl := tbl_in 602 (by decide +kernel) rfl
theorem cw_L_66 : CWV RL 66 yX8_orders cX8_orders 4 (some .int) 2 := ⟨⟨tbl_in 605 (by decide +kernel) rfl, tbl_in 59 (by decide +kernel) rfl, tbl_in 608 (by decide +kernel) rfl, by decide +kernel, by decide⟩, tbl_in 606 (by decide +kernel) rfl, tbl_in 607 (by decide +kernel) rfl⟩
theorem cw_X8_176 : CWV RX8 176 yX4_countWonByYes cX4_countWonByYes 2 (some .int) 1 := ⟨⟨tbl_in 609 (by decide +kernel) rfl, tbl_in 66 (by decide +kernel) rfl, tbl_in 612 (by decide +kernel) rfl, by decide +kernel, by decide⟩, tbl_in 610 (by decide +kernel) rfl, tbl_in 611 (by decide +kernel) rfl⟩
theorem cw_X4_30 : CWV RX4 30 yX4_mattersToPut cX4_mattersToPut 3 (some .int) 0 := ⟨⟨tbl_in 613 (by decide +kernel) rfl, tbl_in 66 (by decide +kernel) rfl, tbl_in 616 (by decide +kernel) rfl, by decide +kernel, by decide⟩, tbl_in 615 (by decide +kernel) rfl, tbl_in 12 (by decide +kernel) rfl⟩
theorem cw_X4_34 : CWV RX4 34 yX2_opening cX2_opening 1 (some .int) 0 := ⟨⟨tbl_in 617 (by decide +kernel) rfl, tbl_in 62 (by decide +kernel) rfl, tbl_in 494 (by decide +kernel) rfl, by decide +kernel, by decide⟩, tbl_in 492 (by decide +kernel) rfl, tbl_in 493 (by decide +kernel) rfl⟩
theorem cw_X4_39 : CWV RX4 39 yX4_countFrom cX4_countFrom 9 (some .int) 4 := ⟨⟨tbl_in 618 (by decide +kernel) rfl, tbl_in 66 (by decide +kernel) rfl, tbl_in 621 (by decide +kernel) rfl, by decide +kernel, by decide⟩, tbl_in 620 (by decide +kernel) rfl, tbl_in 13 (by decide +kernel) rfl⟩
theorem cw_X4_62 : CWV RX4 62 yX2_step cX2_step 7 (some .int) 3 := ⟨⟨tbl_in 622 (by decide +kernel) rfl, tbl_in 62 (by decide +kernel) rfl, tbl_in 512 (by decide +kernel) rfl, by decide +kernel, by decide⟩, tbl_in 510 (by decide +kernel) rfl, tbl_in 511 (by decide +kernel) rfl⟩
theorem cw_X4_72 : CWV RX4 72 yX4_keepFirst cX4_keepFirst 5 none 2 := ⟨⟨tbl_in 625 (by decide +kernel) rfl, tbl_in 66 (by decide +kernel) rfl, tbl_in 628 (by decide +kernel) rfl, by decide +kernel, by decide⟩, tbl_in 627 (by decide +kernel) rfl, tbl_in 14 (by decide +kernel) rfl⟩
theorem cp_X4_76 : Cond.methodLink RX4 76 arraycopyName ∈ tbl := tbl_in 629 (by decide +kernel) rfl
theorem cw_L_70 : CWV RL 70 yX8_key cX8_key 6 (some .int) 1 := ⟨⟨tbl_in 630 (by decide +kernel) rfl, tbl_in 59 (by decide +kernel) rfl, tbl_in 633 (by decide +kernel) rfl, by decide +kernel, by decide⟩, tbl_in 631 (by decide +kernel) rfl, tbl_in 632 (by decide +kernel) rfl⟩
theorem cw_X8_182 : CWV RX8 182 yX0_keepOutcome cX0_keepOutcome 1 none 0 := ⟨⟨tbl_in 634 (by decide +kernel) rfl, tbl_in 63 (by decide +kernel) rfl, tbl_in 637 (by decide +kernel) rfl, by decide +kernel, by decide⟩, tbl_in 635 (by decide +kernel) rfl, tbl_in 636 (by decide +kernel) rfl⟩
theorem cp_X0_63 : Cond.methodLink RX0 63 arraycopyName ∈ tbl := tbl_in 638 (by decide +kernel) rfl
theorem cw_X8_191 : CWV RX8 191 yX0_countChanged cX0_countChanged 3 (some .int) 0 := ⟨⟨tbl_in 639 (by decide +kernel) rfl, tbl_in 63 (by decide +kernel) rfl, tbl_in 642 (by decide +kernel) rfl, by decide +kernel, by decide⟩, tbl_in 640 (by decide +kernel) rfl, tbl_in 641 (by decide +kernel) rfl⟩
theorem cw_L_74 : CWV RL 74 yX8_lot cX8_lot 2 (some .long) 1 := ⟨⟨tbl_in 643 (by decide +kernel) rfl, tbl_in 59 (by decide +kernel) rfl, tbl_in 646 (by decide +kernel) rfl, by decide +kernel, by decide⟩, tbl_in 644 (by decide +kernel) rfl, tbl_in 645 (by decide +kernel) rfl⟩
theorem cw_X8_196 : CWV RX8 196 yX3_drawAll cX3_drawAll 7 none 0 := ⟨⟨tbl_in 648 (by decide +kernel) rfl, tbl_in 67 (by decide +kernel) rfl, tbl_in 651 (by decide +kernel) rfl, by decide +kernel, by decide⟩, tbl_in 649 (by decide +kernel) rfl, tbl_in 650 (by decide +kernel) rfl⟩
theorem cw_X3_30 : CWV RX3 30 yX3_countSets cX3_countSets 3 none 0 := ⟨⟨tbl_in 652 (by decide +kernel) rfl, tbl_in 67 (by decide +kernel) rfl, tbl_in 655 (by decide +kernel) rfl, by decide +kernel, by decide⟩, tbl_in 654 (by decide +kernel) rfl, tbl_in 15 (by decide +kernel) rfl⟩
theorem cw_X3_71 : CWS RX3 71 yJ7_fill_53178 cJ7_fill_53178 4 none 2 := ⟨⟨tbl_in 656 (by decide +kernel) rfl, tbl_in 69 (by decide +kernel) rfl, tbl_in 420 (by decide +kernel) rfl, by decide +kernel, by decide⟩, tbl_in 419 (by decide +kernel) rfl⟩
theorem cw_X3_33 : CWS RX3 33 yJ7_fill_d0a16 cJ7_fill_d0a16 5 none 2 := ⟨⟨tbl_in 657 (by decide +kernel) rfl, tbl_in 69 (by decide +kernel) rfl, tbl_in 659 (by decide +kernel) rfl, by decide +kernel, by decide⟩, tbl_in 658 (by decide +kernel) rfl⟩
theorem cw_X3_54 : CWV RX3 54 yX3_voteOfAllSets cX3_voteOfAllSets 8 (some .long) 1 := ⟨⟨tbl_in 660 (by decide +kernel) rfl, tbl_in 67 (by decide +kernel) rfl, tbl_in 663 (by decide +kernel) rfl, by decide +kernel, by decide⟩, tbl_in 662 (by decide +kernel) rfl, tbl_in 16 (by decide +kernel) rfl⟩
theorem cw_X3_74 : CWV RX3 74 yX7_everybody cX7_everybody 1 (some .int) 0 := ⟨⟨tbl_in 664 (by decide +kernel) rfl, tbl_in 61 (by decide +kernel) rfl, tbl_in 501 (by decide +kernel) rfl, by decide +kernel, by decide⟩, tbl_in 499 (by decide +kernel) rfl, tbl_in 500 (by decide +kernel) rfl⟩
theorem cw_X3_78 : CWS RX3 78 yJ6_bitCount_0f7a4 cJ6_bitCount_0f7a4 1 (some .int) 1 := ⟨⟨tbl_in 665 (by decide +kernel) rfl, tbl_in 71 (by decide +kernel) rfl, tbl_in 471 (by decide +kernel) rfl, by decide +kernel, by decide⟩, tbl_in 470 (by decide +kernel) rfl⟩
theorem cw_X3_84 : CWV RX3 84 yX2_step cX2_step 7 (some .int) 3 := ⟨⟨tbl_in 666 (by decide +kernel) rfl, tbl_in 62 (by decide +kernel) rfl, tbl_in 512 (by decide +kernel) rfl, by decide +kernel, by decide⟩, tbl_in 510 (by decide +kernel) rfl, tbl_in 511 (by decide +kernel) rfl⟩
theorem cp_X3_96 : Cond.methodLink RX3 96 arraycopyName ∈ tbl := tbl_in 667 (by decide +kernel) rfl
theorem cw_X3_60 : CWS RX3 60 yX3_commonDivisor cX3_commonDivisor 7 (some .long) 2 := ⟨⟨tbl_in 669 (by decide +kernel) rfl, tbl_in 67 (by decide +kernel) rfl, tbl_in 671 (by decide +kernel) rfl, by decide +kernel, by decide⟩, tbl_in 670 (by decide +kernel) rfl⟩
theorem cw_L_79 : CWV RL 79 yX8_fits cX8_fits 8 (some .int) 3 := ⟨⟨tbl_in 672 (by decide +kernel) rfl, tbl_in 59 (by decide +kernel) rfl, tbl_in 675 (by decide +kernel) rfl, by decide +kernel, by decide⟩, tbl_in 673 (by decide +kernel) rfl, tbl_in 674 (by decide +kernel) rfl⟩
theorem cw_X8_206 : CWV RX8 206 yX2_useRules cX2_useRules 3 none 2 := ⟨⟨tbl_in 676 (by decide +kernel) rfl, tbl_in 62 (by decide +kernel) rfl, tbl_in 490 (by decide +kernel) rfl, by decide +kernel, by decide⟩, tbl_in 488 (by decide +kernel) rfl, tbl_in 489 (by decide +kernel) rfl⟩
theorem cw_X8_210 : CWV RX8 210 yX0_hasSeatsAsIn cX0_hasSeatsAsIn 4 (some .boolean) 2 := ⟨⟨tbl_in 677 (by decide +kernel) rfl, tbl_in 63 (by decide +kernel) rfl, tbl_in 680 (by decide +kernel) rfl, by decide +kernel, by decide⟩, tbl_in 678 (by decide +kernel) rfl, tbl_in 679 (by decide +kernel) rfl⟩
theorem cw_X0_69 : CWV RX0 69 yX6_at cX6_at 2 (some .int) 1 := ⟨⟨tbl_in 681 (by decide +kernel) rfl, tbl_in 60 (by decide +kernel) rfl, tbl_in 400 (by decide +kernel) rfl, by decide +kernel, by decide⟩, tbl_in 398 (by decide +kernel) rfl, tbl_in 399 (by decide +kernel) rfl⟩
theorem cw_X8_214 : CWS RX8 214 yX8_ruleBit cX8_ruleBit 2 (some .int) 2 := ⟨⟨tbl_in 682 (by decide +kernel) rfl, tbl_in 59 (by decide +kernel) rfl, tbl_in 684 (by decide +kernel) rfl, by decide +kernel, by decide⟩, tbl_in 683 (by decide +kernel) rfl⟩
theorem cw_L_84 : CWV RL 84 yX8_safe cX8_safe 4 (some .int) 0 := ⟨⟨tbl_in 685 (by decide +kernel) rfl, tbl_in 59 (by decide +kernel) rfl, tbl_in 688 (by decide +kernel) rfl, by decide +kernel, by decide⟩, tbl_in 686 (by decide +kernel) rfl, tbl_in 687 (by decide +kernel) rfl⟩
theorem cw_X8_217 : CWV RX8 217 yX4_isNeverShut cX4_isNeverShut 1 (some .boolean) 0 := ⟨⟨tbl_in 689 (by decide +kernel) rfl, tbl_in 66 (by decide +kernel) rfl, tbl_in 692 (by decide +kernel) rfl, by decide +kernel, by decide⟩, tbl_in 690 (by decide +kernel) rfl, tbl_in 691 (by decide +kernel) rfl⟩
theorem cw_X4_43 : CWV RX4 43 yX4_isOpenFrom cX4_isOpenFrom 6 (some .boolean) 3 := ⟨⟨tbl_in 693 (by decide +kernel) rfl, tbl_in 66 (by decide +kernel) rfl, tbl_in 696 (by decide +kernel) rfl, by decide +kernel, by decide⟩, tbl_in 695 (by decide +kernel) rfl, tbl_in 17 (by decide +kernel) rfl⟩
theorem cw_L_88 : CWV RL 88 yX8_sheet cX8_sheet 4 (some .int) 3 := ⟨⟨tbl_in 697 (by decide +kernel) rfl, tbl_in 59 (by decide +kernel) rfl, tbl_in 700 (by decide +kernel) rfl, by decide +kernel, by decide⟩, tbl_in 698 (by decide +kernel) rfl, tbl_in 699 (by decide +kernel) rfl⟩
theorem cw_X8_232 : CWV RX8 232 yX6_renew cX6_renew 3 none 2 := ⟨⟨tbl_in 701 (by decide +kernel) rfl, tbl_in 60 (by decide +kernel) rfl, tbl_in 704 (by decide +kernel) rfl, by decide +kernel, by decide⟩, tbl_in 702 (by decide +kernel) rfl, tbl_in 703 (by decide +kernel) rfl⟩
theorem cw_X6_19 : CWS RX6 19 yJ7_fill_53178 cJ7_fill_53178 4 none 2 := ⟨⟨tbl_in 705 (by decide +kernel) rfl, tbl_in 69 (by decide +kernel) rfl, tbl_in 420 (by decide +kernel) rfl, by decide +kernel, by decide⟩, tbl_in 419 (by decide +kernel) rfl⟩
theorem cw_L_92 : CWV RL 92 yX8_lose cX8_lose 3 (some .int) 1 := ⟨⟨tbl_in 706 (by decide +kernel) rfl, tbl_in 59 (by decide +kernel) rfl, tbl_in 709 (by decide +kernel) rfl, by decide +kernel, by decide⟩, tbl_in 707 (by decide +kernel) rfl, tbl_in 708 (by decide +kernel) rfl⟩
theorem cw_X8_238 : CWV RX8 238 yX6_clear cX6_clear 1 none 0 := ⟨⟨tbl_in 710 (by decide +kernel) rfl, tbl_in 60 (by decide +kernel) rfl, tbl_in 713 (by decide +kernel) rfl, by decide +kernel, by decide⟩, tbl_in 711 (by decide +kernel) rfl, tbl_in 712 (by decide +kernel) rfl⟩
theorem cw_L_96 : CWV RL 96 yX8_put cX8_put 5 (some .int) 3 := ⟨⟨tbl_in 714 (by decide +kernel) rfl, tbl_in 59 (by decide +kernel) rfl, tbl_in 717 (by decide +kernel) rfl, by decide +kernel, by decide⟩, tbl_in 715 (by decide +kernel) rfl, tbl_in 716 (by decide +kernel) rfl⟩
theorem cw_X8_244 : CWV RX8 244 yX6_store cX6_store 3 none 2 := ⟨⟨tbl_in 718 (by decide +kernel) rfl, tbl_in 60 (by decide +kernel) rfl, tbl_in 721 (by decide +kernel) rfl, by decide +kernel, by decide⟩, tbl_in 719 (by decide +kernel) rfl, tbl_in 720 (by decide +kernel) rfl⟩
theorem cw_L_100 : CWV RL 100 yX8_cell cX8_cell 4 (some .long) 3 := ⟨⟨tbl_in 722 (by decide +kernel) rfl, tbl_in 59 (by decide +kernel) rfl, tbl_in 725 (by decide +kernel) rfl, by decide +kernel, by decide⟩, tbl_in 723 (by decide +kernel) rfl, tbl_in 724 (by decide +kernel) rfl⟩
theorem cw_X8_247 : CWV RX8 247 yX6_at cX6_at 2 (some .int) 1 := ⟨⟨tbl_in 726 (by decide +kernel) rfl, tbl_in 60 (by decide +kernel) rfl, tbl_in 400 (by decide +kernel) rfl, by decide +kernel, by decide⟩, tbl_in 398 (by decide +kernel) rfl, tbl_in 399 (by decide +kernel) rfl⟩
theorem cw_L_105 : CWV RL 105 yX8_copy cX8_copy 8 (some .int) 5 := ⟨⟨tbl_in 727 (by decide +kernel) rfl, tbl_in 59 (by decide +kernel) rfl, tbl_in 730 (by decide +kernel) rfl, by decide +kernel, by decide⟩, tbl_in 728 (by decide +kernel) rfl, tbl_in 729 (by decide +kernel) rfl⟩
theorem cp_X8_256 : Cond.methodLink RX8 256 arraycopyName ∈ tbl := tbl_in 731 (by decide +kernel) rfl
theorem cw_L_110 : CWV RL 110 yX8_tell cX8_tell 2 (some .int) 1 := ⟨⟨tbl_in 732 (by decide +kernel) rfl, tbl_in 59 (by decide +kernel) rfl, tbl_in 735 (by decide +kernel) rfl, by decide +kernel, by decide⟩, tbl_in 733 (by decide +kernel) rfl, tbl_in 734 (by decide +kernel) rfl⟩
theorem cw_X8_262 : CWV RX8 262 yX8_tellAsHonest cX8_tellAsHonest 4 (some .int) 1 := ⟨⟨tbl_in 736 (by decide +kernel) rfl, tbl_in 59 (by decide +kernel) rfl, tbl_in 739 (by decide +kernel) rfl, by decide +kernel, by decide⟩, tbl_in 738 (by decide +kernel) rfl, tbl_in 18 (by decide +kernel) rfl⟩
theorem cw_X8_271 : CWV RX8 271 yX8_leave cX8_leave 2 none 1 := ⟨⟨tbl_in 740 (by decide +kernel) rfl, tbl_in 59 (by decide +kernel) rfl, tbl_in 743 (by decide +kernel) rfl, by decide +kernel, by decide⟩, tbl_in 742 (by decide +kernel) rfl, tbl_in 19 (by decide +kernel) rfl⟩
theorem cw_X8_265 : CWV RX8 265 yX8_tellAsFollower cX8_tellAsFollower 2 (some .int) 1 := ⟨⟨tbl_in 744 (by decide +kernel) rfl, tbl_in 59 (by decide +kernel) rfl, tbl_in 747 (by decide +kernel) rfl, by decide +kernel, by decide⟩, tbl_in 746 (by decide +kernel) rfl, tbl_in 20 (by decide +kernel) rfl⟩
theorem cw_X8_268 : CWV RX8 268 yX8_tellAsContrary cX8_tellAsContrary 3 (some .int) 1 := ⟨⟨tbl_in 748 (by decide +kernel) rfl, tbl_in 59 (by decide +kernel) rfl, tbl_in 751 (by decide +kernel) rfl, by decide +kernel, by decide⟩, tbl_in 750 (by decide +kernel) rfl, tbl_in 21 (by decide +kernel) rfl⟩
theorem cw_L_114 : CWV RL 114 yX8_swear cX8_swear 2 (some .int) 1 := ⟨⟨tbl_in 752 (by decide +kernel) rfl, tbl_in 59 (by decide +kernel) rfl, tbl_in 755 (by decide +kernel) rfl, by decide +kernel, by decide⟩, tbl_in 753 (by decide +kernel) rfl, tbl_in 754 (by decide +kernel) rfl⟩
theorem cw_L_118 : CWV RL 118 yX8_as cX8_as 3 (some .int) 2 := ⟨⟨tbl_in 756 (by decide +kernel) rfl, tbl_in 59 (by decide +kernel) rfl, tbl_in 759 (by decide +kernel) rfl, by decide +kernel, by decide⟩, tbl_in 757 (by decide +kernel) rfl, tbl_in 758 (by decide +kernel) rfl⟩
theorem cw_L_122 : CWV RL 122 yX8_trace cX8_trace 1 (some .int) 0 := ⟨⟨tbl_in 760 (by decide +kernel) rfl, tbl_in 59 (by decide +kernel) rfl, tbl_in 763 (by decide +kernel) rfl, by decide +kernel, by decide⟩, tbl_in 761 (by decide +kernel) rfl, tbl_in 762 (by decide +kernel) rfl⟩
theorem cw_L_126 : CWV RL 126 yX8_fault cX8_fault 1 (some .int) 0 := ⟨⟨tbl_in 764 (by decide +kernel) rfl, tbl_in 59 (by decide +kernel) rfl, tbl_in 767 (by decide +kernel) rfl, by decide +kernel, by decide⟩, tbl_in 765 (by decide +kernel) rfl, tbl_in 766 (by decide +kernel) rfl⟩
theorem cw_L_130 : CWV RL 130 yX8_many cX8_many 2 (some .int) 1 := ⟨⟨tbl_in 768 (by decide +kernel) rfl, tbl_in 59 (by decide +kernel) rfl, tbl_in 771 (by decide +kernel) rfl, by decide +kernel, by decide⟩, tbl_in 769 (by decide +kernel) rfl, tbl_in 770 (by decide +kernel) rfl⟩
theorem cw_L_17 : CWV RL 17 yX9_town cX9_town 8 (some .int) 4 := ⟨⟨tbl_in 912 (by decide +kernel) rfl, tbl_in 68 (by decide +kernel) rfl, tbl_in 915 (by decide +kernel) rfl, by decide +kernel, by decide⟩, tbl_in 913 (by decide +kernel) rfl, tbl_in 914 (by decide +kernel) rfl⟩
theorem cw_X9_100 : CWS RX9 100 yX9_isSheet cX9_isSheet 1 (some .boolean) 1 := ⟨⟨tbl_in 916 (by decide +kernel) rfl, tbl_in 68 (by decide +kernel) rfl, tbl_in 918 (by decide +kernel) rfl, by decide +kernel, by decide⟩, tbl_in 917 (by decide +kernel) rfl⟩
theorem cw_X9_87 : CWS RX9 87 yX9_within cX9_within 3 (some .boolean) 3 := ⟨⟨tbl_in 919 (by decide +kernel) rfl, tbl_in 68 (by decide +kernel) rfl, tbl_in 921 (by decide +kernel) rfl, by decide +kernel, by decide⟩, tbl_in 920 (by decide +kernel) rfl⟩
theorem cw_X9_104 : CWS RX9 104 yX9_isSort cX9_isSort 1 (some .boolean) 1 := ⟨⟨tbl_in 922 (by decide +kernel) rfl, tbl_in 68 (by decide +kernel) rfl, tbl_in 924 (by decide +kernel) rfl, by decide +kernel, by decide⟩, tbl_in 923 (by decide +kernel) rfl⟩
theorem cw_X9_107 : CWV RX9 107 yX9_against cX9_against 5 (some .int) 4 := ⟨⟨tbl_in 925 (by decide +kernel) rfl, tbl_in 68 (by decide +kernel) rfl, tbl_in 928 (by decide +kernel) rfl, by decide +kernel, by decide⟩, tbl_in 927 (by decide +kernel) rfl, tbl_in 22 (by decide +kernel) rfl⟩
theorem cw_X9_111 : CWV RX9 111 yX9_fails cX9_fails 2 (some .int) 1 := ⟨⟨tbl_in 929 (by decide +kernel) rfl, tbl_in 68 (by decide +kernel) rfl, tbl_in 932 (by decide +kernel) rfl, by decide +kernel, by decide⟩, tbl_in 931 (by decide +kernel) rfl, tbl_in 23 (by decide +kernel) rfl⟩
theorem cw_X9_115 : CWV RX9 115 yX9_readTown cX9_readTown 2 (some .boolean) 1 := ⟨⟨tbl_in 933 (by decide +kernel) rfl, tbl_in 68 (by decide +kernel) rfl, tbl_in 936 (by decide +kernel) rfl, by decide +kernel, by decide⟩, tbl_in 935 (by decide +kernel) rfl, tbl_in 24 (by decide +kernel) rfl⟩
theorem cw_X9_133 : CWV RX9 133 yX9_isCode cX9_isCode 3 (some .boolean) 2 := ⟨⟨tbl_in 937 (by decide +kernel) rfl, tbl_in 68 (by decide +kernel) rfl, tbl_in 940 (by decide +kernel) rfl, by decide +kernel, by decide⟩, tbl_in 939 (by decide +kernel) rfl, tbl_in 25 (by decide +kernel) rfl⟩
theorem cw_X9_137 : CWV RX9 137 yX9_readOne cX9_readOne 4 (some .boolean) 1 := ⟨⟨tbl_in 941 (by decide +kernel) rfl, tbl_in 68 (by decide +kernel) rfl, tbl_in 944 (by decide +kernel) rfl, by decide +kernel, by decide⟩, tbl_in 943 (by decide +kernel) rfl, tbl_in 26 (by decide +kernel) rfl⟩
theorem cw_L_22 : CWV RL 22 yX9_ofOne cX9_ofOne 3 (some .int) 2 := ⟨⟨tbl_in 945 (by decide +kernel) rfl, tbl_in 68 (by decide +kernel) rfl, tbl_in 948 (by decide +kernel) rfl, by decide +kernel, by decide⟩, tbl_in 946 (by decide +kernel) rfl, tbl_in 947 (by decide +kernel) rfl⟩
theorem cw_X9_140 : CWV RX9 140 yX9_isOne cX9_isOne 2 (some .boolean) 1 := ⟨⟨tbl_in 949 (by decide +kernel) rfl, tbl_in 68 (by decide +kernel) rfl, tbl_in 952 (by decide +kernel) rfl, by decide +kernel, by decide⟩, tbl_in 951 (by decide +kernel) rfl, tbl_in 27 (by decide +kernel) rfl⟩
theorem cw_X9_143 : CWV RX9 143 yX9_isMatter cX9_isMatter 2 (some .boolean) 1 := ⟨⟨tbl_in 953 (by decide +kernel) rfl, tbl_in 68 (by decide +kernel) rfl, tbl_in 956 (by decide +kernel) rfl, by decide +kernel, by decide⟩, tbl_in 955 (by decide +kernel) rfl, tbl_in 28 (by decide +kernel) rfl⟩
theorem cw_L_27 : CWV RL 27 yX9_wish cX9_wish 6 (some .int) 3 := ⟨⟨tbl_in 957 (by decide +kernel) rfl, tbl_in 68 (by decide +kernel) rfl, tbl_in 960 (by decide +kernel) rfl, by decide +kernel, by decide⟩, tbl_in 958 (by decide +kernel) rfl, tbl_in 959 (by decide +kernel) rfl⟩
theorem cw_L_32 : CWV RL 32 yX9_measure cX9_measure 3 (some .int) 1 := ⟨⟨tbl_in 961 (by decide +kernel) rfl, tbl_in 68 (by decide +kernel) rfl, tbl_in 964 (by decide +kernel) rfl, by decide +kernel, by decide⟩, tbl_in 962 (by decide +kernel) rfl, tbl_in 963 (by decide +kernel) rfl⟩
theorem cw_X9_146 : CWV RX9 146 yX9_isTown cX9_isTown 1 (some .boolean) 0 := ⟨⟨tbl_in 965 (by decide +kernel) rfl, tbl_in 68 (by decide +kernel) rfl, tbl_in 968 (by decide +kernel) rfl, by decide +kernel, by decide⟩, tbl_in 967 (by decide +kernel) rfl, tbl_in 29 (by decide +kernel) rfl⟩
theorem cw_L_36 : CWV RL 36 yX9_law cX9_law 3 (some .int) 1 := ⟨⟨tbl_in 969 (by decide +kernel) rfl, tbl_in 68 (by decide +kernel) rfl, tbl_in 972 (by decide +kernel) rfl, by decide +kernel, by decide⟩, tbl_in 970 (by decide +kernel) rfl, tbl_in 971 (by decide +kernel) rfl⟩
theorem cw_L_40 : CWV RL 40 yX9_agenda cX9_agenda 10 (some .int) 4 := ⟨⟨tbl_in 973 (by decide +kernel) rfl, tbl_in 68 (by decide +kernel) rfl, tbl_in 976 (by decide +kernel) rfl, by decide +kernel, by decide⟩, tbl_in 974 (by decide +kernel) rfl, tbl_in 975 (by decide +kernel) rfl⟩
theorem cw_L_44 : CWV RL 44 yX9_vote cX9_vote 3 (some .int) 2 := ⟨⟨tbl_in 977 (by decide +kernel) rfl, tbl_in 68 (by decide +kernel) rfl, tbl_in 980 (by decide +kernel) rfl, by decide +kernel, by decide⟩, tbl_in 978 (by decide +kernel) rfl, tbl_in 979 (by decide +kernel) rfl⟩
theorem cw_X9_212 : CWV RX9 212 yX9_goFirst cX9_goFirst 1 none 0 := ⟨⟨tbl_in 981 (by decide +kernel) rfl, tbl_in 68 (by decide +kernel) rfl, tbl_in 984 (by decide +kernel) rfl, by decide +kernel, by decide⟩, tbl_in 983 (by decide +kernel) rfl, tbl_in 30 (by decide +kernel) rfl⟩
theorem cw_X9_205 : CWV RX9 205 yX9_layHall cX9_layHall 1 none 0 := ⟨⟨tbl_in 985 (by decide +kernel) rfl, tbl_in 68 (by decide +kernel) rfl, tbl_in 988 (by decide +kernel) rfl, by decide +kernel, by decide⟩, tbl_in 987 (by decide +kernel) rfl, tbl_in 31 (by decide +kernel) rfl⟩
theorem cw_X9_150 : CWV RX9 150 yX9_everyone cX9_everyone 1 (some .int) 0 := ⟨⟨tbl_in 989 (by decide +kernel) rfl, tbl_in 68 (by decide +kernel) rfl, tbl_in 992 (by decide +kernel) rfl, by decide +kernel, by decide⟩, tbl_in 991 (by decide +kernel) rfl, tbl_in 32 (by decide +kernel) rfl⟩
theorem cw_X9_208 : CWV RX9 208 yX9_goRun cX9_goRun 4 none 2 := ⟨⟨tbl_in 993 (by decide +kernel) rfl, tbl_in 68 (by decide +kernel) rfl, tbl_in 996 (by decide +kernel) rfl, by decide +kernel, by decide⟩, tbl_in 995 (by decide +kernel) rfl, tbl_in 33 (by decide +kernel) rfl⟩
theorem cw_X9_202 : CWV RX9 202 yX9_goOn cX9_goOn 4 none 3 := ⟨⟨tbl_in 997 (by decide +kernel) rfl, tbl_in 68 (by decide +kernel) rfl, tbl_in 1000 (by decide +kernel) rfl, by decide +kernel, by decide⟩, tbl_in 999 (by decide +kernel) rfl, tbl_in 34 (by decide +kernel) rfl⟩
theorem cw_X9_192 : CWV RX9 192 yX9_passBy cX9_passBy 1 none 0 := ⟨⟨tbl_in 1001 (by decide +kernel) rfl, tbl_in 68 (by decide +kernel) rfl, tbl_in 1004 (by decide +kernel) rfl, by decide +kernel, by decide⟩, tbl_in 1003 (by decide +kernel) rfl, tbl_in 35 (by decide +kernel) rfl⟩
theorem cw_X9_195 : CWV RX9 195 yX9_poll cX9_poll 9 none 3 := ⟨⟨tbl_in 1005 (by decide +kernel) rfl, tbl_in 68 (by decide +kernel) rfl, tbl_in 1008 (by decide +kernel) rfl, by decide +kernel, by decide⟩, tbl_in 1007 (by decide +kernel) rfl, tbl_in 36 (by decide +kernel) rfl⟩
theorem cw_X9_176 : CWV RX9 176 yX9_says cX9_says 6 (some .boolean) 4 := ⟨⟨tbl_in 1009 (by decide +kernel) rfl, tbl_in 68 (by decide +kernel) rfl, tbl_in 1012 (by decide +kernel) rfl, by decide +kernel, by decide⟩, tbl_in 1011 (by decide +kernel) rfl, tbl_in 37 (by decide +kernel) rfl⟩
theorem cw_X9_199 : CWV RX9 199 yX9_seatAnew cX9_seatAnew 1 none 0 := ⟨⟨tbl_in 1013 (by decide +kernel) rfl, tbl_in 68 (by decide +kernel) rfl, tbl_in 1016 (by decide +kernel) rfl, by decide +kernel, by decide⟩, tbl_in 1015 (by decide +kernel) rfl, tbl_in 38 (by decide +kernel) rfl⟩
theorem cw_X9_186 : CWV RX9 186 yX9_seatWinners cX9_seatWinners 7 none 0 := ⟨⟨tbl_in 1017 (by decide +kernel) rfl, tbl_in 68 (by decide +kernel) rfl, tbl_in 1020 (by decide +kernel) rfl, by decide +kernel, by decide⟩, tbl_in 1019 (by decide +kernel) rfl, tbl_in 39 (by decide +kernel) rfl⟩
theorem cw_X9_189 : CWV RX9 189 yX9_seatRound cX9_seatRound 3 none 0 := ⟨⟨tbl_in 1021 (by decide +kernel) rfl, tbl_in 68 (by decide +kernel) rfl, tbl_in 1024 (by decide +kernel) rfl, by decide +kernel, by decide⟩, tbl_in 1023 (by decide +kernel) rfl, tbl_in 40 (by decide +kernel) rfl⟩
theorem cw_L_48 : CWV RL 48 yX9_decided cX9_decided 3 (some .int) 1 := ⟨⟨tbl_in 1025 (by decide +kernel) rfl, tbl_in 68 (by decide +kernel) rfl, tbl_in 1028 (by decide +kernel) rfl, by decide +kernel, by decide⟩, tbl_in 1026 (by decide +kernel) rfl, tbl_in 1027 (by decide +kernel) rfl⟩
theorem cw_X9_215 : CWV RX9 215 yX9_placeOf cX9_placeOf 3 (some .int) 1 := ⟨⟨tbl_in 1029 (by decide +kernel) rfl, tbl_in 68 (by decide +kernel) rfl, tbl_in 1032 (by decide +kernel) rfl, by decide +kernel, by decide⟩, tbl_in 1031 (by decide +kernel) rfl, tbl_in 41 (by decide +kernel) rfl⟩
theorem cw_L_53 : CWV RL 53 yX9_sits cX9_sits 1 (some .int) 0 := ⟨⟨tbl_in 1033 (by decide +kernel) rfl, tbl_in 68 (by decide +kernel) rfl, tbl_in 1036 (by decide +kernel) rfl, by decide +kernel, by decide⟩, tbl_in 1034 (by decide +kernel) rfl, tbl_in 1035 (by decide +kernel) rfl⟩
theorem cw_L_57 : CWV RL 57 yX9_ever cX9_ever 2 (some .int) 1 := ⟨⟨tbl_in 1037 (by decide +kernel) rfl, tbl_in 68 (by decide +kernel) rfl, tbl_in 1040 (by decide +kernel) rfl, by decide +kernel, by decide⟩, tbl_in 1038 (by decide +kernel) rfl, tbl_in 1039 (by decide +kernel) rfl⟩
theorem cw_X9_227 : CWV RX9 227 yX9_findRing cX9_findRing 2 none 0 := ⟨⟨tbl_in 1041 (by decide +kernel) rfl, tbl_in 68 (by decide +kernel) rfl, tbl_in 1044 (by decide +kernel) rfl, by decide +kernel, by decide⟩, tbl_in 1043 (by decide +kernel) rfl, tbl_in 42 (by decide +kernel) rfl⟩
theorem cw_X9_218 : CWV RX9 218 yX9_stateNow cX9_stateNow 1 (some .int) 0 := ⟨⟨tbl_in 1045 (by decide +kernel) rfl, tbl_in 68 (by decide +kernel) rfl, tbl_in 1048 (by decide +kernel) rfl, by decide +kernel, by decide⟩, tbl_in 1047 (by decide +kernel) rfl, tbl_in 43 (by decide +kernel) rfl⟩
theorem cw_L_61 : CWV RL 61 yX9_often cX9_often 5 (some .int) 1 := ⟨⟨tbl_in 1049 (by decide +kernel) rfl, tbl_in 68 (by decide +kernel) rfl, tbl_in 1052 (by decide +kernel) rfl, by decide +kernel, by decide⟩, tbl_in 1050 (by decide +kernel) rfl, tbl_in 1051 (by decide +kernel) rfl⟩
theorem cw_L_65 : CWV RL 65 yX9_sway cX9_sway 3 (some .int) 2 := ⟨⟨tbl_in 1053 (by decide +kernel) rfl, tbl_in 68 (by decide +kernel) rfl, tbl_in 1056 (by decide +kernel) rfl, by decide +kernel, by decide⟩, tbl_in 1054 (by decide +kernel) rfl, tbl_in 1055 (by decide +kernel) rfl⟩
theorem cw_X9_235 : CWS RX9 235 yX9_bits cX9_bits 3 (some .int) 1 := ⟨⟨tbl_in 1057 (by decide +kernel) rfl, tbl_in 68 (by decide +kernel) rfl, tbl_in 1059 (by decide +kernel) rfl, by decide +kernel, by decide⟩, tbl_in 1058 (by decide +kernel) rfl⟩
theorem cw_X9_246 : CWV RX9 246 yX9_findSway cX9_findSway 8 (some .int) 2 := ⟨⟨tbl_in 1060 (by decide +kernel) rfl, tbl_in 68 (by decide +kernel) rfl, tbl_in 1063 (by decide +kernel) rfl, by decide +kernel, by decide⟩, tbl_in 1062 (by decide +kernel) rfl, tbl_in 44 (by decide +kernel) rfl⟩
theorem cw_X9_230 : CWV RX9 230 yX9_keepAhead cX9_keepAhead 3 none 2 := ⟨⟨tbl_in 1064 (by decide +kernel) rfl, tbl_in 68 (by decide +kernel) rfl, tbl_in 1067 (by decide +kernel) rfl, by decide +kernel, by decide⟩, tbl_in 1066 (by decide +kernel) rfl, tbl_in 45 (by decide +kernel) rfl⟩
theorem cw_X9_238 : CWS RX9 238 yX9_spread cX9_spread 5 (some .int) 2 := ⟨⟨tbl_in 1069 (by decide +kernel) rfl, tbl_in 68 (by decide +kernel) rfl, tbl_in 1071 (by decide +kernel) rfl, by decide +kernel, by decide⟩, tbl_in 1070 (by decide +kernel) rfl⟩
theorem cw_X9_242 : CWV RX9 242 yX9_lies cX9_lies 6 (some .int) 3 := ⟨⟨tbl_in 1072 (by decide +kernel) rfl, tbl_in 68 (by decide +kernel) rfl, tbl_in 1075 (by decide +kernel) rfl, by decide +kernel, by decide⟩, tbl_in 1074 (by decide +kernel) rfl, tbl_in 46 (by decide +kernel) rfl⟩
theorem cw_L_69 : CWV RL 69 yX9_orders cX9_orders 6 (some .int) 2 := ⟨⟨tbl_in 1076 (by decide +kernel) rfl, tbl_in 68 (by decide +kernel) rfl, tbl_in 1079 (by decide +kernel) rfl, by decide +kernel, by decide⟩, tbl_in 1077 (by decide +kernel) rfl, tbl_in 1078 (by decide +kernel) rfl⟩
theorem cw_X9_252 : CWV RX9 252 yX9_firstRow cX9_firstRow 3 none 0 := ⟨⟨tbl_in 1080 (by decide +kernel) rfl, tbl_in 68 (by decide +kernel) rfl, tbl_in 1083 (by decide +kernel) rfl, by decide +kernel, by decide⟩, tbl_in 1082 (by decide +kernel) rfl, tbl_in 47 (by decide +kernel) rfl⟩
theorem cw_X9_249 : CWV RX9 249 yX9_exchange cX9_exchange 4 none 2 := ⟨⟨tbl_in 1084 (by decide +kernel) rfl, tbl_in 68 (by decide +kernel) rfl, tbl_in 1087 (by decide +kernel) rfl, by decide +kernel, by decide⟩, tbl_in 1086 (by decide +kernel) rfl, tbl_in 48 (by decide +kernel) rfl⟩
theorem cw_X9_255 : CWV RX9 255 yX9_outcomeInOrder cX9_outcomeInOrder 4 (some .int) 1 := ⟨⟨tbl_in 1088 (by decide +kernel) rfl, tbl_in 68 (by decide +kernel) rfl, tbl_in 1091 (by decide +kernel) rfl, by decide +kernel, by decide⟩, tbl_in 1090 (by decide +kernel) rfl, tbl_in 49 (by decide +kernel) rfl⟩
theorem cw_X9_258 : CWV RX9 258 yX9_nextRow cX9_nextRow 5 (some .boolean) 0 := ⟨⟨tbl_in 1092 (by decide +kernel) rfl, tbl_in 68 (by decide +kernel) rfl, tbl_in 1095 (by decide +kernel) rfl, by decide +kernel, by decide⟩, tbl_in 1094 (by decide +kernel) rfl, tbl_in 50 (by decide +kernel) rfl⟩
theorem cw_L_73 : CWV RL 73 yX9_key cX9_key 7 (some .int) 1 := ⟨⟨tbl_in 1096 (by decide +kernel) rfl, tbl_in 68 (by decide +kernel) rfl, tbl_in 1099 (by decide +kernel) rfl, by decide +kernel, by decide⟩, tbl_in 1097 (by decide +kernel) rfl, tbl_in 1098 (by decide +kernel) rfl⟩
theorem cw_L_78 : CWV RL 78 yX9_lot cX9_lot 9 (some .long) 1 := ⟨⟨tbl_in 1100 (by decide +kernel) rfl, tbl_in 68 (by decide +kernel) rfl, tbl_in 1103 (by decide +kernel) rfl, by decide +kernel, by decide⟩, tbl_in 1101 (by decide +kernel) rfl, tbl_in 1102 (by decide +kernel) rfl⟩
theorem cw_X9_276 : CWV RX9 276 yX9_allWays cX9_allWays 6 (some .long) 0 := ⟨⟨tbl_in 1105 (by decide +kernel) rfl, tbl_in 68 (by decide +kernel) rfl, tbl_in 1108 (by decide +kernel) rfl, by decide +kernel, by decide⟩, tbl_in 1107 (by decide +kernel) rfl, tbl_in 51 (by decide +kernel) rfl⟩
theorem cw_X9_261 : CWS RX9 261 yX9_choose cX9_choose 5 (some .long) 2 := ⟨⟨tbl_in 1109 (by decide +kernel) rfl, tbl_in 68 (by decide +kernel) rfl, tbl_in 1111 (by decide +kernel) rfl, by decide +kernel, by decide⟩, tbl_in 1110 (by decide +kernel) rfl⟩
theorem cw_X9_265 : CWS RX9 265 yX9_leastCommon cX9_leastCommon 10 (some .long) 2 := ⟨⟨tbl_in 1112 (by decide +kernel) rfl, tbl_in 68 (by decide +kernel) rfl, tbl_in 1114 (by decide +kernel) rfl, by decide +kernel, by decide⟩, tbl_in 1113 (by decide +kernel) rfl⟩
theorem cw_X9_280 : CWV RX9 280 yX9_goLot cX9_goLot 5 none 2 := ⟨⟨tbl_in 1115 (by decide +kernel) rfl, tbl_in 68 (by decide +kernel) rfl, tbl_in 1118 (by decide +kernel) rfl, by decide +kernel, by decide⟩, tbl_in 1117 (by decide +kernel) rfl, tbl_in 52 (by decide +kernel) rfl⟩
theorem cw_X9_269 : CWV RX9 269 yX9_clearNext cX9_clearNext 2 none 0 := ⟨⟨tbl_in 1119 (by decide +kernel) rfl, tbl_in 68 (by decide +kernel) rfl, tbl_in 1122 (by decide +kernel) rfl, by decide +kernel, by decide⟩, tbl_in 1121 (by decide +kernel) rfl, tbl_in 53 (by decide +kernel) rfl⟩
theorem cw_X9_272 : CWV RX9 272 yX9_drawSeats cX9_drawSeats 8 none 2 := ⟨⟨tbl_in 1123 (by decide +kernel) rfl, tbl_in 68 (by decide +kernel) rfl, tbl_in 1126 (by decide +kernel) rfl, by decide +kernel, by decide⟩, tbl_in 1125 (by decide +kernel) rfl, tbl_in 54 (by decide +kernel) rfl⟩
theorem cw_X9_284 : CWS RX9 284 yX9_share cX9_share 11 (some .long) 3 := ⟨⟨tbl_in 1127 (by decide +kernel) rfl, tbl_in 68 (by decide +kernel) rfl, tbl_in 1129 (by decide +kernel) rfl, by decide +kernel, by decide⟩, tbl_in 1128 (by decide +kernel) rfl⟩
theorem cw_L_83 : CWV RL 83 yX9_fits cX9_fits 10 (some .int) 3 := ⟨⟨tbl_in 1130 (by decide +kernel) rfl, tbl_in 68 (by decide +kernel) rfl, tbl_in 1133 (by decide +kernel) rfl, by decide +kernel, by decide⟩, tbl_in 1131 (by decide +kernel) rfl, tbl_in 1132 (by decide +kernel) rfl⟩
theorem cw_L_87 : CWV RL 87 yX9_safe cX9_safe 4 (some .int) 0 := ⟨⟨tbl_in 1134 (by decide +kernel) rfl, tbl_in 68 (by decide +kernel) rfl, tbl_in 1137 (by decide +kernel) rfl, by decide +kernel, by decide⟩, tbl_in 1135 (by decide +kernel) rfl, tbl_in 1136 (by decide +kernel) rfl⟩
theorem cw_X9_288 : CWV RX9 288 yX9_isOnceShut cX9_isOnceShut 3 (some .boolean) 0 := ⟨⟨tbl_in 1138 (by decide +kernel) rfl, tbl_in 68 (by decide +kernel) rfl, tbl_in 1141 (by decide +kernel) rfl, by decide +kernel, by decide⟩, tbl_in 1140 (by decide +kernel) rfl, tbl_in 55 (by decide +kernel) rfl⟩
theorem cw_L_91 : CWV RL 91 yX9_sheet cX9_sheet 5 (some .int) 3 := ⟨⟨tbl_in 1142 (by decide +kernel) rfl, tbl_in 68 (by decide +kernel) rfl, tbl_in 1145 (by decide +kernel) rfl, by decide +kernel, by decide⟩, tbl_in 1143 (by decide +kernel) rfl, tbl_in 1144 (by decide +kernel) rfl⟩
theorem cw_L_95 : CWV RL 95 yX9_lose cX9_lose 3 (some .int) 1 := ⟨⟨tbl_in 1146 (by decide +kernel) rfl, tbl_in 68 (by decide +kernel) rfl, tbl_in 1149 (by decide +kernel) rfl, by decide +kernel, by decide⟩, tbl_in 1147 (by decide +kernel) rfl, tbl_in 1148 (by decide +kernel) rfl⟩
theorem cw_L_99 : CWV RL 99 yX9_put cX9_put 4 (some .int) 3 := ⟨⟨tbl_in 1150 (by decide +kernel) rfl, tbl_in 68 (by decide +kernel) rfl, tbl_in 1153 (by decide +kernel) rfl, by decide +kernel, by decide⟩, tbl_in 1151 (by decide +kernel) rfl, tbl_in 1152 (by decide +kernel) rfl⟩
theorem cw_L_104 : CWV RL 104 yX9_cell cX9_cell 4 (some .long) 3 := ⟨⟨tbl_in 1154 (by decide +kernel) rfl, tbl_in 68 (by decide +kernel) rfl, tbl_in 1157 (by decide +kernel) rfl, by decide +kernel, by decide⟩, tbl_in 1155 (by decide +kernel) rfl, tbl_in 1156 (by decide +kernel) rfl⟩
theorem cw_X9_291 : CWV RX9 291 yX9_lost cX9_lost 2 (some .long) 1 := ⟨⟨tbl_in 1158 (by decide +kernel) rfl, tbl_in 68 (by decide +kernel) rfl, tbl_in 1161 (by decide +kernel) rfl, by decide +kernel, by decide⟩, tbl_in 1160 (by decide +kernel) rfl, tbl_in 56 (by decide +kernel) rfl⟩
theorem cw_L_109 : CWV RL 109 yX9_copy cX9_copy 10 (some .int) 5 := ⟨⟨tbl_in 1162 (by decide +kernel) rfl, tbl_in 68 (by decide +kernel) rfl, tbl_in 1165 (by decide +kernel) rfl, by decide +kernel, by decide⟩, tbl_in 1163 (by decide +kernel) rfl, tbl_in 1164 (by decide +kernel) rfl⟩
theorem cw_L_113 : CWV RL 113 yX9_tell cX9_tell 3 (some .int) 1 := ⟨⟨tbl_in 1166 (by decide +kernel) rfl, tbl_in 68 (by decide +kernel) rfl, tbl_in 1169 (by decide +kernel) rfl, by decide +kernel, by decide⟩, tbl_in 1167 (by decide +kernel) rfl, tbl_in 1168 (by decide +kernel) rfl⟩
theorem cw_X9_298 : CWV RX9 298 yX9_begins cX9_begins 2 none 1 := ⟨⟨tbl_in 1170 (by decide +kernel) rfl, tbl_in 68 (by decide +kernel) rfl, tbl_in 1173 (by decide +kernel) rfl, by decide +kernel, by decide⟩, tbl_in 1172 (by decide +kernel) rfl, tbl_in 57 (by decide +kernel) rfl⟩
theorem cw_L_117 : CWV RL 117 yX9_swear cX9_swear 2 (some .int) 1 := ⟨⟨tbl_in 1174 (by decide +kernel) rfl, tbl_in 68 (by decide +kernel) rfl, tbl_in 1177 (by decide +kernel) rfl, by decide +kernel, by decide⟩, tbl_in 1175 (by decide +kernel) rfl, tbl_in 1176 (by decide +kernel) rfl⟩
theorem cw_L_121 : CWV RL 121 yX9_as cX9_as 3 (some .int) 2 := ⟨⟨tbl_in 1178 (by decide +kernel) rfl, tbl_in 68 (by decide +kernel) rfl, tbl_in 1181 (by decide +kernel) rfl, by decide +kernel, by decide⟩, tbl_in 1179 (by decide +kernel) rfl, tbl_in 1180 (by decide +kernel) rfl⟩
theorem cw_L_125 : CWV RL 125 yX9_trace cX9_trace 1 (some .int) 0 := ⟨⟨tbl_in 1182 (by decide +kernel) rfl, tbl_in 68 (by decide +kernel) rfl, tbl_in 1185 (by decide +kernel) rfl, by decide +kernel, by decide⟩, tbl_in 1183 (by decide +kernel) rfl, tbl_in 1184 (by decide +kernel) rfl⟩
theorem cw_L_129 : CWV RL 129 yX9_fault cX9_fault 1 (some .int) 0 := ⟨⟨tbl_in 1186 (by decide +kernel) rfl, tbl_in 68 (by decide +kernel) rfl, tbl_in 1189 (by decide +kernel) rfl, by decide +kernel, by decide⟩, tbl_in 1187 (by decide +kernel) rfl, tbl_in 1188 (by decide +kernel) rfl⟩
theorem cw_L_133 : CWV RL 133 yX9_many cX9_many 2 (some .int) 1 := ⟨⟨tbl_in 1190 (by decide +kernel) rfl, tbl_in 68 (by decide +kernel) rfl, tbl_in 1193 (by decide +kernel) rfl, by decide +kernel, by decide⟩, tbl_in 1191 (by decide +kernel) rfl, tbl_in 1192 (by decide +kernel) rfl⟩
theorem cn_J6_265 : Cond.constant RJ6 265 1431655765 ∈ tbl := tbl_in 472 (by decide +kernel) rfl
theorem cn_J6_266 : Cond.constant RJ6 266 858993459 ∈ tbl := tbl_in 473 (by decide +kernel) rfl
theorem cn_J6_267 : Cond.constant RJ6 267 252645135 ∈ tbl := tbl_in 474 (by decide +kernel) rfl
theorem cn_X8_194 : Cond.constantLong RX8 194 (-9223372036854775808) ∈ tbl := tbl_in 647 (by decide +kernel) rfl
theorem cn_X3_58 : Cond.constantLong RX3 58 (840) ∈ tbl := tbl_in 668 (by decide +kernel) rfl
theorem cn_X9_234 : Cond.constant RX9 234 1000000 ∈ tbl := tbl_in 1068 (by decide +kernel) rfl
theorem cn_X9_85 : Cond.constantLong RX9 85 (-9223372036854775808) ∈ tbl := tbl_in 1104 (by decide +kernel) rfl
end
section
/-! ===== small rows that the printed regions use ===== -/
theorem Cx.wf {ω : WT} {κ : KT} {l : Launch} {y : MethodName} {cc : ByteArray} {nL d : Nat} (K : Cx ω κ l y cc nL d) : Wf ω := by
  obtain ⟨p, l', e, R, s, m, args, below, meth, c, cells, slots, Q⟩ := κ
  exact K.2.2.2.2.2.2.1
theorem V_join {ω : WT} {κ : KT} {pc J : Nat} {L : List (Nat × Value)} {S S0 : List Value} {σ : St} {v : Value} (h : V ω κ J L (v :: S) σ → V ω κ pc L S0 σ) (k : V ω κ J L (v :: S) σ) : V ω κ pc L S0 σ := h k
theorem V_top {ω : WT} {κ : KT} {pc : Nat} {L : List (Nat × Value)} {S : List Value} {σ : St} {v v' : Int32} (h : v = v') (k : V ω κ pc L (.int v :: S) σ) : V ω κ pc L (.int v' :: S) σ := h ▸ k
theorem V_topJ {ω : WT} {κ : KT} {pc : Nat} {L : List (Nat × Value)} {S : List Value} {σ : St} {v v' : Int64} (h : v = v') (k : V ω κ pc L (.long v :: S) σ) : V ω κ pc L (.long v' :: S) σ := h ▸ k
theorem narZ {v : Int32} (h : v = 0 ∨ v = 1) : narrow .boolean (.int v) = .int v := by rcases h with rfl | rfl <;> rfl
theorem narZ2 {v : Int32} (h : v = 0 ∨ v = 1) : vp_nar .boolean v = v := by rcases h with rfl | rfl <;> rfl
theorem fitZ {v : Int32} (h : v = 0 ∨ v = 1) : fits .boolean (.int v) = true := by rcases h with rfl | rfl <;> rfl
theorem shO (j : Nat) (h : j < 4) : shpO (2 + j) = some (6, [(6 + j) + 2, 0, 0]) := by
  match j, h with
  | 0, _ => rfl
  | 1, _ => rfl
  | 2, _ => rfl
  | 3, _ => rfl
theorem shA (j : Nat) (h : j < 4) : shpA (6 + j) = some (0, 80) := by
  match j, h with
  | 0, _ => rfl
  | 1, _ => rfl
  | 2, _ => rfl
  | 3, _ => rfl
/-- the same for a method of the JDK -/
theorem Met.ofWF {l : Launch} {y : MethodName} {ws ws' : List Cond} {rm : Room} {Pc : Array Value → State → Prop} {Qc : Array Value → State → Outcome → State → Prop} {mc ms : Nat} {free : Addr → Prop} {cc : ByteArray} {maxL : Nat} {ret : Option FieldType}
    (hy : plainFor y = true) (hw : ws = Cond.code y cc maxL ret :: ws')
    (body : ∀ p e s m args below meth c s₁, BodyLoose p l y (headSpec ws rm) cc maxL ret e s m args below meth c s₁ → c.maxLocals = maxL → Pc args s →
      W p l e (headSpec ws rm).room s m args below meth c s.heap [] 0 0 (MQ below Qc args s mc ms free) (entryFrame m args maxL)) : Met l y ws rm Pc Qc mc ms free := by
  refine MetFree.of_bodySF (code := cc) (maxLocals := maxL) (ret := ret) hy ?_ ?_
  · intro args s m h hn
    obtain ⟨meth, c, h1, h2, h3, h4, h5, h6, -, -⟩ := Cond.code_spec hn (atoms_spec (ws := ws) h _ (by rw [hw]; exact List.mem_cons_self))
    exact ⟨meth, c, h1, h2, h3, h4, h5, h6⟩
  · intro p e s m args below meth c s₁ B hml hP _
    have hh0 : s₁.heap = s.heap := by rw [B.state]; rfl
    obtain ⟨t, a1, o, b1, b2, b3⟩ := body p e s m args below meth c s₁ B hml hP s₁ hh0 (Stand.of_body B)
    exact ⟨t, o, a1, b1, b2, ⟨b3.1, b3.2⟩⟩
theorem Sp.ofF {ω : WT} {l : Launch} {y : MethodName} {cc : ByteArray} {nL d : Nat} {σ : St} {ret : Option FieldType} {post : Option Value → St → Prop} {as : List Value} (hy : plainFor y = true) (hlen : (lg_sl as).length ≤ nL) (hWf : Wf ω) (body : ∀ κ, Cm ω κ l y cc nL d ret post → V ω κ 0 (lv_args 0 as) [] σ) : Sp ω l y cc nL ret d as σ post := by
  refine Met.ofWF (cc := cc) (maxL := nL) (ret := ret) hy rfl ?_
  intro p e s m args below meth c s₁ B hml hv
  obtain ⟨rfl, hH, hK, hSt⟩ := hv
  have hts := atoms_spec (ws := .code y cc nL ret :: tbl) B.pre
  have hown : s.vm.findClass y.cls = some m.cls := findClass_of_methodNamed B.named
  have hl := lv_entry as (n := nL) hlen
  rw [lg_entry_eq]
  exact body (p, l, e, rmD d, s, m, as.toArray, below, meth, c, 0, 0, MQ below (QM ω post) as.toArray s 0 0 (wA ω))
    ⟨⟨B.exec, B.bytes, hml, hown, fun w hw => hts w (List.mem_cons_of_mem _ hw), hK, hWf, hSt, rfl, Nat.le_refl _, Nat.le_refl _, Nat.le_refl _, Nat.le_refl _⟩, B.returns, B.notSynchronized, rfl⟩
    s.heap [] _ va_S.rf hH (by rw [hml]; exact hl)
theorem plJ_max : plainFor yJ9_max_7cf53 = true := by decide +kernel
theorem plJ_min : plainFor yJ9_min_7cf53 = true := by decide +kernel
theorem plJ_bits : plainFor yJ6_bitCount_0f7a4 = true := by decide +kernel
theorem plJ_fill : plainFor yJ7_fill_53178 = true := by decide +kernel
theorem plJ_fillL : plainFor yJ7_fill_d0a16 = true := by decide +kernel
end
section
set_option maxRecDepth 20000 in
theorem R_X9_fails_0 {ω : WT} {κ : KT} {l : Launch} {d : Nat} {post : Option Value → St → Prop} {σ : St} {x1 : Int32}  (K : Cm ω κ l yX9_fails cX9_fails 2 d (some .int) post)
    (k1 : post (some (.int ((-10 : Int32) - x1))) (pS σ 2240 x1)) :
    V ω κ 0 [(0, .ref (ω.2.2.1 35)), (1, .int x1)] [] σ := by
  refine V_aload_n 0 K.1 dX9_fails_0 rfl rfl ?_
  refine V_iload_n 1 K.1 dX9_fails_1 rfl rfl ?_
  refine V_putI (key := 2240) K.1 dX9_fails_2 rfl rfl fw_X9_81 pw_X9_0 rfl rfl rfl rfl ?_
  refine V_bipush (v := -10) K.1 dX9_fails_5 (by decide) ?_
  refine V_iload_n 1 K.1 dX9_fails_7 rfl rfl ?_
  refine V_isub K.1 dX9_fails_8 ?_
  exact V_iret K dX9_fails_9 k1
theorem m_X9_fails {ω : WT} {l : Launch} {d : Nat} {σ : St} {x1 : Int32}  (hWf : Wf ω) (hd : 0 ≤ d) :
    Sp ω l yX9_fails cX9_fails 2 (some .int) d [.ref (ω.2.2.1 35), .int x1] σ (rI ((-10 : Int32) - x1) (pS σ 2240 x1)) :=
  Sp.of (by decide) (Nat.le_of_ble_eq_true rfl) hWf (fun κ K => R_X9_fails_0  K ⟨rfl, rfl⟩)
set_option maxRecDepth 20000 in
theorem R_X9_lost_0 {ω : WT} {κ : KT} {l : Launch} {d : Nat} {post : Option Value → St → Prop} {σ : St} {x1 : Int32}  (K : Cm ω κ l yX9_lost cX9_lost 2 d (some .long) post)
    (k1 : post (some (.long (-9223372036854775808 : Int64))) (pS σ 2240 x1)) :
    V ω κ 0 [(0, .ref (ω.2.2.1 35)), (1, .int x1)] [] σ := by
  refine V_aload_n 0 K.1 dX9_lost_0 rfl rfl ?_
  refine V_iload_n 1 K.1 dX9_lost_1 rfl rfl ?_
  refine V_putI (key := 2240) K.1 dX9_lost_2 rfl rfl fw_X9_81 pw_X9_0 rfl rfl rfl rfl ?_
  refine V_ldc2_w K.1 dX9_lost_5 cn_X9_85 ?_
  exact V_lret K dX9_lost_8 k1
theorem m_X9_lost {ω : WT} {l : Launch} {d : Nat} {σ : St} {x1 : Int32}  (hWf : Wf ω) (hd : 0 ≤ d) :
    Sp ω l yX9_lost cX9_lost 2 (some .long) d [.ref (ω.2.2.1 35), .int x1] σ (rJ (-9223372036854775808 : Int64) (pS σ 2240 x1)) :=
  Sp.of (by decide) (Nat.le_of_ble_eq_true rfl) hWf (fun κ K => R_X9_lost_0  K ⟨rfl, rfl⟩)
set_option maxRecDepth 20000 in
theorem R_X9_within_0 {ω : WT} {κ : KT} {l : Launch} {d : Nat} {post : Option Value → St → Prop} {σ : St} {x0 x1 x2 : Int32}  (K : Cm ω κ l yX9_within cX9_within 3 d (some .boolean) post)
    (k2 : post (some (.int (if (x0 < x1) then (0 : Int32) else (if (x2 < x0) then (0 : Int32) else (1 : Int32))))) σ) :
    V ω κ 0 [(0, .int x0), (1, .int x1), (2, .int x2)] [] σ := by
  refine V_iload_n 0 K.1 dX9_within_0 rfl rfl ?_
  refine V_iload_n 1 K.1 dX9_within_1 rfl rfl ?_
  refine V_join (J := 15) (S := []) (v := .int (if (x0 < x1) then (0 : Int32) else (if (x2 < x0) then (0 : Int32) else (1 : Int32)))) (fun hJ1 => ?_) ?_
  · refine V_icmp_lt (tgt := 14) K.1 dX9_within_2 (by decide) (fun c2 => ?_) (fun c2 => ?_)
    · refine V_iconst (v := 0) K.1 dX9_within_14 (by decide) ?_
      exact V_top (if_pos c2) hJ1
    · refine V_iload_n 0 K.1 dX9_within_5 rfl rfl ?_
      refine V_iload_n 2 K.1 dX9_within_6 rfl rfl ?_
      refine V_icmp_gt (tgt := 14) K.1 dX9_within_7 (by decide) (fun c7 => ?_) (fun c7 => ?_)
      · refine V_iconst (v := 0) K.1 dX9_within_14 (by decide) ?_
        exact V_top ((if_neg c2).trans (if_pos c7)) hJ1
      · refine V_iconst (v := 1) K.1 dX9_within_10 (by decide) ?_
        refine V_goto (tgt := 15) K.1 dX9_within_11 (by decide) ?_
        exact V_top ((if_neg c2).trans (if_neg c7)) hJ1
  exact V_zret K dX9_within_15 (by (repeat' split) <;> first | exact Or.inl rfl | exact Or.inr rfl) k2
theorem m_X9_within {ω : WT} {l : Launch} {d : Nat} {σ : St} {x0 x1 x2 : Int32}  (hWf : Wf ω) (hd : 0 ≤ d) :
    Sp ω l yX9_within cX9_within 3 (some .boolean) d [.int x0, .int x1, .int x2] σ (rI (if (x0 < x1) then (0 : Int32) else (if (x2 < x0) then (0 : Int32) else (1 : Int32))) σ) :=
  Sp.of (by decide) (Nat.le_of_ble_eq_true rfl) hWf (fun κ K => R_X9_within_0  K ⟨rfl, rfl⟩)
set_option maxRecDepth 20000 in
theorem R_X9_isSheet_0 {ω : WT} {κ : KT} {l : Launch} {d : Nat} {post : Option Value → St → Prop} {σ : St} {x0 : Int32}  (K : Cm ω κ l yX9_isSheet cX9_isSheet 1 d (some .boolean) post) (hdp : 1 ≤ d)
    (k1 : post (some (.int (if (x0 < (0 : Int32)) then (0 : Int32) else (if ((3 : Int32) < x0) then (0 : Int32) else (1 : Int32))))) σ) :
    V ω κ 0 [(0, .int x0)] [] σ := by
  refine V_iload_n 0 K.1 dX9_isSheet_0 rfl rfl ?_
  refine V_iconst (v := 0) K.1 dX9_isSheet_1 (by decide) ?_
  refine V_iconst (v := 3) K.1 dX9_isSheet_2 (by decide) ?_
  refine V_callS (d' := d - 1) (As := [.int x0, .int (0 : Int32), .int (3 : Int32)]) K.1 dX9_isSheet_3 cw_X9_87 rfl (by omega) rfl (by simp [Value.category]) (m_X9_within K.1.wf (by omega)) (go_I ?_)
  exact V_zret K dX9_isSheet_6 (by (repeat' split) <;> first | exact Or.inl rfl | exact Or.inr rfl) k1
theorem m_X9_isSheet {ω : WT} {l : Launch} {d : Nat} {σ : St} {x0 : Int32}  (hWf : Wf ω) (hd : 1 ≤ d) :
    Sp ω l yX9_isSheet cX9_isSheet 1 (some .boolean) d [.int x0] σ (rI (if (x0 < (0 : Int32)) then (0 : Int32) else (if ((3 : Int32) < x0) then (0 : Int32) else (1 : Int32))) σ) :=
  Sp.of (by decide) (Nat.le_of_ble_eq_true rfl) hWf (fun κ K => R_X9_isSheet_0  K hd ⟨rfl, rfl⟩)
set_option maxRecDepth 20000 in
theorem R_X9_isSort_0 {ω : WT} {κ : KT} {l : Launch} {d : Nat} {post : Option Value → St → Prop} {σ : St} {x0 : Int32}  (K : Cm ω κ l yX9_isSort cX9_isSort 1 d (some .boolean) post) (hdp : 1 ≤ d)
    (k1 : post (some (.int (if (x0 < (0 : Int32)) then (0 : Int32) else (if ((2 : Int32) < x0) then (0 : Int32) else (1 : Int32))))) σ) :
    V ω κ 0 [(0, .int x0)] [] σ := by
  refine V_iload_n 0 K.1 dX9_isSort_0 rfl rfl ?_
  refine V_iconst (v := 0) K.1 dX9_isSort_1 (by decide) ?_
  refine V_iconst (v := 2) K.1 dX9_isSort_2 (by decide) ?_
  refine V_callS (d' := d - 1) (As := [.int x0, .int (0 : Int32), .int (2 : Int32)]) K.1 dX9_isSort_3 cw_X9_87 rfl (by omega) rfl (by simp [Value.category]) (m_X9_within K.1.wf (by omega)) (go_I ?_)
  exact V_zret K dX9_isSort_6 (by (repeat' split) <;> first | exact Or.inl rfl | exact Or.inr rfl) k1
theorem m_X9_isSort {ω : WT} {l : Launch} {d : Nat} {σ : St} {x0 : Int32}  (hWf : Wf ω) (hd : 1 ≤ d) :
    Sp ω l yX9_isSort cX9_isSort 1 (some .boolean) d [.int x0] σ (rI (if (x0 < (0 : Int32)) then (0 : Int32) else (if ((2 : Int32) < x0) then (0 : Int32) else (1 : Int32))) σ) :=
  Sp.of (by decide) (Nat.le_of_ble_eq_true rfl) hWf (fun κ K => R_X9_isSort_0  K hd ⟨rfl, rfl⟩)
set_option maxRecDepth 20000 in
theorem R_X9_against_0 {ω : WT} {κ : KT} {l : Launch} {d : Nat} {post : Option Value → St → Prop} {σ : St} {x1 x2 x3 x4 : Int32}  (K : Cm ω κ l yX9_against cX9_against 5 d (some .int) post)
    (b1 : vp_in x1 4)
    (b2 : ((σ.2.1 36 (x1).toNatClampNeg) = (-9 : Int32)) → vp_in x1 4)
    (b4 : ((σ.2.1 36 (x1).toNatClampNeg) = (-9 : Int32)) → ¬ ((σ.2.1 36 (x1).toNatClampNeg) = (-9 : Int32)) → (0 ≤ x4) → ¬ (x3 < 0) → vp_in x1 4)
    (b5 : ((σ.2.1 36 (x1).toNatClampNeg) = (-9 : Int32)) → ¬ ((σ.2.1 36 (x1).toNatClampNeg) = (-9 : Int32)) → (0 ≤ x4) → ¬ (x3 < 0) → ¬ ((σ.2.1 37 (x1).toNatClampNeg) < x3) → vp_in x1 4)
    (k6 : ((σ.2.1 36 (x1).toNatClampNeg) = (-9 : Int32)) → ¬ ((σ.2.1 36 (x1).toNatClampNeg) = (-9 : Int32)) → (0 ≤ x4) → post (some (.int (if (x3 < 0) then (3 : Int32) else (if ((σ.2.1 37 (x1).toNatClampNeg) < x3) then (3 : Int32) else (if (x4 ≤ ((σ.2.1 37 (x1).toNatClampNeg) - x3)) then (0 : Int32) else (3 : Int32)))))) σ)
    (k7 : ((σ.2.1 36 (x1).toNatClampNeg) = (-9 : Int32)) → ¬ ((σ.2.1 36 (x1).toNatClampNeg) = (-9 : Int32)) → ¬ (0 ≤ x4) → post (some (.int (4 : Int32))) σ)
    (k8 : ((σ.2.1 36 (x1).toNatClampNeg) = (-9 : Int32)) → ((σ.2.1 36 (x1).toNatClampNeg) = (-9 : Int32)) → post (some (.int (1 : Int32))) σ)
    (b9 : ¬ ((σ.2.1 36 (x1).toNatClampNeg) = (-9 : Int32)) → vp_in x1 4)
    (b10 : ¬ ((σ.2.1 36 (x1).toNatClampNeg) = (-9 : Int32)) → ((σ.2.1 36 (x1).toNatClampNeg) = x2) → vp_in x1 4)
    (b12 : ¬ ((σ.2.1 36 (x1).toNatClampNeg) = (-9 : Int32)) → ((σ.2.1 36 (x1).toNatClampNeg) = x2) → ¬ ((σ.2.1 36 (x1).toNatClampNeg) = (-9 : Int32)) → (0 ≤ x4) → ¬ (x3 < 0) → vp_in x1 4)
    (b13 : ¬ ((σ.2.1 36 (x1).toNatClampNeg) = (-9 : Int32)) → ((σ.2.1 36 (x1).toNatClampNeg) = x2) → ¬ ((σ.2.1 36 (x1).toNatClampNeg) = (-9 : Int32)) → (0 ≤ x4) → ¬ (x3 < 0) → ¬ ((σ.2.1 37 (x1).toNatClampNeg) < x3) → vp_in x1 4)
    (k14 : ¬ ((σ.2.1 36 (x1).toNatClampNeg) = (-9 : Int32)) → ((σ.2.1 36 (x1).toNatClampNeg) = x2) → ¬ ((σ.2.1 36 (x1).toNatClampNeg) = (-9 : Int32)) → (0 ≤ x4) → post (some (.int (if (x3 < 0) then (3 : Int32) else (if ((σ.2.1 37 (x1).toNatClampNeg) < x3) then (3 : Int32) else (if (x4 ≤ ((σ.2.1 37 (x1).toNatClampNeg) - x3)) then (0 : Int32) else (3 : Int32)))))) σ)
    (k15 : ¬ ((σ.2.1 36 (x1).toNatClampNeg) = (-9 : Int32)) → ((σ.2.1 36 (x1).toNatClampNeg) = x2) → ¬ ((σ.2.1 36 (x1).toNatClampNeg) = (-9 : Int32)) → ¬ (0 ≤ x4) → post (some (.int (4 : Int32))) σ)
    (k16 : ¬ ((σ.2.1 36 (x1).toNatClampNeg) = (-9 : Int32)) → ((σ.2.1 36 (x1).toNatClampNeg) = x2) → ((σ.2.1 36 (x1).toNatClampNeg) = (-9 : Int32)) → post (some (.int (1 : Int32))) σ)
    (k17 : ¬ ((σ.2.1 36 (x1).toNatClampNeg) = (-9 : Int32)) → ¬ ((σ.2.1 36 (x1).toNatClampNeg) = x2) → post (some (.int (2 : Int32))) σ) :
    V ω κ 0 [(0, .ref (ω.2.2.1 35)), (1, .int x1), (2, .int x2), (3, .int x3), (4, .int x4)] [] σ := by
  refine V_aload_n 0 K.1 dX9_against_0 rfl rfl ?_
  refine V_get (v := .ref (ω.2.2.1 36)) K.1 dX9_against_1 rfl rfl fw_X9_9 rfl rfl ?_
  refine V_iload_n 1 K.1 dX9_against_4 rfl rfl ?_
  refine V_iaload (v := (σ.2.1 36 (x1).toNatClampNeg)) K.1 dX9_against_5 rfl b1 rfl ?_
  refine V_bipush (v := -9) K.1 dX9_against_6 (by decide) ?_
  refine V_icmp_eq (tgt := 23) K.1 dX9_against_8 (by decide) (fun c8 => ?_) (fun c8 => ?_)
  · refine V_aload_n 0 K.1 dX9_against_23 rfl rfl ?_
    refine V_get (v := .ref (ω.2.2.1 36)) K.1 dX9_against_24 rfl rfl fw_X9_9 rfl rfl ?_
    refine V_iload_n 1 K.1 dX9_against_27 rfl rfl ?_
    refine V_iaload (v := (σ.2.1 36 (x1).toNatClampNeg)) K.1 dX9_against_28 rfl (b2 c8) rfl ?_
    refine V_bipush (v := -9) K.1 dX9_against_29 (by decide) ?_
    refine V_icmp_ne (tgt := 36) K.1 dX9_against_31 (by decide) (fun c31 => ?_) (fun c31 => ?_)
    · refine V_iload 4 K.1 dX9_against_36 rfl ?_
      refine V_if_ge (tgt := 43) K.1 dX9_against_38 (by decide) (fun c38 => ?_) (fun c38 => ?_)
      · refine V_iload_n 3 K.1 dX9_against_43 rfl rfl ?_
        refine V_join (J := 75) (S := []) (v := .int (if (x3 < 0) then (3 : Int32) else (if ((σ.2.1 37 (x1).toNatClampNeg) < x3) then (3 : Int32) else (if (x4 ≤ ((σ.2.1 37 (x1).toNatClampNeg) - x3)) then (0 : Int32) else (3 : Int32))))) (fun hJ3 => ?_) ?_
        · refine V_if_lt (tgt := 70) K.1 dX9_against_44 (by decide) (fun c44 => ?_) (fun c44 => ?_)
          · refine V_iconst (v := 3) K.1 dX9_against_70 (by decide) ?_
            refine V_goto (tgt := 75) K.1 dX9_against_71 (by decide) ?_
            exact V_top (if_pos c44) hJ3
          · refine V_iload_n 3 K.1 dX9_against_47 rfl rfl ?_
            refine V_aload_n 0 K.1 dX9_against_48 rfl rfl ?_
            refine V_get (v := .ref (ω.2.2.1 37)) K.1 dX9_against_49 rfl rfl fw_X9_13 rfl rfl ?_
            refine V_iload_n 1 K.1 dX9_against_52 rfl rfl ?_
            refine V_iaload (v := (σ.2.1 37 (x1).toNatClampNeg)) K.1 dX9_against_53 rfl (b4 c8 c31 c38 c44) rfl ?_
            refine V_icmp_gt (tgt := 70) K.1 dX9_against_54 (by decide) (fun c54 => ?_) (fun c54 => ?_)
            · refine V_iconst (v := 3) K.1 dX9_against_70 (by decide) ?_
              refine V_goto (tgt := 75) K.1 dX9_against_71 (by decide) ?_
              exact V_top ((if_neg c44).trans (if_pos c54)) hJ3
            · refine V_iload 4 K.1 dX9_against_57 rfl ?_
              refine V_aload_n 0 K.1 dX9_against_59 rfl rfl ?_
              refine V_get (v := .ref (ω.2.2.1 37)) K.1 dX9_against_60 rfl rfl fw_X9_13 rfl rfl ?_
              refine V_iload_n 1 K.1 dX9_against_63 rfl rfl ?_
              refine V_iaload (v := (σ.2.1 37 (x1).toNatClampNeg)) K.1 dX9_against_64 rfl (b5 c8 c31 c38 c44 c54) rfl ?_
              refine V_iload_n 3 K.1 dX9_against_65 rfl rfl ?_
              refine V_isub K.1 dX9_against_66 ?_
              refine V_icmp_le (tgt := 74) K.1 dX9_against_67 (by decide) (fun c67 => ?_) (fun c67 => ?_)
              · refine V_iconst (v := 0) K.1 dX9_against_74 (by decide) ?_
                exact V_top (((if_neg c44).trans (if_neg c54)).trans (if_pos c67)) hJ3
              · refine V_iconst (v := 3) K.1 dX9_against_70 (by decide) ?_
                refine V_goto (tgt := 75) K.1 dX9_against_71 (by decide) ?_
                exact V_top (((if_neg c44).trans (if_neg c54)).trans (if_neg c67)) hJ3
        exact V_iret K dX9_against_75 (k6 c8 c31 c38)
      · refine V_iconst (v := 4) K.1 dX9_against_41 (by decide) ?_
        exact V_iret K dX9_against_42 (k7 c8 c31 c38)
    · refine V_iconst (v := 1) K.1 dX9_against_34 (by decide) ?_
      exact V_iret K dX9_against_35 (k8 c8 c31)
  · refine V_aload_n 0 K.1 dX9_against_11 rfl rfl ?_
    refine V_get (v := .ref (ω.2.2.1 36)) K.1 dX9_against_12 rfl rfl fw_X9_9 rfl rfl ?_
    refine V_iload_n 1 K.1 dX9_against_15 rfl rfl ?_
    refine V_iaload (v := (σ.2.1 36 (x1).toNatClampNeg)) K.1 dX9_against_16 rfl (b9 c8) rfl ?_
    refine V_iload_n 2 K.1 dX9_against_17 rfl rfl ?_
    refine V_icmp_eq (tgt := 23) K.1 dX9_against_18 (by decide) (fun c18 => ?_) (fun c18 => ?_)
    · refine V_aload_n 0 K.1 dX9_against_23 rfl rfl ?_
      refine V_get (v := .ref (ω.2.2.1 36)) K.1 dX9_against_24 rfl rfl fw_X9_9 rfl rfl ?_
      refine V_iload_n 1 K.1 dX9_against_27 rfl rfl ?_
      refine V_iaload (v := (σ.2.1 36 (x1).toNatClampNeg)) K.1 dX9_against_28 rfl (b10 c8 c18) rfl ?_
      refine V_bipush (v := -9) K.1 dX9_against_29 (by decide) ?_
      refine V_icmp_ne (tgt := 36) K.1 dX9_against_31 (by decide) (fun c31 => ?_) (fun c31 => ?_)
      · refine V_iload 4 K.1 dX9_against_36 rfl ?_
        refine V_if_ge (tgt := 43) K.1 dX9_against_38 (by decide) (fun c38 => ?_) (fun c38 => ?_)
        · refine V_iload_n 3 K.1 dX9_against_43 rfl rfl ?_
          refine V_join (J := 75) (S := []) (v := .int (if (x3 < 0) then (3 : Int32) else (if ((σ.2.1 37 (x1).toNatClampNeg) < x3) then (3 : Int32) else (if (x4 ≤ ((σ.2.1 37 (x1).toNatClampNeg) - x3)) then (0 : Int32) else (3 : Int32))))) (fun hJ11 => ?_) ?_
          · refine V_if_lt (tgt := 70) K.1 dX9_against_44 (by decide) (fun c44 => ?_) (fun c44 => ?_)
            · refine V_iconst (v := 3) K.1 dX9_against_70 (by decide) ?_
              refine V_goto (tgt := 75) K.1 dX9_against_71 (by decide) ?_
              exact V_top (if_pos c44) hJ11
            · refine V_iload_n 3 K.1 dX9_against_47 rfl rfl ?_
              refine V_aload_n 0 K.1 dX9_against_48 rfl rfl ?_
              refine V_get (v := .ref (ω.2.2.1 37)) K.1 dX9_against_49 rfl rfl fw_X9_13 rfl rfl ?_
              refine V_iload_n 1 K.1 dX9_against_52 rfl rfl ?_
              refine V_iaload (v := (σ.2.1 37 (x1).toNatClampNeg)) K.1 dX9_against_53 rfl (b12 c8 c18 c31 c38 c44) rfl ?_
              refine V_icmp_gt (tgt := 70) K.1 dX9_against_54 (by decide) (fun c54 => ?_) (fun c54 => ?_)
              · refine V_iconst (v := 3) K.1 dX9_against_70 (by decide) ?_
                refine V_goto (tgt := 75) K.1 dX9_against_71 (by decide) ?_
                exact V_top ((if_neg c44).trans (if_pos c54)) hJ11
              · refine V_iload 4 K.1 dX9_against_57 rfl ?_
                refine V_aload_n 0 K.1 dX9_against_59 rfl rfl ?_
                refine V_get (v := .ref (ω.2.2.1 37)) K.1 dX9_against_60 rfl rfl fw_X9_13 rfl rfl ?_
                refine V_iload_n 1 K.1 dX9_against_63 rfl rfl ?_
                refine V_iaload (v := (σ.2.1 37 (x1).toNatClampNeg)) K.1 dX9_against_64 rfl (b13 c8 c18 c31 c38 c44 c54) rfl ?_
                refine V_iload_n 3 K.1 dX9_against_65 rfl rfl ?_
                refine V_isub K.1 dX9_against_66 ?_
                refine V_icmp_le (tgt := 74) K.1 dX9_against_67 (by decide) (fun c67 => ?_) (fun c67 => ?_)
                · refine V_iconst (v := 0) K.1 dX9_against_74 (by decide) ?_
                  exact V_top (((if_neg c44).trans (if_neg c54)).trans (if_pos c67)) hJ11
                · refine V_iconst (v := 3) K.1 dX9_against_70 (by decide) ?_
                  refine V_goto (tgt := 75) K.1 dX9_against_71 (by decide) ?_
                  exact V_top (((if_neg c44).trans (if_neg c54)).trans (if_neg c67)) hJ11
          exact V_iret K dX9_against_75 (k14 c8 c18 c31 c38)
        · refine V_iconst (v := 4) K.1 dX9_against_41 (by decide) ?_
          exact V_iret K dX9_against_42 (k15 c8 c18 c31 c38)
      · refine V_iconst (v := 1) K.1 dX9_against_34 (by decide) ?_
        exact V_iret K dX9_against_35 (k16 c8 c18 c31)
    · refine V_iconst (v := 2) K.1 dX9_against_21 (by decide) ?_
      exact V_iret K dX9_against_22 (k17 c8 c18)
theorem m_X9_against {ω : WT} {l : Launch} {d : Nat} {σ : St} {x1 x2 x3 x4 : Int32}  (hWf : Wf ω) (hd : 0 ≤ d) (b1 : vp_in x1 4) (b2 : ((σ.2.1 36 (x1).toNatClampNeg) = (-9 : Int32)) → vp_in x1 4) (b4 : ((σ.2.1 36 (x1).toNatClampNeg) = (-9 : Int32)) → ¬ ((σ.2.1 36 (x1).toNatClampNeg) = (-9 : Int32)) → (0 ≤ x4) → ¬ (x3 < 0) → vp_in x1 4) (b5 : ((σ.2.1 36 (x1).toNatClampNeg) = (-9 : Int32)) → ¬ ((σ.2.1 36 (x1).toNatClampNeg) = (-9 : Int32)) → (0 ≤ x4) → ¬ (x3 < 0) → ¬ ((σ.2.1 37 (x1).toNatClampNeg) < x3) → vp_in x1 4) (b9 : ¬ ((σ.2.1 36 (x1).toNatClampNeg) = (-9 : Int32)) → vp_in x1 4) (b10 : ¬ ((σ.2.1 36 (x1).toNatClampNeg) = (-9 : Int32)) → ((σ.2.1 36 (x1).toNatClampNeg) = x2) → vp_in x1 4) (b12 : ¬ ((σ.2.1 36 (x1).toNatClampNeg) = (-9 : Int32)) → ((σ.2.1 36 (x1).toNatClampNeg) = x2) → ¬ ((σ.2.1 36 (x1).toNatClampNeg) = (-9 : Int32)) → (0 ≤ x4) → ¬ (x3 < 0) → vp_in x1 4) (b13 : ¬ ((σ.2.1 36 (x1).toNatClampNeg) = (-9 : Int32)) → ((σ.2.1 36 (x1).toNatClampNeg) = x2) → ¬ ((σ.2.1 36 (x1).toNatClampNeg) = (-9 : Int32)) → (0 ≤ x4) → ¬ (x3 < 0) → ¬ ((σ.2.1 37 (x1).toNatClampNeg) < x3) → vp_in x1 4) :
    Sp ω l yX9_against cX9_against 5 (some .int) d [.ref (ω.2.2.1 35), .int x1, .int x2, .int x3, .int x4] σ (rI (if ((σ.2.1 36 (x1).toNatClampNeg) = (-9 : Int32)) then (if ((σ.2.1 36 (x1).toNatClampNeg) = (-9 : Int32)) then (1 : Int32) else (if (0 ≤ x4) then (if (x3 < 0) then (3 : Int32) else (if ((σ.2.1 37 (x1).toNatClampNeg) < x3) then (3 : Int32) else (if (x4 ≤ ((σ.2.1 37 (x1).toNatClampNeg) - x3)) then (0 : Int32) else (3 : Int32)))) else (4 : Int32))) else (if ((σ.2.1 36 (x1).toNatClampNeg) = x2) then (if ((σ.2.1 36 (x1).toNatClampNeg) = (-9 : Int32)) then (1 : Int32) else (if (0 ≤ x4) then (if (x3 < 0) then (3 : Int32) else (if ((σ.2.1 37 (x1).toNatClampNeg) < x3) then (3 : Int32) else (if (x4 ≤ ((σ.2.1 37 (x1).toNatClampNeg) - x3)) then (0 : Int32) else (3 : Int32)))) else (4 : Int32))) else (2 : Int32))) σ) :=
  Sp.of (by decide) (Nat.le_of_ble_eq_true rfl) hWf (fun κ K => R_X9_against_0  K b1 b2 b4 b5 (fun c8 c31 c38 => ⟨congrArg (fun z => some (Value.int z)) ((((if_pos c8).trans (if_neg c31)).trans (if_pos c38))).symm, rfl⟩) (fun c8 c31 c38 => ⟨congrArg (fun z => some (Value.int z)) ((((if_pos c8).trans (if_neg c31)).trans (if_neg c38))).symm, rfl⟩) (fun c8 c31 => ⟨congrArg (fun z => some (Value.int z)) (((if_pos c8).trans (if_pos c31))).symm, rfl⟩) b9 b10 b12 b13 (fun c8 c18 c31 c38 => ⟨congrArg (fun z => some (Value.int z)) (((((if_neg c8).trans (if_pos c18)).trans (if_neg c31)).trans (if_pos c38))).symm, rfl⟩) (fun c8 c18 c31 c38 => ⟨congrArg (fun z => some (Value.int z)) (((((if_neg c8).trans (if_pos c18)).trans (if_neg c31)).trans (if_neg c38))).symm, rfl⟩) (fun c8 c18 c31 => ⟨congrArg (fun z => some (Value.int z)) ((((if_neg c8).trans (if_pos c18)).trans (if_pos c31))).symm, rfl⟩) (fun c8 c18 => ⟨congrArg (fun z => some (Value.int z)) (((if_neg c8).trans (if_neg c18))).symm, rfl⟩))
set_option maxRecDepth 20000 in
theorem R_X9_isTown_0 {ω : WT} {κ : KT} {l : Launch} {d : Nat} {post : Option Value → St → Prop} {σ : St}  (K : Cm ω κ l yX9_isTown cX9_isTown 1 d (some .boolean) post)
    (k2 : post (some (.int (if ((σ.1 2245) ≤ 0) then (0 : Int32) else (1 : Int32)))) σ) :
    V ω κ 0 [(0, .ref (ω.2.2.1 35))] [] σ := by
  refine V_aload_n 0 K.1 dX9_isTown_0 rfl rfl ?_
  refine V_get (v := .int (σ.1 2245)) K.1 dX9_isTown_1 rfl rfl fw_X9_91 rfl rfl ?_
  refine V_join (J := 12) (S := []) (v := .int (if ((σ.1 2245) ≤ 0) then (0 : Int32) else (1 : Int32))) (fun hJ1 => ?_) ?_
  · refine V_if_le (tgt := 11) K.1 dX9_isTown_4 (by decide) (fun c4 => ?_) (fun c4 => ?_)
    · refine V_iconst (v := 0) K.1 dX9_isTown_11 (by decide) ?_
      exact V_top (if_pos c4) hJ1
    · refine V_iconst (v := 1) K.1 dX9_isTown_7 (by decide) ?_
      refine V_goto (tgt := 12) K.1 dX9_isTown_8 (by decide) ?_
      exact V_top (if_neg c4) hJ1
  exact V_zret K dX9_isTown_12 (by (repeat' split) <;> first | exact Or.inl rfl | exact Or.inr rfl) k2
theorem m_X9_isTown {ω : WT} {l : Launch} {d : Nat} {σ : St}  (hWf : Wf ω) (hd : 0 ≤ d) :
    Sp ω l yX9_isTown cX9_isTown 1 (some .boolean) d [.ref (ω.2.2.1 35)] σ (rI (if ((σ.1 2245) ≤ 0) then (0 : Int32) else (1 : Int32)) σ) :=
  Sp.of (by decide) (Nat.le_of_ble_eq_true rfl) hWf (fun κ K => R_X9_isTown_0  K ⟨rfl, rfl⟩)
set_option maxRecDepth 20000 in
theorem R_X9_isOne_0 {ω : WT} {κ : KT} {l : Launch} {d : Nat} {post : Option Value → St → Prop} {σ : St} {x1 : Int32}  (K : Cm ω κ l yX9_isOne cX9_isOne 2 d (some .boolean) post)
    (k2 : post (some (.int (if (x1 < 0) then (0 : Int32) else (if ((σ.1 2245) ≤ x1) then (0 : Int32) else (1 : Int32))))) σ) :
    V ω κ 0 [(0, .ref (ω.2.2.1 35)), (1, .int x1)] [] σ := by
  refine V_iload_n 1 K.1 dX9_isOne_0 rfl rfl ?_
  refine V_join (J := 17) (S := []) (v := .int (if (x1 < 0) then (0 : Int32) else (if ((σ.1 2245) ≤ x1) then (0 : Int32) else (1 : Int32)))) (fun hJ1 => ?_) ?_
  · refine V_if_lt (tgt := 16) K.1 dX9_isOne_1 (by decide) (fun c1 => ?_) (fun c1 => ?_)
    · refine V_iconst (v := 0) K.1 dX9_isOne_16 (by decide) ?_
      exact V_top (if_pos c1) hJ1
    · refine V_iload_n 1 K.1 dX9_isOne_4 rfl rfl ?_
      refine V_aload_n 0 K.1 dX9_isOne_5 rfl rfl ?_
      refine V_get (v := .int (σ.1 2245)) K.1 dX9_isOne_6 rfl rfl fw_X9_91 rfl rfl ?_
      refine V_icmp_ge (tgt := 16) K.1 dX9_isOne_9 (by decide) (fun c9 => ?_) (fun c9 => ?_)
      · refine V_iconst (v := 0) K.1 dX9_isOne_16 (by decide) ?_
        exact V_top ((if_neg c1).trans (if_pos c9)) hJ1
      · refine V_iconst (v := 1) K.1 dX9_isOne_12 (by decide) ?_
        refine V_goto (tgt := 17) K.1 dX9_isOne_13 (by decide) ?_
        exact V_top ((if_neg c1).trans (if_neg c9)) hJ1
  exact V_zret K dX9_isOne_17 (by (repeat' split) <;> first | exact Or.inl rfl | exact Or.inr rfl) k2
theorem m_X9_isOne {ω : WT} {l : Launch} {d : Nat} {σ : St} {x1 : Int32}  (hWf : Wf ω) (hd : 0 ≤ d) :
    Sp ω l yX9_isOne cX9_isOne 2 (some .boolean) d [.ref (ω.2.2.1 35), .int x1] σ (rI (if (x1 < 0) then (0 : Int32) else (if ((σ.1 2245) ≤ x1) then (0 : Int32) else (1 : Int32))) σ) :=
  Sp.of (by decide) (Nat.le_of_ble_eq_true rfl) hWf (fun κ K => R_X9_isOne_0  K ⟨rfl, rfl⟩)
set_option maxRecDepth 20000 in
theorem R_X9_isMatter_0 {ω : WT} {κ : KT} {l : Launch} {d : Nat} {post : Option Value → St → Prop} {σ : St} {x1 : Int32}  (K : Cm ω κ l yX9_isMatter cX9_isMatter 2 d (some .boolean) post)
    (k2 : post (some (.int (if (x1 < 0) then (0 : Int32) else (if ((σ.1 2246) ≤ x1) then (0 : Int32) else (1 : Int32))))) σ) :
    V ω κ 0 [(0, .ref (ω.2.2.1 35)), (1, .int x1)] [] σ := by
  refine V_iload_n 1 K.1 dX9_isMatter_0 rfl rfl ?_
  refine V_join (J := 17) (S := []) (v := .int (if (x1 < 0) then (0 : Int32) else (if ((σ.1 2246) ≤ x1) then (0 : Int32) else (1 : Int32)))) (fun hJ1 => ?_) ?_
  · refine V_if_lt (tgt := 16) K.1 dX9_isMatter_1 (by decide) (fun c1 => ?_) (fun c1 => ?_)
    · refine V_iconst (v := 0) K.1 dX9_isMatter_16 (by decide) ?_
      exact V_top (if_pos c1) hJ1
    · refine V_iload_n 1 K.1 dX9_isMatter_4 rfl rfl ?_
      refine V_aload_n 0 K.1 dX9_isMatter_5 rfl rfl ?_
      refine V_get (v := .int (σ.1 2246)) K.1 dX9_isMatter_6 rfl rfl fw_X9_94 rfl rfl ?_
      refine V_icmp_ge (tgt := 16) K.1 dX9_isMatter_9 (by decide) (fun c9 => ?_) (fun c9 => ?_)
      · refine V_iconst (v := 0) K.1 dX9_isMatter_16 (by decide) ?_
        exact V_top ((if_neg c1).trans (if_pos c9)) hJ1
      · refine V_iconst (v := 1) K.1 dX9_isMatter_12 (by decide) ?_
        refine V_goto (tgt := 17) K.1 dX9_isMatter_13 (by decide) ?_
        exact V_top ((if_neg c1).trans (if_neg c9)) hJ1
  exact V_zret K dX9_isMatter_17 (by (repeat' split) <;> first | exact Or.inl rfl | exact Or.inr rfl) k2
theorem m_X9_isMatter {ω : WT} {l : Launch} {d : Nat} {σ : St} {x1 : Int32}  (hWf : Wf ω) (hd : 0 ≤ d) :
    Sp ω l yX9_isMatter cX9_isMatter 2 (some .boolean) d [.ref (ω.2.2.1 35), .int x1] σ (rI (if (x1 < 0) then (0 : Int32) else (if ((σ.1 2246) ≤ x1) then (0 : Int32) else (1 : Int32))) σ) :=
  Sp.of (by decide) (Nat.le_of_ble_eq_true rfl) hWf (fun κ K => R_X9_isMatter_0  K ⟨rfl, rfl⟩)
set_option maxRecDepth 20000 in
theorem R_X9_isCode_0 {ω : WT} {κ : KT} {l : Launch} {d : Nat} {post : Option Value → St → Prop} {σ : St} {x1 x2 : Int32}  (K : Cm ω κ l yX9_isCode cX9_isCode 3 d (some .boolean) post)
    (b2 : ¬ (x2 ≤ (σ.1 2253)) → vp_in (σ.1 2253) 320)
    (k3 : post (some (.int (if (x2 ≤ (σ.1 2253)) then (0 : Int32) else (if ((σ.2.1 38 ((σ.1 2253)).toNatClampNeg) = x1) then (1 : Int32) else (0 : Int32))))) σ) :
    V ω κ 0 [(0, .ref (ω.2.2.1 35)), (1, .int x1), (2, .int x2)] [] σ := by
  refine V_aload_n 0 K.1 dX9_isCode_0 rfl rfl ?_
  refine V_get (v := .int (σ.1 2253)) K.1 dX9_isCode_1 rfl rfl fw_X9_97 rfl rfl ?_
  refine V_iload_n 2 K.1 dX9_isCode_4 rfl rfl ?_
  refine V_join (J := 26) (S := []) (v := .int (if (x2 ≤ (σ.1 2253)) then (0 : Int32) else (if ((σ.2.1 38 ((σ.1 2253)).toNatClampNeg) = x1) then (1 : Int32) else (0 : Int32)))) (fun hJ1 => ?_) ?_
  · refine V_icmp_ge (tgt := 25) K.1 dX9_isCode_5 (by decide) (fun c5 => ?_) (fun c5 => ?_)
    · refine V_iconst (v := 0) K.1 dX9_isCode_25 (by decide) ?_
      exact V_top (if_pos c5) hJ1
    · refine V_aload_n 0 K.1 dX9_isCode_8 rfl rfl ?_
      refine V_get (v := .ref (ω.2.2.1 38)) K.1 dX9_isCode_9 rfl rfl fw_X9_16 rfl rfl ?_
      refine V_aload_n 0 K.1 dX9_isCode_12 rfl rfl ?_
      refine V_get (v := .int (σ.1 2253)) K.1 dX9_isCode_13 rfl rfl fw_X9_97 rfl rfl ?_
      refine V_iaload (v := (σ.2.1 38 ((σ.1 2253)).toNatClampNeg)) K.1 dX9_isCode_16 rfl (b2 c5) rfl ?_
      refine V_iload_n 1 K.1 dX9_isCode_17 rfl rfl ?_
      refine V_icmp_ne (tgt := 25) K.1 dX9_isCode_18 (by decide) (fun c18 => ?_) (fun c18 => ?_)
      · refine V_iconst (v := 0) K.1 dX9_isCode_25 (by decide) ?_
        exact V_top ((if_neg c5).trans (if_neg c18)) hJ1
      · refine V_iconst (v := 1) K.1 dX9_isCode_21 (by decide) ?_
        refine V_goto (tgt := 26) K.1 dX9_isCode_22 (by decide) ?_
        exact V_top ((if_neg c5).trans (if_pos c18)) hJ1
  exact V_zret K dX9_isCode_26 (by (repeat' split) <;> first | exact Or.inl rfl | exact Or.inr rfl) k3
theorem m_X9_isCode {ω : WT} {l : Launch} {d : Nat} {σ : St} {x1 x2 : Int32}  (hWf : Wf ω) (hd : 0 ≤ d) (b2 : ¬ (x2 ≤ (σ.1 2253)) → vp_in (σ.1 2253) 320) :
    Sp ω l yX9_isCode cX9_isCode 3 (some .boolean) d [.ref (ω.2.2.1 35), .int x1, .int x2] σ (rI (if (x2 ≤ (σ.1 2253)) then (0 : Int32) else (if ((σ.2.1 38 ((σ.1 2253)).toNatClampNeg) = x1) then (1 : Int32) else (0 : Int32))) σ) :=
  Sp.of (by decide) (Nat.le_of_ble_eq_true rfl) hWf (fun κ K => R_X9_isCode_0  K b2 ⟨rfl, rfl⟩)
set_option maxRecDepth 20000 in
theorem R_X9_everyone_0 {ω : WT} {κ : KT} {l : Launch} {d : Nat} {post : Option Value → St → Prop} {σ : St}  (K : Cm ω κ l yX9_everyone cX9_everyone 1 d (some .int) post)
    (k1 : post (some (.int (((1 : Int32) <<< ((σ.1 2245) &&& 31)) - (1 : Int32)))) σ) :
    V ω κ 0 [(0, .ref (ω.2.2.1 35))] [] σ := by
  refine V_iconst (v := 1) K.1 dX9_everyone_0 (by decide) ?_
  refine V_aload_n 0 K.1 dX9_everyone_1 rfl rfl ?_
  refine V_get (v := .int (σ.1 2245)) K.1 dX9_everyone_2 rfl rfl fw_X9_91 rfl rfl ?_
  refine V_ishl K.1 dX9_everyone_5 ?_
  refine V_iconst (v := 1) K.1 dX9_everyone_6 (by decide) ?_
  refine V_isub K.1 dX9_everyone_7 ?_
  exact V_iret K dX9_everyone_8 k1
theorem m_X9_everyone {ω : WT} {l : Launch} {d : Nat} {σ : St}  (hWf : Wf ω) (hd : 0 ≤ d) :
    Sp ω l yX9_everyone cX9_everyone 1 (some .int) d [.ref (ω.2.2.1 35)] σ (rI (((1 : Int32) <<< ((σ.1 2245) &&& 31)) - (1 : Int32)) σ) :=
  Sp.of (by decide) (Nat.le_of_ble_eq_true rfl) hWf (fun κ K => R_X9_everyone_0  K ⟨rfl, rfl⟩)
set_option maxRecDepth 20000 in
theorem R_X9_layHall_0 {ω : WT} {κ : KT} {l : Launch} {d : Nat} {post : Option Value → St → Prop} {σ : St}  (K : Cm ω κ l yX9_layHall cX9_layHall 1 d none post) (hdp : 1 ≤ d)
    (k1 : post none (pS (pS (pS (pS (pS σ 2258 (((1 : Int32) <<< ((σ.1 2245) &&& 31)) - (1 : Int32))) 2259 (0 : Int32)) 2260 ((σ.1 2245) - (1 : Int32))) 2261 (σ.1 2249)) 2262 (σ.1 2250))) :
    V ω κ 0 [(0, .ref (ω.2.2.1 35))] [] σ := by
  refine V_aload_n 0 K.1 dX9_layHall_0 rfl rfl ?_
  refine V_aload_n 0 K.1 dX9_layHall_1 rfl rfl ?_
  refine V_callV (d' := d - 1) (As := []) K.1 dX9_layHall_2 cw_X9_150 rfl rfl rfl (by omega) rfl (by simp [Value.category]) (m_X9_everyone K.1.wf (by omega)) (go_I ?_)
  refine V_putI (key := 2258) K.1 dX9_layHall_5 rfl rfl fw_X9_154 pw_X9_18 rfl rfl rfl rfl ?_
  refine V_aload_n 0 K.1 dX9_layHall_8 rfl rfl ?_
  refine V_iconst (v := 0) K.1 dX9_layHall_9 (by decide) ?_
  refine V_putI (key := 2259) K.1 dX9_layHall_10 rfl rfl fw_X9_157 pw_X9_19 rfl (narZ (Or.inl rfl)) (fitZ (Or.inl rfl)) rfl ?_
  refine V_aload_n 0 K.1 dX9_layHall_13 rfl rfl ?_
  refine V_aload_n 0 K.1 dX9_layHall_14 rfl rfl ?_
  refine V_get (v := .int (σ.1 2245)) K.1 dX9_layHall_15 rfl rfl fw_X9_91 rfl rfl ?_
  refine V_iconst (v := 1) K.1 dX9_layHall_18 (by decide) ?_
  refine V_isub K.1 dX9_layHall_19 ?_
  refine V_putI (key := 2260) K.1 dX9_layHall_20 rfl rfl fw_X9_161 pw_X9_20 rfl rfl rfl rfl ?_
  refine V_aload_n 0 K.1 dX9_layHall_23 rfl rfl ?_
  refine V_aload_n 0 K.1 dX9_layHall_24 rfl rfl ?_
  refine V_get (v := .int (σ.1 2249)) K.1 dX9_layHall_25 rfl rfl fw_X9_124 rfl rfl ?_
  refine V_putI (key := 2261) K.1 dX9_layHall_28 rfl rfl fw_X9_164 pw_X9_21 rfl rfl rfl rfl ?_
  refine V_aload_n 0 K.1 dX9_layHall_31 rfl rfl ?_
  refine V_aload_n 0 K.1 dX9_layHall_32 rfl rfl ?_
  refine V_get (v := .int (σ.1 2250)) K.1 dX9_layHall_33 rfl rfl fw_X9_127 rfl rfl ?_
  refine V_putI (key := 2262) K.1 dX9_layHall_36 rfl rfl fw_X9_167 pw_X9_22 rfl rfl rfl rfl ?_
  exact V_vret K dX9_layHall_39 k1
theorem m_X9_layHall {ω : WT} {l : Launch} {d : Nat} {σ : St}  (hWf : Wf ω) (hd : 1 ≤ d) :
    Sp ω l yX9_layHall cX9_layHall 1 none d [.ref (ω.2.2.1 35)] σ (rV (pS (pS (pS (pS (pS σ 2258 (((1 : Int32) <<< ((σ.1 2245) &&& 31)) - (1 : Int32))) 2259 (0 : Int32)) 2260 ((σ.1 2245) - (1 : Int32))) 2261 (σ.1 2249)) 2262 (σ.1 2250))) :=
  Sp.of (by decide) (Nat.le_of_ble_eq_true rfl) hWf (fun κ K => R_X9_layHall_0  K hd ⟨rfl, rfl⟩)
set_option maxRecDepth 20000 in
theorem R_X9_passBy_0 {ω : WT} {κ : KT} {l : Launch} {d : Nat} {post : Option Value → St → Prop} {σ : St}  (K : Cm ω κ l yX9_passBy cX9_passBy 1 d none post) (hdp : 1 ≤ d)
    (k1 : post none (pS (pS (pS (pS (pS (pS σ 2263 (0 : Int32)) 2264 (0 : Int32)) 2265 (-6 : Int32)) 2266 (σ.1 2245)) 2258 (((1 : Int32) <<< ((σ.1 2245) &&& 31)) - (1 : Int32))) 2259 (0 : Int32))) :
    V ω κ 0 [(0, .ref (ω.2.2.1 35))] [] σ := by
  refine V_aload_n 0 K.1 dX9_passBy_0 rfl rfl ?_
  refine V_iconst (v := 0) K.1 dX9_passBy_1 (by decide) ?_
  refine V_putI (key := 2263) K.1 dX9_passBy_2 rfl rfl fw_X9_170 pw_X9_23 rfl rfl rfl rfl ?_
  refine V_aload_n 0 K.1 dX9_passBy_5 rfl rfl ?_
  refine V_iconst (v := 0) K.1 dX9_passBy_6 (by decide) ?_
  refine V_putI (key := 2264) K.1 dX9_passBy_7 rfl rfl fw_X9_173 pw_X9_24 rfl rfl rfl rfl ?_
  refine V_aload_n 0 K.1 dX9_passBy_10 rfl rfl ?_
  refine V_bipush (v := -6) K.1 dX9_passBy_11 (by decide) ?_
  refine V_putI (key := 2265) K.1 dX9_passBy_13 rfl rfl fw_X9_180 pw_X9_25 rfl rfl rfl rfl ?_
  refine V_aload_n 0 K.1 dX9_passBy_16 rfl rfl ?_
  refine V_aload_n 0 K.1 dX9_passBy_17 rfl rfl ?_
  refine V_get (v := .int (σ.1 2245)) K.1 dX9_passBy_18 rfl rfl fw_X9_91 rfl rfl ?_
  refine V_putI (key := 2266) K.1 dX9_passBy_21 rfl rfl fw_X9_183 pw_X9_26 rfl rfl rfl rfl ?_
  refine V_aload_n 0 K.1 dX9_passBy_24 rfl rfl ?_
  refine V_aload_n 0 K.1 dX9_passBy_25 rfl rfl ?_
  refine V_callV (d' := d - 1) (As := []) K.1 dX9_passBy_26 cw_X9_150 rfl rfl rfl (by omega) rfl (by simp [Value.category]) (m_X9_everyone K.1.wf (by omega)) (go_I ?_)
  refine V_putI (key := 2258) K.1 dX9_passBy_29 rfl rfl fw_X9_154 pw_X9_18 rfl rfl rfl rfl ?_
  refine V_aload_n 0 K.1 dX9_passBy_32 rfl rfl ?_
  refine V_iconst (v := 0) K.1 dX9_passBy_33 (by decide) ?_
  refine V_putI (key := 2259) K.1 dX9_passBy_34 rfl rfl fw_X9_157 pw_X9_19 rfl (narZ (Or.inl rfl)) (fitZ (Or.inl rfl)) rfl ?_
  exact V_vret K dX9_passBy_37 k1
theorem m_X9_passBy {ω : WT} {l : Launch} {d : Nat} {σ : St}  (hWf : Wf ω) (hd : 1 ≤ d) :
    Sp ω l yX9_passBy cX9_passBy 1 none d [.ref (ω.2.2.1 35)] σ (rV (pS (pS (pS (pS (pS (pS σ 2263 (0 : Int32)) 2264 (0 : Int32)) 2265 (-6 : Int32)) 2266 (σ.1 2245)) 2258 (((1 : Int32) <<< ((σ.1 2245) &&& 31)) - (1 : Int32))) 2259 (0 : Int32))) :=
  Sp.of (by decide) (Nat.le_of_ble_eq_true rfl) hWf (fun κ K => R_X9_passBy_0  K hd ⟨rfl, rfl⟩)
set_option maxRecDepth 20000 in
theorem R_X9_says_0 {ω : WT} {κ : KT} {l : Launch} {d : Nat} {post : Option Value → St → Prop} {σ : St} {x1 x2 x3 x4 : Int32}  (K : Cm ω κ l yX9_says cX9_says 6 d (some .boolean) post)
    (b1 : vp_in x1 8)
    (b3 : vp_in x1 8)
    (k4 : ((σ.2.1 39 (x1).toNatClampNeg) = 0) → post (some (.int (if ((((σ.2.1 40 (x1).toNatClampNeg) >>> (x2 &&& 31)) &&& (1 : Int32)) = (1 : Int32)) then (1 : Int32) else (0 : Int32)))) σ)
    (b5 : ¬ ((σ.2.1 39 (x1).toNatClampNeg) = 0) → ¬ (x3 = x4) → vp_in x1 8)
    (k7 : ¬ ((σ.2.1 39 (x1).toNatClampNeg) = 0) → ¬ (x3 = x4) → post (some (.int (if ((σ.2.1 39 (x1).toNatClampNeg) = (1 : Int32)) then (if (x3 ≤ x4) then (0 : Int32) else (1 : Int32)) else (if (x4 ≤ x3) then (0 : Int32) else (1 : Int32))))) σ)
    (k8 : ¬ ((σ.2.1 39 (x1).toNatClampNeg) = 0) → (x3 = x4) → post (some (.int (if ((((σ.2.1 40 (x1).toNatClampNeg) >>> (x2 &&& 31)) &&& (1 : Int32)) = (1 : Int32)) then (1 : Int32) else (0 : Int32)))) σ) :
    V ω κ 0 [(0, .ref (ω.2.2.1 35)), (1, .int x1), (2, .int x2), (3, .int x3), (4, .int x4)] [] σ := by
  refine V_aload_n 0 K.1 dX9_says_0 rfl rfl ?_
  refine V_get (v := .ref (ω.2.2.1 40)) K.1 dX9_says_1 rfl rfl fw_X9_22 rfl rfl ?_
  refine V_iload_n 1 K.1 dX9_says_4 rfl rfl ?_
  refine V_iaload (v := (σ.2.1 40 (x1).toNatClampNeg)) K.1 dX9_says_5 rfl b1 rfl ?_
  refine V_iload_n 2 K.1 dX9_says_6 rfl rfl ?_
  refine V_ishr K.1 dX9_says_7 ?_
  refine V_iconst (v := 1) K.1 dX9_says_8 (by decide) ?_
  refine V_iand K.1 dX9_says_9 ?_
  refine V_iconst (v := 1) K.1 dX9_says_10 (by decide) ?_
  refine V_join (J := 19) (S := []) (v := .int (if ((((σ.2.1 40 (x1).toNatClampNeg) >>> (x2 &&& 31)) &&& (1 : Int32)) = (1 : Int32)) then (1 : Int32) else (0 : Int32))) (fun hJ2 => ?_) ?_
  · refine V_icmp_ne (tgt := 18) K.1 dX9_says_11 (by decide) (fun c11 => ?_) (fun c11 => ?_)
    · refine V_iconst (v := 0) K.1 dX9_says_18 (by decide) ?_
      exact V_top (if_neg c11) hJ2
    · refine V_iconst (v := 1) K.1 dX9_says_14 (by decide) ?_
      refine V_goto (tgt := 19) K.1 dX9_says_15 (by decide) ?_
      exact V_top (if_pos c11) hJ2
  refine V_istore (L' := [(0, .ref (ω.2.2.1 35)), (1, .int x1), (2, .int x2), (3, .int x3), (4, .int x4), (5, .int (if ((((σ.2.1 40 (x1).toNatClampNeg) >>> (x2 &&& 31)) &&& (1 : Int32)) = (1 : Int32)) then (1 : Int32) else (0 : Int32)))]) K.1 dX9_says_19 (by decide) rfl ?_
  refine V_aload_n 0 K.1 dX9_says_21 rfl rfl ?_
  refine V_get (v := .ref (ω.2.2.1 39)) K.1 dX9_says_22 rfl rfl fw_X9_19 rfl rfl ?_
  refine V_iload_n 1 K.1 dX9_says_25 rfl rfl ?_
  refine V_iaload (v := (σ.2.1 39 (x1).toNatClampNeg)) K.1 dX9_says_26 rfl b3 rfl ?_
  refine V_if_eq (tgt := 36) K.1 dX9_says_27 (by decide) (fun c27 => ?_) (fun c27 => ?_)
  · refine V_iload 5 K.1 dX9_says_36 rfl ?_
    exact V_zret K dX9_says_38 (by (repeat' split) <;> first | exact Or.inl rfl | exact Or.inr rfl) (k4 c27)
  · refine V_iload_n 3 K.1 dX9_says_30 rfl rfl ?_
    refine V_iload 4 K.1 dX9_says_31 rfl ?_
    refine V_icmp_ne (tgt := 39) K.1 dX9_says_33 (by decide) (fun c33 => ?_) (fun c33 => ?_)
    · refine V_aload_n 0 K.1 dX9_says_39 rfl rfl ?_
      refine V_get (v := .ref (ω.2.2.1 39)) K.1 dX9_says_40 rfl rfl fw_X9_19 rfl rfl ?_
      refine V_iload_n 1 K.1 dX9_says_43 rfl rfl ?_
      refine V_iaload (v := (σ.2.1 39 (x1).toNatClampNeg)) K.1 dX9_says_44 rfl (b5 c27 c33) rfl ?_
      refine V_iconst (v := 1) K.1 dX9_says_45 (by decide) ?_
      refine V_join (J := 74) (S := []) (v := .int (if ((σ.2.1 39 (x1).toNatClampNeg) = (1 : Int32)) then (if (x3 ≤ x4) then (0 : Int32) else (1 : Int32)) else (if (x4 ≤ x3) then (0 : Int32) else (1 : Int32)))) (fun hJ6 => ?_) ?_
      · refine V_icmp_ne (tgt := 63) K.1 dX9_says_46 (by decide) (fun c46 => ?_) (fun c46 => ?_)
        · refine V_iload_n 3 K.1 dX9_says_63 rfl rfl ?_
          refine V_iload 4 K.1 dX9_says_64 rfl ?_
          refine V_icmp_ge (tgt := 73) K.1 dX9_says_66 (by decide) (fun c66 => ?_) (fun c66 => ?_)
          · refine V_iconst (v := 0) K.1 dX9_says_73 (by decide) ?_
            exact V_top ((if_neg c46).trans (if_pos c66)) hJ6
          · refine V_iconst (v := 1) K.1 dX9_says_69 (by decide) ?_
            refine V_goto (tgt := 74) K.1 dX9_says_70 (by decide) ?_
            exact V_top ((if_neg c46).trans (if_neg c66)) hJ6
        · refine V_iload_n 3 K.1 dX9_says_49 rfl rfl ?_
          refine V_iload 4 K.1 dX9_says_50 rfl ?_
          refine V_icmp_le (tgt := 59) K.1 dX9_says_52 (by decide) (fun c52 => ?_) (fun c52 => ?_)
          · refine V_iconst (v := 0) K.1 dX9_says_59 (by decide) ?_
            refine V_goto (tgt := 74) K.1 dX9_says_60 (by decide) ?_
            exact V_top ((if_pos c46).trans (if_pos c52)) hJ6
          · refine V_iconst (v := 1) K.1 dX9_says_55 (by decide) ?_
            refine V_goto (tgt := 74) K.1 dX9_says_56 (by decide) ?_
            exact V_top ((if_pos c46).trans (if_neg c52)) hJ6
      exact V_zret K dX9_says_74 (by (repeat' split) <;> first | exact Or.inl rfl | exact Or.inr rfl) (k7 c27 c33)
    · refine V_iload 5 K.1 dX9_says_36 rfl ?_
      exact V_zret K dX9_says_38 (by (repeat' split) <;> first | exact Or.inl rfl | exact Or.inr rfl) (k8 c27 c33)
theorem m_X9_says {ω : WT} {l : Launch} {d : Nat} {σ : St} {x1 x2 x3 x4 : Int32}  (hWf : Wf ω) (hd : 0 ≤ d) (b1 : vp_in x1 8) (b3 : vp_in x1 8) (b5 : ¬ ((σ.2.1 39 (x1).toNatClampNeg) = 0) → ¬ (x3 = x4) → vp_in x1 8) :
    Sp ω l yX9_says cX9_says 6 (some .boolean) d [.ref (ω.2.2.1 35), .int x1, .int x2, .int x3, .int x4] σ (rI (if ((σ.2.1 39 (x1).toNatClampNeg) = 0) then (if ((((σ.2.1 40 (x1).toNatClampNeg) >>> (x2 &&& 31)) &&& (1 : Int32)) = (1 : Int32)) then (1 : Int32) else (0 : Int32)) else (if (x3 = x4) then (if ((((σ.2.1 40 (x1).toNatClampNeg) >>> (x2 &&& 31)) &&& (1 : Int32)) = (1 : Int32)) then (1 : Int32) else (0 : Int32)) else (if ((σ.2.1 39 (x1).toNatClampNeg) = (1 : Int32)) then (if (x3 ≤ x4) then (0 : Int32) else (1 : Int32)) else (if (x4 ≤ x3) then (0 : Int32) else (1 : Int32))))) σ) :=
  Sp.of (by decide) (Nat.le_of_ble_eq_true rfl) hWf (fun κ K => R_X9_says_0  K b1 b3 (fun c27 => ⟨congrArg (fun z => some (Value.int z)) ((if_pos c27)).symm, rfl⟩) b5 (fun c27 c33 => ⟨congrArg (fun z => some (Value.int z)) (((if_neg c27).trans (if_neg c33))).symm, rfl⟩) (fun c27 c33 => ⟨congrArg (fun z => some (Value.int z)) (((if_neg c27).trans (if_pos c33))).symm, rfl⟩))
set_option maxRecDepth 20000 in
theorem R_X9_stateNow_0 {ω : WT} {κ : KT} {l : Launch} {d : Nat} {post : Option Value → St → Prop} {σ : St}  (K : Cm ω κ l yX9_stateNow cX9_stateNow 1 d (some .int) post)
    (k2 : post (some (.int (((if ((σ.1 2259) = 0) then (σ.1 2258) else (256 : Int32)) * (8 : Int32)) + (σ.1 2260)))) σ) :
    V ω κ 0 [(0, .ref (ω.2.2.1 35))] [] σ := by
  refine V_aload_n 0 K.1 dX9_stateNow_0 rfl rfl ?_
  refine V_get (v := .int (σ.1 2259)) K.1 dX9_stateNow_1 rfl rfl fw_X9_157 rfl rfl ?_
  refine V_join (J := 17) (S := []) (v := .int (if ((σ.1 2259) = 0) then (σ.1 2258) else (256 : Int32))) (fun hJ1 => ?_) ?_
  · refine V_if_eq (tgt := 13) K.1 dX9_stateNow_4 (by decide) (fun c4 => ?_) (fun c4 => ?_)
    · refine V_aload_n 0 K.1 dX9_stateNow_13 rfl rfl ?_
      refine V_get (v := .int (σ.1 2258)) K.1 dX9_stateNow_14 rfl rfl fw_X9_154 rfl rfl ?_
      exact V_top (if_pos c4) hJ1
    · refine V_sipush (v := 256) K.1 dX9_stateNow_7 (by decide) ?_
      refine V_goto (tgt := 17) K.1 dX9_stateNow_10 (by decide) ?_
      exact V_top (if_neg c4) hJ1
  refine V_bipush (v := 8) K.1 dX9_stateNow_17 (by decide) ?_
  refine V_imul K.1 dX9_stateNow_19 ?_
  refine V_aload_n 0 K.1 dX9_stateNow_20 rfl rfl ?_
  refine V_get (v := .int (σ.1 2260)) K.1 dX9_stateNow_21 rfl rfl fw_X9_161 rfl rfl ?_
  refine V_iadd K.1 dX9_stateNow_24 ?_
  exact V_iret K dX9_stateNow_25 k2
theorem m_X9_stateNow {ω : WT} {l : Launch} {d : Nat} {σ : St}  (hWf : Wf ω) (hd : 0 ≤ d) :
    Sp ω l yX9_stateNow cX9_stateNow 1 (some .int) d [.ref (ω.2.2.1 35)] σ (rI (((if ((σ.1 2259) = 0) then (σ.1 2258) else (256 : Int32)) * (8 : Int32)) + (σ.1 2260)) σ) :=
  Sp.of (by decide) (Nat.le_of_ble_eq_true rfl) hWf (fun κ K => R_X9_stateNow_0  K ⟨rfl, rfl⟩)
set_option maxRecDepth 20000 in
theorem R_X9_keepAhead_0 {ω : WT} {κ : KT} {l : Launch} {d : Nat} {post : Option Value → St → Prop} {σ : St} {x1 x2 : Int32}  (K : Cm ω κ l yX9_keepAhead cX9_keepAhead 3 d none post)
    (b1 : vp_in x1 7)
    (b2 : vp_in x1 7)
    (z3 : (σ.1 2259) = 0 ∨ (σ.1 2259) = 1)
    (b4 : vp_in x1 7)
    (b5 : vp_in x1 7)
    (b6 : vp_in x1 7)
    (k7 : post none (pA (pA (pA (pA (pA σ 49 (x1).toNatClampNeg (σ.1 2258)) 50 (x1).toNatClampNeg (σ.1 2259)) 51 (x1).toNatClampNeg (σ.1 2260)) 52 (x1).toNatClampNeg x2) 53 (x1).toNatClampNeg (-1 : Int32))) :
    V ω κ 0 [(0, .ref (ω.2.2.1 35)), (1, .int x1), (2, .int x2)] [] σ := by
  refine V_aload_n 0 K.1 dX9_keepAhead_0 rfl rfl ?_
  refine V_get (v := .ref (ω.2.2.1 49)) K.1 dX9_keepAhead_1 rfl rfl fw_X9_49 rfl rfl ?_
  refine V_iload_n 1 K.1 dX9_keepAhead_4 rfl rfl ?_
  refine V_aload_n 0 K.1 dX9_keepAhead_5 rfl rfl ?_
  refine V_get (v := .int (σ.1 2258)) K.1 dX9_keepAhead_6 rfl rfl fw_X9_154 rfl rfl ?_
  refine V_iastore K.1 dX9_keepAhead_9 rfl b1 ?_
  refine V_aload_n 0 K.1 dX9_keepAhead_10 rfl rfl ?_
  refine V_get (v := .ref (ω.2.2.1 50)) K.1 dX9_keepAhead_11 rfl rfl fw_X9_52 rfl rfl ?_
  refine V_iload_n 1 K.1 dX9_keepAhead_14 rfl rfl ?_
  refine V_aload_n 0 K.1 dX9_keepAhead_15 rfl rfl ?_
  refine V_get (v := .int (σ.1 2259)) K.1 dX9_keepAhead_16 rfl rfl fw_X9_157 rfl rfl ?_
  refine V_bastore K.1 dX9_keepAhead_19 rfl b2 (narZ2 z3) ?_
  refine V_aload_n 0 K.1 dX9_keepAhead_20 rfl rfl ?_
  refine V_get (v := .ref (ω.2.2.1 51)) K.1 dX9_keepAhead_21 rfl rfl fw_X9_56 rfl rfl ?_
  refine V_iload_n 1 K.1 dX9_keepAhead_24 rfl rfl ?_
  refine V_aload_n 0 K.1 dX9_keepAhead_25 rfl rfl ?_
  refine V_get (v := .int (σ.1 2260)) K.1 dX9_keepAhead_26 rfl rfl fw_X9_161 rfl rfl ?_
  refine V_iastore K.1 dX9_keepAhead_29 rfl b4 ?_
  refine V_aload_n 0 K.1 dX9_keepAhead_30 rfl rfl ?_
  refine V_get (v := .ref (ω.2.2.1 52)) K.1 dX9_keepAhead_31 rfl rfl fw_X9_59 rfl rfl ?_
  refine V_iload_n 1 K.1 dX9_keepAhead_34 rfl rfl ?_
  refine V_iload_n 2 K.1 dX9_keepAhead_35 rfl rfl ?_
  refine V_iastore K.1 dX9_keepAhead_36 rfl b5 ?_
  refine V_aload_n 0 K.1 dX9_keepAhead_37 rfl rfl ?_
  refine V_get (v := .ref (ω.2.2.1 53)) K.1 dX9_keepAhead_38 rfl rfl fw_X9_62 rfl rfl ?_
  refine V_iload_n 1 K.1 dX9_keepAhead_41 rfl rfl ?_
  refine V_iconst (v := -1) K.1 dX9_keepAhead_42 (by decide) ?_
  refine V_iastore K.1 dX9_keepAhead_43 rfl b6 ?_
  exact V_vret K dX9_keepAhead_44 k7
theorem m_X9_keepAhead {ω : WT} {l : Launch} {d : Nat} {σ : St} {x1 x2 : Int32}  (hWf : Wf ω) (hd : 0 ≤ d) (b1 : vp_in x1 7) (b2 : vp_in x1 7) (z3 : (σ.1 2259) = 0 ∨ (σ.1 2259) = 1) (b4 : vp_in x1 7) (b5 : vp_in x1 7) (b6 : vp_in x1 7) :
    Sp ω l yX9_keepAhead cX9_keepAhead 3 none d [.ref (ω.2.2.1 35), .int x1, .int x2] σ (rV (pA (pA (pA (pA (pA σ 49 (x1).toNatClampNeg (σ.1 2258)) 50 (x1).toNatClampNeg (σ.1 2259)) 51 (x1).toNatClampNeg (σ.1 2260)) 52 (x1).toNatClampNeg x2) 53 (x1).toNatClampNeg (-1 : Int32))) :=
  Sp.of (by decide) (Nat.le_of_ble_eq_true rfl) hWf (fun κ K => R_X9_keepAhead_0  K b1 b2 z3 b4 b5 b6 ⟨rfl, rfl⟩)
set_option maxRecDepth 20000 in
theorem R_X9_exchange_0 {ω : WT} {κ : KT} {l : Launch} {d : Nat} {post : Option Value → St → Prop} {σ : St} {x1 x2 : Int32}  (K : Cm ω κ l yX9_exchange cX9_exchange 4 d none post)
    (b1 : vp_in x1 6)
    (b2 : vp_in x2 6)
    (b3 : vp_in x1 6)
    (b4 : vp_in x2 6)
    (k5 : post none (pA (pA σ 54 (x1).toNatClampNeg (σ.2.1 54 (x2).toNatClampNeg)) 54 (x2).toNatClampNeg (σ.2.1 54 (x1).toNatClampNeg))) :
    V ω κ 0 [(0, .ref (ω.2.2.1 35)), (1, .int x1), (2, .int x2)] [] σ := by
  refine V_aload_n 0 K.1 dX9_exchange_0 rfl rfl ?_
  refine V_get (v := .ref (ω.2.2.1 54)) K.1 dX9_exchange_1 rfl rfl fw_X9_65 rfl rfl ?_
  refine V_iload_n 1 K.1 dX9_exchange_4 rfl rfl ?_
  refine V_iaload (v := (σ.2.1 54 (x1).toNatClampNeg)) K.1 dX9_exchange_5 rfl b1 rfl ?_
  refine V_istore_n (L' := [(0, .ref (ω.2.2.1 35)), (1, .int x1), (2, .int x2), (3, .int (σ.2.1 54 (x1).toNatClampNeg))]) K.1 dX9_exchange_6 rfl (by decide) rfl ?_
  refine V_aload_n 0 K.1 dX9_exchange_7 rfl rfl ?_
  refine V_get (v := .ref (ω.2.2.1 54)) K.1 dX9_exchange_8 rfl rfl fw_X9_65 rfl rfl ?_
  refine V_iload_n 1 K.1 dX9_exchange_11 rfl rfl ?_
  refine V_aload_n 0 K.1 dX9_exchange_12 rfl rfl ?_
  refine V_get (v := .ref (ω.2.2.1 54)) K.1 dX9_exchange_13 rfl rfl fw_X9_65 rfl rfl ?_
  refine V_iload_n 2 K.1 dX9_exchange_16 rfl rfl ?_
  refine V_iaload (v := (σ.2.1 54 (x2).toNatClampNeg)) K.1 dX9_exchange_17 rfl b2 rfl ?_
  refine V_iastore K.1 dX9_exchange_18 rfl b3 ?_
  refine V_aload_n 0 K.1 dX9_exchange_19 rfl rfl ?_
  refine V_get (v := .ref (ω.2.2.1 54)) K.1 dX9_exchange_20 rfl rfl fw_X9_65 rfl rfl ?_
  refine V_iload_n 2 K.1 dX9_exchange_23 rfl rfl ?_
  refine V_iload_n 3 K.1 dX9_exchange_24 rfl rfl ?_
  refine V_iastore K.1 dX9_exchange_25 rfl b4 ?_
  exact V_vret K dX9_exchange_26 k5
theorem m_X9_exchange {ω : WT} {l : Launch} {d : Nat} {σ : St} {x1 x2 : Int32}  (hWf : Wf ω) (hd : 0 ≤ d) (b1 : vp_in x1 6) (b2 : vp_in x2 6) (b3 : vp_in x1 6) (b4 : vp_in x2 6) :
    Sp ω l yX9_exchange cX9_exchange 4 none d [.ref (ω.2.2.1 35), .int x1, .int x2] σ (rV (pA (pA σ 54 (x1).toNatClampNeg (σ.2.1 54 (x2).toNatClampNeg)) 54 (x2).toNatClampNeg (σ.2.1 54 (x1).toNatClampNeg))) :=
  Sp.of (by decide) (Nat.le_of_ble_eq_true rfl) hWf (fun κ K => R_X9_exchange_0  K b1 b2 b3 b4 ⟨rfl, rfl⟩)
set_option maxRecDepth 20000 in
theorem R_X9_begins_0 {ω : WT} {κ : KT} {l : Launch} {d : Nat} {post : Option Value → St → Prop} {σ : St} {x1 : Int32}  (K : Cm ω κ l yX9_begins cX9_begins 2 d none post)
    (k1 : post none (pS σ 2241 (((31 : Int32) * (σ.1 2241)) + x1))) :
    V ω κ 0 [(0, .ref (ω.2.2.1 35)), (1, .int x1)] [] σ := by
  refine V_aload_n 0 K.1 dX9_begins_0 rfl rfl ?_
  refine V_bipush (v := 31) K.1 dX9_begins_1 (by decide) ?_
  refine V_aload_n 0 K.1 dX9_begins_3 rfl rfl ?_
  refine V_get (v := .int (σ.1 2241)) K.1 dX9_begins_4 rfl rfl fw_X9_295 rfl rfl ?_
  refine V_imul K.1 dX9_begins_7 ?_
  refine V_iload_n 1 K.1 dX9_begins_8 rfl rfl ?_
  refine V_iadd K.1 dX9_begins_9 ?_
  refine V_putI (key := 2241) K.1 dX9_begins_10 rfl rfl fw_X9_295 pw_X9_1 rfl rfl rfl rfl ?_
  exact V_vret K dX9_begins_13 k1
theorem m_X9_begins {ω : WT} {l : Launch} {d : Nat} {σ : St} {x1 : Int32}  (hWf : Wf ω) (hd : 0 ≤ d) :
    Sp ω l yX9_begins cX9_begins 2 none d [.ref (ω.2.2.1 35), .int x1] σ (rV (pS σ 2241 (((31 : Int32) * (σ.1 2241)) + x1))) :=
  Sp.of (by decide) (Nat.le_of_ble_eq_true rfl) hWf (fun κ K => R_X9_begins_0  K ⟨rfl, rfl⟩)
set_option maxRecDepth 20000 in
theorem R_X6_hasRow_0 {ω : WT} {κ : KT} {l : Launch} {d : Nat} {post : Option Value → St → Prop} {σ : St} {j : Nat} (hj : j < 4) (K : Cm ω κ l yX6_hasRow cX6_hasRow 1 d (some .boolean) post)
    (k2 : post (some (.int (if ((σ.1 (64 * (2 + j) + 1)) = (-1 : Int32)) then (0 : Int32) else (1 : Int32)))) σ) :
    V ω κ 0 [(0, .ref (ω.2.2.1 (2 + j)))] [] σ := by
  refine V_aload_n 0 K.1 dX6_hasRow_0 rfl rfl ?_
  refine V_get (v := .int (σ.1 (64 * (2 + j) + 1))) K.1 dX6_hasRow_1 (shO j hj) rfl fw_X6_15 rfl rfl ?_
  refine V_iconst (v := -1) K.1 dX6_hasRow_4 (by decide) ?_
  refine V_join (J := 13) (S := []) (v := .int (if ((σ.1 (64 * (2 + j) + 1)) = (-1 : Int32)) then (0 : Int32) else (1 : Int32))) (fun hJ1 => ?_) ?_
  · refine V_icmp_eq (tgt := 12) K.1 dX6_hasRow_5 (by decide) (fun c5 => ?_) (fun c5 => ?_)
    · refine V_iconst (v := 0) K.1 dX6_hasRow_12 (by decide) ?_
      exact V_top (if_pos c5) hJ1
    · refine V_iconst (v := 1) K.1 dX6_hasRow_8 (by decide) ?_
      refine V_goto (tgt := 13) K.1 dX6_hasRow_9 (by decide) ?_
      exact V_top (if_neg c5) hJ1
  exact V_zret K dX6_hasRow_13 (by (repeat' split) <;> first | exact Or.inl rfl | exact Or.inr rfl) k2
theorem m_X6_hasRow {ω : WT} {l : Launch} {d : Nat} {σ : St} {j : Nat} (hj : j < 4) (hWf : Wf ω) (hd : 0 ≤ d) :
    Sp ω l yX6_hasRow cX6_hasRow 1 (some .boolean) d [.ref (ω.2.2.1 (2 + j))] σ (rI (if ((σ.1 (64 * (2 + j) + 1)) = (-1 : Int32)) then (0 : Int32) else (1 : Int32)) σ) :=
  Sp.of (by decide) (Nat.le_of_ble_eq_true rfl) hWf (fun κ K => R_X6_hasRow_0 hj K ⟨rfl, rfl⟩)
set_option maxRecDepth 20000 in
theorem R_X6_clear_0 {ω : WT} {κ : KT} {l : Launch} {d : Nat} {post : Option Value → St → Prop} {σ : St} {j : Nat} (hj : j < 4) (K : Cm ω κ l yX6_clear cX6_clear 1 d none post)
    (k1 : post none (pS σ (64 * (2 + j) + 1) (-1 : Int32))) :
    V ω κ 0 [(0, .ref (ω.2.2.1 (2 + j)))] [] σ := by
  refine V_aload_n 0 K.1 dX6_clear_0 rfl rfl ?_
  refine V_iconst (v := -1) K.1 dX6_clear_1 (by decide) ?_
  refine V_putI (key := (64 * (2 + j) + 1)) K.1 dX6_clear_2 (shO j hj) rfl fw_X6_15 pw_X6_1 rfl rfl rfl rfl ?_
  exact V_vret K dX6_clear_5 k1
theorem m_X6_clear {ω : WT} {l : Launch} {d : Nat} {σ : St} {j : Nat} (hj : j < 4) (hWf : Wf ω) (hd : 0 ≤ d) :
    Sp ω l yX6_clear cX6_clear 1 none d [.ref (ω.2.2.1 (2 + j))] σ (rV (pS σ (64 * (2 + j) + 1) (-1 : Int32))) :=
  Sp.of (by decide) (Nat.le_of_ble_eq_true rfl) hWf (fun κ K => R_X6_clear_0 hj K ⟨rfl, rfl⟩)
set_option maxRecDepth 20000 in
theorem R_X6_hasCells_0 {ω : WT} {κ : KT} {l : Launch} {d : Nat} {post : Option Value → St → Prop} {σ : St} {x1 x2 : Int32} {j : Nat} (hj : j < 4) (K : Cm ω κ l yX6_hasCells cX6_hasCells 3 d (some .boolean) post)
    (k2 : post (some (.int (if (x1 < 0) then (0 : Int32) else (if ((σ.1 (64 * (2 + j) + 1)) < x1) then (0 : Int32) else (if (x2 < 0) then (0 : Int32) else (if (((σ.1 (64 * (2 + j) + 1)) - x1) < x2) then (0 : Int32) else (1 : Int32))))))) σ) :
    V ω κ 0 [(0, .ref (ω.2.2.1 (2 + j))), (1, .int x1), (2, .int x2)] [] σ := by
  refine V_iload_n 1 K.1 dX6_hasCells_0 rfl rfl ?_
  refine V_join (J := 31) (S := []) (v := .int (if (x1 < 0) then (0 : Int32) else (if ((σ.1 (64 * (2 + j) + 1)) < x1) then (0 : Int32) else (if (x2 < 0) then (0 : Int32) else (if (((σ.1 (64 * (2 + j) + 1)) - x1) < x2) then (0 : Int32) else (1 : Int32)))))) (fun hJ1 => ?_) ?_
  · refine V_if_lt (tgt := 30) K.1 dX6_hasCells_1 (by decide) (fun c1 => ?_) (fun c1 => ?_)
    · refine V_iconst (v := 0) K.1 dX6_hasCells_30 (by decide) ?_
      exact V_top (if_pos c1) hJ1
    · refine V_iload_n 1 K.1 dX6_hasCells_4 rfl rfl ?_
      refine V_aload_n 0 K.1 dX6_hasCells_5 rfl rfl ?_
      refine V_get (v := .int (σ.1 (64 * (2 + j) + 1))) K.1 dX6_hasCells_6 (shO j hj) rfl fw_X6_15 rfl rfl ?_
      refine V_icmp_gt (tgt := 30) K.1 dX6_hasCells_9 (by decide) (fun c9 => ?_) (fun c9 => ?_)
      · refine V_iconst (v := 0) K.1 dX6_hasCells_30 (by decide) ?_
        exact V_top ((if_neg c1).trans (if_pos c9)) hJ1
      · refine V_iload_n 2 K.1 dX6_hasCells_12 rfl rfl ?_
        refine V_if_lt (tgt := 30) K.1 dX6_hasCells_13 (by decide) (fun c13 => ?_) (fun c13 => ?_)
        · refine V_iconst (v := 0) K.1 dX6_hasCells_30 (by decide) ?_
          exact V_top (((if_neg c1).trans (if_neg c9)).trans (if_pos c13)) hJ1
        · refine V_iload_n 2 K.1 dX6_hasCells_16 rfl rfl ?_
          refine V_aload_n 0 K.1 dX6_hasCells_17 rfl rfl ?_
          refine V_get (v := .int (σ.1 (64 * (2 + j) + 1))) K.1 dX6_hasCells_18 (shO j hj) rfl fw_X6_15 rfl rfl ?_
          refine V_iload_n 1 K.1 dX6_hasCells_21 rfl rfl ?_
          refine V_isub K.1 dX6_hasCells_22 ?_
          refine V_icmp_gt (tgt := 30) K.1 dX6_hasCells_23 (by decide) (fun c23 => ?_) (fun c23 => ?_)
          · refine V_iconst (v := 0) K.1 dX6_hasCells_30 (by decide) ?_
            exact V_top ((((if_neg c1).trans (if_neg c9)).trans (if_neg c13)).trans (if_pos c23)) hJ1
          · refine V_iconst (v := 1) K.1 dX6_hasCells_26 (by decide) ?_
            refine V_goto (tgt := 31) K.1 dX6_hasCells_27 (by decide) ?_
            exact V_top ((((if_neg c1).trans (if_neg c9)).trans (if_neg c13)).trans (if_neg c23)) hJ1
  exact V_zret K dX6_hasCells_31 (by (repeat' split) <;> first | exact Or.inl rfl | exact Or.inr rfl) k2
theorem m_X6_hasCells {ω : WT} {l : Launch} {d : Nat} {σ : St} {x1 x2 : Int32} {j : Nat} (hj : j < 4) (hWf : Wf ω) (hd : 0 ≤ d) :
    Sp ω l yX6_hasCells cX6_hasCells 3 (some .boolean) d [.ref (ω.2.2.1 (2 + j)), .int x1, .int x2] σ (rI (if (x1 < 0) then (0 : Int32) else (if ((σ.1 (64 * (2 + j) + 1)) < x1) then (0 : Int32) else (if (x2 < 0) then (0 : Int32) else (if (((σ.1 (64 * (2 + j) + 1)) - x1) < x2) then (0 : Int32) else (1 : Int32))))) σ) :=
  Sp.of (by decide) (Nat.le_of_ble_eq_true rfl) hWf (fun κ K => R_X6_hasCells_0 hj K ⟨rfl, rfl⟩)
set_option maxRecDepth 20000 in
theorem R_X6_at_0 {ω : WT} {κ : KT} {l : Launch} {d : Nat} {post : Option Value → St → Prop} {σ : St} {x1 : Int32} {j : Nat} (hj : j < 4) (K : Cm ω κ l yX6_at cX6_at 2 d (some .int) post)
    (b2 : ¬ (x1 < 0) → ¬ ((σ.1 (64 * (2 + j) + 1)) ≤ x1) → vp_in x1 80)
    (k3 : post (some (.int (if (x1 < 0) then (0 : Int32) else (if ((σ.1 (64 * (2 + j) + 1)) ≤ x1) then (0 : Int32) else (σ.2.1 (6 + j) (x1).toNatClampNeg))))) σ) :
    V ω κ 0 [(0, .ref (ω.2.2.1 (2 + j))), (1, .int x1)] [] σ := by
  refine V_iload_n 1 K.1 dX6_at_0 rfl rfl ?_
  refine V_join (J := 22) (S := []) (v := .int (if (x1 < 0) then (0 : Int32) else (if ((σ.1 (64 * (2 + j) + 1)) ≤ x1) then (0 : Int32) else (σ.2.1 (6 + j) (x1).toNatClampNeg)))) (fun hJ1 => ?_) ?_
  · refine V_if_lt (tgt := 21) K.1 dX6_at_1 (by decide) (fun c1 => ?_) (fun c1 => ?_)
    · refine V_iconst (v := 0) K.1 dX6_at_21 (by decide) ?_
      exact V_top (if_pos c1) hJ1
    · refine V_iload_n 1 K.1 dX6_at_4 rfl rfl ?_
      refine V_aload_n 0 K.1 dX6_at_5 rfl rfl ?_
      refine V_get (v := .int (σ.1 (64 * (2 + j) + 1))) K.1 dX6_at_6 (shO j hj) rfl fw_X6_15 rfl rfl ?_
      refine V_icmp_ge (tgt := 21) K.1 dX6_at_9 (by decide) (fun c9 => ?_) (fun c9 => ?_)
      · refine V_iconst (v := 0) K.1 dX6_at_21 (by decide) ?_
        exact V_top ((if_neg c1).trans (if_pos c9)) hJ1
      · refine V_aload_n 0 K.1 dX6_at_12 rfl rfl ?_
        refine V_get (v := .ref (ω.2.2.1 (6 + j))) K.1 dX6_at_13 (shO j hj) rfl fw_X6_9 rfl rfl ?_
        refine V_iload_n 1 K.1 dX6_at_16 rfl rfl ?_
        refine V_iaload (v := (σ.2.1 (6 + j) (x1).toNatClampNeg)) K.1 dX6_at_17 (shA j hj) (b2 c1 c9) rfl ?_
        refine V_goto (tgt := 22) K.1 dX6_at_18 (by decide) ?_
        exact V_top ((if_neg c1).trans (if_neg c9)) hJ1
  exact V_iret K dX6_at_22 k3
theorem m_X6_at {ω : WT} {l : Launch} {d : Nat} {σ : St} {x1 : Int32} {j : Nat} (hj : j < 4) (hWf : Wf ω) (hd : 0 ≤ d) (b2 : ¬ (x1 < 0) → ¬ ((σ.1 (64 * (2 + j) + 1)) ≤ x1) → vp_in x1 80) :
    Sp ω l yX6_at cX6_at 2 (some .int) d [.ref (ω.2.2.1 (2 + j)), .int x1] σ (rI (if (x1 < 0) then (0 : Int32) else (if ((σ.1 (64 * (2 + j) + 1)) ≤ x1) then (0 : Int32) else (σ.2.1 (6 + j) (x1).toNatClampNeg))) σ) :=
  Sp.of (by decide) (Nat.le_of_ble_eq_true rfl) hWf (fun κ K => R_X6_at_0 hj K b2 ⟨rfl, rfl⟩)
set_option maxRecDepth 20000 in
theorem R_X6_store_0 {ω : WT} {κ : KT} {l : Launch} {d : Nat} {post : Option Value → St → Prop} {σ : St} {x1 x2 : Int32} {j : Nat} (hj : j < 4) (K : Cm ω κ l yX6_store cX6_store 3 d none post)
    (k1 : (x1 < 0) → post none σ)
    (k2 : ¬ (x1 < 0) → ((σ.1 (64 * (2 + j) + 1)) ≤ x1) → post none σ)
    (b4 : ¬ (x1 < 0) → ¬ ((σ.1 (64 * (2 + j) + 1)) ≤ x1) → vp_in x1 80)
    (k5 : ¬ (x1 < 0) → ¬ ((σ.1 (64 * (2 + j) + 1)) ≤ x1) → post none (pA σ (6 + j) (x1).toNatClampNeg (if ((σ.1 (64 * (2 + j) + 2)) = 0) then (x2).toInt8.toInt32 else (if ((σ.1 (64 * (2 + j) + 2)) = (1 : Int32)) then (x2).toInt16.toInt32 else x2)))) :
    V ω κ 0 [(0, .ref (ω.2.2.1 (2 + j))), (1, .int x1), (2, .int x2)] [] σ := by
  refine V_iload_n 1 K.1 dX6_store_0 rfl rfl ?_
  refine V_if_lt (tgt := 44) K.1 dX6_store_1 (by decide) (fun c1 => ?_) (fun c1 => ?_)
  · exact V_vret K dX6_store_44 (k1 c1)
  · refine V_iload_n 1 K.1 dX6_store_4 rfl rfl ?_
    refine V_aload_n 0 K.1 dX6_store_5 rfl rfl ?_
    refine V_get (v := .int (σ.1 (64 * (2 + j) + 1))) K.1 dX6_store_6 (shO j hj) rfl fw_X6_15 rfl rfl ?_
    refine V_icmp_ge (tgt := 44) K.1 dX6_store_9 (by decide) (fun c9 => ?_) (fun c9 => ?_)
    · exact V_vret K dX6_store_44 (k2 c1 c9)
    · refine V_aload_n 0 K.1 dX6_store_12 rfl rfl ?_
      refine V_get (v := .ref (ω.2.2.1 (6 + j))) K.1 dX6_store_13 (shO j hj) rfl fw_X6_9 rfl rfl ?_
      refine V_iload_n 1 K.1 dX6_store_16 rfl rfl ?_
      refine V_aload_n 0 K.1 dX6_store_17 rfl rfl ?_
      refine V_get (v := .int (σ.1 (64 * (2 + j) + 2))) K.1 dX6_store_18 (shO j hj) rfl fw_X6_25 rfl rfl ?_
      refine V_join (J := 43) (S := [.int x1, .ref (ω.2.2.1 (6 + j))]) (v := .int (if ((σ.1 (64 * (2 + j) + 2)) = 0) then (x2).toInt8.toInt32 else (if ((σ.1 (64 * (2 + j) + 2)) = (1 : Int32)) then (x2).toInt16.toInt32 else x2))) (fun hJ3 => ?_) ?_
      · refine V_if_ne (tgt := 29) K.1 dX6_store_21 (by decide) (fun c21 => ?_) (fun c21 => ?_)
        · refine V_aload_n 0 K.1 dX6_store_29 rfl rfl ?_
          refine V_get (v := .int (σ.1 (64 * (2 + j) + 2))) K.1 dX6_store_30 (shO j hj) rfl fw_X6_25 rfl rfl ?_
          refine V_iconst (v := 1) K.1 dX6_store_33 (by decide) ?_
          refine V_icmp_ne (tgt := 42) K.1 dX6_store_34 (by decide) (fun c34 => ?_) (fun c34 => ?_)
          · refine V_iload_n 2 K.1 dX6_store_42 rfl rfl ?_
            exact V_top ((if_neg c21).trans (if_neg c34)) hJ3
          · refine V_iload_n 2 K.1 dX6_store_37 rfl rfl ?_
            refine V_i2s K.1 dX6_store_38 ?_
            refine V_goto (tgt := 43) K.1 dX6_store_39 (by decide) ?_
            exact V_top ((if_neg c21).trans (if_pos c34)) hJ3
        · refine V_iload_n 2 K.1 dX6_store_24 rfl rfl ?_
          refine V_i2b K.1 dX6_store_25 ?_
          refine V_goto (tgt := 43) K.1 dX6_store_26 (by decide) ?_
          exact V_top (if_pos c21) hJ3
      refine V_iastore K.1 dX6_store_43 (shA j hj) (b4 c1 c9) ?_
      exact V_vret K dX6_store_44 (k5 c1 c9)
theorem m_X6_store {ω : WT} {l : Launch} {d : Nat} {σ : St} {x1 x2 : Int32} {j : Nat} (hj : j < 4) (hWf : Wf ω) (hd : 0 ≤ d) (b4 : ¬ (x1 < 0) → ¬ ((σ.1 (64 * (2 + j) + 1)) ≤ x1) → vp_in x1 80) :
    Sp ω l yX6_store cX6_store 3 none d [.ref (ω.2.2.1 (2 + j)), .int x1, .int x2] σ (rV (if (x1 < 0) then σ else (if ((σ.1 (64 * (2 + j) + 1)) ≤ x1) then σ else (pA σ (6 + j) (x1).toNatClampNeg (if ((σ.1 (64 * (2 + j) + 2)) = 0) then (x2).toInt8.toInt32 else (if ((σ.1 (64 * (2 + j) + 2)) = (1 : Int32)) then (x2).toInt16.toInt32 else x2)))))) :=
  Sp.of (by decide) (Nat.le_of_ble_eq_true rfl) hWf (fun κ K => R_X6_store_0 hj K (fun c1 => ⟨rfl, ((if_pos c1)).symm⟩) (fun c1 c9 => ⟨rfl, (((if_neg c1).trans (if_pos c9))).symm⟩) b4 (fun c1 c9 => ⟨rfl, (((if_neg c1).trans (if_neg c9))).symm⟩))
set_option maxRecDepth 20000 in
theorem R_X7_stands_0 {ω : WT} {κ : KT} {l : Launch} {d : Nat} {post : Option Value → St → Prop} {σ : St}  (K : Cm ω κ l yX7_stands cX7_stands 1 d (some .boolean) post)
    (k2 : post (some (.int (if ((σ.1 640) ≤ 0) then (0 : Int32) else (1 : Int32)))) σ) :
    V ω κ 0 [(0, .ref (ω.2.2.1 10))] [] σ := by
  refine V_aload_n 0 K.1 dX7_stands_0 rfl rfl ?_
  refine V_get (v := .int (σ.1 640)) K.1 dX7_stands_1 rfl rfl fw_X7_21 rfl rfl ?_
  refine V_join (J := 12) (S := []) (v := .int (if ((σ.1 640) ≤ 0) then (0 : Int32) else (1 : Int32))) (fun hJ1 => ?_) ?_
  · refine V_if_le (tgt := 11) K.1 dX7_stands_4 (by decide) (fun c4 => ?_) (fun c4 => ?_)
    · refine V_iconst (v := 0) K.1 dX7_stands_11 (by decide) ?_
      exact V_top (if_pos c4) hJ1
    · refine V_iconst (v := 1) K.1 dX7_stands_7 (by decide) ?_
      refine V_goto (tgt := 12) K.1 dX7_stands_8 (by decide) ?_
      exact V_top (if_neg c4) hJ1
  exact V_zret K dX7_stands_12 (by (repeat' split) <;> first | exact Or.inl rfl | exact Or.inr rfl) k2
theorem m_X7_stands {ω : WT} {l : Launch} {d : Nat} {σ : St}  (hWf : Wf ω) (hd : 0 ≤ d) :
    Sp ω l yX7_stands cX7_stands 1 (some .boolean) d [.ref (ω.2.2.1 10)] σ (rI (if ((σ.1 640) ≤ 0) then (0 : Int32) else (1 : Int32)) σ) :=
  Sp.of (by decide) (Nat.le_of_ble_eq_true rfl) hWf (fun κ K => R_X7_stands_0  K ⟨rfl, rfl⟩)
set_option maxRecDepth 20000 in
theorem R_X7_hasOne_0 {ω : WT} {κ : KT} {l : Launch} {d : Nat} {post : Option Value → St → Prop} {σ : St} {x1 : Int32}  (K : Cm ω κ l yX7_hasOne cX7_hasOne 2 d (some .boolean) post)
    (k2 : post (some (.int (if (x1 < 0) then (0 : Int32) else (if ((σ.1 640) ≤ x1) then (0 : Int32) else (1 : Int32))))) σ) :
    V ω κ 0 [(0, .ref (ω.2.2.1 10)), (1, .int x1)] [] σ := by
  refine V_iload_n 1 K.1 dX7_hasOne_0 rfl rfl ?_
  refine V_join (J := 17) (S := []) (v := .int (if (x1 < 0) then (0 : Int32) else (if ((σ.1 640) ≤ x1) then (0 : Int32) else (1 : Int32)))) (fun hJ1 => ?_) ?_
  · refine V_if_lt (tgt := 16) K.1 dX7_hasOne_1 (by decide) (fun c1 => ?_) (fun c1 => ?_)
    · refine V_iconst (v := 0) K.1 dX7_hasOne_16 (by decide) ?_
      exact V_top (if_pos c1) hJ1
    · refine V_iload_n 1 K.1 dX7_hasOne_4 rfl rfl ?_
      refine V_aload_n 0 K.1 dX7_hasOne_5 rfl rfl ?_
      refine V_get (v := .int (σ.1 640)) K.1 dX7_hasOne_6 rfl rfl fw_X7_21 rfl rfl ?_
      refine V_icmp_ge (tgt := 16) K.1 dX7_hasOne_9 (by decide) (fun c9 => ?_) (fun c9 => ?_)
      · refine V_iconst (v := 0) K.1 dX7_hasOne_16 (by decide) ?_
        exact V_top ((if_neg c1).trans (if_pos c9)) hJ1
      · refine V_iconst (v := 1) K.1 dX7_hasOne_12 (by decide) ?_
        refine V_goto (tgt := 17) K.1 dX7_hasOne_13 (by decide) ?_
        exact V_top ((if_neg c1).trans (if_neg c9)) hJ1
  exact V_zret K dX7_hasOne_17 (by (repeat' split) <;> first | exact Or.inl rfl | exact Or.inr rfl) k2
theorem m_X7_hasOne {ω : WT} {l : Launch} {d : Nat} {σ : St} {x1 : Int32}  (hWf : Wf ω) (hd : 0 ≤ d) :
    Sp ω l yX7_hasOne cX7_hasOne 2 (some .boolean) d [.ref (ω.2.2.1 10), .int x1] σ (rI (if (x1 < 0) then (0 : Int32) else (if ((σ.1 640) ≤ x1) then (0 : Int32) else (1 : Int32))) σ) :=
  Sp.of (by decide) (Nat.le_of_ble_eq_true rfl) hWf (fun κ K => R_X7_hasOne_0  K ⟨rfl, rfl⟩)
set_option maxRecDepth 20000 in
theorem R_X7_hasMatter_0 {ω : WT} {κ : KT} {l : Launch} {d : Nat} {post : Option Value → St → Prop} {σ : St} {x1 : Int32}  (K : Cm ω κ l yX7_hasMatter cX7_hasMatter 2 d (some .boolean) post)
    (k2 : post (some (.int (if (x1 < 0) then (0 : Int32) else (if ((σ.1 641) ≤ x1) then (0 : Int32) else (1 : Int32))))) σ) :
    V ω κ 0 [(0, .ref (ω.2.2.1 10)), (1, .int x1)] [] σ := by
  refine V_iload_n 1 K.1 dX7_hasMatter_0 rfl rfl ?_
  refine V_join (J := 17) (S := []) (v := .int (if (x1 < 0) then (0 : Int32) else (if ((σ.1 641) ≤ x1) then (0 : Int32) else (1 : Int32)))) (fun hJ1 => ?_) ?_
  · refine V_if_lt (tgt := 16) K.1 dX7_hasMatter_1 (by decide) (fun c1 => ?_) (fun c1 => ?_)
    · refine V_iconst (v := 0) K.1 dX7_hasMatter_16 (by decide) ?_
      exact V_top (if_pos c1) hJ1
    · refine V_iload_n 1 K.1 dX7_hasMatter_4 rfl rfl ?_
      refine V_aload_n 0 K.1 dX7_hasMatter_5 rfl rfl ?_
      refine V_get (v := .int (σ.1 641)) K.1 dX7_hasMatter_6 rfl rfl fw_X7_25 rfl rfl ?_
      refine V_icmp_ge (tgt := 16) K.1 dX7_hasMatter_9 (by decide) (fun c9 => ?_) (fun c9 => ?_)
      · refine V_iconst (v := 0) K.1 dX7_hasMatter_16 (by decide) ?_
        exact V_top ((if_neg c1).trans (if_pos c9)) hJ1
      · refine V_iconst (v := 1) K.1 dX7_hasMatter_12 (by decide) ?_
        refine V_goto (tgt := 17) K.1 dX7_hasMatter_13 (by decide) ?_
        exact V_top ((if_neg c1).trans (if_neg c9)) hJ1
  exact V_zret K dX7_hasMatter_17 (by (repeat' split) <;> first | exact Or.inl rfl | exact Or.inr rfl) k2
theorem m_X7_hasMatter {ω : WT} {l : Launch} {d : Nat} {σ : St} {x1 : Int32}  (hWf : Wf ω) (hd : 0 ≤ d) :
    Sp ω l yX7_hasMatter cX7_hasMatter 2 (some .boolean) d [.ref (ω.2.2.1 10), .int x1] σ (rI (if (x1 < 0) then (0 : Int32) else (if ((σ.1 641) ≤ x1) then (0 : Int32) else (1 : Int32))) σ) :=
  Sp.of (by decide) (Nat.le_of_ble_eq_true rfl) hWf (fun κ K => R_X7_hasMatter_0  K ⟨rfl, rfl⟩)
set_option maxRecDepth 20000 in
theorem R_X7_everybody_0 {ω : WT} {κ : KT} {l : Launch} {d : Nat} {post : Option Value → St → Prop} {σ : St}  (K : Cm ω κ l yX7_everybody cX7_everybody 1 d (some .int) post)
    (k1 : post (some (.int (((1 : Int32) <<< ((σ.1 640) &&& 31)) - (1 : Int32)))) σ) :
    V ω κ 0 [(0, .ref (ω.2.2.1 10))] [] σ := by
  refine V_iconst (v := 1) K.1 dX7_everybody_0 (by decide) ?_
  refine V_aload_n 0 K.1 dX7_everybody_1 rfl rfl ?_
  refine V_get (v := .int (σ.1 640)) K.1 dX7_everybody_2 rfl rfl fw_X7_21 rfl rfl ?_
  refine V_ishl K.1 dX7_everybody_5 ?_
  refine V_iconst (v := 1) K.1 dX7_everybody_6 (by decide) ?_
  refine V_isub K.1 dX7_everybody_7 ?_
  exact V_iret K dX7_everybody_8 k1
theorem m_X7_everybody {ω : WT} {l : Launch} {d : Nat} {σ : St}  (hWf : Wf ω) (hd : 0 ≤ d) :
    Sp ω l yX7_everybody cX7_everybody 1 (some .int) d [.ref (ω.2.2.1 10)] σ (rI (((1 : Int32) <<< ((σ.1 640) &&& 31)) - (1 : Int32)) σ) :=
  Sp.of (by decide) (Nat.le_of_ble_eq_true rfl) hWf (fun κ K => R_X7_everybody_0  K ⟨rfl, rfl⟩)
set_option maxRecDepth 20000 in
theorem R_X7_wishesYes_0 {ω : WT} {κ : KT} {l : Launch} {d : Nat} {post : Option Value → St → Prop} {σ : St} {x1 x2 : Int32}  (K : Cm ω κ l yX7_wishesYes cX7_wishesYes 3 d (some .boolean) post)
    (b1 : vp_in x2 6)
    (k3 : post (some (.int (if ((((σ.2.1 12 (x2).toNatClampNeg) >>> (x1 &&& 31)) &&& (1 : Int32)) = 0) then (0 : Int32) else (1 : Int32)))) σ) :
    V ω κ 0 [(0, .ref (ω.2.2.1 10)), (1, .int x1), (2, .int x2)] [] σ := by
  refine V_aload_n 0 K.1 dX7_wishesYes_0 rfl rfl ?_
  refine V_get (v := .ref (ω.2.2.1 12)) K.1 dX7_wishesYes_1 rfl rfl fw_X7_15 rfl rfl ?_
  refine V_iload_n 2 K.1 dX7_wishesYes_4 rfl rfl ?_
  refine V_iaload (v := (σ.2.1 12 (x2).toNatClampNeg)) K.1 dX7_wishesYes_5 rfl b1 rfl ?_
  refine V_iload_n 1 K.1 dX7_wishesYes_6 rfl rfl ?_
  refine V_ishr K.1 dX7_wishesYes_7 ?_
  refine V_iconst (v := 1) K.1 dX7_wishesYes_8 (by decide) ?_
  refine V_iand K.1 dX7_wishesYes_9 ?_
  refine V_join (J := 18) (S := []) (v := .int (if ((((σ.2.1 12 (x2).toNatClampNeg) >>> (x1 &&& 31)) &&& (1 : Int32)) = 0) then (0 : Int32) else (1 : Int32))) (fun hJ2 => ?_) ?_
  · refine V_if_eq (tgt := 17) K.1 dX7_wishesYes_10 (by decide) (fun c10 => ?_) (fun c10 => ?_)
    · refine V_iconst (v := 0) K.1 dX7_wishesYes_17 (by decide) ?_
      exact V_top (if_pos c10) hJ2
    · refine V_iconst (v := 1) K.1 dX7_wishesYes_13 (by decide) ?_
      refine V_goto (tgt := 18) K.1 dX7_wishesYes_14 (by decide) ?_
      exact V_top (if_neg c10) hJ2
  exact V_zret K dX7_wishesYes_18 (by (repeat' split) <;> first | exact Or.inl rfl | exact Or.inr rfl) k3
theorem m_X7_wishesYes {ω : WT} {l : Launch} {d : Nat} {σ : St} {x1 x2 : Int32}  (hWf : Wf ω) (hd : 0 ≤ d) (b1 : vp_in x2 6) :
    Sp ω l yX7_wishesYes cX7_wishesYes 3 (some .boolean) d [.ref (ω.2.2.1 10), .int x1, .int x2] σ (rI (if ((((σ.2.1 12 (x2).toNatClampNeg) >>> (x1 &&& 31)) &&& (1 : Int32)) = 0) then (0 : Int32) else (1 : Int32)) σ) :=
  Sp.of (by decide) (Nat.le_of_ble_eq_true rfl) hWf (fun κ K => R_X7_wishesYes_0  K b1 ⟨rfl, rfl⟩)
set_option maxRecDepth 20000 in
theorem R_X7_isDigitOfMatters_0 {ω : WT} {κ : KT} {l : Launch} {d : Nat} {post : Option Value → St → Prop} {σ : St} {x0 : Int32}  (K : Cm ω κ l yX7_isDigitOfMatters cX7_isDigitOfMatters 1 d (some .boolean) post)
    (k2 : post (some (.int (if (x0 < (49 : Int32)) then (0 : Int32) else (if ((54 : Int32) < x0) then (0 : Int32) else (1 : Int32))))) σ) :
    V ω κ 0 [(0, .int x0)] [] σ := by
  refine V_iload_n 0 K.1 dX7_isDigitOfMatters_0 rfl rfl ?_
  refine V_bipush (v := 49) K.1 dX7_isDigitOfMatters_1 (by decide) ?_
  refine V_join (J := 17) (S := []) (v := .int (if (x0 < (49 : Int32)) then (0 : Int32) else (if ((54 : Int32) < x0) then (0 : Int32) else (1 : Int32)))) (fun hJ1 => ?_) ?_
  · refine V_icmp_lt (tgt := 16) K.1 dX7_isDigitOfMatters_3 (by decide) (fun c3 => ?_) (fun c3 => ?_)
    · refine V_iconst (v := 0) K.1 dX7_isDigitOfMatters_16 (by decide) ?_
      exact V_top (if_pos c3) hJ1
    · refine V_iload_n 0 K.1 dX7_isDigitOfMatters_6 rfl rfl ?_
      refine V_bipush (v := 54) K.1 dX7_isDigitOfMatters_7 (by decide) ?_
      refine V_icmp_gt (tgt := 16) K.1 dX7_isDigitOfMatters_9 (by decide) (fun c9 => ?_) (fun c9 => ?_)
      · refine V_iconst (v := 0) K.1 dX7_isDigitOfMatters_16 (by decide) ?_
        exact V_top ((if_neg c3).trans (if_pos c9)) hJ1
      · refine V_iconst (v := 1) K.1 dX7_isDigitOfMatters_12 (by decide) ?_
        refine V_goto (tgt := 17) K.1 dX7_isDigitOfMatters_13 (by decide) ?_
        exact V_top ((if_neg c3).trans (if_neg c9)) hJ1
  exact V_zret K dX7_isDigitOfMatters_17 (by (repeat' split) <;> first | exact Or.inl rfl | exact Or.inr rfl) k2
theorem m_X7_isDigitOfMatters {ω : WT} {l : Launch} {d : Nat} {σ : St} {x0 : Int32}  (hWf : Wf ω) (hd : 0 ≤ d) :
    Sp ω l yX7_isDigitOfMatters cX7_isDigitOfMatters 1 (some .boolean) d [.int x0] σ (rI (if (x0 < (49 : Int32)) then (0 : Int32) else (if ((54 : Int32) < x0) then (0 : Int32) else (1 : Int32))) σ) :=
  Sp.of (by decide) (Nat.le_of_ble_eq_true rfl) hWf (fun κ K => R_X7_isDigitOfMatters_0  K ⟨rfl, rfl⟩)
set_option maxRecDepth 20000 in
theorem R_X7_kindOf_0 {ω : WT} {κ : KT} {l : Launch} {d : Nat} {post : Option Value → St → Prop} {σ : St} {x0 : Int32}  (K : Cm ω κ l yX7_kindOf cX7_kindOf 1 d (some .int) post)
    (k1 : (x0 = 99) → post (some (.int (2 : Int32))) σ)
    (k2 : ¬ (x0 = 99) → (x0 = 102) → post (some (.int (1 : Int32))) σ)
    (k3 : ¬ (x0 = 99) → ¬ (x0 = 102) → (x0 = 104) → post (some (.int (0 : Int32))) σ)
    (k4 : ¬ (x0 = 99) → ¬ (x0 = 102) → ¬ (x0 = 104) → post (some (.int (-1 : Int32))) σ) :
    V ω κ 0 [(0, .int x0)] [] σ := by
  refine V_iload_n 0 K.1 dX7_kindOf_0 rfl rfl ?_
  by_cases c1_99 : x0 = 99
  · refine V_lookup (off := 39) (tgt := 40) K.1 dX7_kindOf_1 (by decide) (by rw [c1_99]; decide) (by decide) ?_
    refine V_iconst (v := 2) K.1 dX7_kindOf_40 (by decide) ?_
    exact V_iret K dX7_kindOf_41 (k1 c1_99)
  by_cases c1_102 : x0 = 102
  · refine V_lookup (off := 37) (tgt := 38) K.1 dX7_kindOf_1 (by decide) (by rw [c1_102]; decide) (by decide) ?_
    refine V_iconst (v := 1) K.1 dX7_kindOf_38 (by decide) ?_
    exact V_iret K dX7_kindOf_39 (k2 c1_99 c1_102)
  by_cases c1_104 : x0 = 104
  · refine V_lookup (off := 35) (tgt := 36) K.1 dX7_kindOf_1 (by decide) (by rw [c1_104]; decide) (by decide) ?_
    refine V_iconst (v := 0) K.1 dX7_kindOf_36 (by decide) ?_
    exact V_iret K dX7_kindOf_37 (k3 c1_99 c1_102 c1_104)
  refine V_lookup (off := 41) (tgt := 42) K.1 dX7_kindOf_1 (by decide) (by show Op.lookupswitch.offset [(99, 39), (102, 37), (104, 35)] 41 _ = _; rw [lv_osw c1_99 (by decide), lv_osw c1_102 (by decide), lv_osw c1_104 (by decide)]; rfl) (by decide) ?_
  refine V_iconst (v := -1) K.1 dX7_kindOf_42 (by decide) ?_
  exact V_iret K dX7_kindOf_43 (k4 c1_99 c1_102 c1_104)
theorem m_X7_kindOf {ω : WT} {l : Launch} {d : Nat} {σ : St} {x0 : Int32}  (hWf : Wf ω) (hd : 0 ≤ d) :
    Sp ω l yX7_kindOf cX7_kindOf 1 (some .int) d [.int x0] σ (rI (if (x0 = 99) then (2 : Int32) else (if (x0 = 102) then (1 : Int32) else (if (x0 = 104) then (0 : Int32) else (-1 : Int32)))) σ) :=
  Sp.of (by decide) (Nat.le_of_ble_eq_true rfl) hWf (fun κ K => R_X7_kindOf_0  K (fun c1_99 => ⟨congrArg (fun z => some (Value.int z)) ((if_pos c1_99)).symm, rfl⟩) (fun c1_99 c1_102 => ⟨congrArg (fun z => some (Value.int z)) (((if_neg c1_99).trans (if_pos c1_102))).symm, rfl⟩) (fun c1_99 c1_102 c1_104 => ⟨congrArg (fun z => some (Value.int z)) ((((if_neg c1_99).trans (if_neg c1_102)).trans (if_pos c1_104))).symm, rfl⟩) (fun c1_99 c1_102 c1_104 => ⟨congrArg (fun z => some (Value.int z)) ((((if_neg c1_99).trans (if_neg c1_102)).trans (if_neg c1_104))).symm, rfl⟩))
set_option maxRecDepth 20000 in
theorem R_X7_goesOn_0 {ω : WT} {κ : KT} {l : Launch} {d : Nat} {post : Option Value → St → Prop} {σ : St} {x0 x1 : Int32}  (K : Cm ω κ l yX7_goesOn cX7_goesOn 2 d (some .boolean) post) (hdp : 1 ≤ d)
    (k2 : (x0 = 0) → post (some (.int (if (x1 = (59 : Int32)) then (1 : Int32) else (0 : Int32)))) σ)
    (z4 : ¬ (x0 = 0) → (x0 = 1) → (if ((if (x1 = 99) then (2 : Int32) else (if (x1 = 102) then (1 : Int32) else (if (x1 = 104) then (0 : Int32) else (-1 : Int32)))) < 0) then (0 : Int32) else (1 : Int32)) = 0 ∨ (if ((if (x1 = 99) then (2 : Int32) else (if (x1 = 102) then (1 : Int32) else (if (x1 = 104) then (0 : Int32) else (-1 : Int32)))) < 0) then (0 : Int32) else (1 : Int32)) = 1)
    (k5 : ¬ (x0 = 0) → (x0 = 1) → post (some (.int (if ((if (x1 = 99) then (2 : Int32) else (if (x1 = 102) then (1 : Int32) else (if (x1 = 104) then (0 : Int32) else (-1 : Int32)))) < 0) then (0 : Int32) else (1 : Int32)))) σ)
    (k7 : ¬ (x0 = 0) → ¬ (x0 = 1) → post (some (.int (if (x1 = (121 : Int32)) then (1 : Int32) else (if (x1 = (110 : Int32)) then (1 : Int32) else (0 : Int32))))) σ) :
    V ω κ 0 [(0, .int x0), (1, .int x1)] [] σ := by
  refine V_iload_n 0 K.1 dX7_goesOn_0 rfl rfl ?_
  by_cases c1_0 : x0 = 0
  · refine V_lookup (off := 27) (tgt := 28) K.1 dX7_goesOn_1 (by decide) (by rw [c1_0]; decide) (by decide) ?_
    refine V_iload_n 1 K.1 dX7_goesOn_28 rfl rfl ?_
    refine V_bipush (v := 59) K.1 dX7_goesOn_29 (by decide) ?_
    refine V_join (J := 39) (S := []) (v := .int (if (x1 = (59 : Int32)) then (1 : Int32) else (0 : Int32))) (fun hJ1 => ?_) ?_
    · refine V_icmp_ne (tgt := 38) K.1 dX7_goesOn_31 (by decide) (fun c31 => ?_) (fun c31 => ?_)
      · refine V_iconst (v := 0) K.1 dX7_goesOn_38 (by decide) ?_
        exact V_top (if_neg c31) hJ1
      · refine V_iconst (v := 1) K.1 dX7_goesOn_34 (by decide) ?_
        refine V_goto (tgt := 39) K.1 dX7_goesOn_35 (by decide) ?_
        exact V_top (if_pos c31) hJ1
    exact V_zret K dX7_goesOn_39 (by (repeat' split) <;> first | exact Or.inl rfl | exact Or.inr rfl) (k2 c1_0)
  by_cases c1_1 : x0 = 1
  · refine V_lookup (off := 39) (tgt := 40) K.1 dX7_goesOn_1 (by decide) (by rw [c1_1]; decide) (by decide) ?_
    refine V_iload_n 1 K.1 dX7_goesOn_40 rfl rfl ?_
    refine V_callS (d' := d - 1) (As := [.int x1]) K.1 dX7_goesOn_41 cw_X7_45 rfl (by omega) rfl (by simp [Value.category]) (m_X7_kindOf K.1.wf (by omega)) (go_I ?_)
    refine V_join (J := 52) (S := []) (v := .int (if ((if (x1 = 99) then (2 : Int32) else (if (x1 = 102) then (1 : Int32) else (if (x1 = 104) then (0 : Int32) else (-1 : Int32)))) < 0) then (0 : Int32) else (1 : Int32))) (fun hJ3 => ?_) ?_
    · refine V_if_lt (tgt := 51) K.1 dX7_goesOn_44 (by decide) (fun c44 => ?_) (fun c44 => ?_)
      · refine V_iconst (v := 0) K.1 dX7_goesOn_51 (by decide) ?_
        exact V_top (if_pos c44) hJ3
      · refine V_iconst (v := 1) K.1 dX7_goesOn_47 (by decide) ?_
        refine V_goto (tgt := 52) K.1 dX7_goesOn_48 (by decide) ?_
        exact V_top (if_neg c44) hJ3
    exact V_zret K dX7_goesOn_52 (z4 c1_0 c1_1) (k5 c1_0 c1_1)
  refine V_lookup (off := 52) (tgt := 53) K.1 dX7_goesOn_1 (by decide) (by show Op.lookupswitch.offset [(0, 27), (1, 39)] 52 _ = _; rw [lv_osw c1_0 (by decide), lv_osw c1_1 (by decide)]; rfl) (by decide) ?_
  refine V_iload_n 1 K.1 dX7_goesOn_53 rfl rfl ?_
  refine V_bipush (v := 121) K.1 dX7_goesOn_54 (by decide) ?_
  refine V_join (J := 70) (S := []) (v := .int (if (x1 = (121 : Int32)) then (1 : Int32) else (if (x1 = (110 : Int32)) then (1 : Int32) else (0 : Int32)))) (fun hJ6 => ?_) ?_
  · refine V_icmp_eq (tgt := 65) K.1 dX7_goesOn_56 (by decide) (fun c56 => ?_) (fun c56 => ?_)
    · refine V_iconst (v := 1) K.1 dX7_goesOn_65 (by decide) ?_
      refine V_goto (tgt := 70) K.1 dX7_goesOn_66 (by decide) ?_
      exact V_top (if_pos c56) hJ6
    · refine V_iload_n 1 K.1 dX7_goesOn_59 rfl rfl ?_
      refine V_bipush (v := 110) K.1 dX7_goesOn_60 (by decide) ?_
      refine V_icmp_ne (tgt := 69) K.1 dX7_goesOn_62 (by decide) (fun c62 => ?_) (fun c62 => ?_)
      · refine V_iconst (v := 0) K.1 dX7_goesOn_69 (by decide) ?_
        exact V_top ((if_neg c56).trans (if_neg c62)) hJ6
      · refine V_iconst (v := 1) K.1 dX7_goesOn_65 (by decide) ?_
        refine V_goto (tgt := 70) K.1 dX7_goesOn_66 (by decide) ?_
        exact V_top ((if_neg c56).trans (if_pos c62)) hJ6
  exact V_zret K dX7_goesOn_70 (by (repeat' split) <;> first | exact Or.inl rfl | exact Or.inr rfl) (k7 c1_0 c1_1)
theorem m_X7_goesOn {ω : WT} {l : Launch} {d : Nat} {σ : St} {x0 x1 : Int32}  (hWf : Wf ω) (hd : 1 ≤ d) (z4 : ¬ (x0 = 0) → (x0 = 1) → (if ((if (x1 = 99) then (2 : Int32) else (if (x1 = 102) then (1 : Int32) else (if (x1 = 104) then (0 : Int32) else (-1 : Int32)))) < 0) then (0 : Int32) else (1 : Int32)) = 0 ∨ (if ((if (x1 = 99) then (2 : Int32) else (if (x1 = 102) then (1 : Int32) else (if (x1 = 104) then (0 : Int32) else (-1 : Int32)))) < 0) then (0 : Int32) else (1 : Int32)) = 1) :
    Sp ω l yX7_goesOn cX7_goesOn 2 (some .boolean) d [.int x0, .int x1] σ (rI (if (x0 = 0) then (if (x1 = (59 : Int32)) then (1 : Int32) else (0 : Int32)) else (if (x0 = 1) then (if ((if (x1 = 99) then (2 : Int32) else (if (x1 = 102) then (1 : Int32) else (if (x1 = 104) then (0 : Int32) else (-1 : Int32)))) < 0) then (0 : Int32) else (1 : Int32)) else (if (x1 = (121 : Int32)) then (1 : Int32) else (if (x1 = (110 : Int32)) then (1 : Int32) else (0 : Int32))))) σ) :=
  Sp.of (by decide) (Nat.le_of_ble_eq_true rfl) hWf (fun κ K => R_X7_goesOn_0  K hd (fun c1_0 => ⟨congrArg (fun z => some (Value.int z)) ((if_pos c1_0)).symm, rfl⟩) z4 (fun c1_0 c1_1 => ⟨congrArg (fun z => some (Value.int z)) (((if_neg c1_0).trans (if_pos c1_1))).symm, rfl⟩) (fun c1_0 c1_1 => ⟨congrArg (fun z => some (Value.int z)) (((if_neg c1_0).trans (if_neg c1_1))).symm, rfl⟩))
set_option maxRecDepth 20000 in
theorem R_X7_settle_0 {ω : WT} {κ : KT} {l : Launch} {d : Nat} {post : Option Value → St → Prop} {σ : St} {x1 : Int32}  (K : Cm ω κ l yX7_settle cX7_settle 2 d none post)
    (b1 : vp_in (σ.1 640) 8)
    (k2 : (x1 = 0) → ¬ (x1 = (2 : Int32)) → post none (pA σ 11 ((σ.1 640)).toNatClampNeg x1))
    (k3 : (x1 = 0) → (x1 = (2 : Int32)) → post none (pS (pA σ 11 ((σ.1 640)).toNatClampNeg x1) 645 ((σ.1 645) ||| ((1 : Int32) <<< ((σ.1 640) &&& 31)))))
    (k4 : ¬ (x1 = 0) → ¬ (x1 = (2 : Int32)) → post none (pS (pA σ 11 ((σ.1 640)).toNatClampNeg x1) 646 ((σ.1 646) ||| ((1 : Int32) <<< ((σ.1 640) &&& 31)))))
    (k5 : ¬ (x1 = 0) → (x1 = (2 : Int32)) → post none (pS (pS (pA σ 11 ((σ.1 640)).toNatClampNeg x1) 646 ((σ.1 646) ||| ((1 : Int32) <<< ((σ.1 640) &&& 31)))) 645 ((σ.1 645) ||| ((1 : Int32) <<< ((σ.1 640) &&& 31))))) :
    V ω κ 0 [(0, .ref (ω.2.2.1 10)), (1, .int x1)] [] σ := by
  refine V_aload_n 0 K.1 dX7_settle_0 rfl rfl ?_
  refine V_get (v := .ref (ω.2.2.1 11)) K.1 dX7_settle_1 rfl rfl fw_X7_9 rfl rfl ?_
  refine V_aload_n 0 K.1 dX7_settle_4 rfl rfl ?_
  refine V_get (v := .int (σ.1 640)) K.1 dX7_settle_5 rfl rfl fw_X7_21 rfl rfl ?_
  refine V_iload_n 1 K.1 dX7_settle_8 rfl rfl ?_
  refine V_iastore K.1 dX7_settle_9 rfl b1 ?_
  refine V_iload_n 1 K.1 dX7_settle_10 rfl rfl ?_
  refine V_if_eq (tgt := 29) K.1 dX7_settle_11 (by decide) (fun c11 => ?_) (fun c11 => ?_)
  · refine V_iload_n 1 K.1 dX7_settle_29 rfl rfl ?_
    refine V_iconst (v := 2) K.1 dX7_settle_30 (by decide) ?_
    refine V_icmp_ne (tgt := 49) K.1 dX7_settle_31 (by decide) (fun c31 => ?_) (fun c31 => ?_)
    · exact V_vret K dX7_settle_49 (k2 c11 c31)
    · refine V_aload_n 0 K.1 dX7_settle_34 rfl rfl ?_
      refine V_dup K.1 dX7_settle_35 rfl ?_
      refine V_get (v := .int (σ.1 645)) K.1 dX7_settle_36 rfl rfl fw_X7_67 rfl rfl ?_
      refine V_iconst (v := 1) K.1 dX7_settle_39 (by decide) ?_
      refine V_aload_n 0 K.1 dX7_settle_40 rfl rfl ?_
      refine V_get (v := .int (σ.1 640)) K.1 dX7_settle_41 rfl rfl fw_X7_21 rfl rfl ?_
      refine V_ishl K.1 dX7_settle_44 ?_
      refine V_ior K.1 dX7_settle_45 ?_
      refine V_putI (key := 645) K.1 dX7_settle_46 rfl rfl fw_X7_67 pw_X7_5 rfl rfl rfl rfl ?_
      exact V_vret K dX7_settle_49 (k3 c11 c31)
  · refine V_aload_n 0 K.1 dX7_settle_14 rfl rfl ?_
    refine V_dup K.1 dX7_settle_15 rfl ?_
    refine V_get (v := .int (σ.1 646)) K.1 dX7_settle_16 rfl rfl fw_X7_70 rfl rfl ?_
    refine V_iconst (v := 1) K.1 dX7_settle_19 (by decide) ?_
    refine V_aload_n 0 K.1 dX7_settle_20 rfl rfl ?_
    refine V_get (v := .int (σ.1 640)) K.1 dX7_settle_21 rfl rfl fw_X7_21 rfl rfl ?_
    refine V_ishl K.1 dX7_settle_24 ?_
    refine V_ior K.1 dX7_settle_25 ?_
    refine V_putI (key := 646) K.1 dX7_settle_26 rfl rfl fw_X7_70 pw_X7_6 rfl rfl rfl rfl ?_
    refine V_iload_n 1 K.1 dX7_settle_29 rfl rfl ?_
    refine V_iconst (v := 2) K.1 dX7_settle_30 (by decide) ?_
    refine V_icmp_ne (tgt := 49) K.1 dX7_settle_31 (by decide) (fun c31 => ?_) (fun c31 => ?_)
    · exact V_vret K dX7_settle_49 (k4 c11 c31)
    · refine V_aload_n 0 K.1 dX7_settle_34 rfl rfl ?_
      refine V_dup K.1 dX7_settle_35 rfl ?_
      refine V_get (v := .int (σ.1 645)) K.1 dX7_settle_36 rfl rfl fw_X7_67 rfl rfl ?_
      refine V_iconst (v := 1) K.1 dX7_settle_39 (by decide) ?_
      refine V_aload_n 0 K.1 dX7_settle_40 rfl rfl ?_
      refine V_get (v := .int (σ.1 640)) K.1 dX7_settle_41 rfl rfl fw_X7_21 rfl rfl ?_
      refine V_ishl K.1 dX7_settle_44 ?_
      refine V_ior K.1 dX7_settle_45 ?_
      refine V_putI (key := 645) K.1 dX7_settle_46 rfl rfl fw_X7_67 pw_X7_5 rfl rfl rfl rfl ?_
      exact V_vret K dX7_settle_49 (k5 c11 c31)
theorem m_X7_settle {ω : WT} {l : Launch} {d : Nat} {σ : St} {x1 : Int32}  (hWf : Wf ω) (hd : 0 ≤ d) (b1 : vp_in (σ.1 640) 8) :
    Sp ω l yX7_settle cX7_settle 2 none d [.ref (ω.2.2.1 10), .int x1] σ (rV (if (x1 = 0) then (if (x1 = (2 : Int32)) then (pS (pA σ 11 ((σ.1 640)).toNatClampNeg x1) 645 ((σ.1 645) ||| ((1 : Int32) <<< ((σ.1 640) &&& 31)))) else (pA σ 11 ((σ.1 640)).toNatClampNeg x1)) else (if (x1 = (2 : Int32)) then (pS (pS (pA σ 11 ((σ.1 640)).toNatClampNeg x1) 646 ((σ.1 646) ||| ((1 : Int32) <<< ((σ.1 640) &&& 31)))) 645 ((σ.1 645) ||| ((1 : Int32) <<< ((σ.1 640) &&& 31)))) else (pS (pA σ 11 ((σ.1 640)).toNatClampNeg x1) 646 ((σ.1 646) ||| ((1 : Int32) <<< ((σ.1 640) &&& 31))))))) :=
  Sp.of (by decide) (Nat.le_of_ble_eq_true rfl) hWf (fun κ K => R_X7_settle_0  K b1 (fun c11 c31 => ⟨rfl, (((if_pos c11).trans (if_neg c31))).symm⟩) (fun c11 c31 => ⟨rfl, (((if_pos c11).trans (if_pos c31))).symm⟩) (fun c11 c31 => ⟨rfl, (((if_neg c11).trans (if_neg c31))).symm⟩) (fun c11 c31 => ⟨rfl, (((if_neg c11).trans (if_pos c31))).symm⟩))
set_option maxRecDepth 20000 in
theorem R_X2_useRules_0 {ω : WT} {κ : KT} {l : Launch} {d : Nat} {post : Option Value → St → Prop} {σ : St} {x1 x2 : Int32}  (K : Cm ω κ l yX2_useRules cX2_useRules 3 d none post)
    (k1 : post none (pS (pS σ 897 x1) 898 x2)) :
    V ω κ 0 [(0, .ref (ω.2.2.1 14)), (1, .int x1), (2, .int x2)] [] σ := by
  refine V_aload_n 0 K.1 dX2_useRules_0 rfl rfl ?_
  refine V_iload_n 1 K.1 dX2_useRules_1 rfl rfl ?_
  refine V_putI (key := 897) K.1 dX2_useRules_2 rfl rfl fw_X2_15 pw_X2_1 rfl rfl rfl rfl ?_
  refine V_aload_n 0 K.1 dX2_useRules_5 rfl rfl ?_
  refine V_iload_n 2 K.1 dX2_useRules_6 rfl rfl ?_
  refine V_putI (key := 898) K.1 dX2_useRules_7 rfl rfl fw_X2_19 pw_X2_2 rfl rfl rfl rfl ?_
  exact V_vret K dX2_useRules_10 k1
theorem m_X2_useRules {ω : WT} {l : Launch} {d : Nat} {σ : St} {x1 x2 : Int32}  (hWf : Wf ω) (hd : 0 ≤ d) :
    Sp ω l yX2_useRules cX2_useRules 3 none d [.ref (ω.2.2.1 14), .int x1, .int x2] σ (rV (pS (pS σ 897 x1) 898 x2)) :=
  Sp.of (by decide) (Nat.le_of_ble_eq_true rfl) hWf (fun κ K => R_X2_useRules_0  K ⟨rfl, rfl⟩)
set_option maxRecDepth 20000 in
theorem R_X2_useOwnRules_0 {ω : WT} {κ : KT} {l : Launch} {d : Nat} {post : Option Value → St → Prop} {σ : St}  (K : Cm ω κ l yX2_useOwnRules cX2_useOwnRules 1 d none post) (hdp : 1 ≤ d)
    (k1 : post none (pS (pS σ 897 (σ.1 642)) 898 (σ.1 643))) :
    V ω κ 0 [(0, .ref (ω.2.2.1 14))] [] σ := by
  refine V_aload_n 0 K.1 dX2_useOwnRules_0 rfl rfl ?_
  refine V_aload_n 0 K.1 dX2_useOwnRules_1 rfl rfl ?_
  refine V_get (v := .ref (ω.2.2.1 10)) K.1 dX2_useOwnRules_2 rfl rfl fw_X2_9 rfl rfl ?_
  refine V_get (v := .int (σ.1 642)) K.1 dX2_useOwnRules_5 rfl rfl fw_X2_22 rfl rfl ?_
  refine V_aload_n 0 K.1 dX2_useOwnRules_8 rfl rfl ?_
  refine V_get (v := .ref (ω.2.2.1 10)) K.1 dX2_useOwnRules_9 rfl rfl fw_X2_9 rfl rfl ?_
  refine V_get (v := .int (σ.1 643)) K.1 dX2_useOwnRules_12 rfl rfl fw_X2_25 rfl rfl ?_
  refine V_callV (d' := d - 1) (As := [.int (σ.1 642), .int (σ.1 643)]) K.1 dX2_useOwnRules_15 cw_X2_26 rfl rfl rfl (by omega) rfl (by simp [Value.category]) (m_X2_useRules K.1.wf (by omega)) (go_V ?_)
  exact V_vret K dX2_useOwnRules_18 k1
theorem m_X2_useOwnRules {ω : WT} {l : Launch} {d : Nat} {σ : St}  (hWf : Wf ω) (hd : 1 ≤ d) :
    Sp ω l yX2_useOwnRules cX2_useOwnRules 1 none d [.ref (ω.2.2.1 14)] σ (rV (pS (pS σ 897 (σ.1 642)) 898 (σ.1 643))) :=
  Sp.of (by decide) (Nat.le_of_ble_eq_true rfl) hWf (fun κ K => R_X2_useOwnRules_0  K hd ⟨rfl, rfl⟩)
set_option maxRecDepth 20000 in
theorem R_X2_sittingAt_0 {ω : WT} {κ : KT} {l : Launch} {d : Nat} {post : Option Value → St → Prop} {σ : St} {x0 : Int32}  (K : Cm ω κ l yX2_sittingAt cX2_sittingAt 1 d (some .int) post)
    (k1 : post (some (.int (x0 &&& (255 : Int32)))) σ) :
    V ω κ 0 [(0, .int x0)] [] σ := by
  refine V_iload_n 0 K.1 dX2_sittingAt_0 rfl rfl ?_
  refine V_sipush (v := 255) K.1 dX2_sittingAt_1 (by decide) ?_
  refine V_iand K.1 dX2_sittingAt_4 ?_
  exact V_iret K dX2_sittingAt_5 k1
theorem m_X2_sittingAt {ω : WT} {l : Launch} {d : Nat} {σ : St} {x0 : Int32}  (hWf : Wf ω) (hd : 0 ≤ d) :
    Sp ω l yX2_sittingAt cX2_sittingAt 1 (some .int) d [.int x0] σ (rI (x0 &&& (255 : Int32)) σ) :=
  Sp.of (by decide) (Nat.le_of_ble_eq_true rfl) hWf (fun κ K => R_X2_sittingAt_0  K ⟨rfl, rfl⟩)
set_option maxRecDepth 20000 in
theorem R_X2_seatsFor_0 {ω : WT} {κ : KT} {l : Launch} {d : Nat} {post : Option Value → St → Prop} {σ : St} {x1 x2 : Int32}  (K : Cm ω κ l yX2_seatsFor cX2_seatsFor 3 d (some .int) post)
    (k1 : ((σ.1 897) = 0) → post (some (.int (x1 - x2))) σ)
    (k2 : ¬ ((σ.1 897) = 0) → ((σ.1 897) = 1) → post (some (.int x1)) σ)
    (k3 : ¬ ((σ.1 897) = 0) → ¬ ((σ.1 897) = 1) → ((σ.1 897) = 2) → post (some (.int x2)) σ)
    (k4 : ¬ ((σ.1 897) = 0) → ¬ ((σ.1 897) = 1) → ¬ ((σ.1 897) = 2) → post (some (.int ((2 : Int32) * (x1 - x2)))) σ) :
    V ω κ 0 [(0, .ref (ω.2.2.1 14)), (1, .int x1), (2, .int x2)] [] σ := by
  refine V_aload_n 0 K.1 dX2_seatsFor_0 rfl rfl ?_
  refine V_get (v := .int (σ.1 897)) K.1 dX2_seatsFor_1 rfl rfl fw_X2_15 rfl rfl ?_
  by_cases c4_0 : (σ.1 897) = 0
  · refine V_tableIn (off := 28) (tgt := 32) K.1 dX2_seatsFor_4 (by rw [c4_0]; decide) (by rw [c4_0]; decide) (by rw [c4_0]; decide) (by decide) ?_
    refine V_iload_n 1 K.1 dX2_seatsFor_32 rfl rfl ?_
    refine V_iload_n 2 K.1 dX2_seatsFor_33 rfl rfl ?_
    refine V_isub K.1 dX2_seatsFor_34 ?_
    exact V_iret K dX2_seatsFor_35 (k1 c4_0)
  by_cases c4_1 : (σ.1 897) = 1
  · refine V_tableIn (off := 32) (tgt := 36) K.1 dX2_seatsFor_4 (by rw [c4_1]; decide) (by rw [c4_1]; decide) (by rw [c4_1]; decide) (by decide) ?_
    refine V_iload_n 1 K.1 dX2_seatsFor_36 rfl rfl ?_
    exact V_iret K dX2_seatsFor_37 (k2 c4_0 c4_1)
  by_cases c4_2 : (σ.1 897) = 2
  · refine V_tableIn (off := 34) (tgt := 38) K.1 dX2_seatsFor_4 (by rw [c4_2]; decide) (by rw [c4_2]; decide) (by rw [c4_2]; decide) (by decide) ?_
    refine V_iload_n 2 K.1 dX2_seatsFor_38 rfl rfl ?_
    exact V_iret K dX2_seatsFor_39 (k3 c4_0 c4_1 c4_2)
  refine V_tableOut (tgt := 40) K.1 dX2_seatsFor_4 (by have q0 := lv_neT c4_0 (a := 0) (by decide); have q1 := lv_neT c4_1 (a := 1) (by decide); have q2 := lv_neT c4_2 (a := 2) (by decide); omega) (by decide) ?_
  refine V_iconst (v := 2) K.1 dX2_seatsFor_40 (by decide) ?_
  refine V_iload_n 1 K.1 dX2_seatsFor_41 rfl rfl ?_
  refine V_iload_n 2 K.1 dX2_seatsFor_42 rfl rfl ?_
  refine V_isub K.1 dX2_seatsFor_43 ?_
  refine V_imul K.1 dX2_seatsFor_44 ?_
  exact V_iret K dX2_seatsFor_45 (k4 c4_0 c4_1 c4_2)
theorem m_X2_seatsFor {ω : WT} {l : Launch} {d : Nat} {σ : St} {x1 x2 : Int32}  (hWf : Wf ω) (hd : 0 ≤ d) :
    Sp ω l yX2_seatsFor cX2_seatsFor 3 (some .int) d [.ref (ω.2.2.1 14), .int x1, .int x2] σ (rI (if ((σ.1 897) = 0) then (x1 - x2) else (if ((σ.1 897) = 1) then x1 else (if ((σ.1 897) = 2) then x2 else ((2 : Int32) * (x1 - x2))))) σ) :=
  Sp.of (by decide) (Nat.le_of_ble_eq_true rfl) hWf (fun κ K => R_X2_seatsFor_0  K (fun c4_0 => ⟨congrArg (fun z => some (Value.int z)) ((if_pos c4_0)).symm, rfl⟩) (fun c4_0 c4_1 => ⟨congrArg (fun z => some (Value.int z)) (((if_neg c4_0).trans (if_pos c4_1))).symm, rfl⟩) (fun c4_0 c4_1 c4_2 => ⟨congrArg (fun z => some (Value.int z)) ((((if_neg c4_0).trans (if_neg c4_1)).trans (if_pos c4_2))).symm, rfl⟩) (fun c4_0 c4_1 c4_2 => ⟨congrArg (fun z => some (Value.int z)) ((((if_neg c4_0).trans (if_neg c4_1)).trans (if_neg c4_2))).symm, rfl⟩))
set_option maxRecDepth 20000 in
theorem R_X1_isFewer_0 {ω : WT} {κ : KT} {l : Launch} {d : Nat} {post : Option Value → St → Prop} {σ : St} {x0 x1 : Int32}  (K : Cm ω κ l yX1_isFewer cX1_isFewer 2 d (some .boolean) post)
    (k2 : post (some (.int (if (x1 = (-1 : Int32)) then (1 : Int32) else (if (x1 ≤ x0) then (0 : Int32) else (1 : Int32))))) σ) :
    V ω κ 0 [(0, .int x0), (1, .int x1)] [] σ := by
  refine V_iload_n 1 K.1 dX1_isFewer_0 rfl rfl ?_
  refine V_iconst (v := -1) K.1 dX1_isFewer_1 (by decide) ?_
  refine V_join (J := 15) (S := []) (v := .int (if (x1 = (-1 : Int32)) then (1 : Int32) else (if (x1 ≤ x0) then (0 : Int32) else (1 : Int32)))) (fun hJ1 => ?_) ?_
  · refine V_icmp_eq (tgt := 10) K.1 dX1_isFewer_2 (by decide) (fun c2 => ?_) (fun c2 => ?_)
    · refine V_iconst (v := 1) K.1 dX1_isFewer_10 (by decide) ?_
      refine V_goto (tgt := 15) K.1 dX1_isFewer_11 (by decide) ?_
      exact V_top (if_pos c2) hJ1
    · refine V_iload_n 0 K.1 dX1_isFewer_5 rfl rfl ?_
      refine V_iload_n 1 K.1 dX1_isFewer_6 rfl rfl ?_
      refine V_icmp_ge (tgt := 14) K.1 dX1_isFewer_7 (by decide) (fun c7 => ?_) (fun c7 => ?_)
      · refine V_iconst (v := 0) K.1 dX1_isFewer_14 (by decide) ?_
        exact V_top ((if_neg c2).trans (if_pos c7)) hJ1
      · refine V_iconst (v := 1) K.1 dX1_isFewer_10 (by decide) ?_
        refine V_goto (tgt := 15) K.1 dX1_isFewer_11 (by decide) ?_
        exact V_top ((if_neg c2).trans (if_neg c7)) hJ1
  exact V_zret K dX1_isFewer_15 (by (repeat' split) <;> first | exact Or.inl rfl | exact Or.inr rfl) k2
theorem m_X1_isFewer {ω : WT} {l : Launch} {d : Nat} {σ : St} {x0 x1 : Int32}  (hWf : Wf ω) (hd : 0 ≤ d) :
    Sp ω l yX1_isFewer cX1_isFewer 2 (some .boolean) d [.int x0, .int x1] σ (rI (if (x1 = (-1 : Int32)) then (1 : Int32) else (if (x1 ≤ x0) then (0 : Int32) else (1 : Int32))) σ) :=
  Sp.of (by decide) (Nat.le_of_ble_eq_true rfl) hWf (fun κ K => R_X1_isFewer_0  K ⟨rfl, rfl⟩)
set_option maxRecDepth 20000 in
theorem R_X8_isSheet_0 {ω : WT} {κ : KT} {l : Launch} {d : Nat} {post : Option Value → St → Prop} {σ : St} {x0 : Int32}  (K : Cm ω κ l yX8_isSheet cX8_isSheet 1 d (some .boolean) post)
    (k2 : post (some (.int (if (x0 < 0) then (0 : Int32) else (if ((4 : Int32) ≤ x0) then (0 : Int32) else (1 : Int32))))) σ) :
    V ω κ 0 [(0, .int x0)] [] σ := by
  refine V_iload_n 0 K.1 dX8_isSheet_0 rfl rfl ?_
  refine V_join (J := 14) (S := []) (v := .int (if (x0 < 0) then (0 : Int32) else (if ((4 : Int32) ≤ x0) then (0 : Int32) else (1 : Int32)))) (fun hJ1 => ?_) ?_
  · refine V_if_lt (tgt := 13) K.1 dX8_isSheet_1 (by decide) (fun c1 => ?_) (fun c1 => ?_)
    · refine V_iconst (v := 0) K.1 dX8_isSheet_13 (by decide) ?_
      exact V_top (if_pos c1) hJ1
    · refine V_iload_n 0 K.1 dX8_isSheet_4 rfl rfl ?_
      refine V_iconst (v := 4) K.1 dX8_isSheet_5 (by decide) ?_
      refine V_icmp_ge (tgt := 13) K.1 dX8_isSheet_6 (by decide) (fun c6 => ?_) (fun c6 => ?_)
      · refine V_iconst (v := 0) K.1 dX8_isSheet_13 (by decide) ?_
        exact V_top ((if_neg c1).trans (if_pos c6)) hJ1
      · refine V_iconst (v := 1) K.1 dX8_isSheet_9 (by decide) ?_
        refine V_goto (tgt := 14) K.1 dX8_isSheet_10 (by decide) ?_
        exact V_top ((if_neg c1).trans (if_neg c6)) hJ1
  exact V_zret K dX8_isSheet_14 (by (repeat' split) <;> first | exact Or.inl rfl | exact Or.inr rfl) k2
theorem m_X8_isSheet {ω : WT} {l : Launch} {d : Nat} {σ : St} {x0 : Int32}  (hWf : Wf ω) (hd : 0 ≤ d) :
    Sp ω l yX8_isSheet cX8_isSheet 1 (some .boolean) d [.int x0] σ (rI (if (x0 < 0) then (0 : Int32) else (if ((4 : Int32) ≤ x0) then (0 : Int32) else (1 : Int32))) σ) :=
  Sp.of (by decide) (Nat.le_of_ble_eq_true rfl) hWf (fun κ K => R_X8_isSheet_0  K ⟨rfl, rfl⟩)
set_option maxRecDepth 20000 in
theorem R_X8_isSort_0 {ω : WT} {κ : KT} {l : Launch} {d : Nat} {post : Option Value → St → Prop} {σ : St} {x0 : Int32}  (K : Cm ω κ l yX8_isSort cX8_isSort 1 d (some .boolean) post)
    (k2 : post (some (.int (if (x0 < 0) then (0 : Int32) else (if ((3 : Int32) ≤ x0) then (0 : Int32) else (1 : Int32))))) σ) :
    V ω κ 0 [(0, .int x0)] [] σ := by
  refine V_iload_n 0 K.1 dX8_isSort_0 rfl rfl ?_
  refine V_join (J := 14) (S := []) (v := .int (if (x0 < 0) then (0 : Int32) else (if ((3 : Int32) ≤ x0) then (0 : Int32) else (1 : Int32)))) (fun hJ1 => ?_) ?_
  · refine V_if_lt (tgt := 13) K.1 dX8_isSort_1 (by decide) (fun c1 => ?_) (fun c1 => ?_)
    · refine V_iconst (v := 0) K.1 dX8_isSort_13 (by decide) ?_
      exact V_top (if_pos c1) hJ1
    · refine V_iload_n 0 K.1 dX8_isSort_4 rfl rfl ?_
      refine V_iconst (v := 3) K.1 dX8_isSort_5 (by decide) ?_
      refine V_icmp_ge (tgt := 13) K.1 dX8_isSort_6 (by decide) (fun c6 => ?_) (fun c6 => ?_)
      · refine V_iconst (v := 0) K.1 dX8_isSort_13 (by decide) ?_
        exact V_top ((if_neg c1).trans (if_pos c6)) hJ1
      · refine V_iconst (v := 1) K.1 dX8_isSort_9 (by decide) ?_
        refine V_goto (tgt := 14) K.1 dX8_isSort_10 (by decide) ?_
        exact V_top ((if_neg c1).trans (if_neg c6)) hJ1
  exact V_zret K dX8_isSort_14 (by (repeat' split) <;> first | exact Or.inl rfl | exact Or.inr rfl) k2
theorem m_X8_isSort {ω : WT} {l : Launch} {d : Nat} {σ : St} {x0 : Int32}  (hWf : Wf ω) (hd : 0 ≤ d) :
    Sp ω l yX8_isSort cX8_isSort 1 (some .boolean) d [.int x0] σ (rI (if (x0 < 0) then (0 : Int32) else (if ((3 : Int32) ≤ x0) then (0 : Int32) else (1 : Int32))) σ) :=
  Sp.of (by decide) (Nat.le_of_ble_eq_true rfl) hWf (fun κ K => R_X8_isSort_0  K ⟨rfl, rfl⟩)
set_option maxRecDepth 20000 in
theorem R_X8_ruleBit_0 {ω : WT} {κ : KT} {l : Launch} {d : Nat} {post : Option Value → St → Prop} {σ : St} {x0 x1 : Int32}  (K : Cm ω κ l yX8_ruleBit cX8_ruleBit 2 d (some .int) post)
    (k1 : post (some (.int ((1 : Int32) <<< ((((3 : Int32) * x0) + x1) &&& 31)))) σ) :
    V ω κ 0 [(0, .int x0), (1, .int x1)] [] σ := by
  refine V_iconst (v := 1) K.1 dX8_ruleBit_0 (by decide) ?_
  refine V_iconst (v := 3) K.1 dX8_ruleBit_1 (by decide) ?_
  refine V_iload_n 0 K.1 dX8_ruleBit_2 rfl rfl ?_
  refine V_imul K.1 dX8_ruleBit_3 ?_
  refine V_iload_n 1 K.1 dX8_ruleBit_4 rfl rfl ?_
  refine V_iadd K.1 dX8_ruleBit_5 ?_
  refine V_ishl K.1 dX8_ruleBit_6 ?_
  exact V_iret K dX8_ruleBit_7 k1
theorem m_X8_ruleBit {ω : WT} {l : Launch} {d : Nat} {σ : St} {x0 x1 : Int32}  (hWf : Wf ω) (hd : 0 ≤ d) :
    Sp ω l yX8_ruleBit cX8_ruleBit 2 (some .int) d [.int x0, .int x1] σ (rI ((1 : Int32) <<< ((((3 : Int32) * x0) + x1) &&& 31)) σ) :=
  Sp.of (by decide) (Nat.le_of_ble_eq_true rfl) hWf (fun κ K => R_X8_ruleBit_0  K ⟨rfl, rfl⟩)
set_option maxRecDepth 20000 in
theorem R_X8_failed_0 {ω : WT} {κ : KT} {l : Launch} {d : Nat} {post : Option Value → St → Prop} {σ : St} {x1 : Int32}  (K : Cm ω κ l yX8_failed cX8_failed 2 d (some .int) post)
    (k1 : post (some (.int ((-10 : Int32) - x1))) (pS σ 9 x1)) :
    V ω κ 0 [(0, .ref (ω.2.2.1 0)), (1, .int x1)] [] σ := by
  refine V_aload_n 0 K.1 dX8_failed_0 rfl rfl ?_
  refine V_iload_n 1 K.1 dX8_failed_1 rfl rfl ?_
  refine V_putI (key := 9) K.1 dX8_failed_2 rfl rfl fw_X8_220 pw_X8_9 rfl rfl rfl rfl ?_
  refine V_bipush (v := -10) K.1 dX8_failed_5 (by decide) ?_
  refine V_iload_n 1 K.1 dX8_failed_7 rfl rfl ?_
  refine V_isub K.1 dX8_failed_8 ?_
  exact V_iret K dX8_failed_9 k1
theorem m_X8_failed {ω : WT} {l : Launch} {d : Nat} {σ : St} {x1 : Int32}  (hWf : Wf ω) (hd : 0 ≤ d) :
    Sp ω l yX8_failed cX8_failed 2 (some .int) d [.ref (ω.2.2.1 0), .int x1] σ (rI ((-10 : Int32) - x1) (pS σ 9 x1)) :=
  Sp.of (by decide) (Nat.le_of_ble_eq_true rfl) hWf (fun κ K => R_X8_failed_0  K ⟨rfl, rfl⟩)
set_option maxRecDepth 20000 in
theorem R_X8_leave_0 {ω : WT} {κ : KT} {l : Launch} {d : Nat} {post : Option Value → St → Prop} {σ : St} {x1 : Int32}  (K : Cm ω κ l yX8_leave cX8_leave 2 d none post)
    (k1 : post none (pS σ 8 (((31 : Int32) * (σ.1 8)) + x1))) :
    V ω κ 0 [(0, .ref (ω.2.2.1 0)), (1, .int x1)] [] σ := by
  refine V_aload_n 0 K.1 dX8_leave_0 rfl rfl ?_
  refine V_bipush (v := 31) K.1 dX8_leave_1 (by decide) ?_
  refine V_aload_n 0 K.1 dX8_leave_3 rfl rfl ?_
  refine V_get (v := .int (σ.1 8)) K.1 dX8_leave_4 rfl rfl fw_X8_275 rfl rfl ?_
  refine V_imul K.1 dX8_leave_7 ?_
  refine V_iload_n 1 K.1 dX8_leave_8 rfl rfl ?_
  refine V_iadd K.1 dX8_leave_9 ?_
  refine V_putI (key := 8) K.1 dX8_leave_10 rfl rfl fw_X8_275 pw_X8_8 rfl rfl rfl rfl ?_
  exact V_vret K dX8_leave_13 k1
theorem m_X8_leave {ω : WT} {l : Launch} {d : Nat} {σ : St} {x1 : Int32}  (hWf : Wf ω) (hd : 0 ≤ d) :
    Sp ω l yX8_leave cX8_leave 2 none d [.ref (ω.2.2.1 0), .int x1] σ (rV (pS σ 8 (((31 : Int32) * (σ.1 8)) + x1))) :=
  Sp.of (by decide) (Nat.le_of_ble_eq_true rfl) hWf (fun κ K => R_X8_leave_0  K ⟨rfl, rfl⟩)
set_option maxRecDepth 20000 in
theorem R_J9_max_7cf53_0 {ω : WT} {κ : KT} {l : Launch} {d : Nat} {post : Option Value → St → Prop} {σ : St} {x0 x1 : Int32}  (K : Cm ω κ l yJ9_max_7cf53 cJ9_max_7cf53 2 d (some .int) post)
    (k2 : post (some (.int (if (x0 < x1) then x1 else x0))) σ) :
    V ω κ 0 [(0, .int x0), (1, .int x1)] [] σ := by
  refine V_iload_n 0 K.1 dJ9_max_7cf53_0 rfl rfl ?_
  refine V_iload_n 1 K.1 dJ9_max_7cf53_1 rfl rfl ?_
  refine V_join (J := 10) (S := []) (v := .int (if (x0 < x1) then x1 else x0)) (fun hJ1 => ?_) ?_
  · refine V_icmp_lt (tgt := 9) K.1 dJ9_max_7cf53_2 (by decide) (fun c2 => ?_) (fun c2 => ?_)
    · refine V_iload_n 1 K.1 dJ9_max_7cf53_9 rfl rfl ?_
      exact V_top (if_pos c2) hJ1
    · refine V_iload_n 0 K.1 dJ9_max_7cf53_5 rfl rfl ?_
      refine V_goto (tgt := 10) K.1 dJ9_max_7cf53_6 (by decide) ?_
      exact V_top (if_neg c2) hJ1
  exact V_iret K dJ9_max_7cf53_10 k2
theorem m_J9_max_7cf53 {ω : WT} {l : Launch} {d : Nat} {σ : St} {x0 x1 : Int32}  (hWf : Wf ω) (hd : 0 ≤ d) :
    Sp ω l yJ9_max_7cf53 cJ9_max_7cf53 2 (some .int) d [.int x0, .int x1] σ (rI (if (x0 < x1) then x1 else x0) σ) :=
  Sp.ofF (by decide +kernel) (Nat.le_of_ble_eq_true rfl) hWf (fun κ K => R_J9_max_7cf53_0  K ⟨rfl, rfl⟩)
set_option maxRecDepth 20000 in
theorem R_J9_min_7cf53_0 {ω : WT} {κ : KT} {l : Launch} {d : Nat} {post : Option Value → St → Prop} {σ : St} {x0 x1 : Int32}  (K : Cm ω κ l yJ9_min_7cf53 cJ9_min_7cf53 2 d (some .int) post)
    (k2 : post (some (.int (if (x1 < x0) then x1 else x0))) σ) :
    V ω κ 0 [(0, .int x0), (1, .int x1)] [] σ := by
  refine V_iload_n 0 K.1 dJ9_min_7cf53_0 rfl rfl ?_
  refine V_iload_n 1 K.1 dJ9_min_7cf53_1 rfl rfl ?_
  refine V_join (J := 10) (S := []) (v := .int (if (x1 < x0) then x1 else x0)) (fun hJ1 => ?_) ?_
  · refine V_icmp_gt (tgt := 9) K.1 dJ9_min_7cf53_2 (by decide) (fun c2 => ?_) (fun c2 => ?_)
    · refine V_iload_n 1 K.1 dJ9_min_7cf53_9 rfl rfl ?_
      exact V_top (if_pos c2) hJ1
    · refine V_iload_n 0 K.1 dJ9_min_7cf53_5 rfl rfl ?_
      refine V_goto (tgt := 10) K.1 dJ9_min_7cf53_6 (by decide) ?_
      exact V_top (if_neg c2) hJ1
  exact V_iret K dJ9_min_7cf53_10 k2
theorem m_J9_min_7cf53 {ω : WT} {l : Launch} {d : Nat} {σ : St} {x0 x1 : Int32}  (hWf : Wf ω) (hd : 0 ≤ d) :
    Sp ω l yJ9_min_7cf53 cJ9_min_7cf53 2 (some .int) d [.int x0, .int x1] σ (rI (if (x1 < x0) then x1 else x0) σ) :=
  Sp.ofF (by decide +kernel) (Nat.le_of_ble_eq_true rfl) hWf (fun κ K => R_J9_min_7cf53_0  K ⟨rfl, rfl⟩)
set_option maxRecDepth 20000 in
theorem R_X2_opening_0 {ω : WT} {κ : KT} {l : Launch} {d : Nat} {post : Option Value → St → Prop} {σ : St}  (K : Cm ω κ l yX2_opening cX2_opening 1 d (some .int) post) (hdp : 1 ≤ d)
    (k1 : post (some (.int (((if (((σ.1 640) - (1 : Int32)) < (0 : Int32)) then (0 : Int32) else ((σ.1 640) - (1 : Int32))) * (256 : Int32)) + (((1 : Int32) <<< ((σ.1 640) &&& 31)) - (1 : Int32))))) σ) :
    V ω κ 0 [(0, .ref (ω.2.2.1 14))] [] σ := by
  refine V_aload_n 0 K.1 dX2_opening_0 rfl rfl ?_
  refine V_get (v := .ref (ω.2.2.1 10)) K.1 dX2_opening_1 rfl rfl fw_X2_9 rfl rfl ?_
  refine V_get (v := .int (σ.1 640)) K.1 dX2_opening_4 rfl rfl fw_X2_30 rfl rfl ?_
  refine V_iconst (v := 1) K.1 dX2_opening_7 (by decide) ?_
  refine V_isub K.1 dX2_opening_8 ?_
  refine V_iconst (v := 0) K.1 dX2_opening_9 (by decide) ?_
  refine V_callS (d' := d - 1) (As := [.int ((σ.1 640) - (1 : Int32)), .int (0 : Int32)]) K.1 dX2_opening_10 cw_X2_33 rfl (by omega) rfl (by simp [Value.category]) (m_J9_max_7cf53 K.1.wf (by omega)) (go_I ?_)
  refine V_sipush (v := 256) K.1 dX2_opening_13 (by decide) ?_
  refine V_imul K.1 dX2_opening_16 ?_
  refine V_aload_n 0 K.1 dX2_opening_17 rfl rfl ?_
  refine V_get (v := .ref (ω.2.2.1 10)) K.1 dX2_opening_18 rfl rfl fw_X2_9 rfl rfl ?_
  refine V_callV (d' := d - 1) (As := []) K.1 dX2_opening_21 cw_X2_39 rfl rfl rfl (by omega) rfl (by simp [Value.category]) (m_X7_everybody K.1.wf (by omega)) (go_I ?_)
  refine V_iadd K.1 dX2_opening_24 ?_
  exact V_iret K dX2_opening_25 k1
theorem m_X2_opening {ω : WT} {l : Launch} {d : Nat} {σ : St}  (hWf : Wf ω) (hd : 1 ≤ d) :
    Sp ω l yX2_opening cX2_opening 1 (some .int) d [.ref (ω.2.2.1 14)] σ (rI (((if (((σ.1 640) - (1 : Int32)) < (0 : Int32)) then (0 : Int32) else ((σ.1 640) - (1 : Int32))) * (256 : Int32)) + (((1 : Int32) <<< ((σ.1 640) &&& 31)) - (1 : Int32))) σ) :=
  Sp.of (by decide) (Nat.le_of_ble_eq_true rfl) hWf (fun κ K => R_X2_opening_0  K hd ⟨rfl, rfl⟩)
end
section
/-! ===== numbers: rows out of kit/laws (pasted), and rows of this claim ===== -/
theorem fa_lt (a b : Int32) : a < b ↔ a.toInt < b.toInt := Int32.lt_iff_toInt_lt
theorem fa_le (a b : Int32) : a ≤ b ↔ a.toInt ≤ b.toInt := Int32.le_iff_toInt_le
theorem fa_eq (a b : Int32) : a = b ↔ a.toInt = b.toInt := Int32.toInt_inj.symm
theorem fa_and (a b : Nat) : nI a &&& nI b = nI (a &&& b) := by
  apply Int32.toBitVec_inj.1
  show BitVec.ofNat 32 a &&& BitVec.ofNat 32 b = BitVec.ofNat 32 (a &&& b)
  apply BitVec.eq_of_getLsbD_eq
  intro i hi
  simp [hi]
theorem fa_or (a b : Nat) : nI a ||| nI b = nI (a ||| b) := by
  apply Int32.toBitVec_inj.1
  show BitVec.ofNat 32 a ||| BitVec.ofNat 32 b = BitVec.ofNat 32 (a ||| b)
  apply BitVec.eq_of_getLsbD_eq
  intro i hi
  simp [hi]
theorem fa_bit {n j : Nat} (hj : j < 31) : nI n &&& nI (2 ^ j) = 0 ↔ n.testBit j = false := by
  have h2 : (2 : Nat) ^ j < 2 ^ 31 := Nat.pow_lt_pow_right (by decide) hj
  have hle : n &&& 2 ^ j ≤ 2 ^ j := Nat.and_le_right
  have e : n &&& 2 ^ j = 0 ↔ n.testBit j = false := by
    constructor
    · intro h
      have h1 : (n &&& 2 ^ j).testBit j = false := by rw [h]; simp
      rw [Nat.testBit_and] at h1
      first | simpa using h1 | simpa [Nat.testBit_two_pow_self] using h1 | simpa [Nat.testBit_two_pow] using h1
    · intro h
      apply Nat.eq_of_testBit_eq
      intro i
      rw [Nat.testBit_and]
      by_cases hi : j = i
      · subst hi; simp [h]
      · first | (simp [Nat.testBit_two_pow, hi]; done) | (simp [Nat.testBit_two_pow_of_ne hi]; done)
  rw [fa_and]
  constructor
  · intro h
    apply e.mp
    rcases Nat.eq_zero_or_pos (n &&& 2 ^ j) with z | z
    · exact z
    · exact absurd h (nI_ne0 z (Nat.lt_of_le_of_lt hle h2))
  · intro h
    rw [e.mpr h]; exact nI_0
theorem fa_mask (n k : Nat) : nI n &&& nI (2 ^ k - 1) = nI (n % 2 ^ k) := by rw [fa_and, Nat.and_two_pow_sub_one_eq_mod]
theorem fb_xorI (a b : Nat) : nI a ^^^ nI b = nI (a ^^^ b) := by
  apply Int32.toBitVec_inj.1
  show BitVec.ofNat 32 a ^^^ BitVec.ofNat 32 b = BitVec.ofNat 32 (a ^^^ b)
  apply BitVec.eq_of_getLsbD_eq
  intro i hi
  simp [hi]
theorem fb_rng (x : Int32) : -2147483648 ≤ x.toInt ∧ x.toInt < 2147483648 := by
  have h1 := Int32.le_toInt x
  have h2 := Int32.toInt_lt x
  omega
theorem fb_bmod {z : Int} (h1 : -2147483648 ≤ z) (h2 : z < 2147483648) : z.bmod (2 ^ 32) = z := by
  rw [Int.bmod_eq_of_le (by omega) (by omega)]
theorem fb_addI {x y : Int32} (h1 : -2147483648 ≤ x.toInt + y.toInt) (h2 : x.toInt + y.toInt < 2147483648) : (x + y).toInt = x.toInt + y.toInt := by
  rw [Int32.toInt_add, fb_bmod h1 h2]
theorem fb_subI {x y : Int32} (h1 : -2147483648 ≤ x.toInt - y.toInt) (h2 : x.toInt - y.toInt < 2147483648) : (x - y).toInt = x.toInt - y.toInt := by
  rw [Int32.toInt_sub, fb_bmod h1 h2]
theorem fb_holes : ∀ (m n : Nat) (f : Nat → Nat), (∀ i, i < n → f i < m) → (∀ i j, i < j → j < n → f i ≠ f j) → n ≤ m := by
  intro m
  induction m with
  | zero =>
    intro n f h1 _
    rcases Nat.eq_zero_or_pos n with h | h
    · omega
    · exact absurd (h1 0 h) (Nat.not_lt_zero _)
  | succ m ih =>
    intro n f h1 h2
    by_cases hx : ∃ i, i < n ∧ f i = m
    · obtain ⟨a, ha, hfa⟩ := hx
      have hg := ih (n - 1) (fun i => if i < a then f i else f (i + 1)) (by
        intro i hi
        by_cases q : i < a
        · simp only [if_pos q]
          have b1 := h1 i (by omega)
          have b2 := h2 i a q ha
          omega
        · simp only [if_neg q]
          have b1 := h1 (i + 1) (by omega)
          have b2 := h2 a (i + 1) (by omega) (by omega)
          omega) (by
        intro i j hij hj
        by_cases q : i < a
        · by_cases r : j < a
          · simp only [if_pos q, if_pos r]
            exact h2 i j hij (by omega)
          · simp only [if_pos q, if_neg r]
            exact h2 i (j + 1) (by omega) (by omega)
        · have r : ¬ j < a := by omega
          simp only [if_neg q, if_neg r]
          exact h2 (i + 1) (j + 1) (by omega) (by omega))
      omega
    · have hg := ih n f (fun i hi => by
        have b1 := h1 i hi
        have b2 : f i ≠ m := fun e => hx ⟨i, hi, e⟩
        omega) h2
      omega
theorem fb_twice {m n : Nat} {f : Nat → Nat} (h : ∀ i, i < n → f i < m) (hm : m < n) : ∃ i j, i < j ∧ j < n ∧ f i = f j := by
  refine Classical.byContradiction fun hx => ?_
  have := fb_holes m n f h (fun i j hij hj e => hx ⟨i, j, hij, hj, e⟩)
  omega
theorem s_l : ∀ n, n < 32 → ((nI n &&& 31).toBitVec.smod 32).toNat = n := by decide +kernel
theorem sh1 : ∀ x, x < 31 → (1 : Int32) <<< (nI x &&& 31) = nI (2 ^ x) := by decide +kernel
theorem nI_bit {n k : Nat} (hn : n < 2 ^ 31) (hk : k < 31) : (nI n >>> (nI k &&& 31)) &&& 1 = nI (if n.testBit k then 1 else 0) := by
  rw [pk_shrN hn _ k (s_l k (by omega)), pk_andN (Nat.lt_of_le_of_lt (Nat.div_le_self _ _) (by omega)) (m := 1) 1 rfl]
  congr 1
  rw [Nat.testBit_eq_decide_div_mod_eq]
  have : n / 2 ^ k % 2 < 2 := Nat.mod_lt _ (by omega)
  by_cases h : n / 2 ^ k % 2 = 1
  · simp [h]
  · have h0 : n / 2 ^ k % 2 = 0 := by omega
    simp [h0]
theorem nI_bit1 {n k : Nat} (hn : n < 2 ^ 31) (hk : k < 31) : ((nI n >>> (nI k &&& 31)) &&& 1 = 1) ↔ n.testBit k = true := by
  rw [nI_bit hn hk]
  cases h : n.testBit k <;> simp <;> decide
theorem nI_bit0 {n k : Nat} (hk : k < 31) : (nI n &&& ((1 : Int32) <<< (nI k &&& 31)) = 0) ↔ n.testBit k = false := by
  rw [sh1 k hk, fa_bit hk]
/-- sets of numbers below n, told as bits -/
def bs (p : Nat → Bool) : Nat → Nat
  | 0 => 0
  | n + 1 => bs p n + (if p n then 2 ^ n else 0)
theorem bs_lt (p : Nat → Bool) : ∀ n, bs p n < 2 ^ n
  | 0 => Nat.lt_succ_self 0
  | n + 1 => by
    have := bs_lt p n
    rw [bs, Nat.pow_succ]
    split <;> omega
theorem tb_add {a n : Nat} (h : a < 2 ^ n) (i : Nat) : (a + 2 ^ n).testBit i = (a.testBit i || decide (i = n)) := by
  rw [show a + 2 ^ n = 2 ^ n * 1 + a from by omega, Nat.two_pow_add_eq_or_of_lt h 1, Nat.testBit_or, Nat.mul_one, Nat.testBit_two_pow, Bool.or_comm]
  congr 1
  simp [eq_comm]
theorem or_pow {a n : Nat} (h : a < 2 ^ n) : a ||| 2 ^ n = a + 2 ^ n := by
  rw [Nat.or_comm, Nat.add_comm]
  have := Nat.two_pow_add_eq_or_of_lt h 1
  simpa using this.symm
theorem bs_bit (p : Nat → Bool) : ∀ n i, (bs p n).testBit i = (decide (i < n) && p i)
  | 0, i => by simp [bs]
  | n + 1, i => by
    rw [bs]
    have h := bs_bit p n i
    by_cases hp : p n = true
    · rw [if_pos hp, tb_add (bs_lt p n), h]
      by_cases hi : i = n
      · subst hi; simp [hp]
      · simp [hi]
        congr 1
        simp; omega
    · rw [if_neg hp, Nat.add_zero, h]
      by_cases hi : i = n
      · subst hi; simp [hp]
      · congr 1
        simp; omega
theorem bs_cong {p q : Nat → Bool} : ∀ {n}, (∀ i, i < n → p i = q i) → bs p n = bs q n
  | 0, _ => rfl
  | n + 1, h => by rw [bs, bs, bs_cong (fun i hi => h i (by omega)), h n (by omega)]
/-- how many of the first n bits are set -/
def cb (s : Nat) : Nat → Nat
  | 0 => 0
  | n + 1 => cb s n + (if s.testBit n then 1 else 0)
theorem cb_le (s : Nat) : ∀ n, cb s n ≤ n
  | 0 => Nat.le_refl 0
  | n + 1 => by
    have := cb_le s n
    rw [cb]
    split <;> omega
theorem cb_top {s n : Nat} (h : s < 2 ^ n) : ∀ k, cb s (n + k) = cb s n
  | 0 => rfl
  | k + 1 => by
    have e : s.testBit (n + k) = false := Nat.testBit_lt_two_pow (Nat.lt_of_lt_of_le h (Nat.pow_le_pow_right (by omega) (by omega)))
    rw [← Nat.add_assoc, cb, cb_top h k, e]
    rfl
theorem cb_cong {s t : Nat} : ∀ {n}, (∀ i, i < n → s.testBit i = t.testBit i) → cb s n = cb t n
  | 0, _ => rfl
  | n + 1, h => by rw [cb, cb, cb_cong (fun i hi => h i (by omega)), h n (by omega)]
theorem p2_le8 {n : Nat} (h : n ≤ 8) : 2 ^ n ≤ 256 := Nat.pow_le_pow_right (by omega) h
theorem p2_lt31 {n : Nat} (h : n < 31) : 2 ^ n < 2 ^ 31 := Nat.pow_lt_pow_right (by omega) h
end
section
/-! ===== what a vote is, as numbers: who says yes, what is won, who sits then ===== -/
theorem bs_self {s : Nat} : ∀ {n : Nat}, s < 2 ^ n → bs s.testBit n = s := by
  intro n h
  apply Nat.eq_of_testBit_eq
  intro i
  rw [bs_bit]
  by_cases hi : i < n
  · simp [hi]
  · have e : s.testBit i = false := Nat.testBit_lt_two_pow (Nat.lt_of_lt_of_le h (Nat.pow_le_pow_right (by omega) (by omega)))
    simp [e]
theorem bs_add {p q : Nat → Bool} : ∀ {n : Nat}, (∀ i, i < n → ¬ (p i = true ∧ q i = true)) → bs p n + bs q n = bs (fun i => p i || q i) n
  | 0, _ => rfl
  | n + 1, h => by
    have ih := bs_add (p := p) (q := q) (n := n) (fun i hi => h i (by omega))
    have hn := h n (by omega)
    rw [bs, bs, bs, ← ih]
    cases hp : p n <;> cases hq : q n <;> simp_all <;> omega
/-- what is in s and not in y, y a part of s -/
theorem dif {s y n : Nat} (hs : s < 2 ^ n) (h : ∀ i, y.testBit i = true → s.testBit i = true) : y ≤ s ∧ s - y = bs (fun i => s.testBit i && !y.testBit i) n := by
  have hy : y < 2 ^ n := by
    refine Nat.lt_pow_two_of_testBit _ (fun i hi => ?_)
    cases e : y.testBit i
    · rfl
    · have := h i e
      rw [Nat.testBit_lt_two_pow (Nat.lt_of_lt_of_le hs (Nat.pow_le_pow_right (by omega) hi))] at this
      cases this
  have e : y + bs (fun i => s.testBit i && !y.testBit i) n = s := by
    have h1 := bs_add (p := y.testBit) (q := fun i => s.testBit i && !y.testBit i) (n := n) (fun i _ hh => by
      obtain ⟨a, b⟩ := hh
      simp [a] at b)
    rw [bs_self hy] at h1
    rw [h1]
    have h2 : bs (fun i => y.testBit i || (s.testBit i && !y.testBit i)) n = bs s.testBit n := bs_cong (fun i _ => by
      cases a : y.testBit i
      · simp
      · simp [h i a])
    rw [h2, bs_self hs]
  omega
theorem nI_tb (a : Nat) (i : Nat) : (nI a).toBitVec.getLsbD i = (decide (i < 32) && a.testBit i) := by
  show (BitVec.ofNat 32 a).getLsbD i = _
  rw [BitVec.getLsbD_ofNat]
theorem nI_ext {x : Int32} {b : Nat} (h : ∀ i, i < 32 → x.toBitVec.getLsbD i = b.testBit i) : x = nI b := by
  apply Int32.toBitVec_inj.1
  apply BitVec.eq_of_getLsbD_eq
  intro i hi
  rw [h i hi, nI_tb]
  simp [hi]
theorem nI_andnot {a b n : Nat} (ha : a < 2 ^ n) : nI a &&& (nI b ^^^ (-1)) = nI (bs (fun i => a.testBit i && !b.testBit i) n) := by
  apply nI_ext
  intro i hi
  have e : (-1 : Int32).toBitVec = BitVec.allOnes 32 := by decide
  rw [Int32.toBitVec_and, Int32.toBitVec_xor, BitVec.getLsbD_and, BitVec.getLsbD_xor, e, nI_tb, nI_tb, BitVec.getLsbD_allOnes, bs_bit]
  by_cases hn : i < n
  · simp [hi, hn]
  · have e2 : a.testBit i = false := Nat.testBit_lt_two_pow (Nat.lt_of_lt_of_le ha (Nat.pow_le_pow_right (by omega) (by omega)))
    simp [e2]
theorem all_bit {n i : Nat} : (2 ^ n - 1).testBit i = decide (i < n) := by
  rw [Nat.testBit_two_pow_sub_one]
def sayS (kd : Nat → Nat) (w fr : Nat → Bool) (x a n : Nat) : Bool := if fr x || kd x == 0 || a == n then w x else if kd x == 1 then decide (n < a) else decide (a < n)
def pollS (kd : Nat → Nat) (w fr : Nat → Bool) (set : Nat) : Nat → Nat × Nat × Nat
  | 0 => (0, 0, 0)
  | x + 1 => if set.testBit x then (if sayS kd w fr x (pollS kd w fr set x).2.1 (pollS kd w fr set x).2.2 then ((pollS kd w fr set x).1 + 2 ^ x, (pollS kd w fr set x).2.1 + 1, (pollS kd w fr set x).2.2) else ((pollS kd w fr set x).1, (pollS kd w fr set x).2.1, (pollS kd w fr set x).2.2 + 1)) else pollS kd w fr set x
theorem pollS_ok (kd : Nat → Nat) (w fr : Nat → Bool) (set : Nat) : ∀ x, (pollS kd w fr set x).1 < 2 ^ x ∧ (pollS kd w fr set x).2.1 + (pollS kd w fr set x).2.2 = cb set x ∧ (pollS kd w fr set x).2.1 = cb (pollS kd w fr set x).1 x ∧ ∀ i, (pollS kd w fr set x).1.testBit i = true → set.testBit i = true
  | 0 => ⟨by simp [pollS], rfl, rfl, fun i h => by simp [pollS] at h⟩
  | x + 1 => by
    obtain ⟨h1, h2, h3, h4⟩ := pollS_ok kd w fr set x
    have e0 : (pollS kd w fr set x).1.testBit x = false := Nat.testBit_lt_two_pow h1
    have hc : cb (pollS kd w fr set x).1 (x + 1) = cb (pollS kd w fr set x).1 x := by rw [cb, e0]; rfl
    have hp : 2 ^ (x + 1) = 2 ^ x + 2 ^ x := by rw [Nat.pow_succ]; omega
    rw [pollS]
    by_cases hs : set.testBit x = true
    · rw [if_pos hs]
      by_cases hy : sayS kd w fr x (pollS kd w fr set x).2.1 (pollS kd w fr set x).2.2 = true
      · rw [if_pos hy]
        refine ⟨by show _ + 2 ^ x < _; omega, ?_, ?_, fun i hi => ?_⟩
        · show (pollS kd w fr set x).2.1 + 1 + (pollS kd w fr set x).2.2 = cb set (x + 1)
          rw [cb, if_pos hs]; omega
        · show _ + 1 = cb (_ + 2 ^ x) (x + 1)
          have e1 : (((pollS kd w fr set x).1 + 2 ^ x)).testBit x = true := by rw [tb_add h1]; simp
          rw [cb, e1, if_pos rfl, h3]
          congr 1
          exact cb_cong (fun i hi => by rw [tb_add h1]; simp; omega)
        · have hi' : ((pollS kd w fr set x).1 + 2 ^ x).testBit i = true := hi
          rw [tb_add h1] at hi'
          by_cases e : i = x
          · subst e; exact hs
          · simp [e] at hi'; exact h4 i hi'
      · rw [if_neg hy]
        refine ⟨by show (pollS kd w fr set x).1 < _; omega, ?_, ?_, h4⟩
        · show (pollS kd w fr set x).2.1 + ((pollS kd w fr set x).2.2 + 1) = cb set (x + 1)
          rw [cb, if_pos hs]; omega
        · show (pollS kd w fr set x).2.1 = cb _ (x + 1)
          rw [hc, ← h3]
    · rw [if_neg hs]
      refine ⟨by omega, ?_, ?_, h4⟩
      · rw [cb, if_neg hs]; omega
      · rw [hc, ← h3]
def ocS (a n : Nat) : Int32 := if a = n then -5 else if n < a then 1 else 0
def seatsS (me np a n : Nat) : Nat := if a = n then 0 else min np (if me = 0 then max a n - min a n else if me = 1 then max a n else if me = 2 then min a n else 2 * (max a n - min a n))
theorem seatsS_le (me np a n : Nat) : seatsS me np a n ≤ np := by
  unfold seatsS
  split
  · omega
  · exact Nat.min_le_left _ _
/-- the first ones of a set by number: who, and how many are still wanted -/
def foS (set c : Nat) : Nat → Nat × Nat
  | 0 => (0, c)
  | x + 1 => if set.testBit x = true ∧ 0 < (foS set c x).2 then ((foS set c x).1 + 2 ^ x, (foS set c x).2 - 1) else foS set c x
theorem foS_ok (set c : Nat) : ∀ x, (foS set c x).1 < 2 ^ x ∧ (foS set c x).2 + cb (foS set c x).1 x = c ∧ ∀ i, (foS set c x).1.testBit i = true → set.testBit i = true
  | 0 => ⟨by simp [foS], rfl, fun i h => by simp [foS] at h⟩
  | x + 1 => by
    obtain ⟨h1, h2, h3⟩ := foS_ok set c x
    have e0 : (foS set c x).1.testBit x = false := Nat.testBit_lt_two_pow h1
    have hc : cb (foS set c x).1 (x + 1) = cb (foS set c x).1 x := by rw [cb, e0]; rfl
    have hp : 2 ^ (x + 1) = 2 ^ x + 2 ^ x := by rw [Nat.pow_succ]; omega
    rw [foS]
    by_cases hs : set.testBit x = true ∧ 0 < (foS set c x).2
    · rw [if_pos hs]
      refine ⟨by show _ + 2 ^ x < _; omega, ?_, fun i hi => ?_⟩
      · show (_ - 1) + cb (_ + 2 ^ x) (x + 1) = c
        have e1 : (((foS set c x).1 + 2 ^ x)).testBit x = true := by rw [tb_add h1]; simp
        have e2 : cb ((foS set c x).1 + 2 ^ x) x = cb (foS set c x).1 x := cb_cong (fun i hi => by rw [tb_add h1]; simp; omega)
        rw [cb, e1, if_pos rfl, e2]
        omega
      · have hi' : ((foS set c x).1 + 2 ^ x).testBit i = true := hi
        rw [tb_add h1] at hi'
        by_cases e : i = x
        · subst e; exact hs.1
        · simp [e] at hi'; exact h3 i hi'
    · rw [if_neg hs]
      exact ⟨by omega, by rw [hc]; exact h2, h3⟩
/-- once nobody is wanted, nobody comes -/
theorem foS_stop {set c x : Nat} (h : (foS set c x).2 = 0) : ∀ k, foS set c (x + k) = foS set c x
  | 0 => rfl
  | k + 1 => by
    rw [← Nat.add_assoc, foS, foS_stop h k, if_neg (by omega)]
def wonS (set yes : Nat) (oc : Int32) : Nat := if oc = 1 then yes else set - yes
def winS (np set yes : Nat) (oc : Int32) (seats : Nat) : Nat :=
  (foS (wonS set yes oc) seats np).1 ||| (foS (set - wonS set yes oc) (foS (wonS set yes oc) seats np).2 np).1 ||| (foS (2 ^ np - 1 - set) (foS (set - wonS set yes oc) (foS (wonS set yes oc) seats np).2 np).2 np).1
def rndS (np last : Nat) : Nat → Nat × Nat
  | 0 => (0, last)
  | k + 1 => ((rndS np last k).1 ||| 2 ^ (((rndS np last k).2 + 1) % np), ((rndS np last k).2 + 1) % np)
/-- who sits then (0: the hall is shut), who got the last seat -/
def seatS (np la set yes : Nat) (oc : Int32) (seats last : Nat) : Nat × Nat :=
  if seats = 0 then (0, last) else if la = 0 then (2 ^ seats - 1, last) else if la = 1 then (winS np set yes oc seats, last) else rndS np last seats
/-- a matter: who says yes, what is decided, seats, who sits then, who got the last seat -/
def stepS (np me la : Nat) (kd : Nat → Nat) (w fr : Nat → Bool) (m : Nat × Nat) : Nat × Int32 × Nat × Nat × Nat :=
  if m.1 = 0 then (0, -6, np, 2 ^ np - 1, m.2) else
    ((pollS kd w fr m.1 np).1, ocS (pollS kd w fr m.1 np).2.1 (pollS kd w fr m.1 np).2.2, seatsS me np (pollS kd w fr m.1 np).2.1 (pollS kd w fr m.1 np).2.2,
      seatS np la m.1 (pollS kd w fr m.1 np).1 (ocS (pollS kd w fr m.1 np).2.1 (pollS kd w fr m.1 np).2.2) (seatsS me np (pollS kd w fr m.1 np).2.1 (pollS kd w fr m.1 np).2.2) m.2)
end
section
set_option maxRecDepth 20000 in
theorem R_J6_bitCount_0f7a4_0 {ω : WT} {κ : KT} {l : Launch} {d : Nat} {post : Option Value → St → Prop} {σ : St} {x0 : Int32}  (K : Cm ω κ l yJ6_bitCount_0f7a4 cJ6_bitCount_0f7a4 1 d (some .int) post)
    (k1 : V ω κ 10 [(0, .int (x0 - (((x0).toUInt32 >>> (((1 : Int32)).toUInt32 &&& Int32.toUInt32 31)).toInt32 &&& (1431655765 : Int32))))] [] σ) :
    V ω κ 0 [(0, .int x0)] [] σ := by
  refine V_iload_n 0 K.1 dJ6_bitCount_0f7a4_0 rfl rfl ?_
  refine V_iload_n 0 K.1 dJ6_bitCount_0f7a4_1 rfl rfl ?_
  refine V_iconst (v := 1) K.1 dJ6_bitCount_0f7a4_2 (by decide) ?_
  refine V_iushr K.1 dJ6_bitCount_0f7a4_3 ?_
  refine V_ldc_w K.1 dJ6_bitCount_0f7a4_4 cn_J6_265 ?_
  refine V_iand K.1 dJ6_bitCount_0f7a4_7 ?_
  refine V_isub K.1 dJ6_bitCount_0f7a4_8 ?_
  refine V_istore_n (L' := [(0, .int (x0 - (((x0).toUInt32 >>> (((1 : Int32)).toUInt32 &&& Int32.toUInt32 31)).toInt32 &&& (1431655765 : Int32))))]) K.1 dJ6_bitCount_0f7a4_9 rfl (by decide) rfl ?_
  exact k1
set_option maxRecDepth 20000 in
theorem R_J6_bitCount_0f7a4_10 {ω : WT} {κ : KT} {l : Launch} {d : Nat} {post : Option Value → St → Prop} {σ : St} {x0 : Int32}  (K : Cm ω κ l yJ6_bitCount_0f7a4 cJ6_bitCount_0f7a4 1 d (some .int) post)
    (k1 : V ω κ 24 [(0, .int ((x0 &&& (858993459 : Int32)) + (((x0).toUInt32 >>> (((2 : Int32)).toUInt32 &&& Int32.toUInt32 31)).toInt32 &&& (858993459 : Int32))))] [] σ) :
    V ω κ 10 [(0, .int x0)] [] σ := by
  refine V_iload_n 0 K.1 dJ6_bitCount_0f7a4_10 rfl rfl ?_
  refine V_ldc_w K.1 dJ6_bitCount_0f7a4_11 cn_J6_266 ?_
  refine V_iand K.1 dJ6_bitCount_0f7a4_14 ?_
  refine V_iload_n 0 K.1 dJ6_bitCount_0f7a4_15 rfl rfl ?_
  refine V_iconst (v := 2) K.1 dJ6_bitCount_0f7a4_16 (by decide) ?_
  refine V_iushr K.1 dJ6_bitCount_0f7a4_17 ?_
  refine V_ldc_w K.1 dJ6_bitCount_0f7a4_18 cn_J6_266 ?_
  refine V_iand K.1 dJ6_bitCount_0f7a4_21 ?_
  refine V_iadd K.1 dJ6_bitCount_0f7a4_22 ?_
  refine V_istore_n (L' := [(0, .int ((x0 &&& (858993459 : Int32)) + (((x0).toUInt32 >>> (((2 : Int32)).toUInt32 &&& Int32.toUInt32 31)).toInt32 &&& (858993459 : Int32))))]) K.1 dJ6_bitCount_0f7a4_23 rfl (by decide) rfl ?_
  exact k1
set_option maxRecDepth 20000 in
theorem R_J6_bitCount_0f7a4_24 {ω : WT} {κ : KT} {l : Launch} {d : Nat} {post : Option Value → St → Prop} {σ : St} {x0 : Int32}  (K : Cm ω κ l yJ6_bitCount_0f7a4 cJ6_bitCount_0f7a4 1 d (some .int) post)
    (k1 : V ω κ 34 [(0, .int ((x0 + ((x0).toUInt32 >>> (((4 : Int32)).toUInt32 &&& Int32.toUInt32 31)).toInt32) &&& (252645135 : Int32)))] [] σ) :
    V ω κ 24 [(0, .int x0)] [] σ := by
  refine V_iload_n 0 K.1 dJ6_bitCount_0f7a4_24 rfl rfl ?_
  refine V_iload_n 0 K.1 dJ6_bitCount_0f7a4_25 rfl rfl ?_
  refine V_iconst (v := 4) K.1 dJ6_bitCount_0f7a4_26 (by decide) ?_
  refine V_iushr K.1 dJ6_bitCount_0f7a4_27 ?_
  refine V_iadd K.1 dJ6_bitCount_0f7a4_28 ?_
  refine V_ldc_w K.1 dJ6_bitCount_0f7a4_29 cn_J6_267 ?_
  refine V_iand K.1 dJ6_bitCount_0f7a4_32 ?_
  refine V_istore_n (L' := [(0, .int ((x0 + ((x0).toUInt32 >>> (((4 : Int32)).toUInt32 &&& Int32.toUInt32 31)).toInt32) &&& (252645135 : Int32)))]) K.1 dJ6_bitCount_0f7a4_33 rfl (by decide) rfl ?_
  exact k1
set_option maxRecDepth 20000 in
theorem R_J6_bitCount_0f7a4_34 {ω : WT} {κ : KT} {l : Launch} {d : Nat} {post : Option Value → St → Prop} {σ : St} {x0 : Int32}  (K : Cm ω κ l yJ6_bitCount_0f7a4 cJ6_bitCount_0f7a4 1 d (some .int) post)
    (k1 : V ω κ 41 [(0, .int (x0 + ((x0).toUInt32 >>> (((8 : Int32)).toUInt32 &&& Int32.toUInt32 31)).toInt32))] [] σ) :
    V ω κ 34 [(0, .int x0)] [] σ := by
  refine V_iload_n 0 K.1 dJ6_bitCount_0f7a4_34 rfl rfl ?_
  refine V_iload_n 0 K.1 dJ6_bitCount_0f7a4_35 rfl rfl ?_
  refine V_bipush (v := 8) K.1 dJ6_bitCount_0f7a4_36 (by decide) ?_
  refine V_iushr K.1 dJ6_bitCount_0f7a4_38 ?_
  refine V_iadd K.1 dJ6_bitCount_0f7a4_39 ?_
  refine V_istore_n (L' := [(0, .int (x0 + ((x0).toUInt32 >>> (((8 : Int32)).toUInt32 &&& Int32.toUInt32 31)).toInt32))]) K.1 dJ6_bitCount_0f7a4_40 rfl (by decide) rfl ?_
  exact k1
set_option maxRecDepth 20000 in
theorem R_J6_bitCount_0f7a4_41 {ω : WT} {κ : KT} {l : Launch} {d : Nat} {post : Option Value → St → Prop} {σ : St} {x0 : Int32}  (K : Cm ω κ l yJ6_bitCount_0f7a4 cJ6_bitCount_0f7a4 1 d (some .int) post)
    (k1 : V ω κ 48 [(0, .int (x0 + ((x0).toUInt32 >>> (((16 : Int32)).toUInt32 &&& Int32.toUInt32 31)).toInt32))] [] σ) :
    V ω κ 41 [(0, .int x0)] [] σ := by
  refine V_iload_n 0 K.1 dJ6_bitCount_0f7a4_41 rfl rfl ?_
  refine V_iload_n 0 K.1 dJ6_bitCount_0f7a4_42 rfl rfl ?_
  refine V_bipush (v := 16) K.1 dJ6_bitCount_0f7a4_43 (by decide) ?_
  refine V_iushr K.1 dJ6_bitCount_0f7a4_45 ?_
  refine V_iadd K.1 dJ6_bitCount_0f7a4_46 ?_
  refine V_istore_n (L' := [(0, .int (x0 + ((x0).toUInt32 >>> (((16 : Int32)).toUInt32 &&& Int32.toUInt32 31)).toInt32))]) K.1 dJ6_bitCount_0f7a4_47 rfl (by decide) rfl ?_
  exact k1
set_option maxRecDepth 20000 in
theorem R_J6_bitCount_0f7a4_48 {ω : WT} {κ : KT} {l : Launch} {d : Nat} {post : Option Value → St → Prop} {σ : St} {x0 : Int32}  (K : Cm ω κ l yJ6_bitCount_0f7a4 cJ6_bitCount_0f7a4 1 d (some .int) post)
    (k1 : post (some (.int (x0 &&& (63 : Int32)))) σ) :
    V ω κ 48 [(0, .int x0)] [] σ := by
  refine V_iload_n 0 K.1 dJ6_bitCount_0f7a4_48 rfl rfl ?_
  refine V_bipush (v := 63) K.1 dJ6_bitCount_0f7a4_49 (by decide) ?_
  refine V_iand K.1 dJ6_bitCount_0f7a4_51 ?_
  exact V_iret K dJ6_bitCount_0f7a4_52 k1
set_option maxRecDepth 20000 in
theorem R_X9_bits_0 {ω : WT} {κ : KT} {l : Launch} {d : Nat} {post : Option Value → St → Prop} {σ : St} {x0 : Int32}  (K : Cm ω κ l yX9_bits cX9_bits 3 d (some .int) post)
    (k1 : V ω κ 4 [(0, .int x0), (1, .int (0 : Int32)), (2, .int (0 : Int32))] [] σ) :
    V ω κ 0 [(0, .int x0)] [] σ := by
  refine V_iconst (v := 0) K.1 dX9_bits_0 (by decide) ?_
  refine V_istore_n (L' := [(0, .int x0), (1, .int (0 : Int32))]) K.1 dX9_bits_1 rfl (by decide) rfl ?_
  refine V_iconst (v := 0) K.1 dX9_bits_2 (by decide) ?_
  refine V_istore_n (L' := [(0, .int x0), (1, .int (0 : Int32)), (2, .int (0 : Int32))]) K.1 dX9_bits_3 rfl (by decide) rfl ?_
  exact k1
set_option maxRecDepth 20000 in
theorem R_X9_bits_4 {ω : WT} {κ : KT} {l : Launch} {d : Nat} {post : Option Value → St → Prop} {σ : St} {x0 x1 x2 : Int32}  (K : Cm ω κ l yX9_bits cX9_bits 3 d (some .int) post)
    (k1 : ((20 : Int32) ≤ x2) → post (some (.int x1)) σ)
    (k2 : ¬ ((20 : Int32) ≤ x2) → V ω κ 4 [(0, .int x0), (1, .int (x1 + ((x0 >>> (x2 &&& 31)) &&& (1 : Int32)))), (2, .int (x2 + 1))] [] σ) :
    V ω κ 4 [(0, .int x0), (1, .int x1), (2, .int x2)] [] σ := by
  refine V_iload_n 2 K.1 dX9_bits_4 rfl rfl ?_
  refine V_bipush (v := 20) K.1 dX9_bits_5 (by decide) ?_
  refine V_icmp_ge (tgt := 24) K.1 dX9_bits_7 (by decide) (fun c7 => ?_) (fun c7 => ?_)
  · refine V_iload_n 1 K.1 dX9_bits_24 rfl rfl ?_
    exact V_iret K dX9_bits_25 (k1 c7)
  · refine V_iload_n 1 K.1 dX9_bits_10 rfl rfl ?_
    refine V_iload_n 0 K.1 dX9_bits_11 rfl rfl ?_
    refine V_iload_n 2 K.1 dX9_bits_12 rfl rfl ?_
    refine V_ishr K.1 dX9_bits_13 ?_
    refine V_iconst (v := 1) K.1 dX9_bits_14 (by decide) ?_
    refine V_iand K.1 dX9_bits_15 ?_
    refine V_iadd K.1 dX9_bits_16 ?_
    refine V_istore_n (L' := [(0, .int x0), (1, .int (x1 + ((x0 >>> (x2 &&& 31)) &&& (1 : Int32)))), (2, .int x2)]) K.1 dX9_bits_17 rfl (by decide) rfl ?_
    refine V_iinc (v := (x2 + 1)) (L' := [(0, .int x0), (1, .int (x1 + ((x0 >>> (x2 &&& 31)) &&& (1 : Int32)))), (2, .int (x2 + 1))]) 2 K.1 dX9_bits_18 rfl rfl (by decide) rfl ?_
    refine V_goto (tgt := 4) K.1 dX9_bits_21 (by decide) ?_
    exact (k2 c7)
set_option maxRecDepth 20000 in
theorem R_J7_fill_53178_0 {ω : WT} {κ : KT} {l : Launch} {d : Nat} {post : Option Value → St → Prop} {σ : St} {x1 : Int32} {n : Nat} {k : Nat} (hk : shpA k = some (0, n)) (K : Cm ω κ l yJ7_fill_53178 cJ7_fill_53178 4 d none post)
    (k1 : V ω κ 5 [(0, .ref (ω.2.2.1 k)), (1, .int x1), (2, .int (0 : Int32)), (3, .int (Int32.ofNat n))] [] σ) :
    V ω κ 0 [(0, .ref (ω.2.2.1 k)), (1, .int x1)] [] σ := by
  refine V_iconst (v := 0) K.1 dJ7_fill_53178_0 (by decide) ?_
  refine V_istore_n (L' := [(0, .ref (ω.2.2.1 k)), (1, .int x1), (2, .int (0 : Int32))]) K.1 dJ7_fill_53178_1 rfl (by decide) rfl ?_
  refine V_aload_n 0 K.1 dJ7_fill_53178_2 rfl rfl ?_
  refine V_alenI K.1 dJ7_fill_53178_3 hk rfl ?_
  refine V_istore_n (L' := [(0, .ref (ω.2.2.1 k)), (1, .int x1), (2, .int (0 : Int32)), (3, .int (Int32.ofNat n))]) K.1 dJ7_fill_53178_4 rfl (by decide) rfl ?_
  exact k1
set_option maxRecDepth 20000 in
theorem R_J7_fill_53178_5 {ω : WT} {κ : KT} {l : Launch} {d : Nat} {post : Option Value → St → Prop} {σ : St} {x1 x2 x3 : Int32} {n : Nat} {k : Nat} (hk : shpA k = some (0, n)) (K : Cm ω κ l yJ7_fill_53178 cJ7_fill_53178 4 d none post)
    (k1 : (x3 ≤ x2) → post none σ)
    (b2 : ¬ (x3 ≤ x2) → vp_in x2 n)
    (k3 : ¬ (x3 ≤ x2) → V ω κ 5 [(0, .ref (ω.2.2.1 k)), (1, .int x1), (2, .int (x2 + 1)), (3, .int x3)] [] (pA σ k (x2).toNatClampNeg x1)) :
    V ω κ 5 [(0, .ref (ω.2.2.1 k)), (1, .int x1), (2, .int x2), (3, .int x3)] [] σ := by
  refine V_iload_n 2 K.1 dJ7_fill_53178_5 rfl rfl ?_
  refine V_iload_n 3 K.1 dJ7_fill_53178_6 rfl rfl ?_
  refine V_icmp_ge (tgt := 20) K.1 dJ7_fill_53178_7 (by decide) (fun c7 => ?_) (fun c7 => ?_)
  · exact V_vret K dJ7_fill_53178_20 (k1 c7)
  · refine V_aload_n 0 K.1 dJ7_fill_53178_10 rfl rfl ?_
    refine V_iload_n 2 K.1 dJ7_fill_53178_11 rfl rfl ?_
    refine V_iload_n 1 K.1 dJ7_fill_53178_12 rfl rfl ?_
    refine V_iastore K.1 dJ7_fill_53178_13 hk (b2 c7) ?_
    refine V_iinc (v := (x2 + 1)) (L' := [(0, .ref (ω.2.2.1 k)), (1, .int x1), (2, .int (x2 + 1)), (3, .int x3)]) 2 K.1 dJ7_fill_53178_14 rfl rfl (by decide) rfl ?_
    refine V_goto (tgt := 5) K.1 dJ7_fill_53178_17 (by decide) ?_
    exact (k3 c7)
set_option maxRecDepth 20000 in
theorem R_J7_fill_d0a16_0 {ω : WT} {κ : KT} {l : Launch} {d : Nat} {post : Option Value → St → Prop} {σ : St} {x1 : Int64} {n : Nat} {k : Nat} (hk : shpA k = some (1, n)) (K : Cm ω κ l yJ7_fill_d0a16 cJ7_fill_d0a16 5 d none post)
    (k1 : V ω κ 6 [(0, .ref (ω.2.2.1 k)), (1, .long x1), (3, .int (0 : Int32)), (4, .int (Int32.ofNat n))] [] σ) :
    V ω κ 0 [(0, .ref (ω.2.2.1 k)), (1, .long x1)] [] σ := by
  refine V_iconst (v := 0) K.1 dJ7_fill_d0a16_0 (by decide) ?_
  refine V_istore_n (L' := [(0, .ref (ω.2.2.1 k)), (1, .long x1), (3, .int (0 : Int32))]) K.1 dJ7_fill_d0a16_1 rfl (by decide) rfl ?_
  refine V_aload_n 0 K.1 dJ7_fill_d0a16_2 rfl rfl ?_
  refine V_alenL K.1 dJ7_fill_d0a16_3 hk rfl ?_
  refine V_istore (L' := [(0, .ref (ω.2.2.1 k)), (1, .long x1), (3, .int (0 : Int32)), (4, .int (Int32.ofNat n))]) K.1 dJ7_fill_d0a16_4 (by decide) rfl ?_
  exact k1
set_option maxRecDepth 20000 in
theorem R_J7_fill_d0a16_6 {ω : WT} {κ : KT} {l : Launch} {d : Nat} {post : Option Value → St → Prop} {σ : St} {x3 x4 : Int32} {x1 : Int64} {n : Nat} {k : Nat} (hk : shpA k = some (1, n)) (K : Cm ω κ l yJ7_fill_d0a16 cJ7_fill_d0a16 5 d none post)
    (k1 : (x4 ≤ x3) → post none σ)
    (b2 : ¬ (x4 ≤ x3) → vp_in x3 n)
    (k3 : ¬ (x4 ≤ x3) → V ω κ 6 [(0, .ref (ω.2.2.1 k)), (1, .long x1), (3, .int (x3 + 1)), (4, .int x4)] [] (pM σ k (x3).toNatClampNeg x1)) :
    V ω κ 6 [(0, .ref (ω.2.2.1 k)), (1, .long x1), (3, .int x3), (4, .int x4)] [] σ := by
  refine V_iload_n 2 K.1 dJ7_fill_d0a16_6 rfl rfl ?_
  refine V_iload 3 K.1 dJ7_fill_d0a16_7 rfl ?_
  refine V_icmp_ge (tgt := 22) K.1 dJ7_fill_d0a16_9 (by decide) (fun c9 => ?_) (fun c9 => ?_)
  · exact V_vret K dJ7_fill_d0a16_22 (k1 c9)
  · refine V_aload_n 0 K.1 dJ7_fill_d0a16_12 rfl rfl ?_
    refine V_iload_n 2 K.1 dJ7_fill_d0a16_13 rfl rfl ?_
    refine V_lload_n 1 K.1 dJ7_fill_d0a16_14 rfl rfl ?_
    refine V_lastore K.1 dJ7_fill_d0a16_15 hk (b2 c9) ?_
    refine V_iinc (v := (x3 + 1)) (L' := [(0, .ref (ω.2.2.1 k)), (1, .long x1), (3, .int (x3 + 1)), (4, .int x4)]) 2 K.1 dJ7_fill_d0a16_16 rfl rfl (by decide) rfl ?_
    refine V_goto (tgt := 6) K.1 dJ7_fill_d0a16_19 (by decide) ?_
    exact (k3 c9)
set_option maxRecDepth 20000 in
theorem R_X2_firstOf_0 {ω : WT} {κ : KT} {l : Launch} {d : Nat} {post : Option Value → St → Prop} {σ : St} {x0 x1 : Int32}  (K : Cm ω κ l yX2_firstOf cX2_firstOf 5 d (some .int) post)
    (k1 : V ω κ 4 [(0, .int x0), (1, .int x1), (2, .int (0 : Int32)), (3, .int (0 : Int32))] [] σ) :
    V ω κ 0 [(0, .int x0), (1, .int x1)] [] σ := by
  refine V_iconst (v := 0) K.1 dX2_firstOf_0 (by decide) ?_
  refine V_istore_n (L' := [(0, .int x0), (1, .int x1), (2, .int (0 : Int32))]) K.1 dX2_firstOf_1 rfl (by decide) rfl ?_
  refine V_iconst (v := 0) K.1 dX2_firstOf_2 (by decide) ?_
  refine V_istore_n (L' := [(0, .int x0), (1, .int x1), (2, .int (0 : Int32)), (3, .int (0 : Int32))]) K.1 dX2_firstOf_3 rfl (by decide) rfl ?_
  exact k1
set_option maxRecDepth 20000 in
theorem R_X2_firstOf_4 {ω : WT} {κ : KT} {l : Launch} {d : Nat} {post : Option Value → St → Prop} {σ : St} {x0 x1 x2 x3 : Int32}  (K : Cm ω κ l yX2_firstOf cX2_firstOf 5 d (some .int) post)
    (k1 : ((8 : Int32) ≤ x3) → post (some (.int x2)) σ)
    (k2 : ¬ ((8 : Int32) ≤ x3) → (x1 ≤ 0) → post (some (.int x2)) σ)
    (k3 : ¬ ((8 : Int32) ≤ x3) → ¬ (x1 ≤ 0) → ((x0 &&& ((1 : Int32) <<< (x3 &&& 31))) = 0) → V ω κ 4 [(0, .int x0), (1, .int x1), (2, .int x2), (3, .int (x3 + 1))] [] σ)
    (k4 : ¬ ((8 : Int32) ≤ x3) → ¬ (x1 ≤ 0) → ¬ ((x0 &&& ((1 : Int32) <<< (x3 &&& 31))) = 0) → V ω κ 4 [(0, .int x0), (1, .int (x1 + -1)), (2, .int (x2 ||| (x0 &&& ((1 : Int32) <<< (x3 &&& 31))))), (3, .int (x3 + 1))] [] σ) :
    V ω κ 4 [(0, .int x0), (1, .int x1), (2, .int x2), (3, .int x3)] [] σ := by
  refine V_iload_n 3 K.1 dX2_firstOf_4 rfl rfl ?_
  refine V_bipush (v := 8) K.1 dX2_firstOf_5 (by decide) ?_
  refine V_icmp_ge (tgt := 40) K.1 dX2_firstOf_7 (by decide) (fun c7 => ?_) (fun c7 => ?_)
  · refine V_iload_n 2 K.1 dX2_firstOf_40 rfl rfl ?_
    exact V_iret K dX2_firstOf_41 (k1 c7)
  · refine V_iload_n 1 K.1 dX2_firstOf_10 rfl rfl ?_
    refine V_if_le (tgt := 40) K.1 dX2_firstOf_11 (by decide) (fun c11 => ?_) (fun c11 => ?_)
    · refine V_iload_n 2 K.1 dX2_firstOf_40 rfl rfl ?_
      exact V_iret K dX2_firstOf_41 (k2 c7 c11)
    · refine V_iload_n 0 K.1 dX2_firstOf_14 rfl rfl ?_
      refine V_iconst (v := 1) K.1 dX2_firstOf_15 (by decide) ?_
      refine V_iload_n 3 K.1 dX2_firstOf_16 rfl rfl ?_
      refine V_ishl K.1 dX2_firstOf_17 ?_
      refine V_iand K.1 dX2_firstOf_18 ?_
      refine V_istore (L' := [(0, .int x0), (1, .int x1), (2, .int x2), (3, .int x3), (4, .int (x0 &&& ((1 : Int32) <<< (x3 &&& 31))))]) K.1 dX2_firstOf_19 (by decide) rfl ?_
      refine V_iload 4 K.1 dX2_firstOf_21 rfl ?_
      refine V_if_eq (tgt := 34) K.1 dX2_firstOf_23 (by decide) (fun c23 => ?_) (fun c23 => ?_)
      · refine V_iinc (v := (x3 + 1)) (L' := [(0, .int x0), (1, .int x1), (2, .int x2), (3, .int (x3 + 1)), (4, .int (x0 &&& ((1 : Int32) <<< (x3 &&& 31))))]) 3 K.1 dX2_firstOf_34 rfl rfl (by decide) rfl ?_
        refine V_goto (tgt := 4) K.1 dX2_firstOf_37 (by decide) ?_
        exact V_sub [0, 1, 2, 3] rfl (k3 c7 c11 c23)
      · refine V_iload_n 2 K.1 dX2_firstOf_26 rfl rfl ?_
        refine V_iload 4 K.1 dX2_firstOf_27 rfl ?_
        refine V_ior K.1 dX2_firstOf_29 ?_
        refine V_istore_n (L' := [(0, .int x0), (1, .int x1), (2, .int (x2 ||| (x0 &&& ((1 : Int32) <<< (x3 &&& 31))))), (3, .int x3), (4, .int (x0 &&& ((1 : Int32) <<< (x3 &&& 31))))]) K.1 dX2_firstOf_30 rfl (by decide) rfl ?_
        refine V_iinc (v := (x1 + -1)) (L' := [(0, .int x0), (1, .int (x1 + -1)), (2, .int (x2 ||| (x0 &&& ((1 : Int32) <<< (x3 &&& 31))))), (3, .int x3), (4, .int (x0 &&& ((1 : Int32) <<< (x3 &&& 31))))]) 1 K.1 dX2_firstOf_31 rfl rfl (by decide) rfl ?_
        refine V_iinc (v := (x3 + 1)) (L' := [(0, .int x0), (1, .int (x1 + -1)), (2, .int (x2 ||| (x0 &&& ((1 : Int32) <<< (x3 &&& 31))))), (3, .int (x3 + 1)), (4, .int (x0 &&& ((1 : Int32) <<< (x3 &&& 31))))]) 3 K.1 dX2_firstOf_34 rfl rfl (by decide) rfl ?_
        refine V_goto (tgt := 4) K.1 dX2_firstOf_37 (by decide) ?_
        exact V_sub [0, 1, 2, 3] rfl (k4 c7 c11 c23)
set_option maxRecDepth 20000 in
theorem R_X2_inTurn_0 {ω : WT} {κ : KT} {l : Launch} {d : Nat} {post : Option Value → St → Prop} {σ : St} {x1 : Int32}  (K : Cm ω κ l yX2_inTurn cX2_inTurn 4 d (some .int) post)
    (k1 : V ω κ 4 [(0, .ref (ω.2.2.1 14)), (1, .int x1), (2, .int (0 : Int32)), (3, .int (0 : Int32))] [] σ) :
    V ω κ 0 [(0, .ref (ω.2.2.1 14)), (1, .int x1)] [] σ := by
  refine V_iconst (v := 0) K.1 dX2_inTurn_0 (by decide) ?_
  refine V_istore_n (L' := [(0, .ref (ω.2.2.1 14)), (1, .int x1), (2, .int (0 : Int32))]) K.1 dX2_inTurn_1 rfl (by decide) rfl ?_
  refine V_iconst (v := 0) K.1 dX2_inTurn_2 (by decide) ?_
  refine V_istore_n (L' := [(0, .ref (ω.2.2.1 14)), (1, .int x1), (2, .int (0 : Int32)), (3, .int (0 : Int32))]) K.1 dX2_inTurn_3 rfl (by decide) rfl ?_
  exact k1
set_option maxRecDepth 20000 in
theorem R_X2_inTurn_4 {ω : WT} {κ : KT} {l : Launch} {d : Nat} {post : Option Value → St → Prop} {σ : St} {x1 x2 x3 : Int32}  (K : Cm ω κ l yX2_inTurn cX2_inTurn 4 d (some .int) post)
    (k1 : ((σ.1 901) ≤ x3) → post (some (.int ((x1 * (256 : Int32)) + x2))) σ)
    (k3 : ¬ ((σ.1 901) ≤ x3) → V ω κ 4 [(0, .ref (ω.2.2.1 14)), (1, .int (if ((σ.1 640) ≤ (x1 + (1 : Int32))) then (0 : Int32) else (x1 + (1 : Int32)))), (2, .int (x2 ||| ((1 : Int32) <<< ((if ((σ.1 640) ≤ (x1 + (1 : Int32))) then (0 : Int32) else (x1 + (1 : Int32))) &&& 31)))), (3, .int (x3 + 1))] [] σ) :
    V ω κ 4 [(0, .ref (ω.2.2.1 14)), (1, .int x1), (2, .int x2), (3, .int x3)] [] σ := by
  refine V_iload_n 3 K.1 dX2_inTurn_4 rfl rfl ?_
  refine V_aload_n 0 K.1 dX2_inTurn_5 rfl rfl ?_
  refine V_get (v := .int (σ.1 901)) K.1 dX2_inTurn_6 rfl rfl fw_X2_58 rfl rfl ?_
  refine V_icmp_ge (tgt := 45) K.1 dX2_inTurn_9 (by decide) (fun c9 => ?_) (fun c9 => ?_)
  · refine V_iload_n 1 K.1 dX2_inTurn_45 rfl rfl ?_
    refine V_sipush (v := 256) K.1 dX2_inTurn_46 (by decide) ?_
    refine V_imul K.1 dX2_inTurn_49 ?_
    refine V_iload_n 2 K.1 dX2_inTurn_50 rfl rfl ?_
    refine V_iadd K.1 dX2_inTurn_51 ?_
    exact V_iret K dX2_inTurn_52 (k1 c9)
  · refine V_iload_n 1 K.1 dX2_inTurn_12 rfl rfl ?_
    refine V_iconst (v := 1) K.1 dX2_inTurn_13 (by decide) ?_
    refine V_iadd K.1 dX2_inTurn_14 ?_
    refine V_aload_n 0 K.1 dX2_inTurn_15 rfl rfl ?_
    refine V_get (v := .ref (ω.2.2.1 10)) K.1 dX2_inTurn_16 rfl rfl fw_X2_9 rfl rfl ?_
    refine V_get (v := .int (σ.1 640)) K.1 dX2_inTurn_19 rfl rfl fw_X2_30 rfl rfl ?_
    refine V_join (J := 32) (S := []) (v := .int (if ((σ.1 640) ≤ (x1 + (1 : Int32))) then (0 : Int32) else (x1 + (1 : Int32)))) (fun hJ2 => ?_) ?_
    · refine V_icmp_ge (tgt := 31) K.1 dX2_inTurn_22 (by decide) (fun c22 => ?_) (fun c22 => ?_)
      · refine V_iconst (v := 0) K.1 dX2_inTurn_31 (by decide) ?_
        exact V_top (if_pos c22) hJ2
      · refine V_iload_n 1 K.1 dX2_inTurn_25 rfl rfl ?_
        refine V_iconst (v := 1) K.1 dX2_inTurn_26 (by decide) ?_
        refine V_iadd K.1 dX2_inTurn_27 ?_
        refine V_goto (tgt := 32) K.1 dX2_inTurn_28 (by decide) ?_
        exact V_top (if_neg c22) hJ2
    refine V_istore_n (L' := [(0, .ref (ω.2.2.1 14)), (1, .int (if ((σ.1 640) ≤ (x1 + (1 : Int32))) then (0 : Int32) else (x1 + (1 : Int32)))), (2, .int x2), (3, .int x3)]) K.1 dX2_inTurn_32 rfl (by decide) rfl ?_
    refine V_iload_n 2 K.1 dX2_inTurn_33 rfl rfl ?_
    refine V_iconst (v := 1) K.1 dX2_inTurn_34 (by decide) ?_
    refine V_iload_n 1 K.1 dX2_inTurn_35 rfl rfl ?_
    refine V_ishl K.1 dX2_inTurn_36 ?_
    refine V_ior K.1 dX2_inTurn_37 ?_
    refine V_istore_n (L' := [(0, .ref (ω.2.2.1 14)), (1, .int (if ((σ.1 640) ≤ (x1 + (1 : Int32))) then (0 : Int32) else (x1 + (1 : Int32)))), (2, .int (x2 ||| ((1 : Int32) <<< ((if ((σ.1 640) ≤ (x1 + (1 : Int32))) then (0 : Int32) else (x1 + (1 : Int32))) &&& 31)))), (3, .int x3)]) K.1 dX2_inTurn_38 rfl (by decide) rfl ?_
    refine V_iinc (v := (x3 + 1)) (L' := [(0, .ref (ω.2.2.1 14)), (1, .int (if ((σ.1 640) ≤ (x1 + (1 : Int32))) then (0 : Int32) else (x1 + (1 : Int32)))), (2, .int (x2 ||| ((1 : Int32) <<< ((if ((σ.1 640) ≤ (x1 + (1 : Int32))) then (0 : Int32) else (x1 + (1 : Int32))) &&& 31)))), (3, .int (x3 + 1))]) 3 K.1 dX2_inTurn_39 rfl rfl (by decide) rfl ?_
    refine V_goto (tgt := 4) K.1 dX2_inTurn_42 (by decide) ?_
    exact (k3 c9)
set_option maxRecDepth 20000 in
theorem R_X2_sayings_0 {ω : WT} {κ : KT} {l : Launch} {d : Nat} {post : Option Value → St → Prop} {σ : St} {x1 x2 x3 : Int32}  (K : Cm ω κ l yX2_sayings cX2_sayings 10 d (some .int) post)
    (k1 : V ω κ 22 [(0, .ref (ω.2.2.1 14)), (1, .int x1), (2, .int x2), (4, .int ((σ.1 646) &&& (x3 ^^^ (-1 : Int32)))), (5, .int (0 : Int32)), (6, .int (0 : Int32)), (7, .int (0 : Int32))] [] σ) :
    V ω κ 0 [(0, .ref (ω.2.2.1 14)), (1, .int x1), (2, .int x2), (3, .int x3)] [] σ := by
  refine V_aload_n 0 K.1 dX2_sayings_0 rfl rfl ?_
  refine V_get (v := .ref (ω.2.2.1 10)) K.1 dX2_sayings_1 rfl rfl fw_X2_9 rfl rfl ?_
  refine V_get (v := .int (σ.1 646)) K.1 dX2_sayings_4 rfl rfl fw_X2_74 rfl rfl ?_
  refine V_iload_n 3 K.1 dX2_sayings_7 rfl rfl ?_
  refine V_iconst (v := -1) K.1 dX2_sayings_8 (by decide) ?_
  refine V_ixor K.1 dX2_sayings_9 ?_
  refine V_iand K.1 dX2_sayings_10 ?_
  refine V_istore (L' := [(0, .ref (ω.2.2.1 14)), (1, .int x1), (2, .int x2), (3, .int x3), (4, .int ((σ.1 646) &&& (x3 ^^^ (-1 : Int32))))]) K.1 dX2_sayings_11 (by decide) rfl ?_
  refine V_iconst (v := 0) K.1 dX2_sayings_13 (by decide) ?_
  refine V_istore (L' := [(0, .ref (ω.2.2.1 14)), (1, .int x1), (2, .int x2), (3, .int x3), (4, .int ((σ.1 646) &&& (x3 ^^^ (-1 : Int32)))), (5, .int (0 : Int32))]) K.1 dX2_sayings_14 (by decide) rfl ?_
  refine V_iconst (v := 0) K.1 dX2_sayings_16 (by decide) ?_
  refine V_istore (L' := [(0, .ref (ω.2.2.1 14)), (1, .int x1), (2, .int x2), (3, .int x3), (4, .int ((σ.1 646) &&& (x3 ^^^ (-1 : Int32)))), (5, .int (0 : Int32)), (6, .int (0 : Int32))]) K.1 dX2_sayings_17 (by decide) rfl ?_
  refine V_iconst (v := 0) K.1 dX2_sayings_19 (by decide) ?_
  refine V_istore (L' := [(0, .ref (ω.2.2.1 14)), (1, .int x1), (2, .int x2), (3, .int x3), (4, .int ((σ.1 646) &&& (x3 ^^^ (-1 : Int32)))), (5, .int (0 : Int32)), (6, .int (0 : Int32)), (7, .int (0 : Int32))]) K.1 dX2_sayings_20 (by decide) rfl ?_
  exact V_sub [0, 1, 2, 4, 5, 6, 7] rfl k1
set_option maxRecDepth 20000 in
theorem R_X2_sayings_22 {ω : WT} {κ : KT} {l : Launch} {d : Nat} {post : Option Value → St → Prop} {σ : St} {x1 x2 x4 x5 x6 x7 : Int32}  (K : Cm ω κ l yX2_sayings cX2_sayings 10 d (some .int) post)
    (k1 : ((σ.1 640) ≤ x7) → post (some (.int x5)) σ)
    (k2 : ¬ ((σ.1 640) ≤ x7) → ((x1 &&& ((1 : Int32) <<< (x7 &&& 31))) = 0) → V ω κ 22 [(0, .ref (ω.2.2.1 14)), (1, .int x1), (2, .int x2), (4, .int x4), (5, .int x5), (6, .int x6), (7, .int (x7 + 1))] [] σ)
    (k4 : ¬ ((σ.1 640) ≤ x7) → ¬ ((x1 &&& ((1 : Int32) <<< (x7 &&& 31))) = 0) → (x6 = 0) → V ω κ 112 [(0, .ref (ω.2.2.1 14)), (1, .int x1), (2, .int x2), (4, .int x4), (5, .int x5), (6, .int x6), (7, .int x7), (8, .int ((1 : Int32) <<< (x7 &&& 31))), (9, .int (if ((x2 &&& ((1 : Int32) <<< (x7 &&& 31))) = 0) then (0 : Int32) else (1 : Int32)))] [] σ)
    (k5 : ¬ ((σ.1 640) ≤ x7) → ¬ ((x1 &&& ((1 : Int32) <<< (x7 &&& 31))) = 0) → ¬ (x6 = 0) → ((x4 &&& ((1 : Int32) <<< (x7 &&& 31))) = 0) → V ω κ 112 [(0, .ref (ω.2.2.1 14)), (1, .int x1), (2, .int x2), (4, .int x4), (5, .int x5), (6, .int x6), (7, .int x7), (8, .int ((1 : Int32) <<< (x7 &&& 31))), (9, .int (if ((x2 &&& ((1 : Int32) <<< (x7 &&& 31))) = 0) then (0 : Int32) else (1 : Int32)))] [] σ)
    (k9 : ¬ ((σ.1 640) ≤ x7) → ¬ ((x1 &&& ((1 : Int32) <<< (x7 &&& 31))) = 0) → ¬ (x6 = 0) → ¬ ((x4 &&& ((1 : Int32) <<< (x7 &&& 31))) = 0) → V ω κ 112 [(0, .ref (ω.2.2.1 14)), (1, .int x1), (2, .int x2), (4, .int x4), (5, .int x5), (6, .int x6), (7, .int x7), (8, .int ((1 : Int32) <<< (x7 &&& 31))), (9, .int (if ((if (x6 ≤ 0) then (0 : Int32) else (1 : Int32)) = (if (((σ.1 645) &&& ((1 : Int32) <<< (x7 &&& 31))) = 0) then (0 : Int32) else (1 : Int32))) then (0 : Int32) else (1 : Int32)))] [] σ) :
    V ω κ 22 [(0, .ref (ω.2.2.1 14)), (1, .int x1), (2, .int x2), (4, .int x4), (5, .int x5), (6, .int x6), (7, .int x7)] [] σ := by
  refine V_iload 6 K.1 dX2_sayings_22 rfl ?_
  refine V_aload_n 0 K.1 dX2_sayings_24 rfl rfl ?_
  refine V_get (v := .ref (ω.2.2.1 10)) K.1 dX2_sayings_25 rfl rfl fw_X2_9 rfl rfl ?_
  refine V_get (v := .int (σ.1 640)) K.1 dX2_sayings_28 rfl rfl fw_X2_30 rfl rfl ?_
  refine V_icmp_ge (tgt := 149) K.1 dX2_sayings_31 (by decide) (fun c31 => ?_) (fun c31 => ?_)
  · refine V_iload 4 K.1 dX2_sayings_149 rfl ?_
    exact V_iret K dX2_sayings_151 (k1 c31)
  · refine V_iconst (v := 1) K.1 dX2_sayings_34 (by decide) ?_
    refine V_iload 6 K.1 dX2_sayings_35 rfl ?_
    refine V_ishl K.1 dX2_sayings_37 ?_
    refine V_istore (L' := [(0, .ref (ω.2.2.1 14)), (1, .int x1), (2, .int x2), (4, .int x4), (5, .int x5), (6, .int x6), (7, .int x7), (8, .int ((1 : Int32) <<< (x7 &&& 31)))]) K.1 dX2_sayings_38 (by decide) rfl ?_
    refine V_iload_n 1 K.1 dX2_sayings_40 rfl rfl ?_
    refine V_iload 7 K.1 dX2_sayings_41 rfl ?_
    refine V_iand K.1 dX2_sayings_43 ?_
    refine V_if_eq (tgt := 143) K.1 dX2_sayings_44 (by decide) (fun c44 => ?_) (fun c44 => ?_)
    · refine V_iinc (v := (x7 + 1)) (L' := [(0, .ref (ω.2.2.1 14)), (1, .int x1), (2, .int x2), (4, .int x4), (5, .int x5), (6, .int x6), (7, .int (x7 + 1)), (8, .int ((1 : Int32) <<< (x7 &&& 31)))]) 6 K.1 dX2_sayings_143 rfl rfl (by decide) rfl ?_
      refine V_goto (tgt := 22) K.1 dX2_sayings_146 (by decide) ?_
      exact V_sub [0, 1, 2, 3, 4, 5, 6] rfl (k2 c31 c44)
    · refine V_iload_n 2 K.1 dX2_sayings_47 rfl rfl ?_
      refine V_iload 7 K.1 dX2_sayings_48 rfl ?_
      refine V_iand K.1 dX2_sayings_50 ?_
      refine V_join (J := 59) (S := []) (v := .int (if ((x2 &&& ((1 : Int32) <<< (x7 &&& 31))) = 0) then (0 : Int32) else (1 : Int32))) (fun hJ3 => ?_) ?_
      · refine V_if_eq (tgt := 58) K.1 dX2_sayings_51 (by decide) (fun c51 => ?_) (fun c51 => ?_)
        · refine V_iconst (v := 0) K.1 dX2_sayings_58 (by decide) ?_
          exact V_top (if_pos c51) hJ3
        · refine V_iconst (v := 1) K.1 dX2_sayings_54 (by decide) ?_
          refine V_goto (tgt := 59) K.1 dX2_sayings_55 (by decide) ?_
          exact V_top (if_neg c51) hJ3
      refine V_istore (L' := [(0, .ref (ω.2.2.1 14)), (1, .int x1), (2, .int x2), (4, .int x4), (5, .int x5), (6, .int x6), (7, .int x7), (8, .int ((1 : Int32) <<< (x7 &&& 31))), (9, .int (if ((x2 &&& ((1 : Int32) <<< (x7 &&& 31))) = 0) then (0 : Int32) else (1 : Int32)))]) K.1 dX2_sayings_59 (by decide) rfl ?_
      refine V_iload 5 K.1 dX2_sayings_61 rfl ?_
      refine V_if_eq (tgt := 112) K.1 dX2_sayings_63 (by decide) (fun c63 => ?_) (fun c63 => ?_)
      · exact (k4 c31 c44 c63)
      · refine V_iload 3 K.1 dX2_sayings_66 rfl ?_
        refine V_iload 7 K.1 dX2_sayings_68 rfl ?_
        refine V_iand K.1 dX2_sayings_70 ?_
        refine V_if_eq (tgt := 112) K.1 dX2_sayings_71 (by decide) (fun c71 => ?_) (fun c71 => ?_)
        · exact (k5 c31 c44 c63 c71)
        · refine V_iload 5 K.1 dX2_sayings_74 rfl ?_
          refine V_join (J := 84) (S := []) (v := .int (if (x6 ≤ 0) then (0 : Int32) else (1 : Int32))) (fun hJ6 => ?_) ?_
          · refine V_if_le (tgt := 83) K.1 dX2_sayings_76 (by decide) (fun c76 => ?_) (fun c76 => ?_)
            · refine V_iconst (v := 0) K.1 dX2_sayings_83 (by decide) ?_
              exact V_top (if_pos c76) hJ6
            · refine V_iconst (v := 1) K.1 dX2_sayings_79 (by decide) ?_
              refine V_goto (tgt := 84) K.1 dX2_sayings_80 (by decide) ?_
              exact V_top (if_neg c76) hJ6
          refine V_aload_n 0 K.1 dX2_sayings_84 rfl rfl ?_
          refine V_get (v := .ref (ω.2.2.1 10)) K.1 dX2_sayings_85 rfl rfl fw_X2_9 rfl rfl ?_
          refine V_get (v := .int (σ.1 645)) K.1 dX2_sayings_88 rfl rfl fw_X2_77 rfl rfl ?_
          refine V_iload 7 K.1 dX2_sayings_91 rfl ?_
          refine V_iand K.1 dX2_sayings_93 ?_
          refine V_join (J := 102) (S := [.int (if (x6 ≤ 0) then (0 : Int32) else (1 : Int32))]) (v := .int (if (((σ.1 645) &&& ((1 : Int32) <<< (x7 &&& 31))) = 0) then (0 : Int32) else (1 : Int32))) (fun hJ7 => ?_) ?_
          · refine V_if_eq (tgt := 101) K.1 dX2_sayings_94 (by decide) (fun c94 => ?_) (fun c94 => ?_)
            · refine V_iconst (v := 0) K.1 dX2_sayings_101 (by decide) ?_
              exact V_top (if_pos c94) hJ7
            · refine V_iconst (v := 1) K.1 dX2_sayings_97 (by decide) ?_
              refine V_goto (tgt := 102) K.1 dX2_sayings_98 (by decide) ?_
              exact V_top (if_neg c94) hJ7
          refine V_join (J := 110) (S := []) (v := .int (if ((if (x6 ≤ 0) then (0 : Int32) else (1 : Int32)) = (if (((σ.1 645) &&& ((1 : Int32) <<< (x7 &&& 31))) = 0) then (0 : Int32) else (1 : Int32))) then (0 : Int32) else (1 : Int32))) (fun hJ8 => ?_) ?_
          · refine V_icmp_eq (tgt := 109) K.1 dX2_sayings_102 (by decide) (fun c102 => ?_) (fun c102 => ?_)
            · refine V_iconst (v := 0) K.1 dX2_sayings_109 (by decide) ?_
              exact V_top (if_pos c102) hJ8
            · refine V_iconst (v := 1) K.1 dX2_sayings_105 (by decide) ?_
              refine V_goto (tgt := 110) K.1 dX2_sayings_106 (by decide) ?_
              exact V_top (if_neg c102) hJ8
          refine V_istore (L' := [(0, .ref (ω.2.2.1 14)), (1, .int x1), (2, .int x2), (4, .int x4), (5, .int x5), (6, .int x6), (7, .int x7), (8, .int ((1 : Int32) <<< (x7 &&& 31))), (9, .int (if ((if (x6 ≤ 0) then (0 : Int32) else (1 : Int32)) = (if (((σ.1 645) &&& ((1 : Int32) <<< (x7 &&& 31))) = 0) then (0 : Int32) else (1 : Int32))) then (0 : Int32) else (1 : Int32)))]) K.1 dX2_sayings_110 (by decide) rfl ?_
          exact (k9 c31 c44 c63 c71)
set_option maxRecDepth 20000 in
theorem R_X2_sayings_112 {ω : WT} {κ : KT} {l : Launch} {d : Nat} {post : Option Value → St → Prop} {σ : St} {x1 x2 x4 x5 x6 x7 x8 x9 : Int32}  (K : Cm ω κ l yX2_sayings cX2_sayings 10 d (some .int) post)
    (k3 : V ω κ 22 [(0, .ref (ω.2.2.1 14)), (1, .int x1), (2, .int x2), (4, .int x4), (5, .int (x5 ||| (if (x9 = 0) then (0 : Int32) else x8))), (6, .int (x6 + (if (x9 = 0) then (-1 : Int32) else (1 : Int32)))), (7, .int (x7 + 1))] [] σ) :
    V ω κ 112 [(0, .ref (ω.2.2.1 14)), (1, .int x1), (2, .int x2), (4, .int x4), (5, .int x5), (6, .int x6), (7, .int x7), (8, .int x8), (9, .int x9)] [] σ := by
  refine V_iload 4 K.1 dX2_sayings_112 rfl ?_
  refine V_iload 8 K.1 dX2_sayings_114 rfl ?_
  refine V_join (J := 125) (S := [.int x5]) (v := .int (if (x9 = 0) then (0 : Int32) else x8)) (fun hJ1 => ?_) ?_
  · refine V_if_eq (tgt := 124) K.1 dX2_sayings_116 (by decide) (fun c116 => ?_) (fun c116 => ?_)
    · refine V_iconst (v := 0) K.1 dX2_sayings_124 (by decide) ?_
      exact V_top (if_pos c116) hJ1
    · refine V_iload 7 K.1 dX2_sayings_119 rfl ?_
      refine V_goto (tgt := 125) K.1 dX2_sayings_121 (by decide) ?_
      exact V_top (if_neg c116) hJ1
  refine V_ior K.1 dX2_sayings_125 ?_
  refine V_istore (L' := [(0, .ref (ω.2.2.1 14)), (1, .int x1), (2, .int x2), (4, .int x4), (5, .int (x5 ||| (if (x9 = 0) then (0 : Int32) else x8))), (6, .int x6), (7, .int x7), (8, .int x8), (9, .int x9)]) K.1 dX2_sayings_126 (by decide) rfl ?_
  refine V_iload 5 K.1 dX2_sayings_128 rfl ?_
  refine V_iload 8 K.1 dX2_sayings_130 rfl ?_
  refine V_join (J := 140) (S := [.int x6]) (v := .int (if (x9 = 0) then (-1 : Int32) else (1 : Int32))) (fun hJ2 => ?_) ?_
  · refine V_if_eq (tgt := 139) K.1 dX2_sayings_132 (by decide) (fun c132 => ?_) (fun c132 => ?_)
    · refine V_iconst (v := -1) K.1 dX2_sayings_139 (by decide) ?_
      exact V_top (if_pos c132) hJ2
    · refine V_iconst (v := 1) K.1 dX2_sayings_135 (by decide) ?_
      refine V_goto (tgt := 140) K.1 dX2_sayings_136 (by decide) ?_
      exact V_top (if_neg c132) hJ2
  refine V_iadd K.1 dX2_sayings_140 ?_
  refine V_istore (L' := [(0, .ref (ω.2.2.1 14)), (1, .int x1), (2, .int x2), (4, .int x4), (5, .int (x5 ||| (if (x9 = 0) then (0 : Int32) else x8))), (6, .int (x6 + (if (x9 = 0) then (-1 : Int32) else (1 : Int32)))), (7, .int x7), (8, .int x8), (9, .int x9)]) K.1 dX2_sayings_141 (by decide) rfl ?_
  refine V_iinc (v := (x7 + 1)) (L' := [(0, .ref (ω.2.2.1 14)), (1, .int x1), (2, .int x2), (4, .int x4), (5, .int (x5 ||| (if (x9 = 0) then (0 : Int32) else x8))), (6, .int (x6 + (if (x9 = 0) then (-1 : Int32) else (1 : Int32)))), (7, .int (x7 + 1)), (8, .int x8), (9, .int x9)]) 6 K.1 dX2_sayings_143 rfl rfl (by decide) rfl ?_
  refine V_goto (tgt := 22) K.1 dX2_sayings_146 (by decide) ?_
  exact V_sub [0, 1, 2, 3, 4, 5, 6] rfl k3
set_option maxRecDepth 20000 in
theorem R_X9_seatWinners_0 {ω : WT} {κ : KT} {l : Launch} {d : Nat} {post : Option Value → St → Prop} {σ : St}  (K : Cm ω κ l yX9_seatWinners cX9_seatWinners 7 d none post)
    (k2 : V ω κ 35 [(0, .ref (ω.2.2.1 35)), (1, .int (if ((σ.1 2265) = (1 : Int32)) then (σ.1 2264) else ((σ.1 2263) - (σ.1 2264)))), (2, .int (0 : Int32)), (3, .int (σ.1 2266)), (4, .int (0 : Int32))] [] σ) :
    V ω κ 0 [(0, .ref (ω.2.2.1 35))] [] σ := by
  refine V_aload_n 0 K.1 dX9_seatWinners_0 rfl rfl ?_
  refine V_get (v := .int (σ.1 2265)) K.1 dX9_seatWinners_1 rfl rfl fw_X9_180 rfl rfl ?_
  refine V_iconst (v := 1) K.1 dX9_seatWinners_4 (by decide) ?_
  refine V_join (J := 24) (S := []) (v := .int (if ((σ.1 2265) = (1 : Int32)) then (σ.1 2264) else ((σ.1 2263) - (σ.1 2264)))) (fun hJ1 => ?_) ?_
  · refine V_icmp_ne (tgt := 15) K.1 dX9_seatWinners_5 (by decide) (fun c5 => ?_) (fun c5 => ?_)
    · refine V_aload_n 0 K.1 dX9_seatWinners_15 rfl rfl ?_
      refine V_get (v := .int (σ.1 2263)) K.1 dX9_seatWinners_16 rfl rfl fw_X9_170 rfl rfl ?_
      refine V_aload_n 0 K.1 dX9_seatWinners_19 rfl rfl ?_
      refine V_get (v := .int (σ.1 2264)) K.1 dX9_seatWinners_20 rfl rfl fw_X9_173 rfl rfl ?_
      refine V_isub K.1 dX9_seatWinners_23 ?_
      exact V_top (if_neg c5) hJ1
    · refine V_aload_n 0 K.1 dX9_seatWinners_8 rfl rfl ?_
      refine V_get (v := .int (σ.1 2264)) K.1 dX9_seatWinners_9 rfl rfl fw_X9_173 rfl rfl ?_
      refine V_goto (tgt := 24) K.1 dX9_seatWinners_12 (by decide) ?_
      exact V_top (if_pos c5) hJ1
  refine V_istore_n (L' := [(0, .ref (ω.2.2.1 35)), (1, .int (if ((σ.1 2265) = (1 : Int32)) then (σ.1 2264) else ((σ.1 2263) - (σ.1 2264))))]) K.1 dX9_seatWinners_24 rfl (by decide) rfl ?_
  refine V_iconst (v := 0) K.1 dX9_seatWinners_25 (by decide) ?_
  refine V_istore_n (L' := [(0, .ref (ω.2.2.1 35)), (1, .int (if ((σ.1 2265) = (1 : Int32)) then (σ.1 2264) else ((σ.1 2263) - (σ.1 2264)))), (2, .int (0 : Int32))]) K.1 dX9_seatWinners_26 rfl (by decide) rfl ?_
  refine V_aload_n 0 K.1 dX9_seatWinners_27 rfl rfl ?_
  refine V_get (v := .int (σ.1 2266)) K.1 dX9_seatWinners_28 rfl rfl fw_X9_183 rfl rfl ?_
  refine V_istore_n (L' := [(0, .ref (ω.2.2.1 35)), (1, .int (if ((σ.1 2265) = (1 : Int32)) then (σ.1 2264) else ((σ.1 2263) - (σ.1 2264)))), (2, .int (0 : Int32)), (3, .int (σ.1 2266))]) K.1 dX9_seatWinners_31 rfl (by decide) rfl ?_
  refine V_iconst (v := 0) K.1 dX9_seatWinners_32 (by decide) ?_
  refine V_istore (L' := [(0, .ref (ω.2.2.1 35)), (1, .int (if ((σ.1 2265) = (1 : Int32)) then (σ.1 2264) else ((σ.1 2263) - (σ.1 2264)))), (2, .int (0 : Int32)), (3, .int (σ.1 2266)), (4, .int (0 : Int32))]) K.1 dX9_seatWinners_33 (by decide) rfl ?_
  exact k2
set_option maxRecDepth 20000 in
theorem R_X9_seatWinners_35 {ω : WT} {κ : KT} {l : Launch} {d : Nat} {post : Option Value → St → Prop} {σ : St} {x1 x2 x3 x4 : Int32}  (K : Cm ω κ l yX9_seatWinners cX9_seatWinners 7 d none post) (hdp : 1 ≤ d)
    (k1 : ((3 : Int32) ≤ x4) → post none (pS σ 2258 x2))
    (k3 : ¬ ((3 : Int32) ≤ x4) → V ω κ 79 [(0, .ref (ω.2.2.1 35)), (1, .int x1), (2, .int x2), (3, .int x3), (4, .int x4), (5, .int (if (x4 = 0) then x1 else (if (x4 = (1 : Int32)) then ((σ.1 2263) - x1) else ((((1 : Int32) <<< ((σ.1 2245) &&& 31)) - (1 : Int32)) - (σ.1 2263))))), (6, .int (0 : Int32))] [] σ) :
    V ω κ 35 [(0, .ref (ω.2.2.1 35)), (1, .int x1), (2, .int x2), (3, .int x3), (4, .int x4)] [] σ := by
  refine V_iload 4 K.1 dX9_seatWinners_35 rfl ?_
  refine V_iconst (v := 3) K.1 dX9_seatWinners_37 (by decide) ?_
  refine V_icmp_ge (tgt := 125) K.1 dX9_seatWinners_38 (by decide) (fun c38 => ?_) (fun c38 => ?_)
  · refine V_aload_n 0 K.1 dX9_seatWinners_125 rfl rfl ?_
    refine V_iload_n 2 K.1 dX9_seatWinners_126 rfl rfl ?_
    refine V_putI (key := 2258) K.1 dX9_seatWinners_127 rfl rfl fw_X9_154 pw_X9_18 rfl rfl rfl rfl ?_
    exact V_vret K dX9_seatWinners_130 (k1 c38)
  · refine V_iload 4 K.1 dX9_seatWinners_41 rfl ?_
    refine V_join (J := 74) (S := []) (v := .int (if (x4 = 0) then x1 else (if (x4 = (1 : Int32)) then ((σ.1 2263) - x1) else ((((1 : Int32) <<< ((σ.1 2245) &&& 31)) - (1 : Int32)) - (σ.1 2263))))) (fun hJ2 => ?_) ?_
    · refine V_if_ne (tgt := 50) K.1 dX9_seatWinners_43 (by decide) (fun c43 => ?_) (fun c43 => ?_)
      · refine V_iload 4 K.1 dX9_seatWinners_50 rfl ?_
        refine V_iconst (v := 1) K.1 dX9_seatWinners_52 (by decide) ?_
        refine V_icmp_ne (tgt := 65) K.1 dX9_seatWinners_53 (by decide) (fun c53 => ?_) (fun c53 => ?_)
        · refine V_aload_n 0 K.1 dX9_seatWinners_65 rfl rfl ?_
          refine V_callV (d' := d - 1) (As := []) K.1 dX9_seatWinners_66 cw_X9_150 rfl rfl rfl (by omega) rfl (by simp [Value.category]) (m_X9_everyone K.1.wf (by omega)) (go_I ?_)
          refine V_aload_n 0 K.1 dX9_seatWinners_69 rfl rfl ?_
          refine V_get (v := .int (σ.1 2263)) K.1 dX9_seatWinners_70 rfl rfl fw_X9_170 rfl rfl ?_
          refine V_isub K.1 dX9_seatWinners_73 ?_
          exact V_top ((if_neg c43).trans (if_neg c53)) hJ2
        · refine V_aload_n 0 K.1 dX9_seatWinners_56 rfl rfl ?_
          refine V_get (v := .int (σ.1 2263)) K.1 dX9_seatWinners_57 rfl rfl fw_X9_170 rfl rfl ?_
          refine V_iload_n 1 K.1 dX9_seatWinners_60 rfl rfl ?_
          refine V_isub K.1 dX9_seatWinners_61 ?_
          refine V_goto (tgt := 74) K.1 dX9_seatWinners_62 (by decide) ?_
          exact V_top ((if_neg c43).trans (if_pos c53)) hJ2
      · refine V_iload_n 1 K.1 dX9_seatWinners_46 rfl rfl ?_
        refine V_goto (tgt := 74) K.1 dX9_seatWinners_47 (by decide) ?_
        exact V_top (if_pos c43) hJ2
    refine V_istore (L' := [(0, .ref (ω.2.2.1 35)), (1, .int x1), (2, .int x2), (3, .int x3), (4, .int x4), (5, .int (if (x4 = 0) then x1 else (if (x4 = (1 : Int32)) then ((σ.1 2263) - x1) else ((((1 : Int32) <<< ((σ.1 2245) &&& 31)) - (1 : Int32)) - (σ.1 2263)))))]) K.1 dX9_seatWinners_74 (by decide) rfl ?_
    refine V_iconst (v := 0) K.1 dX9_seatWinners_76 (by decide) ?_
    refine V_istore (L' := [(0, .ref (ω.2.2.1 35)), (1, .int x1), (2, .int x2), (3, .int x3), (4, .int x4), (5, .int (if (x4 = 0) then x1 else (if (x4 = (1 : Int32)) then ((σ.1 2263) - x1) else ((((1 : Int32) <<< ((σ.1 2245) &&& 31)) - (1 : Int32)) - (σ.1 2263))))), (6, .int (0 : Int32))]) K.1 dX9_seatWinners_77 (by decide) rfl ?_
    exact (k3 c38)
set_option maxRecDepth 20000 in
theorem R_X9_seatWinners_79 {ω : WT} {κ : KT} {l : Launch} {d : Nat} {post : Option Value → St → Prop} {σ : St} {x1 x2 x3 x4 x5 x6 : Int32}  (K : Cm ω κ l yX9_seatWinners cX9_seatWinners 7 d none post)
    (k1 : ((σ.1 2245) ≤ x6) → V ω κ 35 [(0, .ref (ω.2.2.1 35)), (1, .int x1), (2, .int x2), (3, .int x3), (4, .int (x4 + 1))] [] σ)
    (k2 : ¬ ((σ.1 2245) ≤ x6) → (x3 ≤ 0) → V ω κ 35 [(0, .ref (ω.2.2.1 35)), (1, .int x1), (2, .int x2), (3, .int x3), (4, .int (x4 + 1))] [] σ)
    (k3 : ¬ ((σ.1 2245) ≤ x6) → ¬ (x3 ≤ 0) → ¬ (((x5 >>> (x6 &&& 31)) &&& (1 : Int32)) = (1 : Int32)) → V ω κ 79 [(0, .ref (ω.2.2.1 35)), (1, .int x1), (2, .int x2), (3, .int x3), (4, .int x4), (5, .int x5), (6, .int (x6 + 1))] [] σ)
    (k4 : ¬ ((σ.1 2245) ≤ x6) → ¬ (x3 ≤ 0) → (((x5 >>> (x6 &&& 31)) &&& (1 : Int32)) = (1 : Int32)) → V ω κ 79 [(0, .ref (ω.2.2.1 35)), (1, .int x1), (2, .int (x2 ||| ((1 : Int32) <<< (x6 &&& 31)))), (3, .int (x3 + -1)), (4, .int x4), (5, .int x5), (6, .int (x6 + 1))] [] σ) :
    V ω κ 79 [(0, .ref (ω.2.2.1 35)), (1, .int x1), (2, .int x2), (3, .int x3), (4, .int x4), (5, .int x5), (6, .int x6)] [] σ := by
  refine V_iload 6 K.1 dX9_seatWinners_79 rfl ?_
  refine V_aload_n 0 K.1 dX9_seatWinners_81 rfl rfl ?_
  refine V_get (v := .int (σ.1 2245)) K.1 dX9_seatWinners_82 rfl rfl fw_X9_91 rfl rfl ?_
  refine V_icmp_ge (tgt := 119) K.1 dX9_seatWinners_85 (by decide) (fun c85 => ?_) (fun c85 => ?_)
  · refine V_iinc (v := (x4 + 1)) (L' := [(0, .ref (ω.2.2.1 35)), (1, .int x1), (2, .int x2), (3, .int x3), (4, .int (x4 + 1)), (5, .int x5), (6, .int x6)]) 4 K.1 dX9_seatWinners_119 rfl rfl (by decide) rfl ?_
    refine V_goto (tgt := 35) K.1 dX9_seatWinners_122 (by decide) ?_
    exact V_sub [0, 1, 2, 3, 4] rfl (k1 c85)
  · refine V_iload_n 3 K.1 dX9_seatWinners_88 rfl rfl ?_
    refine V_if_le (tgt := 119) K.1 dX9_seatWinners_89 (by decide) (fun c89 => ?_) (fun c89 => ?_)
    · refine V_iinc (v := (x4 + 1)) (L' := [(0, .ref (ω.2.2.1 35)), (1, .int x1), (2, .int x2), (3, .int x3), (4, .int (x4 + 1)), (5, .int x5), (6, .int x6)]) 4 K.1 dX9_seatWinners_119 rfl rfl (by decide) rfl ?_
      refine V_goto (tgt := 35) K.1 dX9_seatWinners_122 (by decide) ?_
      exact V_sub [0, 1, 2, 3, 4] rfl (k2 c85 c89)
    · refine V_iload 5 K.1 dX9_seatWinners_92 rfl ?_
      refine V_iload 6 K.1 dX9_seatWinners_94 rfl ?_
      refine V_ishr K.1 dX9_seatWinners_96 ?_
      refine V_iconst (v := 1) K.1 dX9_seatWinners_97 (by decide) ?_
      refine V_iand K.1 dX9_seatWinners_98 ?_
      refine V_iconst (v := 1) K.1 dX9_seatWinners_99 (by decide) ?_
      refine V_icmp_ne (tgt := 113) K.1 dX9_seatWinners_100 (by decide) (fun c100 => ?_) (fun c100 => ?_)
      · refine V_iinc (v := (x6 + 1)) (L' := [(0, .ref (ω.2.2.1 35)), (1, .int x1), (2, .int x2), (3, .int x3), (4, .int x4), (5, .int x5), (6, .int (x6 + 1))]) 6 K.1 dX9_seatWinners_113 rfl rfl (by decide) rfl ?_
        refine V_goto (tgt := 79) K.1 dX9_seatWinners_116 (by decide) ?_
        exact (k3 c85 c89 c100)
      · refine V_iload_n 2 K.1 dX9_seatWinners_103 rfl rfl ?_
        refine V_iconst (v := 1) K.1 dX9_seatWinners_104 (by decide) ?_
        refine V_iload 6 K.1 dX9_seatWinners_105 rfl ?_
        refine V_ishl K.1 dX9_seatWinners_107 ?_
        refine V_ior K.1 dX9_seatWinners_108 ?_
        refine V_istore_n (L' := [(0, .ref (ω.2.2.1 35)), (1, .int x1), (2, .int (x2 ||| ((1 : Int32) <<< (x6 &&& 31)))), (3, .int x3), (4, .int x4), (5, .int x5), (6, .int x6)]) K.1 dX9_seatWinners_109 rfl (by decide) rfl ?_
        refine V_iinc (v := (x3 + -1)) (L' := [(0, .ref (ω.2.2.1 35)), (1, .int x1), (2, .int (x2 ||| ((1 : Int32) <<< (x6 &&& 31)))), (3, .int (x3 + -1)), (4, .int x4), (5, .int x5), (6, .int x6)]) 3 K.1 dX9_seatWinners_110 rfl rfl (by decide) rfl ?_
        refine V_iinc (v := (x6 + 1)) (L' := [(0, .ref (ω.2.2.1 35)), (1, .int x1), (2, .int (x2 ||| ((1 : Int32) <<< (x6 &&& 31)))), (3, .int (x3 + -1)), (4, .int x4), (5, .int x5), (6, .int (x6 + 1))]) 6 K.1 dX9_seatWinners_113 rfl rfl (by decide) rfl ?_
        refine V_goto (tgt := 79) K.1 dX9_seatWinners_116 (by decide) ?_
        exact (k4 c85 c89 c100)
set_option maxRecDepth 20000 in
theorem R_X9_seatRound_0 {ω : WT} {κ : KT} {l : Launch} {d : Nat} {post : Option Value → St → Prop} {σ : St}  (K : Cm ω κ l yX9_seatRound cX9_seatRound 3 d none post)
    (k1 : V ω κ 4 [(0, .ref (ω.2.2.1 35)), (1, .int (0 : Int32)), (2, .int (0 : Int32))] [] σ) :
    V ω κ 0 [(0, .ref (ω.2.2.1 35))] [] σ := by
  refine V_iconst (v := 0) K.1 dX9_seatRound_0 (by decide) ?_
  refine V_istore_n (L' := [(0, .ref (ω.2.2.1 35)), (1, .int (0 : Int32))]) K.1 dX9_seatRound_1 rfl (by decide) rfl ?_
  refine V_iconst (v := 0) K.1 dX9_seatRound_2 (by decide) ?_
  refine V_istore_n (L' := [(0, .ref (ω.2.2.1 35)), (1, .int (0 : Int32)), (2, .int (0 : Int32))]) K.1 dX9_seatRound_3 rfl (by decide) rfl ?_
  exact k1
set_option maxRecDepth 20000 in
theorem R_X9_seatRound_4 {ω : WT} {κ : KT} {l : Launch} {d : Nat} {post : Option Value → St → Prop} {σ : St} {x1 x2 : Int32}  (K : Cm ω κ l yX9_seatRound cX9_seatRound 3 d none post)
    (k1 : ((σ.1 2266) ≤ x2) → post none (pS σ 2258 x1))
    (n2 : ¬ ((σ.1 2266) ≤ x2) → ¬ (σ.1 2245) = 0)
    (k3 : ¬ ((σ.1 2266) ≤ x2) → V ω κ 4 [(0, .ref (ω.2.2.1 35)), (1, .int (x1 ||| ((1 : Int32) <<< ((((σ.1 2260) + (1 : Int32)) - ((σ.1 2260) + (1 : Int32)) / (σ.1 2245) * (σ.1 2245)) &&& 31)))), (2, .int (x2 + 1))] [] (pS σ 2260 (((σ.1 2260) + (1 : Int32)) - ((σ.1 2260) + (1 : Int32)) / (σ.1 2245) * (σ.1 2245)))) :
    V ω κ 4 [(0, .ref (ω.2.2.1 35)), (1, .int x1), (2, .int x2)] [] σ := by
  refine V_iload_n 2 K.1 dX9_seatRound_4 rfl rfl ?_
  refine V_aload_n 0 K.1 dX9_seatRound_5 rfl rfl ?_
  refine V_get (v := .int (σ.1 2266)) K.1 dX9_seatRound_6 rfl rfl fw_X9_183 rfl rfl ?_
  refine V_icmp_ge (tgt := 42) K.1 dX9_seatRound_9 (by decide) (fun c9 => ?_) (fun c9 => ?_)
  · refine V_aload_n 0 K.1 dX9_seatRound_42 rfl rfl ?_
    refine V_iload_n 1 K.1 dX9_seatRound_43 rfl rfl ?_
    refine V_putI (key := 2258) K.1 dX9_seatRound_44 rfl rfl fw_X9_154 pw_X9_18 rfl rfl rfl rfl ?_
    exact V_vret K dX9_seatRound_47 (k1 c9)
  · refine V_aload_n 0 K.1 dX9_seatRound_12 rfl rfl ?_
    refine V_aload_n 0 K.1 dX9_seatRound_13 rfl rfl ?_
    refine V_get (v := .int (σ.1 2260)) K.1 dX9_seatRound_14 rfl rfl fw_X9_161 rfl rfl ?_
    refine V_iconst (v := 1) K.1 dX9_seatRound_17 (by decide) ?_
    refine V_iadd K.1 dX9_seatRound_18 ?_
    refine V_aload_n 0 K.1 dX9_seatRound_19 rfl rfl ?_
    refine V_get (v := .int (σ.1 2245)) K.1 dX9_seatRound_20 rfl rfl fw_X9_91 rfl rfl ?_
    refine V_irem K.1 dX9_seatRound_23 (n2 c9) ?_
    refine V_putI (key := 2260) K.1 dX9_seatRound_24 rfl rfl fw_X9_161 pw_X9_20 rfl rfl rfl rfl ?_
    refine V_iload_n 1 K.1 dX9_seatRound_27 rfl rfl ?_
    refine V_iconst (v := 1) K.1 dX9_seatRound_28 (by decide) ?_
    refine V_aload_n 0 K.1 dX9_seatRound_29 rfl rfl ?_
    refine V_get (v := .int (((σ.1 2260) + (1 : Int32)) - ((σ.1 2260) + (1 : Int32)) / (σ.1 2245) * (σ.1 2245))) K.1 dX9_seatRound_30 rfl rfl fw_X9_161 rfl rfl ?_
    refine V_ishl K.1 dX9_seatRound_33 ?_
    refine V_ior K.1 dX9_seatRound_34 ?_
    refine V_istore_n (L' := [(0, .ref (ω.2.2.1 35)), (1, .int (x1 ||| ((1 : Int32) <<< ((((σ.1 2260) + (1 : Int32)) - ((σ.1 2260) + (1 : Int32)) / (σ.1 2245) * (σ.1 2245)) &&& 31)))), (2, .int x2)]) K.1 dX9_seatRound_35 rfl (by decide) rfl ?_
    refine V_iinc (v := (x2 + 1)) (L' := [(0, .ref (ω.2.2.1 35)), (1, .int (x1 ||| ((1 : Int32) <<< ((((σ.1 2260) + (1 : Int32)) - ((σ.1 2260) + (1 : Int32)) / (σ.1 2245) * (σ.1 2245)) &&& 31)))), (2, .int (x2 + 1))]) 2 K.1 dX9_seatRound_36 rfl rfl (by decide) rfl ?_
    refine V_goto (tgt := 4) K.1 dX9_seatRound_39 (by decide) ?_
    exact (k3 c9)
set_option maxRecDepth 20000 in
theorem R_X9_poll_0 {ω : WT} {κ : KT} {l : Launch} {d : Nat} {post : Option Value → St → Prop} {σ : St} {x1 x2 x3 : Int32}  (K : Cm ω κ l yX9_poll cX9_poll 9 d none post)
    (k1 : V ω κ 22 [(0, .ref (ω.2.2.1 35)), (1, .int x1), (2, .int x2), (3, .int x3), (4, .int (0 : Int32)), (5, .int (0 : Int32)), (6, .int (0 : Int32))] [] (pS (pS σ 2263 (σ.1 2258)) 2264 (0 : Int32))) :
    V ω κ 0 [(0, .ref (ω.2.2.1 35)), (1, .int x1), (2, .int x2), (3, .int x3)] [] σ := by
  refine V_aload_n 0 K.1 dX9_poll_0 rfl rfl ?_
  refine V_aload_n 0 K.1 dX9_poll_1 rfl rfl ?_
  refine V_get (v := .int (σ.1 2258)) K.1 dX9_poll_2 rfl rfl fw_X9_154 rfl rfl ?_
  refine V_putI (key := 2263) K.1 dX9_poll_5 rfl rfl fw_X9_170 pw_X9_23 rfl rfl rfl rfl ?_
  refine V_aload_n 0 K.1 dX9_poll_8 rfl rfl ?_
  refine V_iconst (v := 0) K.1 dX9_poll_9 (by decide) ?_
  refine V_putI (key := 2264) K.1 dX9_poll_10 rfl rfl fw_X9_173 pw_X9_24 rfl rfl rfl rfl ?_
  refine V_iconst (v := 0) K.1 dX9_poll_13 (by decide) ?_
  refine V_istore (L' := [(0, .ref (ω.2.2.1 35)), (1, .int x1), (2, .int x2), (3, .int x3), (4, .int (0 : Int32))]) K.1 dX9_poll_14 (by decide) rfl ?_
  refine V_iconst (v := 0) K.1 dX9_poll_16 (by decide) ?_
  refine V_istore (L' := [(0, .ref (ω.2.2.1 35)), (1, .int x1), (2, .int x2), (3, .int x3), (4, .int (0 : Int32)), (5, .int (0 : Int32))]) K.1 dX9_poll_17 (by decide) rfl ?_
  refine V_iconst (v := 0) K.1 dX9_poll_19 (by decide) ?_
  refine V_istore (L' := [(0, .ref (ω.2.2.1 35)), (1, .int x1), (2, .int x2), (3, .int x3), (4, .int (0 : Int32)), (5, .int (0 : Int32)), (6, .int (0 : Int32))]) K.1 dX9_poll_20 (by decide) rfl ?_
  exact k1
set_option maxRecDepth 20000 in
theorem R_X9_poll_22 {ω : WT} {κ : KT} {l : Launch} {d : Nat} {post : Option Value → St → Prop} {σ : St} {x1 x2 x3 x4 x5 x6 : Int32}  (K : Cm ω κ l yX9_poll cX9_poll 9 d none post) (hdp : 1 ≤ d)
    (k4 : ((σ.1 2245) ≤ x6) → V ω κ 219 [(0, .ref (ω.2.2.1 35)), (6, .int (if (x4 ≤ x5) then (x5 - x4) else (x4 - x5))), (7, .int (if (x4 ≤ x5) then x5 else x4)), (8, .int ((x4 + x5) - (if (x4 ≤ x5) then x5 else x4)))] [] (pS σ 2265 (if (x4 = x5) then (-5 : Int32) else (if (x4 ≤ x5) then (0 : Int32) else (1 : Int32)))))
    (k5 : ¬ ((σ.1 2245) ≤ x6) → ¬ ((((σ.1 2258) >>> (x6 &&& 31)) &&& (1 : Int32)) = (1 : Int32)) → V ω κ 22 [(0, .ref (ω.2.2.1 35)), (1, .int x1), (2, .int x2), (3, .int x3), (4, .int x4), (5, .int x5), (6, .int (x6 + 1))] [] σ)
    (p7 : ¬ ((σ.1 2245) ≤ x6) → ((((σ.1 2258) >>> (x6 &&& 31)) &&& (1 : Int32)) = (1 : Int32)) → ¬ (((x2 >>> (x6 &&& 31)) &&& (1 : Int32)) = (1 : Int32)) → vp_in x6 8)
    (p8 : ¬ ((σ.1 2245) ≤ x6) → ((((σ.1 2258) >>> (x6 &&& 31)) &&& (1 : Int32)) = (1 : Int32)) → ¬ (((x2 >>> (x6 &&& 31)) &&& (1 : Int32)) = (1 : Int32)) → vp_in x6 8)
    (p9 : ¬ ((σ.1 2245) ≤ x6) → ((((σ.1 2258) >>> (x6 &&& 31)) &&& (1 : Int32)) = (1 : Int32)) → ¬ (((x2 >>> (x6 &&& 31)) &&& (1 : Int32)) = (1 : Int32)) → ¬ ((σ.2.1 39 (x6).toNatClampNeg) = 0) → ¬ (x4 = x5) → vp_in x6 8)
    (k10 : ¬ ((σ.1 2245) ≤ x6) → ((((σ.1 2258) >>> (x6 &&& 31)) &&& (1 : Int32)) = (1 : Int32)) → V ω κ 85 [(0, .ref (ω.2.2.1 35)), (1, .int x1), (2, .int x2), (3, .int x3), (4, .int x4), (5, .int x5), (6, .int x6), (7, .int (if (((x2 >>> (x6 &&& 31)) &&& (1 : Int32)) = (1 : Int32)) then (if (((x3 >>> (x6 &&& 31)) &&& (1 : Int32)) = (1 : Int32)) then (1 : Int32) else (0 : Int32)) else (if ((σ.2.1 39 (x6).toNatClampNeg) = 0) then (if ((((σ.2.1 40 (x6).toNatClampNeg) >>> (x1 &&& 31)) &&& (1 : Int32)) = (1 : Int32)) then (1 : Int32) else (0 : Int32)) else (if (x4 = x5) then (if ((((σ.2.1 40 (x6).toNatClampNeg) >>> (x1 &&& 31)) &&& (1 : Int32)) = (1 : Int32)) then (1 : Int32) else (0 : Int32)) else (if ((σ.2.1 39 (x6).toNatClampNeg) = (1 : Int32)) then (if (x4 ≤ x5) then (0 : Int32) else (1 : Int32)) else (if (x5 ≤ x4) then (0 : Int32) else (1 : Int32)))))))] [] σ) :
    V ω κ 22 [(0, .ref (ω.2.2.1 35)), (1, .int x1), (2, .int x2), (3, .int x3), (4, .int x4), (5, .int x5), (6, .int x6)] [] σ := by
  refine V_iload 6 K.1 dX9_poll_22 rfl ?_
  refine V_aload_n 0 K.1 dX9_poll_24 rfl rfl ?_
  refine V_get (v := .int (σ.1 2245)) K.1 dX9_poll_25 rfl rfl fw_X9_91 rfl rfl ?_
  refine V_icmp_ge (tgt := 143) K.1 dX9_poll_28 (by decide) (fun c28 => ?_) (fun c28 => ?_)
  · refine V_aload_n 0 K.1 dX9_poll_143 rfl rfl ?_
    refine V_iload 4 K.1 dX9_poll_144 rfl ?_
    refine V_iload 5 K.1 dX9_poll_146 rfl ?_
    refine V_join (J := 168) (S := [.ref (ω.2.2.1 35)]) (v := .int (if (x4 = x5) then (-5 : Int32) else (if (x4 ≤ x5) then (0 : Int32) else (1 : Int32)))) (fun hJ1 => ?_) ?_
    · refine V_icmp_ne (tgt := 156) K.1 dX9_poll_148 (by decide) (fun c148 => ?_) (fun c148 => ?_)
      · refine V_iload 4 K.1 dX9_poll_156 rfl ?_
        refine V_iload 5 K.1 dX9_poll_158 rfl ?_
        refine V_icmp_le (tgt := 167) K.1 dX9_poll_160 (by decide) (fun c160 => ?_) (fun c160 => ?_)
        · refine V_iconst (v := 0) K.1 dX9_poll_167 (by decide) ?_
          exact V_top ((if_neg c148).trans (if_pos c160)) hJ1
        · refine V_iconst (v := 1) K.1 dX9_poll_163 (by decide) ?_
          refine V_goto (tgt := 168) K.1 dX9_poll_164 (by decide) ?_
          exact V_top ((if_neg c148).trans (if_neg c160)) hJ1
      · refine V_bipush (v := -5) K.1 dX9_poll_151 (by decide) ?_
        refine V_goto (tgt := 168) K.1 dX9_poll_153 (by decide) ?_
        exact V_top (if_pos c148) hJ1
    refine V_putI (key := 2265) K.1 dX9_poll_168 rfl rfl fw_X9_180 pw_X9_25 rfl rfl rfl rfl ?_
    refine V_iload 4 K.1 dX9_poll_171 rfl ?_
    refine V_iload 5 K.1 dX9_poll_173 rfl ?_
    refine V_join (J := 191) (S := []) (v := .int (if (x4 ≤ x5) then (x5 - x4) else (x4 - x5))) (fun hJ2 => ?_) ?_
    · refine V_icmp_le (tgt := 186) K.1 dX9_poll_175 (by decide) (fun c175 => ?_) (fun c175 => ?_)
      · refine V_iload 5 K.1 dX9_poll_186 rfl ?_
        refine V_iload 4 K.1 dX9_poll_188 rfl ?_
        refine V_isub K.1 dX9_poll_190 ?_
        exact V_top (if_pos c175) hJ2
      · refine V_iload 4 K.1 dX9_poll_178 rfl ?_
        refine V_iload 5 K.1 dX9_poll_180 rfl ?_
        refine V_isub K.1 dX9_poll_182 ?_
        refine V_goto (tgt := 191) K.1 dX9_poll_183 (by decide) ?_
        exact V_top (if_neg c175) hJ2
    refine V_istore (L' := [(0, .ref (ω.2.2.1 35)), (1, .int x1), (2, .int x2), (3, .int x3), (4, .int x4), (5, .int x5), (6, .int (if (x4 ≤ x5) then (x5 - x4) else (x4 - x5)))]) K.1 dX9_poll_191 (by decide) rfl ?_
    refine V_iload 4 K.1 dX9_poll_193 rfl ?_
    refine V_iload 5 K.1 dX9_poll_195 rfl ?_
    refine V_join (J := 207) (S := []) (v := .int (if (x4 ≤ x5) then x5 else x4)) (fun hJ3 => ?_) ?_
    · refine V_icmp_le (tgt := 205) K.1 dX9_poll_197 (by decide) (fun c197 => ?_) (fun c197 => ?_)
      · refine V_iload 5 K.1 dX9_poll_205 rfl ?_
        exact V_top (if_pos c197) hJ3
      · refine V_iload 4 K.1 dX9_poll_200 rfl ?_
        refine V_goto (tgt := 207) K.1 dX9_poll_202 (by decide) ?_
        exact V_top (if_neg c197) hJ3
    refine V_istore (L' := [(0, .ref (ω.2.2.1 35)), (1, .int x1), (2, .int x2), (3, .int x3), (4, .int x4), (5, .int x5), (6, .int (if (x4 ≤ x5) then (x5 - x4) else (x4 - x5))), (7, .int (if (x4 ≤ x5) then x5 else x4))]) K.1 dX9_poll_207 (by decide) rfl ?_
    refine V_iload 4 K.1 dX9_poll_209 rfl ?_
    refine V_iload 5 K.1 dX9_poll_211 rfl ?_
    refine V_iadd K.1 dX9_poll_213 ?_
    refine V_iload 7 K.1 dX9_poll_214 rfl ?_
    refine V_isub K.1 dX9_poll_216 ?_
    refine V_istore (L' := [(0, .ref (ω.2.2.1 35)), (1, .int x1), (2, .int x2), (3, .int x3), (4, .int x4), (5, .int x5), (6, .int (if (x4 ≤ x5) then (x5 - x4) else (x4 - x5))), (7, .int (if (x4 ≤ x5) then x5 else x4)), (8, .int ((x4 + x5) - (if (x4 ≤ x5) then x5 else x4)))]) K.1 dX9_poll_217 (by decide) rfl ?_
    exact V_sub [0, 6, 7, 8] rfl (k4 c28)
  · refine V_aload_n 0 K.1 dX9_poll_31 rfl rfl ?_
    refine V_get (v := .int (σ.1 2258)) K.1 dX9_poll_32 rfl rfl fw_X9_154 rfl rfl ?_
    refine V_iload 6 K.1 dX9_poll_35 rfl ?_
    refine V_ishr K.1 dX9_poll_37 ?_
    refine V_iconst (v := 1) K.1 dX9_poll_38 (by decide) ?_
    refine V_iand K.1 dX9_poll_39 ?_
    refine V_iconst (v := 1) K.1 dX9_poll_40 (by decide) ?_
    refine V_icmp_ne (tgt := 137) K.1 dX9_poll_41 (by decide) (fun c41 => ?_) (fun c41 => ?_)
    · refine V_iinc (v := (x6 + 1)) (L' := [(0, .ref (ω.2.2.1 35)), (1, .int x1), (2, .int x2), (3, .int x3), (4, .int x4), (5, .int x5), (6, .int (x6 + 1))]) 6 K.1 dX9_poll_137 rfl rfl (by decide) rfl ?_
      refine V_goto (tgt := 22) K.1 dX9_poll_140 (by decide) ?_
      exact (k5 c28 c41)
    · refine V_iload_n 2 K.1 dX9_poll_44 rfl rfl ?_
      refine V_iload 6 K.1 dX9_poll_45 rfl ?_
      refine V_ishr K.1 dX9_poll_47 ?_
      refine V_iconst (v := 1) K.1 dX9_poll_48 (by decide) ?_
      refine V_iand K.1 dX9_poll_49 ?_
      refine V_iconst (v := 1) K.1 dX9_poll_50 (by decide) ?_
      refine V_join (J := 83) (S := []) (v := .int (if (((x2 >>> (x6 &&& 31)) &&& (1 : Int32)) = (1 : Int32)) then (if (((x3 >>> (x6 &&& 31)) &&& (1 : Int32)) = (1 : Int32)) then (1 : Int32) else (0 : Int32)) else (if ((σ.2.1 39 (x6).toNatClampNeg) = 0) then (if ((((σ.2.1 40 (x6).toNatClampNeg) >>> (x1 &&& 31)) &&& (1 : Int32)) = (1 : Int32)) then (1 : Int32) else (0 : Int32)) else (if (x4 = x5) then (if ((((σ.2.1 40 (x6).toNatClampNeg) >>> (x1 &&& 31)) &&& (1 : Int32)) = (1 : Int32)) then (1 : Int32) else (0 : Int32)) else (if ((σ.2.1 39 (x6).toNatClampNeg) = (1 : Int32)) then (if (x4 ≤ x5) then (0 : Int32) else (1 : Int32)) else (if (x5 ≤ x4) then (0 : Int32) else (1 : Int32))))))) (fun hJ6 => ?_) ?_
      · refine V_icmp_ne (tgt := 72) K.1 dX9_poll_51 (by decide) (fun c51 => ?_) (fun c51 => ?_)
        · refine V_aload_n 0 K.1 dX9_poll_72 rfl rfl ?_
          refine V_iload 6 K.1 dX9_poll_73 rfl ?_
          refine V_iload_n 1 K.1 dX9_poll_75 rfl rfl ?_
          refine V_iload 4 K.1 dX9_poll_76 rfl ?_
          refine V_iload 5 K.1 dX9_poll_78 rfl ?_
          refine V_callV (d' := d - 1) (As := [.int x6, .int x1, .int x4, .int x5]) K.1 dX9_poll_80 cw_X9_176 rfl rfl rfl (by omega) rfl (by simp [Value.category]) (m_X9_says K.1.wf (by omega) (p7 c28 c41 c51) (p8 c28 c41 c51) (p9 c28 c41 c51)) (go_I ?_)
          exact V_top (if_neg c51) hJ6
        · refine V_iload_n 3 K.1 dX9_poll_54 rfl rfl ?_
          refine V_iload 6 K.1 dX9_poll_55 rfl ?_
          refine V_ishr K.1 dX9_poll_57 ?_
          refine V_iconst (v := 1) K.1 dX9_poll_58 (by decide) ?_
          refine V_iand K.1 dX9_poll_59 ?_
          refine V_iconst (v := 1) K.1 dX9_poll_60 (by decide) ?_
          refine V_icmp_ne (tgt := 68) K.1 dX9_poll_61 (by decide) (fun c61 => ?_) (fun c61 => ?_)
          · refine V_iconst (v := 0) K.1 dX9_poll_68 (by decide) ?_
            refine V_goto (tgt := 83) K.1 dX9_poll_69 (by decide) ?_
            exact V_top ((if_pos c51).trans (if_neg c61)) hJ6
          · refine V_iconst (v := 1) K.1 dX9_poll_64 (by decide) ?_
            refine V_goto (tgt := 83) K.1 dX9_poll_65 (by decide) ?_
            exact V_top ((if_pos c51).trans (if_pos c61)) hJ6
      refine V_istore (L' := [(0, .ref (ω.2.2.1 35)), (1, .int x1), (2, .int x2), (3, .int x3), (4, .int x4), (5, .int x5), (6, .int x6), (7, .int (if (((x2 >>> (x6 &&& 31)) &&& (1 : Int32)) = (1 : Int32)) then (if (((x3 >>> (x6 &&& 31)) &&& (1 : Int32)) = (1 : Int32)) then (1 : Int32) else (0 : Int32)) else (if ((σ.2.1 39 (x6).toNatClampNeg) = 0) then (if ((((σ.2.1 40 (x6).toNatClampNeg) >>> (x1 &&& 31)) &&& (1 : Int32)) = (1 : Int32)) then (1 : Int32) else (0 : Int32)) else (if (x4 = x5) then (if ((((σ.2.1 40 (x6).toNatClampNeg) >>> (x1 &&& 31)) &&& (1 : Int32)) = (1 : Int32)) then (1 : Int32) else (0 : Int32)) else (if ((σ.2.1 39 (x6).toNatClampNeg) = (1 : Int32)) then (if (x4 ≤ x5) then (0 : Int32) else (1 : Int32)) else (if (x5 ≤ x4) then (0 : Int32) else (1 : Int32)))))))]) K.1 dX9_poll_83 (by decide) rfl ?_
      exact (k10 c28 c41)
set_option maxRecDepth 20000 in
theorem R_X9_poll_85 {ω : WT} {κ : KT} {l : Launch} {d : Nat} {post : Option Value → St → Prop} {σ : St} {x1 x2 x3 x4 x5 x6 x7 : Int32}  (K : Cm ω κ l yX9_poll cX9_poll 9 d none post)
    (k4 : V ω κ 22 [(0, .ref (ω.2.2.1 35)), (1, .int x1), (2, .int x2), (3, .int x3), (4, .int (x4 + (if (x7 = 0) then (0 : Int32) else (1 : Int32)))), (5, .int (x5 + (if (x7 = 0) then (1 : Int32) else (0 : Int32)))), (6, .int (x6 + 1))] [] (pS σ 2264 ((σ.1 2264) ||| (if (x7 = 0) then (0 : Int32) else ((1 : Int32) <<< (x6 &&& 31)))))) :
    V ω κ 85 [(0, .ref (ω.2.2.1 35)), (1, .int x1), (2, .int x2), (3, .int x3), (4, .int x4), (5, .int x5), (6, .int x6), (7, .int x7)] [] σ := by
  refine V_aload_n 0 K.1 dX9_poll_85 rfl rfl ?_
  refine V_dup K.1 dX9_poll_86 rfl ?_
  refine V_get (v := .int (σ.1 2264)) K.1 dX9_poll_87 rfl rfl fw_X9_173 rfl rfl ?_
  refine V_iload 7 K.1 dX9_poll_90 rfl ?_
  refine V_join (J := 103) (S := [.int (σ.1 2264), .ref (ω.2.2.1 35)]) (v := .int (if (x7 = 0) then (0 : Int32) else ((1 : Int32) <<< (x6 &&& 31)))) (fun hJ1 => ?_) ?_
  · refine V_if_eq (tgt := 102) K.1 dX9_poll_92 (by decide) (fun c92 => ?_) (fun c92 => ?_)
    · refine V_iconst (v := 0) K.1 dX9_poll_102 (by decide) ?_
      exact V_top (if_pos c92) hJ1
    · refine V_iconst (v := 1) K.1 dX9_poll_95 (by decide) ?_
      refine V_iload 6 K.1 dX9_poll_96 rfl ?_
      refine V_ishl K.1 dX9_poll_98 ?_
      refine V_goto (tgt := 103) K.1 dX9_poll_99 (by decide) ?_
      exact V_top (if_neg c92) hJ1
  refine V_ior K.1 dX9_poll_103 ?_
  refine V_putI (key := 2264) K.1 dX9_poll_104 rfl rfl fw_X9_173 pw_X9_24 rfl rfl rfl rfl ?_
  refine V_iload 4 K.1 dX9_poll_107 rfl ?_
  refine V_iload 7 K.1 dX9_poll_109 rfl ?_
  refine V_join (J := 119) (S := [.int x4]) (v := .int (if (x7 = 0) then (0 : Int32) else (1 : Int32))) (fun hJ2 => ?_) ?_
  · refine V_if_eq (tgt := 118) K.1 dX9_poll_111 (by decide) (fun c111 => ?_) (fun c111 => ?_)
    · refine V_iconst (v := 0) K.1 dX9_poll_118 (by decide) ?_
      exact V_top (if_pos c111) hJ2
    · refine V_iconst (v := 1) K.1 dX9_poll_114 (by decide) ?_
      refine V_goto (tgt := 119) K.1 dX9_poll_115 (by decide) ?_
      exact V_top (if_neg c111) hJ2
  refine V_iadd K.1 dX9_poll_119 ?_
  refine V_istore (L' := [(0, .ref (ω.2.2.1 35)), (1, .int x1), (2, .int x2), (3, .int x3), (4, .int (x4 + (if (x7 = 0) then (0 : Int32) else (1 : Int32)))), (5, .int x5), (6, .int x6), (7, .int x7)]) K.1 dX9_poll_120 (by decide) rfl ?_
  refine V_iload 5 K.1 dX9_poll_122 rfl ?_
  refine V_iload 7 K.1 dX9_poll_124 rfl ?_
  refine V_join (J := 134) (S := [.int x5]) (v := .int (if (x7 = 0) then (1 : Int32) else (0 : Int32))) (fun hJ3 => ?_) ?_
  · refine V_if_eq (tgt := 133) K.1 dX9_poll_126 (by decide) (fun c126 => ?_) (fun c126 => ?_)
    · refine V_iconst (v := 1) K.1 dX9_poll_133 (by decide) ?_
      exact V_top (if_pos c126) hJ3
    · refine V_iconst (v := 0) K.1 dX9_poll_129 (by decide) ?_
      refine V_goto (tgt := 134) K.1 dX9_poll_130 (by decide) ?_
      exact V_top (if_neg c126) hJ3
  refine V_iadd K.1 dX9_poll_134 ?_
  refine V_istore (L' := [(0, .ref (ω.2.2.1 35)), (1, .int x1), (2, .int x2), (3, .int x3), (4, .int (x4 + (if (x7 = 0) then (0 : Int32) else (1 : Int32)))), (5, .int (x5 + (if (x7 = 0) then (1 : Int32) else (0 : Int32)))), (6, .int x6), (7, .int x7)]) K.1 dX9_poll_135 (by decide) rfl ?_
  refine V_iinc (v := (x6 + 1)) (L' := [(0, .ref (ω.2.2.1 35)), (1, .int x1), (2, .int x2), (3, .int x3), (4, .int (x4 + (if (x7 = 0) then (0 : Int32) else (1 : Int32)))), (5, .int (x5 + (if (x7 = 0) then (1 : Int32) else (0 : Int32)))), (6, .int (x6 + 1)), (7, .int x7)]) 6 K.1 dX9_poll_137 rfl rfl (by decide) rfl ?_
  refine V_goto (tgt := 22) K.1 dX9_poll_140 (by decide) ?_
  exact V_sub [0, 1, 2, 3, 4, 5, 6] rfl k4
set_option maxRecDepth 20000 in
theorem R_X9_poll_219 {ω : WT} {κ : KT} {l : Launch} {d : Nat} {post : Option Value → St → Prop} {σ : St} {x6 x7 x8 : Int32}  (K : Cm ω κ l yX9_poll cX9_poll 9 d none post)
    (k3 : post none (pS (pS σ 2266 (if ((σ.1 2261) = 0) then x6 else (if ((σ.1 2261) = (1 : Int32)) then x7 else (if ((σ.1 2261) = (2 : Int32)) then x8 else ((2 : Int32) * x6))))) 2266 (if ((σ.1 2265) = (-5 : Int32)) then (0 : Int32) else (if ((if ((σ.1 2261) = 0) then x6 else (if ((σ.1 2261) = (1 : Int32)) then x7 else (if ((σ.1 2261) = (2 : Int32)) then x8 else ((2 : Int32) * x6)))) ≤ (σ.1 2245)) then (if ((σ.1 2261) = 0) then x6 else (if ((σ.1 2261) = (1 : Int32)) then x7 else (if ((σ.1 2261) = (2 : Int32)) then x8 else ((2 : Int32) * x6)))) else (σ.1 2245))))) :
    V ω κ 219 [(0, .ref (ω.2.2.1 35)), (6, .int x6), (7, .int x7), (8, .int x8)] [] σ := by
  refine V_aload_n 0 K.1 dX9_poll_219 rfl rfl ?_
  refine V_aload_n 0 K.1 dX9_poll_220 rfl rfl ?_
  refine V_get (v := .int (σ.1 2261)) K.1 dX9_poll_221 rfl rfl fw_X9_164 rfl rfl ?_
  refine V_join (J := 262) (S := [.ref (ω.2.2.1 35)]) (v := .int (if ((σ.1 2261) = 0) then x6 else (if ((σ.1 2261) = (1 : Int32)) then x7 else (if ((σ.1 2261) = (2 : Int32)) then x8 else ((2 : Int32) * x6))))) (fun hJ1 => ?_) ?_
  · refine V_if_ne (tgt := 232) K.1 dX9_poll_224 (by decide) (fun c224 => ?_) (fun c224 => ?_)
    · refine V_aload_n 0 K.1 dX9_poll_232 rfl rfl ?_
      refine V_get (v := .int (σ.1 2261)) K.1 dX9_poll_233 rfl rfl fw_X9_164 rfl rfl ?_
      refine V_iconst (v := 1) K.1 dX9_poll_236 (by decide) ?_
      refine V_icmp_ne (tgt := 245) K.1 dX9_poll_237 (by decide) (fun c237 => ?_) (fun c237 => ?_)
      · refine V_aload_n 0 K.1 dX9_poll_245 rfl rfl ?_
        refine V_get (v := .int (σ.1 2261)) K.1 dX9_poll_246 rfl rfl fw_X9_164 rfl rfl ?_
        refine V_iconst (v := 2) K.1 dX9_poll_249 (by decide) ?_
        refine V_icmp_ne (tgt := 258) K.1 dX9_poll_250 (by decide) (fun c250 => ?_) (fun c250 => ?_)
        · refine V_iconst (v := 2) K.1 dX9_poll_258 (by decide) ?_
          refine V_iload 1 K.1 dX9_poll_259 rfl ?_
          refine V_imul K.1 dX9_poll_261 ?_
          exact V_top (((if_neg c224).trans (if_neg c237)).trans (if_neg c250)) hJ1
        · refine V_iload 3 K.1 dX9_poll_253 rfl ?_
          refine V_goto (tgt := 262) K.1 dX9_poll_255 (by decide) ?_
          exact V_top (((if_neg c224).trans (if_neg c237)).trans (if_pos c250)) hJ1
      · refine V_iload 2 K.1 dX9_poll_240 rfl ?_
        refine V_goto (tgt := 262) K.1 dX9_poll_242 (by decide) ?_
        exact V_top ((if_neg c224).trans (if_pos c237)) hJ1
    · refine V_iload 1 K.1 dX9_poll_227 rfl ?_
      refine V_goto (tgt := 262) K.1 dX9_poll_229 (by decide) ?_
      exact V_top (if_pos c224) hJ1
  refine V_putI (key := 2266) K.1 dX9_poll_262 rfl rfl fw_X9_183 pw_X9_26 rfl rfl rfl rfl ?_
  refine V_aload_n 0 K.1 dX9_poll_265 rfl rfl ?_
  refine V_aload_n 0 K.1 dX9_poll_266 rfl rfl ?_
  refine V_get (v := .int (σ.1 2265)) K.1 dX9_poll_267 rfl rfl fw_X9_180 rfl rfl ?_
  refine V_bipush (v := -5) K.1 dX9_poll_270 (by decide) ?_
  refine V_join (J := 301) (S := [.ref (ω.2.2.1 35)]) (v := .int (if ((σ.1 2265) = (-5 : Int32)) then (0 : Int32) else (if ((if ((σ.1 2261) = 0) then x6 else (if ((σ.1 2261) = (1 : Int32)) then x7 else (if ((σ.1 2261) = (2 : Int32)) then x8 else ((2 : Int32) * x6)))) ≤ (σ.1 2245)) then (if ((σ.1 2261) = 0) then x6 else (if ((σ.1 2261) = (1 : Int32)) then x7 else (if ((σ.1 2261) = (2 : Int32)) then x8 else ((2 : Int32) * x6)))) else (σ.1 2245)))) (fun hJ2 => ?_) ?_
  · refine V_icmp_ne (tgt := 279) K.1 dX9_poll_272 (by decide) (fun c272 => ?_) (fun c272 => ?_)
    · refine V_aload_n 0 K.1 dX9_poll_279 rfl rfl ?_
      refine V_get (v := .int (if ((σ.1 2261) = 0) then x6 else (if ((σ.1 2261) = (1 : Int32)) then x7 else (if ((σ.1 2261) = (2 : Int32)) then x8 else ((2 : Int32) * x6))))) K.1 dX9_poll_280 rfl rfl fw_X9_183 rfl rfl ?_
      refine V_aload_n 0 K.1 dX9_poll_283 rfl rfl ?_
      refine V_get (v := .int (σ.1 2245)) K.1 dX9_poll_284 rfl rfl fw_X9_91 rfl rfl ?_
      refine V_icmp_le (tgt := 297) K.1 dX9_poll_287 (by decide) (fun c287 => ?_) (fun c287 => ?_)
      · refine V_aload_n 0 K.1 dX9_poll_297 rfl rfl ?_
        refine V_get (v := .int (if ((σ.1 2261) = 0) then x6 else (if ((σ.1 2261) = (1 : Int32)) then x7 else (if ((σ.1 2261) = (2 : Int32)) then x8 else ((2 : Int32) * x6))))) K.1 dX9_poll_298 rfl rfl fw_X9_183 rfl rfl ?_
        exact V_top ((if_neg c272).trans (if_pos c287)) hJ2
      · refine V_aload_n 0 K.1 dX9_poll_290 rfl rfl ?_
        refine V_get (v := .int (σ.1 2245)) K.1 dX9_poll_291 rfl rfl fw_X9_91 rfl rfl ?_
        refine V_goto (tgt := 301) K.1 dX9_poll_294 (by decide) ?_
        exact V_top ((if_neg c272).trans (if_neg c287)) hJ2
    · refine V_iconst (v := 0) K.1 dX9_poll_275 (by decide) ?_
      refine V_goto (tgt := 301) K.1 dX9_poll_276 (by decide) ?_
      exact V_top (if_pos c272) hJ2
  refine V_putI (key := 2266) K.1 dX9_poll_301 rfl rfl fw_X9_183 pw_X9_26 rfl rfl rfl rfl ?_
  exact V_vret K dX9_poll_304 k3
end
section
/-! ===== towns as numbers, in both systems; the loops of a vote ===== -/
abbrev Tn : Type := Nat × Nat × Nat × Nat × Nat × (Nat → Nat) × (Nat → Nat → Bool) × (Nat → Nat)
abbrev tnp (t : Tn) : Nat := t.1
abbrev tnm (t : Tn) : Nat := t.2.1
abbrev tme (t : Tn) : Nat := t.2.2.1
abbrev tla (t : Tn) : Nat := t.2.2.2.1
abbrev tit (t : Tn) : Nat := t.2.2.2.2.1
abbrev tkd (t : Tn) : Nat → Nat := t.2.2.2.2.2.1
abbrev tws (t : Tn) : Nat → Nat → Bool := t.2.2.2.2.2.2.1
abbrev tag (t : Tn) : Nat → Nat := t.2.2.2.2.2.2.2
/-- a town as the document has it, or none -/
def TO (t : Tn) : Prop := tnp t ≤ 8 ∧ tnm t ≤ 6 ∧ tme t ≤ 3 ∧ tla t ≤ 2 ∧ tit t ≤ 6 ∧ (∀ x, tkd t x ≤ 2) ∧ (∀ q, q < tit t → tag t q < tnm t) ∧ (∀ p q, p < q → q < tit t → tag t p ≠ tag t q) ∧ ((tnp t = 0 ∧ tnm t = 0 ∧ tit t = 0 ∧ tme t = 0 ∧ tla t = 0) ∨ (2 ≤ tnp t ∧ 1 ≤ tnm t ∧ 1 ≤ tit t))
def TC (t : Tn) (σ : St) : Prop := σ.1 640 = nI (tnp t) ∧ σ.1 641 = nI (tnm t) ∧ σ.1 642 = nI (tme t) ∧ σ.1 643 = nI (tla t) ∧ σ.1 644 = nI (tit t) ∧ σ.1 645 = nI (bs (fun x => tkd t x == 2) (tnp t)) ∧ σ.1 646 = nI (bs (fun x => tkd t x != 0) (tnp t)) ∧ (∀ x, x < tnp t → σ.2.1 11 x = nI (tkd t x)) ∧ (∀ m, m < tnm t → σ.2.1 12 m = nI (bs (fun x => tws t x m) (tnp t))) ∧ ∀ q, q < tit t → σ.2.1 13 q = nI (tag t q)
def TM (t : Tn) (σ : St) : Prop := σ.1 2245 = nI (tnp t) ∧ σ.1 2246 = nI (tnm t) ∧ σ.1 2249 = nI (tme t) ∧ σ.1 2250 = nI (tla t) ∧ σ.1 2251 = nI (tit t) ∧ (∀ x, x < tnp t → σ.2.1 39 x = nI (tkd t x)) ∧ (∀ x, x < tnp t → σ.2.1 40 x = nI (bs (tws t x) (tnm t))) ∧ ∀ q, q < tit t → σ.2.1 41 q = nI (tag t q)
theorem pS_over (σ : St) (k : Nat) (a b : Int32) : pS (pS σ k a) k b = pS σ k b := by
  simp only [pS]
  congr 1
  funext j
  by_cases h : j = k <;> simp [h]
theorem pS_swap (σ : St) {k k' : Nat} (h : k ≠ k') (a b : Int32) : pS (pS σ k a) k' b = pS (pS σ k' b) k a := by
  simp only [pS]
  congr 1
  funext j
  by_cases h1 : j = k
  · subst h1; simp [h]
  · by_cases h2 : j = k' <;> simp [h1, h2, Ne.symm h]
theorem pS_self (σ : St) (k : Nat) {a : Int32} (h : σ.1 k = a) : pS σ k a = σ := by
  simp only [pS]
  apply Prod.ext
  · funext j
    by_cases e : j = k
    · subst e; simp [h]
    · simp [e]
  · rfl
theorem pA_pF (σ : St) (k i : Nat) (f : Nat → Int32) (v : Int32) : pA (pF σ k f) k i v = pF σ k (upd f i v) := by
  simp only [pA, pF]
  congr 2
  funext j
  by_cases h : j = k <;> simp [h]
theorem pM_pG (σ : St) (k i : Nat) (f : Nat → Int64) (v : Int64) : pM (pG σ k f) k i v = pG σ k (vp_updL f i v) := by
  simp only [pM, pG]
  congr 3
  funext j
  by_cases h : j = k <;> simp [h]
theorem pF_self (σ : St) (k : Nat) : pF σ k (σ.2.1 k) = σ := by
  simp only [pF]
  apply Prod.ext
  · rfl
  · apply Prod.ext
    · funext j
      by_cases e : j = k <;> simp [e]
    · rfl
theorem pG_self (σ : St) (k : Nat) : pG σ k (σ.2.2.2 k) = σ := by
  simp only [pG]
  apply Prod.ext
  · rfl
  · apply Prod.ext
    · rfl
    · apply Prod.ext
      · rfl
      · funext j
        by_cases e : j = k <;> simp [e]
theorem shpA_n {k a n : Nat} (h : shpA k = some (a, n)) : n ≤ 4096 := by
  unfold shpA at h
  split at h <;> first | (cases h; decide) | cases h
/-- Integer.bitCount, by its steps -/
def F_bc (x : Int32) : Int32 :=
  let a := x - ((x.toUInt32 >>> ((1 : Int32).toUInt32 &&& Int32.toUInt32 31)).toInt32 &&& (1431655765 : Int32))
  let b := (a &&& (858993459 : Int32)) + ((a.toUInt32 >>> ((2 : Int32).toUInt32 &&& Int32.toUInt32 31)).toInt32 &&& (858993459 : Int32))
  let c := (b + (b.toUInt32 >>> ((4 : Int32).toUInt32 &&& Int32.toUInt32 31)).toInt32) &&& (252645135 : Int32)
  let e := c + (c.toUInt32 >>> ((8 : Int32).toUInt32 &&& Int32.toUInt32 31)).toInt32
  (e + (e.toUInt32 >>> ((16 : Int32).toUInt32 &&& Int32.toUInt32 31)).toInt32) &&& (63 : Int32)
theorem F_bc_n : ∀ s, s < 256 → F_bc (nI s) = nI (cb s 8) := by decide +kernel
theorem m_J6_bitCount_0f7a4 {ω : WT} {l : Launch} {d : Nat} {σ : St} {x0 : Int32} (hWf : Wf ω) (_hd : 0 ≤ d) : Sp ω l yJ6_bitCount_0f7a4 cJ6_bitCount_0f7a4 1 (some .int) d [.int x0] σ (rI (F_bc x0) σ) :=
  Sp.ofF plJ_bits (Nat.le_of_ble_eq_true rfl) hWf (fun κ K => R_J6_bitCount_0f7a4_0 K (R_J6_bitCount_0f7a4_10 K (R_J6_bitCount_0f7a4_24 K (R_J6_bitCount_0f7a4_34 K (R_J6_bitCount_0f7a4_41 K (R_J6_bitCount_0f7a4_48 K ⟨rfl, rfl⟩))))))
/-- the model's bits -/
def F_bits (x : Int32) : Nat → Int32
  | 0 => 0
  | k + 1 => F_bits x k + ((x >>> (nI k &&& 31)) &&& 1)
theorem F_bits_n {s : Nat} (hs : s < 2 ^ 31) : ∀ k, k ≤ 31 → F_bits (nI s) k = nI (cb s k)
  | 0, _ => rfl
  | k + 1, h => by
    rw [F_bits, F_bits_n hs k (by omega), nI_bit hs (by omega), nI_add, cb]
theorem bits_loop {ω : WT} {κ : KT} {l : Launch} {d : Nat} {σ : St} {x0 : Int32} (K : Cm ω κ l yX9_bits cX9_bits 3 d (some .int) (rI (F_bits x0 20) σ)) : ∀ j k, k + j = 20 → V ω κ 4 [(0, .int x0), (1, .int (F_bits x0 k)), (2, .int (nI k))] [] σ
  | 0, k, h => by
    obtain rfl : k = 20 := by omega
    exact R_X9_bits_4 K (fun _ => ⟨rfl, rfl⟩) (fun h => absurd (by decide) h)
  | j + 1, k, h => by
    refine R_X9_bits_4 K (fun h2 => absurd ((nI_leI (a := 20) (by omega) (by omega)).mp h2) (by omega)) (fun _ => ?_)
    rw [nI_1]
    exact bits_loop K j (k + 1) (by omega)
theorem m_X9_bits {ω : WT} {l : Launch} {d : Nat} {σ : St} {x0 : Int32} (hWf : Wf ω) (_hd : 0 ≤ d) : Sp ω l yX9_bits cX9_bits 3 (some .int) d [.int x0] σ (rI (F_bits x0 20) σ) :=
  Sp.of (by decide) (Nat.le_of_ble_eq_true rfl) hWf (fun κ K => R_X9_bits_0 K (bits_loop K 20 0 rfl))
/-- Arrays.fill -/
def fillF {α : Type} (f : Nat → α) (v : α) (n : Nat) : Nat → α := fun q => if q < n then v else f q
theorem fillF_s (f : Nat → Int32) (v : Int32) (n : Nat) : upd (fillF f v n) n v = fillF f v (n + 1) := by
  funext q
  simp only [upd, fillF]
  by_cases h : q = n
  · subst h; simp
  · by_cases h2 : q < n
    · simp [h, h2]; omega
    · rw [if_neg h, if_neg h2, if_neg (by omega)]
theorem fillF_sL (f : Nat → Int64) (v : Int64) (n : Nat) : vp_updL (fillF f v n) n v = fillF f v (n + 1) := by
  funext q
  simp only [vp_updL, fillF]
  by_cases h : q = n
  · subst h; simp
  · by_cases h2 : q < n
    · simp [h, h2]; omega
    · rw [if_neg h, if_neg h2, if_neg (by omega)]
theorem fill_loop {ω : WT} {κ : KT} {l : Launch} {d k n : Nat} {σ : St} {x1 : Int32} (hk : shpA k = some (0, n)) (K : Cm ω κ l yJ7_fill_53178 cJ7_fill_53178 4 d none (rV (pF σ k (fillF (σ.2.1 k) x1 n)))) : ∀ j i, i + j = n → V ω κ 5 [(0, .ref (ω.2.2.1 k)), (1, .int x1), (2, .int (nI i)), (3, .int (nI n))] [] (pF σ k (fillF (σ.2.1 k) x1 i))
  | 0, i, h => by
    have hn := shpA_n hk
    obtain rfl : i = n := by omega
    exact R_J7_fill_53178_5 hk K (fun _ => ⟨rfl, rfl⟩) (fun h => absurd (nI_le (Nat.le_refl _) (by omega)) h) (fun h => absurd (nI_le (Nat.le_refl _) (by omega)) h)
  | j + 1, i, h => by
    have hn := shpA_n hk
    refine R_J7_fill_53178_5 hk K (fun h2 => absurd ((nI_leI (by omega) (by omega)).mp h2) (by omega)) (fun _ => vp_in_nI (by omega) (by omega)) (fun _ => ?_)
    rw [nI_1, nI_clamp (by omega), pA_pF, fillF_s]
    exact fill_loop hk K j (i + 1) (by omega)
theorem m_J7_fill_53178 {ω : WT} {l : Launch} {d : Nat} {σ : St} {x1 : Int32} {n k : Nat} (hk : shpA k = some (0, n)) (hWf : Wf ω) (_hd : 0 ≤ d) : Sp ω l yJ7_fill_53178 cJ7_fill_53178 4 none d [.ref (ω.2.2.1 k), .int x1] σ (rV (pF σ k (fillF (σ.2.1 k) x1 n))) :=
  Sp.ofF plJ_fill (Nat.le_of_ble_eq_true rfl) hWf (fun κ K => R_J7_fill_53178_0 hk K (by
    have h := fill_loop hk K n 0 (by omega)
    have e : fillF (σ.2.1 k) x1 0 = σ.2.1 k := by funext q; simp [fillF]
    rw [e, pF_self] at h
    exact h))
theorem fillL_loop {ω : WT} {κ : KT} {l : Launch} {d k n : Nat} {σ : St} {x1 : Int64} (hk : shpA k = some (1, n)) (K : Cm ω κ l yJ7_fill_d0a16 cJ7_fill_d0a16 5 d none (rV (pG σ k (fillF (σ.2.2.2 k) x1 n)))) : ∀ j i, i + j = n → V ω κ 6 [(0, .ref (ω.2.2.1 k)), (1, .long x1), (3, .int (nI i)), (4, .int (nI n))] [] (pG σ k (fillF (σ.2.2.2 k) x1 i))
  | 0, i, h => by
    have hn := shpA_n hk
    obtain rfl : i = n := by omega
    exact R_J7_fill_d0a16_6 hk K (fun _ => ⟨rfl, rfl⟩) (fun h => absurd (nI_le (Nat.le_refl _) (by omega)) h) (fun h => absurd (nI_le (Nat.le_refl _) (by omega)) h)
  | j + 1, i, h => by
    have hn := shpA_n hk
    refine R_J7_fill_d0a16_6 hk K (fun h2 => absurd ((nI_leI (by omega) (by omega)).mp h2) (by omega)) (fun _ => vp_in_nI (by omega) (by omega)) (fun _ => ?_)
    rw [nI_1, nI_clamp (by omega), pM_pG, fillF_sL]
    exact fillL_loop hk K j (i + 1) (by omega)
theorem m_J7_fill_d0a16 {ω : WT} {l : Launch} {d : Nat} {σ : St} {x1 : Int64} {n k : Nat} (hk : shpA k = some (1, n)) (hWf : Wf ω) (_hd : 0 ≤ d) : Sp ω l yJ7_fill_d0a16 cJ7_fill_d0a16 5 none d [.ref (ω.2.2.1 k), .long x1] σ (rV (pG σ k (fillF (σ.2.2.2 k) x1 n))) :=
  Sp.ofF plJ_fillL (Nat.le_of_ble_eq_true rfl) hWf (fun κ K => R_J7_fill_d0a16_0 hk K (by
    have h := fillL_loop hk K n 0 (by omega)
    have e : fillF (σ.2.2.2 k) x1 0 = σ.2.2.2 k := by funext q; simp [fillF]
    rw [e, pG_self] at h
    exact h))
end
section
/-! ===== the loops of a vote: class and model ===== -/
theorem nI_pr {n : Nat} (h : 0 < n) : nI n + -1 = nI (n - 1) := by
  obtain ⟨k, rfl⟩ : ∃ k, n = k + 1 := ⟨n - 1, by omega⟩
  exact pk_m1 k
theorem or_step {a s x : Nat} (h : s < 2 ^ x) : (a ||| s) ||| 2 ^ x = a ||| (s + 2 ^ x) := by
  rw [Nat.or_assoc, or_pow h]
theorem foS_top {s c n : Nat} (h : s < 2 ^ n) : ∀ k, foS s c (n + k) = foS s c n
  | 0 => rfl
  | k + 1 => by
    have e : s.testBit (n + k) = false := Nat.testBit_lt_two_pow (Nat.lt_of_lt_of_le h (Nat.pow_le_pow_right (by omega) (by omega)))
    rw [← Nat.add_assoc, foS, foS_top h k, if_neg (by rw [e]; simp)]
/-- firstOf -/
theorem firstOf_loop {ω : WT} {κ : KT} {l : Launch} {d s c : Nat} {σ : St} (hs : s < 256) (hc : c < 2 ^ 31) (K : Cm ω κ l yX2_firstOf cX2_firstOf 5 d (some .int) (rI (nI (foS s c 8).1) σ)) : ∀ j x, x + j = 8 → V ω κ 4 [(0, .int (nI s)), (1, .int (nI (foS s c x).2)), (2, .int (nI (foS s c x).1)), (3, .int (nI x))] [] σ
  | 0, x, h => by
    obtain rfl : x = 8 := by omega
    exact R_X2_firstOf_4 K (fun _ => ⟨rfl, rfl⟩) (fun h => absurd (by decide) h) (fun h => absurd (by decide) h) (fun h => absurd (by decide) h)
  | j + 1, x, h => by
    obtain ⟨h1, h2, h3⟩ := foS_ok s c x
    have hx : ¬ (8 : Int32) ≤ nI x := fun h2 => absurd ((nI_leI (a := 8) (by omega) (by omega)).mp h2) (by omega)
    have ih := firstOf_loop hs hc K j (x + 1) (by omega)
    refine R_X2_firstOf_4 K (fun h2 => absurd h2 hx) (fun _ hc0 => ?_) (fun _ hc0 hb => ?_) (fun _ hc0 hb => ?_)
    · have e0 : (foS s c x).2 = 0 := by
        have := (nI_leI (a := (foS s c x).2) (b := 0) (by omega) (by omega)).mp hc0
        omega
      have := foS_stop e0 (8 - x)
      rw [show x + (8 - x) = 8 by omega] at this
      rw [this]
      exact ⟨rfl, rfl⟩
    · have e : s.testBit x = false := (nI_bit0 (by omega)).mp hb
      rw [foS, if_neg (by rw [e]; simp)] at ih
      rw [nI_1]
      exact ih
    · have e : s.testBit x = true := by
        cases q : s.testBit x
        · exact absurd ((nI_bit0 (by omega)).mpr q) hb
        · rfl
      have e2 : 0 < (foS s c x).2 := by
        rcases Nat.eq_zero_or_pos (foS s c x).2 with z | z
        · exact absurd (by rw [z]; decide) hc0
        · exact z
      have e3 : nI s &&& ((1 : Int32) <<< (nI x &&& 31)) = nI (2 ^ x) := by
        rw [sh1 x (by omega), fa_and]
        congr 1
        apply Nat.eq_of_testBit_eq
        intro i
        rw [Nat.testBit_and, Nat.testBit_two_pow]
        by_cases hi : x = i
        · subst hi; simp [e]
        · simp [hi]
      rw [foS, if_pos ⟨e, e2⟩] at ih
      rw [e3, fa_or, or_pow h1, nI_pr e2, nI_1]
      exact ih
theorem m_firstOf {ω : WT} {l : Launch} {d s c : Nat} {σ : St} (hWf : Wf ω) (hs : s < 256) (hc : c < 2 ^ 31) : Sp ω l yX2_firstOf cX2_firstOf 5 (some .int) d [.int (nI s), .int (nI c)] σ (rI (nI (foS s c 8).1) σ) :=
  Sp.of (by decide) (Nat.le_of_ble_eq_true rfl) hWf (fun κ K => R_X2_firstOf_0 K (firstOf_loop hs hc K 8 0 rfl))
/-- inTurn -/
theorem rndS_ok {np last : Nat} (hl : last < np) (hnp : np ≤ 8) : ∀ k, (rndS np last k).2 < np ∧ (rndS np last k).1 < 256
  | 0 => ⟨hl, by simp [rndS]⟩
  | k + 1 => by
    obtain ⟨h1, h2⟩ := rndS_ok hl hnp k
    have h3 : ((rndS np last k).2 + 1) % np < np := Nat.mod_lt _ (by omega)
    refine ⟨h3, ?_⟩
    show (rndS np last k).1 ||| 2 ^ (((rndS np last k).2 + 1) % np) < 2 ^ 8
    exact Nat.or_lt_two_pow h2 (Nat.pow_lt_pow_right (by omega) (by omega))
theorem inTurn_loop {ω : WT} {κ : KT} {l : Launch} {d np last n : Nat} {σ : St} (hn : σ.1 901 = nI n) (hp : σ.1 640 = nI np) (hnp : np ≤ 8) (hl : last < np) (hn8 : n ≤ 8) (K : Cm ω κ l yX2_inTurn cX2_inTurn 4 d (some .int) (rI (nI ((rndS np last n).2 * 256 + (rndS np last n).1)) σ)) : ∀ j k, k + j = n → V ω κ 4 [(0, .ref (ω.2.2.1 14)), (1, .int (nI (rndS np last k).2)), (2, .int (nI (rndS np last k).1)), (3, .int (nI k))] [] σ
  | 0, k, h => by
    obtain rfl : k = n := by omega
    obtain ⟨h1, h2⟩ := rndS_ok hl hnp k
    refine R_X2_inTurn_4 K (fun _ => ⟨?_, rfl⟩) (fun h => absurd (by rw [hn]; exact nI_le (Nat.le_refl _) (by omega)) h)
    rw [show (256 : Int32) = nI 256 from rfl, pk_mul, nI_add]
  | j + 1, k, h => by
    obtain ⟨h1, h2⟩ := rndS_ok hl hnp k
    have ih := inTurn_loop hn hp hnp hl hn8 K j (k + 1) (by omega)
    refine R_X2_inTurn_4 K (fun h2 => absurd (by rw [hn] at h2; exact (nI_leI (by omega) (by omega)).mp h2) (by omega)) (fun _ => ?_)
    have e : (if σ.1 640 ≤ nI (rndS np last k).2 + 1 then (0 : Int32) else nI (rndS np last k).2 + 1) = nI (((rndS np last k).2 + 1) % np) := by
      rw [hp, nI_1]
      by_cases q : np ≤ (rndS np last k).2 + 1
      · rw [if_pos (nI_le q (by omega))]
        have : (rndS np last k).2 + 1 = np := by omega
        rw [this, Nat.mod_self]
        rfl
      · rw [if_neg (fun z => q ((nI_leI (by omega) (by omega)).mp z)), Nat.mod_eq_of_lt (by omega)]
    have h3 : ((rndS np last k).2 + 1) % np < np := Nat.mod_lt _ (by omega)
    rw [e, sh1 _ (by omega), fa_or, nI_1]
    exact ih
theorem m_inTurn {ω : WT} {l : Launch} {d np last n : Nat} {σ : St} (hWf : Wf ω) (hn : σ.1 901 = nI n) (hp : σ.1 640 = nI np) (hnp : np ≤ 8) (hl : last < np) (hn8 : n ≤ 8) : Sp ω l yX2_inTurn cX2_inTurn 4 (some .int) d [.ref (ω.2.2.1 14), .int (nI last)] σ (rI (nI ((rndS np last n).2 * 256 + (rndS np last n).1)) σ) :=
  Sp.of (by decide) (Nat.le_of_ble_eq_true rfl) hWf (fun κ K => R_X2_inTurn_0 K (inTurn_loop hn hp hnp hl hn8 K n 0 (by omega)))
/-- the model's seatRound -/
theorem seatRound_loop {ω : WT} {κ : KT} {l : Launch} {d np last n : Nat} {σ : St} (hn : σ.1 2266 = nI n) (hp : σ.1 2245 = nI np) (hnp : np ≤ 8) (hl : last < np) (hn8 : n ≤ 8) (K : Cm ω κ l yX9_seatRound cX9_seatRound 3 d none (rV (pS (pS σ 2260 (nI (rndS np last n).2)) 2258 (nI (rndS np last n).1)))) : ∀ j k, k + j = n → V ω κ 4 [(0, .ref (ω.2.2.1 35)), (1, .int (nI (rndS np last k).1)), (2, .int (nI k))] [] (pS σ 2260 (nI (rndS np last k).2))
  | 0, k, h => by
    obtain rfl : k = n := by omega
    exact R_X9_seatRound_4 K (fun _ => ⟨rfl, rfl⟩) (fun h => absurd (by show σ.1 2266 ≤ _; rw [hn]; exact nI_le (Nat.le_refl _) (by omega)) h) (fun h => absurd (by show σ.1 2266 ≤ _; rw [hn]; exact nI_le (Nat.le_refl _) (by omega)) h)
  | j + 1, k, h => by
    obtain ⟨h1, h2⟩ := rndS_ok hl hnp k
    have ih := seatRound_loop hn hp hnp hl hn8 K j (k + 1) (by omega)
    have h3 : ((rndS np last k).2 + 1) % np < np := Nat.mod_lt _ (by omega)
    refine R_X9_seatRound_4 K (fun h2 => absurd (by have h2 : σ.1 2266 ≤ _ := h2; rw [hn] at h2; exact (nI_leI (by omega) (by omega)).mp h2) (by omega)) (fun _ => ?_) (fun _ => ?_)
    · show ¬ σ.1 2245 = 0
      rw [hp]
      exact nI_ne0 (by omega) (by omega)
    · have e : ((pS σ 2260 (nI (rndS np last k).2)).1 2260 + 1) - ((pS σ 2260 (nI (rndS np last k).2)).1 2260 + 1) / (pS σ 2260 (nI (rndS np last k).2)).1 2245 * (pS σ 2260 (nI (rndS np last k).2)).1 2245 = nI (((rndS np last k).2 + 1) % np) := by
        show (nI (rndS np last k).2 + 1) - (nI (rndS np last k).2 + 1) / σ.1 2245 * σ.1 2245 = _
        rw [hp, nI_1, pk_rem (by omega) (by omega) (by omega)]
      rw [e, sh1 _ (by omega), fa_or, nI_1, pS_over]
      exact ih
theorem m_seatRound {ω : WT} {l : Launch} {d np last n : Nat} {σ : St} (hWf : Wf ω) (hn : σ.1 2266 = nI n) (hp : σ.1 2245 = nI np) (hls : σ.1 2260 = nI last) (hnp : np ≤ 8) (hl : last < np) (hn8 : n ≤ 8) : Sp ω l yX9_seatRound cX9_seatRound 3 none d [.ref (ω.2.2.1 35)] σ (rV (pS (pS σ 2260 (nI (rndS np last n).2)) 2258 (nI (rndS np last n).1))) :=
  Sp.of (by decide) (Nat.le_of_ble_eq_true rfl) hWf (fun κ K => R_X9_seatRound_0 K (by
    have h := seatRound_loop hn hp hnp hl hn8 K n 0 (by omega)
    have e : pS σ 2260 (nI (rndS np last 0).2) = σ := pS_self σ 2260 hls
    rw [e] at h
    exact h))
end
