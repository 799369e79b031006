-- ===== PART A: goes FIRST, ahead of the names: the tables' words, and 'selects' of the private methods out of them =====
/-- a private method of a class that the tables say can be made, by its rows of tables_1 -/
def lw_okq (q : MethodName × Nat) : Prop := (q.1.cls ≠ "java/lang/invoke/MethodHandle" ∧ q.1.cls ≠ "java/lang/invoke/VarHandle") ∧ Cond.instantiable q.1.cls q.2 ∈ tables_1 ∧ Cond.privateMethod q.1 ∈ tables_1 ∧ Cond.instanceMethod q.1 ∈ tables_1
theorem lw_p0 : lw_okq (⟨"RottenSeats", "refuse", "(I)I"⟩, 16) := ⟨⟨by decide +kernel, by decide +kernel⟩, List.mem_of_getElem? (i := 23) (by decide +kernel), List.mem_of_getElem? (i := 446) (by decide +kernel), List.mem_of_getElem? (i := 447) (by decide +kernel)⟩
theorem lw_p1 : lw_okq (⟨"RottenSeats", "refuseDays", "(II)I"⟩, 16) := ⟨⟨by decide +kernel, by decide +kernel⟩, List.mem_of_getElem? (i := 23) (by decide +kernel), List.mem_of_getElem? (i := 480) (by decide +kernel), List.mem_of_getElem? (i := 481) (by decide +kernel)⟩
theorem lw_p2 : lw_okq (⟨"RottenSeats$Tape", "readRule", "(I)Z"⟩, 6) := ⟨⟨by decide +kernel, by decide +kernel⟩, List.mem_of_getElem? (i := 178) (by decide +kernel), List.mem_of_getElem? (i := 579) (by decide +kernel), List.mem_of_getElem? (i := 580) (by decide +kernel)⟩
theorem lw_p3 : lw_okq (⟨"RottenSeats$Tape", "readTerm", "(I)Z"⟩, 6) := ⟨⟨by decide +kernel, by decide +kernel⟩, List.mem_of_getElem? (i := 178) (by decide +kernel), List.mem_of_getElem? (i := 583) (by decide +kernel), List.mem_of_getElem? (i := 584) (by decide +kernel)⟩
theorem lw_p4 : lw_okq (⟨"RottenSeats$Tape", "readPart", "(I)Z"⟩, 6) := ⟨⟨by decide +kernel, by decide +kernel⟩, List.mem_of_getElem? (i := 178) (by decide +kernel), List.mem_of_getElem? (i := 587) (by decide +kernel), List.mem_of_getElem? (i := 588) (by decide +kernel)⟩
theorem lw_p5 : lw_okq (⟨"RottenSeats$Tape", "next", "()I"⟩, 6) := ⟨⟨by decide +kernel, by decide +kernel⟩, List.mem_of_getElem? (i := 178) (by decide +kernel), List.mem_of_getElem? (i := 591) (by decide +kernel), List.mem_of_getElem? (i := 592) (by decide +kernel)⟩
theorem lw_p6 : lw_okq (⟨"RottenSeats$Tape", "readBracket", "(I)Z"⟩, 6) := ⟨⟨by decide +kernel, by decide +kernel⟩, List.mem_of_getElem? (i := 178) (by decide +kernel), List.mem_of_getElem? (i := 595) (by decide +kernel), List.mem_of_getElem? (i := 596) (by decide +kernel)⟩
theorem lw_p7 : lw_okq (⟨"RottenSeats$Tape", "readComparison", "()Z"⟩, 6) := ⟨⟨by decide +kernel, by decide +kernel⟩, List.mem_of_getElem? (i := 178) (by decide +kernel), List.mem_of_getElem? (i := 599) (by decide +kernel), List.mem_of_getElem? (i := 600) (by decide +kernel)⟩
theorem lw_p8 : lw_okq (⟨"RottenSeats$Tape", "readUnit", "()I"⟩, 6) := ⟨⟨by decide +kernel, by decide +kernel⟩, List.mem_of_getElem? (i := 178) (by decide +kernel), List.mem_of_getElem? (i := 603) (by decide +kernel), List.mem_of_getElem? (i := 604) (by decide +kernel)⟩
theorem lw_p9 : lw_okq (⟨"RottenSeats$Tape", "emit", "(I)V"⟩, 6) := ⟨⟨by decide +kernel, by decide +kernel⟩, List.mem_of_getElem? (i := 178) (by decide +kernel), List.mem_of_getElem? (i := 656) (by decide +kernel), List.mem_of_getElem? (i := 657) (by decide +kernel)⟩
theorem lw_p10 : lw_okq (⟨"RottenSeats", "isVoter", "(IIII)Z"⟩, 16) := ⟨⟨by decide +kernel, by decide +kernel⟩, List.mem_of_getElem? (i := 23) (by decide +kernel), List.mem_of_getElem? (i := 703) (by decide +kernel), List.mem_of_getElem? (i := 704) (by decide +kernel)⟩
theorem lw_p11 : lw_okq (⟨"RottenSeats$People", "addToFacts", "(II)V"⟩, 14) := ⟨⟨by decide +kernel, by decide +kernel⟩, List.mem_of_getElem? (i := 121) (by decide +kernel), List.mem_of_getElem? (i := 712) (by decide +kernel), List.mem_of_getElem? (i := 713) (by decide +kernel)⟩
theorem lw_p12 : lw_okq (⟨"RottenSeats$Sales", "isTooMany", "(II)Z"⟩, 4) := ⟨⟨by decide +kernel, by decide +kernel⟩, List.mem_of_getElem? (i := 252) (by decide +kernel), List.mem_of_getElem? (i := 739) (by decide +kernel), List.mem_of_getElem? (i := 740) (by decide +kernel)⟩
theorem lw_p13 : lw_okq (⟨"RottenSeats$Sales", "covers", "(II)Z"⟩, 4) := ⟨⟨by decide +kernel, by decide +kernel⟩, List.mem_of_getElem? (i := 252) (by decide +kernel), List.mem_of_getElem? (i := 743) (by decide +kernel), List.mem_of_getElem? (i := 744) (by decide +kernel)⟩
theorem lw_p14 : lw_okq (⟨"RottenSeats$Sales", "countAhead", "(II)I"⟩, 4) := ⟨⟨by decide +kernel, by decide +kernel⟩, List.mem_of_getElem? (i := 252) (by decide +kernel), List.mem_of_getElem? (i := 747) (by decide +kernel), List.mem_of_getElem? (i := 748) (by decide +kernel)⟩
theorem lw_p15 : lw_okq (⟨"RottenSeats$Members", "worstFor", "(I)I"⟩, 5) := ⟨⟨by decide +kernel, by decide +kernel⟩, List.mem_of_getElem? (i := 272) (by decide +kernel), List.mem_of_getElem? (i := 819) (by decide +kernel), List.mem_of_getElem? (i := 820) (by decide +kernel)⟩
def lw_privs_1 : List (MethodName × Nat) := [(⟨"RottenSeats", "refuse", "(I)I"⟩, 16), (⟨"RottenSeats", "refuseDays", "(II)I"⟩, 16), (⟨"RottenSeats$Tape", "readRule", "(I)Z"⟩, 6), (⟨"RottenSeats$Tape", "readTerm", "(I)Z"⟩, 6), (⟨"RottenSeats$Tape", "readPart", "(I)Z"⟩, 6), (⟨"RottenSeats$Tape", "next", "()I"⟩, 6), (⟨"RottenSeats$Tape", "readBracket", "(I)Z"⟩, 6), (⟨"RottenSeats$Tape", "readComparison", "()Z"⟩, 6), (⟨"RottenSeats$Tape", "readUnit", "()I"⟩, 6), (⟨"RottenSeats$Tape", "emit", "(I)V"⟩, 6), (⟨"RottenSeats", "isVoter", "(IIII)Z"⟩, 16), (⟨"RottenSeats$People", "addToFacts", "(II)V"⟩, 14), (⟨"RottenSeats$Sales", "isTooMany", "(II)Z"⟩, 4), (⟨"RottenSeats$Sales", "covers", "(II)Z"⟩, 4), (⟨"RottenSeats$Sales", "countAhead", "(II)I"⟩, 4), (⟨"RottenSeats$Members", "worstFor", "(I)I"⟩, 5)]
theorem lw_r1 : ∀ q ∈ lw_privs_1, lw_okq q := List.forall_mem_cons.mpr ⟨lw_p0, List.forall_mem_cons.mpr ⟨lw_p1, List.forall_mem_cons.mpr ⟨lw_p2, List.forall_mem_cons.mpr ⟨lw_p3, List.forall_mem_cons.mpr ⟨lw_p4, List.forall_mem_cons.mpr ⟨lw_p5, List.forall_mem_cons.mpr ⟨lw_p6, List.forall_mem_cons.mpr ⟨lw_p7, List.forall_mem_cons.mpr ⟨lw_p8, List.forall_mem_cons.mpr ⟨lw_p9, List.forall_mem_cons.mpr ⟨lw_p10, List.forall_mem_cons.mpr ⟨lw_p11, List.forall_mem_cons.mpr ⟨lw_p12, List.forall_mem_cons.mpr ⟨lw_p13, List.forall_mem_cons.mpr ⟨lw_p14, List.forall_mem_cons.mpr ⟨lw_p15, fun _ h => absurd h List.not_mem_nil⟩⟩⟩⟩⟩⟩⟩⟩⟩⟩⟩⟩⟩⟩⟩⟩
theorem lw_p16 : lw_okq (⟨"RottenSeats", "applyBill", "(II)V"⟩, 16) := ⟨⟨by decide +kernel, by decide +kernel⟩, List.mem_of_getElem? (i := 23) (by decide +kernel), List.mem_of_getElem? (i := 872) (by decide +kernel), List.mem_of_getElem? (i := 873) (by decide +kernel)⟩
theorem lw_p17 : lw_okq (⟨"RottenSeats$Bill", "change", "(III)V"⟩, 9) := ⟨⟨by decide +kernel, by decide +kernel⟩, List.mem_of_getElem? (i := 296) (by decide +kernel), List.mem_of_getElem? (i := 883) (by decide +kernel), List.mem_of_getElem? (i := 884) (by decide +kernel)⟩
theorem lw_p18 : lw_okq (⟨"RottenSeats", "refuseApart", "(I)I"⟩, 16) := ⟨⟨by decide +kernel, by decide +kernel⟩, List.mem_of_getElem? (i := 23) (by decide +kernel), List.mem_of_getElem? (i := 893) (by decide +kernel), List.mem_of_getElem? (i := 894) (by decide +kernel)⟩
theorem lw_p19 : lw_okq (⟨"RottenSeats", "countVoters", "(I)I"⟩, 16) := ⟨⟨by decide +kernel, by decide +kernel⟩, List.mem_of_getElem? (i := 23) (by decide +kernel), List.mem_of_getElem? (i := 898) (by decide +kernel), List.mem_of_getElem? (i := 899) (by decide +kernel)⟩
theorem lw_p20 : lw_okq (⟨"RottenSeats", "votesSomewhere", "(II)Z"⟩, 16) := ⟨⟨by decide +kernel, by decide +kernel⟩, List.mem_of_getElem? (i := 23) (by decide +kernel), List.mem_of_getElem? (i := 902) (by decide +kernel), List.mem_of_getElem? (i := 903) (by decide +kernel)⟩
theorem lw_p21 : lw_okq (⟨"RottenSeats", "refusePlan", "(II)I"⟩, 16) := ⟨⟨by decide +kernel, by decide +kernel⟩, List.mem_of_getElem? (i := 23) (by decide +kernel), List.mem_of_getElem? (i := 968) (by decide +kernel), List.mem_of_getElem? (i := 969) (by decide +kernel)⟩
theorem lw_p22 : lw_okq (⟨"RottenSeats$Plan", "prepare", "(LRottenSeats$Bill;)V"⟩, 7) := ⟨⟨by decide +kernel, by decide +kernel⟩, List.mem_of_getElem? (i := 363) (by decide +kernel), List.mem_of_getElem? (i := 976) (by decide +kernel), List.mem_of_getElem? (i := 977) (by decide +kernel)⟩
theorem lw_p23 : lw_okq (⟨"RottenSeats$Plan", "pick", "(IIIII)V"⟩, 7) := ⟨⟨by decide +kernel, by decide +kernel⟩, List.mem_of_getElem? (i := 363) (by decide +kernel), List.mem_of_getElem? (i := 986) (by decide +kernel), List.mem_of_getElem? (i := 987) (by decide +kernel)⟩
theorem lw_p24 : lw_okq (⟨"RottenSeats$Plan", "assign", "(II)V"⟩, 7) := ⟨⟨by decide +kernel, by decide +kernel⟩, List.mem_of_getElem? (i := 363) (by decide +kernel), List.mem_of_getElem? (i := 991) (by decide +kernel), List.mem_of_getElem? (i := 992) (by decide +kernel)⟩
theorem lw_p25 : lw_okq (⟨"RottenSeats", "countVotes", "(II)V"⟩, 16) := ⟨⟨by decide +kernel, by decide +kernel⟩, List.mem_of_getElem? (i := 23) (by decide +kernel), List.mem_of_getElem? (i := 1011) (by decide +kernel), List.mem_of_getElem? (i := 1012) (by decide +kernel)⟩
theorem lw_p26 : lw_okq (⟨"RottenSeats", "sidesIn", "(I)I"⟩, 16) := ⟨⟨by decide +kernel, by decide +kernel⟩, List.mem_of_getElem? (i := 23) (by decide +kernel), List.mem_of_getElem? (i := 1016) (by decide +kernel), List.mem_of_getElem? (i := 1017) (by decide +kernel)⟩
theorem lw_p27 : lw_okq (⟨"RottenSeats", "strongestOutside", "(I)I"⟩, 16) := ⟨⟨by decide +kernel, by decide +kernel⟩, List.mem_of_getElem? (i := 23) (by decide +kernel), List.mem_of_getElem? (i := 1020) (by decide +kernel), List.mem_of_getElem? (i := 1021) (by decide +kernel)⟩
theorem lw_p28 : lw_okq (⟨"RottenSeats", "isQuarrelled", "(I)Z"⟩, 16) := ⟨⟨by decide +kernel, by decide +kernel⟩, List.mem_of_getElem? (i := 23) (by decide +kernel), List.mem_of_getElem? (i := 1024) (by decide +kernel), List.mem_of_getElem? (i := 1025) (by decide +kernel)⟩
theorem lw_p29 : lw_okq (⟨"RottenSeatsModel", "refuse", "(I)I"⟩, 88) := ⟨⟨by decide +kernel, by decide +kernel⟩, List.mem_of_getElem? (i := 1044) (by decide +kernel), List.mem_of_getElem? (i := 1319) (by decide +kernel), List.mem_of_getElem? (i := 1320) (by decide +kernel)⟩
theorem lw_p30 : lw_okq (⟨"RottenSeatsModel", "isPlace", "(I)Z"⟩, 88) := ⟨⟨by decide +kernel, by decide +kernel⟩, List.mem_of_getElem? (i := 1044) (by decide +kernel), List.mem_of_getElem? (i := 1334) (by decide +kernel), List.mem_of_getElem? (i := 1335) (by decide +kernel)⟩
theorem lw_p31 : lw_okq (⟨"RottenSeatsModel", "rollOn", "(IIII)I"⟩, 88) := ⟨⟨by decide +kernel, by decide +kernel⟩, List.mem_of_getElem? (i := 1044) (by decide +kernel), List.mem_of_getElem? (i := 1345) (by decide +kernel), List.mem_of_getElem? (i := 1346) (by decide +kernel)⟩
def lw_privs_2 : List (MethodName × Nat) := [(⟨"RottenSeats", "applyBill", "(II)V"⟩, 16), (⟨"RottenSeats$Bill", "change", "(III)V"⟩, 9), (⟨"RottenSeats", "refuseApart", "(I)I"⟩, 16), (⟨"RottenSeats", "countVoters", "(I)I"⟩, 16), (⟨"RottenSeats", "votesSomewhere", "(II)Z"⟩, 16), (⟨"RottenSeats", "refusePlan", "(II)I"⟩, 16), (⟨"RottenSeats$Plan", "prepare", "(LRottenSeats$Bill;)V"⟩, 7), (⟨"RottenSeats$Plan", "pick", "(IIIII)V"⟩, 7), (⟨"RottenSeats$Plan", "assign", "(II)V"⟩, 7), (⟨"RottenSeats", "countVotes", "(II)V"⟩, 16), (⟨"RottenSeats", "sidesIn", "(I)I"⟩, 16), (⟨"RottenSeats", "strongestOutside", "(I)I"⟩, 16), (⟨"RottenSeats", "isQuarrelled", "(I)Z"⟩, 16), (⟨"RottenSeatsModel", "refuse", "(I)I"⟩, 88), (⟨"RottenSeatsModel", "isPlace", "(I)Z"⟩, 88), (⟨"RottenSeatsModel", "rollOn", "(IIII)I"⟩, 88)]
theorem lw_r2 : ∀ q ∈ lw_privs_2, lw_okq q := List.forall_mem_cons.mpr ⟨lw_p16, List.forall_mem_cons.mpr ⟨lw_p17, List.forall_mem_cons.mpr ⟨lw_p18, List.forall_mem_cons.mpr ⟨lw_p19, List.forall_mem_cons.mpr ⟨lw_p20, List.forall_mem_cons.mpr ⟨lw_p21, List.forall_mem_cons.mpr ⟨lw_p22, List.forall_mem_cons.mpr ⟨lw_p23, List.forall_mem_cons.mpr ⟨lw_p24, List.forall_mem_cons.mpr ⟨lw_p25, List.forall_mem_cons.mpr ⟨lw_p26, List.forall_mem_cons.mpr ⟨lw_p27, List.forall_mem_cons.mpr ⟨lw_p28, List.forall_mem_cons.mpr ⟨lw_p29, List.forall_mem_cons.mpr ⟨lw_p30, List.forall_mem_cons.mpr ⟨lw_p31, fun _ h => absurd h List.not_mem_nil⟩⟩⟩⟩⟩⟩⟩⟩⟩⟩⟩⟩⟩⟩⟩⟩
theorem lw_p32 : lw_okq (⟨"RottenSeatsModel", "scoreOf", "(IIII)I"⟩, 88) := ⟨⟨by decide +kernel, by decide +kernel⟩, List.mem_of_getElem? (i := 1044) (by decide +kernel), List.mem_of_getElem? (i := 1360) (by decide +kernel), List.mem_of_getElem? (i := 1361) (by decide +kernel)⟩
theorem lw_p33 : lw_okq (⟨"RottenSeatsModel", "rankOf", "(III)I"⟩, 88) := ⟨⟨by decide +kernel, by decide +kernel⟩, List.mem_of_getElem? (i := 1044) (by decide +kernel), List.mem_of_getElem? (i := 1364) (by decide +kernel), List.mem_of_getElem? (i := 1365) (by decide +kernel)⟩
theorem lw_p34 : lw_okq (⟨"RottenSeatsModel", "isPerson", "(I)Z"⟩, 88) := ⟨⟨by decide +kernel, by decide +kernel⟩, List.mem_of_getElem? (i := 1044) (by decide +kernel), List.mem_of_getElem? (i := 1380) (by decide +kernel), List.mem_of_getElem? (i := 1381) (by decide +kernel)⟩
theorem lw_p35 : lw_okq (⟨"RottenSeatsModel", "readRule", "()Z"⟩, 88) := ⟨⟨by decide +kernel, by decide +kernel⟩, List.mem_of_getElem? (i := 1044) (by decide +kernel), List.mem_of_getElem? (i := 1402) (by decide +kernel), List.mem_of_getElem? (i := 1403) (by decide +kernel)⟩
theorem lw_p36 : lw_okq (⟨"RottenSeatsModel", "here", "()I"⟩, 88) := ⟨⟨by decide +kernel, by decide +kernel⟩, List.mem_of_getElem? (i := 1044) (by decide +kernel), List.mem_of_getElem? (i := 1406) (by decide +kernel), List.mem_of_getElem? (i := 1407) (by decide +kernel)⟩
theorem lw_p37 : lw_okq (⟨"RottenSeatsModel", "readTest", "()Z"⟩, 88) := ⟨⟨by decide +kernel, by decide +kernel⟩, List.mem_of_getElem? (i := 1044) (by decide +kernel), List.mem_of_getElem? (i := 1410) (by decide +kernel), List.mem_of_getElem? (i := 1411) (by decide +kernel)⟩
theorem lw_p38 : lw_okq (⟨"RottenSeatsModel", "readUnit", "()I"⟩, 88) := ⟨⟨by decide +kernel, by decide +kernel⟩, List.mem_of_getElem? (i := 1044) (by decide +kernel), List.mem_of_getElem? (i := 1414) (by decide +kernel), List.mem_of_getElem? (i := 1415) (by decide +kernel)⟩
theorem lw_p39 : lw_okq (⟨"RottenSeatsModel", "factOf", "(I)I"⟩, 88) := ⟨⟨by decide +kernel, by decide +kernel⟩, List.mem_of_getElem? (i := 1044) (by decide +kernel), List.mem_of_getElem? (i := 1418) (by decide +kernel), List.mem_of_getElem? (i := 1419) (by decide +kernel)⟩
theorem lw_p40 : lw_okq (⟨"RottenSeatsModel", "partEnds", "()V"⟩, 88) := ⟨⟨by decide +kernel, by decide +kernel⟩, List.mem_of_getElem? (i := 1044) (by decide +kernel), List.mem_of_getElem? (i := 1422) (by decide +kernel), List.mem_of_getElem? (i := 1423) (by decide +kernel)⟩
theorem lw_p41 : lw_okq (⟨"RottenSeatsModel", "topSign", "()I"⟩, 88) := ⟨⟨by decide +kernel, by decide +kernel⟩, List.mem_of_getElem? (i := 1044) (by decide +kernel), List.mem_of_getElem? (i := 1426) (by decide +kernel), List.mem_of_getElem? (i := 1427) (by decide +kernel)⟩
theorem lw_p42 : lw_okq (⟨"RottenSeatsModel", "join", "(I)V"⟩, 88) := ⟨⟨by decide +kernel, by decide +kernel⟩, List.mem_of_getElem? (i := 1044) (by decide +kernel), List.mem_of_getElem? (i := 1430) (by decide +kernel), List.mem_of_getElem? (i := 1431) (by decide +kernel)⟩
theorem lw_p43 : lw_okq (⟨"RottenSeatsModel", "isText", "(I)Z"⟩, 88) := ⟨⟨by decide +kernel, by decide +kernel⟩, List.mem_of_getElem? (i := 1044) (by decide +kernel), List.mem_of_getElem? (i := 1438) (by decide +kernel), List.mem_of_getElem? (i := 1439) (by decide +kernel)⟩
theorem lw_p44 : lw_okq (⟨"RottenSeatsModel", "oldOn", "(II)I"⟩, 88) := ⟨⟨by decide +kernel, by decide +kernel⟩, List.mem_of_getElem? (i := 1044) (by decide +kernel), List.mem_of_getElem? (i := 1446) (by decide +kernel), List.mem_of_getElem? (i := 1447) (by decide +kernel)⟩
theorem lw_p45 : lw_okq (⟨"RottenSeatsModel", "mayBy", "(IIII)Z"⟩, 88) := ⟨⟨by decide +kernel, by decide +kernel⟩, List.mem_of_getElem? (i := 1044) (by decide +kernel), List.mem_of_getElem? (i := 1450) (by decide +kernel), List.mem_of_getElem? (i := 1451) (by decide +kernel)⟩
theorem lw_p46 : lw_okq (⟨"RottenSeatsModel", "findFacts", "(III)V"⟩, 88) := ⟨⟨by decide +kernel, by decide +kernel⟩, List.mem_of_getElem? (i := 1044) (by decide +kernel), List.mem_of_getElem? (i := 1454) (by decide +kernel), List.mem_of_getElem? (i := 1455) (by decide +kernel)⟩
theorem lw_p47 : lw_okq (⟨"RottenSeatsModel", "doesHold", "(I)Z"⟩, 88) := ⟨⟨by decide +kernel, by decide +kernel⟩, List.mem_of_getElem? (i := 1044) (by decide +kernel), List.mem_of_getElem? (i := 1458) (by decide +kernel), List.mem_of_getElem? (i := 1459) (by decide +kernel)⟩
def lw_privs_3 : List (MethodName × Nat) := [(⟨"RottenSeatsModel", "scoreOf", "(IIII)I"⟩, 88), (⟨"RottenSeatsModel", "rankOf", "(III)I"⟩, 88), (⟨"RottenSeatsModel", "isPerson", "(I)Z"⟩, 88), (⟨"RottenSeatsModel", "readRule", "()Z"⟩, 88), (⟨"RottenSeatsModel", "here", "()I"⟩, 88), (⟨"RottenSeatsModel", "readTest", "()Z"⟩, 88), (⟨"RottenSeatsModel", "readUnit", "()I"⟩, 88), (⟨"RottenSeatsModel", "factOf", "(I)I"⟩, 88), (⟨"RottenSeatsModel", "partEnds", "()V"⟩, 88), (⟨"RottenSeatsModel", "topSign", "()I"⟩, 88), (⟨"RottenSeatsModel", "join", "(I)V"⟩, 88), (⟨"RottenSeatsModel", "isText", "(I)Z"⟩, 88), (⟨"RottenSeatsModel", "oldOn", "(II)I"⟩, 88), (⟨"RottenSeatsModel", "mayBy", "(IIII)Z"⟩, 88), (⟨"RottenSeatsModel", "findFacts", "(III)V"⟩, 88), (⟨"RottenSeatsModel", "doesHold", "(I)Z"⟩, 88)]
theorem lw_r3 : ∀ q ∈ lw_privs_3, lw_okq q := List.forall_mem_cons.mpr ⟨lw_p32, List.forall_mem_cons.mpr ⟨lw_p33, List.forall_mem_cons.mpr ⟨lw_p34, List.forall_mem_cons.mpr ⟨lw_p35, List.forall_mem_cons.mpr ⟨lw_p36, List.forall_mem_cons.mpr ⟨lw_p37, List.forall_mem_cons.mpr ⟨lw_p38, List.forall_mem_cons.mpr ⟨lw_p39, List.forall_mem_cons.mpr ⟨lw_p40, List.forall_mem_cons.mpr ⟨lw_p41, List.forall_mem_cons.mpr ⟨lw_p42, List.forall_mem_cons.mpr ⟨lw_p43, List.forall_mem_cons.mpr ⟨lw_p44, List.forall_mem_cons.mpr ⟨lw_p45, List.forall_mem_cons.mpr ⟨lw_p46, List.forall_mem_cons.mpr ⟨lw_p47, fun _ h => absurd h List.not_mem_nil⟩⟩⟩⟩⟩⟩⟩⟩⟩⟩⟩⟩⟩⟩⟩⟩
theorem lw_p48 : lw_okq (⟨"RottenSeatsModel", "shares", "(II)Z"⟩, 88) := ⟨⟨by decide +kernel, by decide +kernel⟩, List.mem_of_getElem? (i := 1044) (by decide +kernel), List.mem_of_getElem? (i := 1474) (by decide +kernel), List.mem_of_getElem? (i := 1475) (by decide +kernel)⟩
theorem lw_p49 : lw_okq (⟨"RottenSeatsModel", "isPetitionAt", "(I)Z"⟩, 88) := ⟨⟨by decide +kernel, by decide +kernel⟩, List.mem_of_getElem? (i := 1044) (by decide +kernel), List.mem_of_getElem? (i := 1490) (by decide +kernel), List.mem_of_getElem? (i := 1491) (by decide +kernel)⟩
theorem lw_p50 : lw_okq (⟨"RottenSeatsModel", "witness", "(I)I"⟩, 88) := ⟨⟨by decide +kernel, by decide +kernel⟩, List.mem_of_getElem? (i := 1044) (by decide +kernel), List.mem_of_getElem? (i := 1498) (by decide +kernel), List.mem_of_getElem? (i := 1499) (by decide +kernel)⟩
theorem lw_p51 : lw_okq (⟨"RottenSeatsModel", "findEnds", "(I)V"⟩, 88) := ⟨⟨by decide +kernel, by decide +kernel⟩, List.mem_of_getElem? (i := 1044) (by decide +kernel), List.mem_of_getElem? (i := 1502) (by decide +kernel), List.mem_of_getElem? (i := 1503) (by decide +kernel)⟩
theorem lw_p52 : lw_okq (⟨"RottenSeatsModel", "drawLot", "(I)V"⟩, 88) := ⟨⟨by decide +kernel, by decide +kernel⟩, List.mem_of_getElem? (i := 1044) (by decide +kernel), List.mem_of_getElem? (i := 1517) (by decide +kernel), List.mem_of_getElem? (i := 1518) (by decide +kernel)⟩
theorem lw_p53 : lw_okq (⟨"RottenSeatsModel", "isSet", "(I)Z"⟩, 88) := ⟨⟨by decide +kernel, by decide +kernel⟩, List.mem_of_getElem? (i := 1044) (by decide +kernel), List.mem_of_getElem? (i := 1529) (by decide +kernel), List.mem_of_getElem? (i := 1530) (by decide +kernel)⟩
theorem lw_p54 : lw_okq (⟨"RottenSeatsModel", "standing", "(I)I"⟩, 88) := ⟨⟨by decide +kernel, by decide +kernel⟩, List.mem_of_getElem? (i := 1044) (by decide +kernel), List.mem_of_getElem? (i := 1533) (by decide +kernel), List.mem_of_getElem? (i := 1534) (by decide +kernel)⟩
theorem lw_p55 : lw_okq (⟨"RottenSeatsModel", "isLine", "(I)Z"⟩, 88) := ⟨⟨by decide +kernel, by decide +kernel⟩, List.mem_of_getElem? (i := 1044) (by decide +kernel), List.mem_of_getElem? (i := 1541) (by decide +kernel), List.mem_of_getElem? (i := 1542) (by decide +kernel)⟩
theorem lw_p56 : lw_okq (⟨"RottenSeatsModel", "all", "()I"⟩, 88) := ⟨⟨by decide +kernel, by decide +kernel⟩, List.mem_of_getElem? (i := 1044) (by decide +kernel), List.mem_of_getElem? (i := 1545) (by decide +kernel), List.mem_of_getElem? (i := 1546) (by decide +kernel)⟩
theorem lw_p57 : lw_okq (⟨"RottenSeatsModel", "findUnder", "(II)V"⟩, 88) := ⟨⟨by decide +kernel, by decide +kernel⟩, List.mem_of_getElem? (i := 1044) (by decide +kernel), List.mem_of_getElem? (i := 1553) (by decide +kernel), List.mem_of_getElem? (i := 1554) (by decide +kernel)⟩
theorem lw_p58 : lw_okq (⟨"RottenSeatsModel", "refuseFar", "(I)I"⟩, 88) := ⟨⟨by decide +kernel, by decide +kernel⟩, List.mem_of_getElem? (i := 1044) (by decide +kernel), List.mem_of_getElem? (i := 1561) (by decide +kernel), List.mem_of_getElem? (i := 1562) (by decide +kernel)⟩
theorem lw_p59 : lw_okq (⟨"RottenSeatsModel", "votesUnder", "(II)Z"⟩, 88) := ⟨⟨by decide +kernel, by decide +kernel⟩, List.mem_of_getElem? (i := 1044) (by decide +kernel), List.mem_of_getElem? (i := 1566) (by decide +kernel), List.mem_of_getElem? (i := 1567) (by decide +kernel)⟩
theorem lw_p60 : lw_okq (⟨"RottenSeatsModel", "division", "(IIZ)I"⟩, 88) := ⟨⟨by decide +kernel, by decide +kernel⟩, List.mem_of_getElem? (i := 1044) (by decide +kernel), List.mem_of_getElem? (i := 1593) (by decide +kernel), List.mem_of_getElem? (i := 1594) (by decide +kernel)⟩
theorem lw_p61 : lw_okq (⟨"RottenSeatsModel", "saysYes", "(II)Z"⟩, 88) := ⟨⟨by decide +kernel, by decide +kernel⟩, List.mem_of_getElem? (i := 1044) (by decide +kernel), List.mem_of_getElem? (i := 1597) (by decide +kernel), List.mem_of_getElem? (i := 1598) (by decide +kernel)⟩
theorem lw_p62 : lw_okq (⟨"RottenSeatsModel", "leastOf", "(II)I"⟩, 88) := ⟨⟨by decide +kernel, by decide +kernel⟩, List.mem_of_getElem? (i := 1044) (by decide +kernel), List.mem_of_getElem? (i := 1601) (by decide +kernel), List.mem_of_getElem? (i := 1602) (by decide +kernel)⟩
theorem lw_p63 : lw_okq (⟨"RottenSeatsModel", "manyIn", "(I)I"⟩, 88) := ⟨⟨by decide +kernel, by decide +kernel⟩, List.mem_of_getElem? (i := 1044) (by decide +kernel), List.mem_of_getElem? (i := 1605) (by decide +kernel), List.mem_of_getElem? (i := 1606) (by decide +kernel)⟩
def lw_privs_4 : List (MethodName × Nat) := [(⟨"RottenSeatsModel", "shares", "(II)Z"⟩, 88), (⟨"RottenSeatsModel", "isPetitionAt", "(I)Z"⟩, 88), (⟨"RottenSeatsModel", "witness", "(I)I"⟩, 88), (⟨"RottenSeatsModel", "findEnds", "(I)V"⟩, 88), (⟨"RottenSeatsModel", "drawLot", "(I)V"⟩, 88), (⟨"RottenSeatsModel", "isSet", "(I)Z"⟩, 88), (⟨"RottenSeatsModel", "standing", "(I)I"⟩, 88), (⟨"RottenSeatsModel", "isLine", "(I)Z"⟩, 88), (⟨"RottenSeatsModel", "all", "()I"⟩, 88), (⟨"RottenSeatsModel", "findUnder", "(II)V"⟩, 88), (⟨"RottenSeatsModel", "refuseFar", "(I)I"⟩, 88), (⟨"RottenSeatsModel", "votesUnder", "(II)Z"⟩, 88), (⟨"RottenSeatsModel", "division", "(IIZ)I"⟩, 88), (⟨"RottenSeatsModel", "saysYes", "(II)Z"⟩, 88), (⟨"RottenSeatsModel", "leastOf", "(II)I"⟩, 88), (⟨"RottenSeatsModel", "manyIn", "(I)I"⟩, 88)]
theorem lw_r4 : ∀ q ∈ lw_privs_4, lw_okq q := List.forall_mem_cons.mpr ⟨lw_p48, List.forall_mem_cons.mpr ⟨lw_p49, List.forall_mem_cons.mpr ⟨lw_p50, List.forall_mem_cons.mpr ⟨lw_p51, List.forall_mem_cons.mpr ⟨lw_p52, List.forall_mem_cons.mpr ⟨lw_p53, List.forall_mem_cons.mpr ⟨lw_p54, List.forall_mem_cons.mpr ⟨lw_p55, List.forall_mem_cons.mpr ⟨lw_p56, List.forall_mem_cons.mpr ⟨lw_p57, List.forall_mem_cons.mpr ⟨lw_p58, List.forall_mem_cons.mpr ⟨lw_p59, List.forall_mem_cons.mpr ⟨lw_p60, List.forall_mem_cons.mpr ⟨lw_p61, List.forall_mem_cons.mpr ⟨lw_p62, List.forall_mem_cons.mpr ⟨lw_p63, fun _ h => absurd h List.not_mem_nil⟩⟩⟩⟩⟩⟩⟩⟩⟩⟩⟩⟩⟩⟩⟩⟩
theorem lw_p64 : lw_okq (⟨"RottenSeatsModel", "mostOf", "(II)I"⟩, 88) := ⟨⟨by decide +kernel, by decide +kernel⟩, List.mem_of_getElem? (i := 1044) (by decide +kernel), List.mem_of_getElem? (i := 1609) (by decide +kernel), List.mem_of_getElem? (i := 1610) (by decide +kernel)⟩
theorem lw_p65 : lw_okq (⟨"RottenSeatsModel", "leftOut", "(I)I"⟩, 88) := ⟨⟨by decide +kernel, by decide +kernel⟩, List.mem_of_getElem? (i := 1044) (by decide +kernel), List.mem_of_getElem? (i := 1617) (by decide +kernel), List.mem_of_getElem? (i := 1618) (by decide +kernel)⟩
theorem lw_p66 : lw_okq (⟨"RottenSeatsModel", "findNights", "(II)I"⟩, 88) := ⟨⟨by decide +kernel, by decide +kernel⟩, List.mem_of_getElem? (i := 1044) (by decide +kernel), List.mem_of_getElem? (i := 1631) (by decide +kernel), List.mem_of_getElem? (i := 1632) (by decide +kernel)⟩
theorem lw_p67 : lw_okq (⟨"RottenSeatsModel", "isCarried", "(II)Z"⟩, 88) := ⟨⟨by decide +kernel, by decide +kernel⟩, List.mem_of_getElem? (i := 1044) (by decide +kernel), List.mem_of_getElem? (i := 1635) (by decide +kernel), List.mem_of_getElem? (i := 1636) (by decide +kernel)⟩
theorem lw_p68 : lw_okq (⟨"RottenSeatsModel", "mayBe", "(IIII)Z"⟩, 88) := ⟨⟨by decide +kernel, by decide +kernel⟩, List.mem_of_getElem? (i := 1044) (by decide +kernel), List.mem_of_getElem? (i := 1639) (by decide +kernel), List.mem_of_getElem? (i := 1640) (by decide +kernel)⟩
theorem lw_p69 : lw_okq (⟨"RottenSeatsModel", "findElected", "(III)V"⟩, 88) := ⟨⟨by decide +kernel, by decide +kernel⟩, List.mem_of_getElem? (i := 1044) (by decide +kernel), List.mem_of_getElem? (i := 1655) (by decide +kernel), List.mem_of_getElem? (i := 1656) (by decide +kernel)⟩
def lw_privs_5 : List (MethodName × Nat) := [(⟨"RottenSeatsModel", "mostOf", "(II)I"⟩, 88), (⟨"RottenSeatsModel", "leftOut", "(I)I"⟩, 88), (⟨"RottenSeatsModel", "findNights", "(II)I"⟩, 88), (⟨"RottenSeatsModel", "isCarried", "(II)Z"⟩, 88), (⟨"RottenSeatsModel", "mayBe", "(IIII)Z"⟩, 88), (⟨"RottenSeatsModel", "findElected", "(III)V"⟩, 88)]
theorem lw_r5 : ∀ q ∈ lw_privs_5, lw_okq q := List.forall_mem_cons.mpr ⟨lw_p64, List.forall_mem_cons.mpr ⟨lw_p65, List.forall_mem_cons.mpr ⟨lw_p66, List.forall_mem_cons.mpr ⟨lw_p67, List.forall_mem_cons.mpr ⟨lw_p68, List.forall_mem_cons.mpr ⟨lw_p69, fun _ h => absurd h List.not_mem_nil⟩⟩⟩⟩⟩⟩
def lw_privs : List (MethodName × Nat) := lw_privs_1 ++ (lw_privs_2 ++ (lw_privs_3 ++ (lw_privs_4 ++ (lw_privs_5))))
def lw_tbl : List Cond := k2_sels lw_privs ++ tables_1
theorem lw_privs_ok : ∀ q ∈ lw_privs, lw_okq q := by
  show ∀ q ∈ lw_privs_1 ++ (lw_privs_2 ++ (lw_privs_3 ++ (lw_privs_4 ++ (lw_privs_5)))), lw_okq q
  exact List.forall_mem_append.mpr ⟨lw_r1, List.forall_mem_append.mpr ⟨lw_r2, List.forall_mem_append.mpr ⟨lw_r3, List.forall_mem_append.mpr ⟨lw_r4, lw_r5⟩⟩⟩⟩
def RX0 : String := "RottenSeats$Bill"
def TX0 : u_T := fun k => match k with
  | 0 => ("RottenSeats$Bill", "kinds", "[I", true)
  | 1 => ("RottenSeats$Bill", "amounts", "[I", true)
  | 2 => ("RottenSeats$Bill", "limits", "[I", true)
  | 3 => ("RottenSeats$Bill", "needs", "[I", true)
  | 4 => ("RottenSeats$Bill", "size", "I", false)
  | 5 => ("RottenSeats$Bill", "seats", "[I", true)
  | 6 => ("RottenSeats$Bill", "texts", "[I", true)
  | 7 => ("RottenSeats$Bill", "ranks", "[I", true)
  | _ => ("RottenSeats$Bill", "kept", "[I", true)
def tyX0 : Nat → FieldType := fun k => match k with
  | 0 => .array .int
  | 1 => .array .int
  | 2 => .array .int
  | 3 => .array .int
  | 4 => .int
  | 5 => .array .int
  | 6 => .array .int
  | 7 => .array .int
  | _ => .array .int
abbrev wsX00 : List Cond := u_ws RX0 TX0 9
theorem nmX0 : ∀ a, a < 9 → ∀ b, b < 9 → a ≠ b → (TX0 a).2.1 ≠ (TX0 b).2.1 := by decide +kernel
theorem tyX0_ok : ∀ k, k < 9 → parseFieldDescriptor (TX0 k).2.2.1 = some (tyX0 k) := by decide +kernel
theorem inX0 : ∀ w ∈ wsX00, w ∈ lw_tbl := by decide +kernel
def RX1 : String := "RottenSeats$Knots"
def TX1 : u_T := fun k => match k with
  | 0 => ("RottenSeats$Knots", "wants", "[[I", true)
  | 1 => ("RottenSeats$Knots", "bars", "[I", true)
  | 2 => ("RottenSeats$Knots", "reads", "[I", true)
  | 3 => ("RottenSeats$Knots", "leasts", "[[I", true)
  | _ => ("RottenSeats$Knots", "mosts", "[[I", true)
def tyX1 : Nat → FieldType := fun k => match k with
  | 0 => .array (.array .int)
  | 1 => .array .int
  | 2 => .array .int
  | 3 => .array (.array .int)
  | _ => .array (.array .int)
abbrev wsX10 : List Cond := u_ws RX1 TX1 5
theorem nmX1 : ∀ a, a < 5 → ∀ b, b < 5 → a ≠ b → (TX1 a).2.1 ≠ (TX1 b).2.1 := by decide +kernel
theorem tyX1_ok : ∀ k, k < 5 → parseFieldDescriptor (TX1 k).2.2.1 = some (tyX1 k) := by decide +kernel
theorem inX1 : ∀ w ∈ wsX10, w ∈ lw_tbl := by decide +kernel
def RX2 : String := "RottenSeats$Members"
def TX2 : u_T := fun k => match k with
  | 0 => ("RottenSeats$Members", "leans", "[I", true)
  | 1 => ("RottenSeats$Members", "size", "I", false)
  | 2 => ("RottenSeats$Members", "inKnots", "[I", true)
  | 3 => ("RottenSeats$Members", "left", "[I", true)
  | _ => ("RottenSeats$Members", "chosen", "[Z", true)
def tyX2 : Nat → FieldType := fun k => match k with
  | 0 => .array .int
  | 1 => .int
  | 2 => .array .int
  | 3 => .array .int
  | _ => .array .boolean
abbrev wsX20 : List Cond := u_ws RX2 TX2 5
theorem nmX2 : ∀ a, a < 5 → ∀ b, b < 5 → a ≠ b → (TX2 a).2.1 ≠ (TX2 b).2.1 := by decide +kernel
theorem tyX2_ok : ∀ k, k < 5 → parseFieldDescriptor (TX2 k).2.2.1 = some (tyX2 k) := by decide +kernel
theorem inX2 : ∀ w ∈ wsX20, w ∈ lw_tbl := by decide +kernel
def RX3 : String := "RottenSeats$People"
def TX3 : u_T := fun k => match k with
  | 0 => ("RottenSeats$People", "homes", "[I", true)
  | 1 => ("RottenSeats$People", "sinces", "[I", true)
  | 2 => ("RottenSeats$People", "wishes", "[I", true)
  | 3 => ("RottenSeats$People", "debts", "[I", true)
  | 4 => ("RottenSeats$People", "away", "[Z", true)
  | 5 => ("RottenSeats$People", "size", "I", false)
  | 6 => ("RottenSeats$People", "rightPersons", "[I", true)
  | 7 => ("RottenSeats$People", "rightPlaces", "[I", true)
  | 8 => ("RottenSeats$People", "rightKinds", "[I", true)
  | 9 => ("RottenSeats$People", "rightValues", "[I", true)
  | 10 => ("RottenSeats$People", "rightSinces", "[I", true)
  | 11 => ("RottenSeats$People", "rightEnds", "[I", true)
  | 12 => ("RottenSeats$People", "rights", "I", false)
  | _ => ("RottenSeats$People", "facts", "[I", true)
def tyX3 : Nat → FieldType := fun k => match k with
  | 0 => .array .int
  | 1 => .array .int
  | 2 => .array .int
  | 3 => .array .int
  | 4 => .array .boolean
  | 5 => .int
  | 6 => .array .int
  | 7 => .array .int
  | 8 => .array .int
  | 9 => .array .int
  | 10 => .array .int
  | 11 => .array .int
  | 12 => .int
  | _ => .array .int
abbrev wsX30 : List Cond := u_ws RX3 TX3 14
theorem nmX3 : ∀ a, a < 14 → ∀ b, b < 14 → a ≠ b → (TX3 a).2.1 ≠ (TX3 b).2.1 := by decide +kernel
theorem tyX3_ok : ∀ k, k < 14 → parseFieldDescriptor (TX3 k).2.2.1 = some (tyX3 k) := by decide +kernel
theorem inX3 : ∀ w ∈ wsX30, w ∈ lw_tbl := by decide +kernel
def RX4 : String := "RottenSeats$Petitions"
def TX4 : u_T := fun k => match k with
  | 0 => ("RottenSeats$Petitions", "truths", "[I", true)
  | 1 => ("RottenSeats$Petitions", "told", "[[I", true)
  | 2 => ("RottenSeats$Petitions", "size", "I", false)
  | _ => ("RottenSeats$Petitions", "facts", "[I", true)
def tyX4 : Nat → FieldType := fun k => match k with
  | 0 => .array .int
  | 1 => .array (.array .int)
  | 2 => .int
  | _ => .array .int
abbrev wsX40 : List Cond := u_ws RX4 TX4 4
theorem nmX4 : ∀ a, a < 4 → ∀ b, b < 4 → a ≠ b → (TX4 a).2.1 ≠ (TX4 b).2.1 := by decide +kernel
theorem tyX4_ok : ∀ k, k < 4 → parseFieldDescriptor (TX4 k).2.2.1 = some (tyX4 k) := by decide +kernel
theorem inX4 : ∀ w ∈ wsX40, w ∈ lw_tbl := by decide +kernel
def RX5 : String := "RottenSeats$Places"
def TX5 : u_T := fun k => match k with
  | 0 => ("RottenSeats$Places", "seats", "[I", true)
  | 1 => ("RottenSeats$Places", "patrons", "[I", true)
  | 2 => ("RottenSeats$Places", "bases", "[I", true)
  | 3 => ("RottenSeats$Places", "sides", "[I", true)
  | 4 => ("RottenSeats$Places", "size", "I", false)
  | 5 => ("RottenSeats$Places", "oldPlaces", "[I", true)
  | 6 => ("RottenSeats$Places", "oldTexts", "[I", true)
  | 7 => ("RottenSeats$Places", "oldDays", "[I", true)
  | _ => ("RottenSeats$Places", "olds", "I", false)
def tyX5 : Nat → FieldType := fun k => match k with
  | 0 => .array .int
  | 1 => .array .int
  | 2 => .array .int
  | 3 => .array .int
  | 4 => .int
  | 5 => .array .int
  | 6 => .array .int
  | 7 => .array .int
  | _ => .int
abbrev wsX50 : List Cond := u_ws RX5 TX5 9
theorem nmX5 : ∀ a, a < 9 → ∀ b, b < 9 → a ≠ b → (TX5 a).2.1 ≠ (TX5 b).2.1 := by decide +kernel
theorem tyX5_ok : ∀ k, k < 9 → parseFieldDescriptor (TX5 k).2.2.1 = some (tyX5 k) := by decide +kernel
theorem inX5 : ∀ w ∈ wsX50, w ∈ lw_tbl := by decide +kernel
def RX6 : String := "RottenSeats$Plan"
def TX6 : u_T := fun k => match k with
  | 0 => ("RottenSeats$Plan", "nightsOf", "[I", true)
  | 1 => ("RottenSeats$Plan", "carried", "[I", true)
  | 2 => ("RottenSeats$Plan", "carriedAhead", "[I", true)
  | 3 => ("RottenSeats$Plan", "values", "[[I", true)
  | 4 => ("RottenSeats$Plan", "picks", "[[I", true)
  | 5 => ("RottenSeats$Plan", "needs", "[I", true)
  | _ => ("RottenSeats$Plan", "ranks", "[I", true)
def tyX6 : Nat → FieldType := fun k => match k with
  | 0 => .array .int
  | 1 => .array .int
  | 2 => .array .int
  | 3 => .array (.array .int)
  | 4 => .array (.array .int)
  | 5 => .array .int
  | _ => .array .int
abbrev wsX60 : List Cond := u_ws RX6 TX6 7
theorem nmX6 : ∀ a, a < 7 → ∀ b, b < 7 → a ≠ b → (TX6 a).2.1 ≠ (TX6 b).2.1 := by decide +kernel
theorem tyX6_ok : ∀ k, k < 7 → parseFieldDescriptor (TX6 k).2.2.1 = some (tyX6 k) := by decide +kernel
theorem inX6 : ∀ w ∈ wsX60, w ∈ lw_tbl := by decide +kernel
def RX7 : String := "RottenSeats$Rolls"
def TX7 : u_T := fun k => match k with
  | 0 => ("RottenSeats$Rolls", "subjects", "[I", true)
  | 1 => ("RottenSeats$Rolls", "asOf", "[I", true)
  | 2 => ("RottenSeats$Rolls", "toldOn", "[I", true)
  | 3 => ("RottenSeats$Rolls", "values", "[I", true)
  | 4 => ("RottenSeats$Rolls", "wrongs", "[I", true)
  | 5 => ("RottenSeats$Rolls", "size", "I", false)
  | 6 => ("RottenSeats$Rolls", "weights", "[I", true)
  | 7 => ("RottenSeats$Rolls", "houses", "[I", true)
  | 8 => ("RottenSeats$Rolls", "scores", "[I", true)
  | 9 => ("RottenSeats$Rolls", "leasts", "[I", true)
  | 10 => ("RottenSeats$Rolls", "greatests", "[I", true)
  | _ => ("RottenSeats$Rolls", "listed", "I", false)
def tyX7 : Nat → FieldType := fun k => match k with
  | 0 => .array .int
  | 1 => .array .int
  | 2 => .array .int
  | 3 => .array .int
  | 4 => .array .int
  | 5 => .int
  | 6 => .array .int
  | 7 => .array .int
  | 8 => .array .int
  | 9 => .array .int
  | 10 => .array .int
  | _ => .int
abbrev wsX70 : List Cond := u_ws RX7 TX7 12
theorem nmX7 : ∀ a, a < 12 → ∀ b, b < 12 → a ≠ b → (TX7 a).2.1 ≠ (TX7 b).2.1 := by decide +kernel
theorem tyX7_ok : ∀ k, k < 12 → parseFieldDescriptor (TX7 k).2.2.1 = some (tyX7 k) := by decide +kernel
theorem inX7 : ∀ w ∈ wsX70, w ∈ lw_tbl := by decide +kernel
def RX8 : String := "RottenSeats$Sales"
def TX8 : u_T := fun k => match k with
  | 0 => ("RottenSeats$Sales", "sold", "[I", true)
  | 1 => ("RottenSeats$Sales", "froms", "[I", true)
  | 2 => ("RottenSeats$Sales", "tos", "[I", true)
  | _ => ("RottenSeats$Sales", "size", "I", false)
def tyX8 : Nat → FieldType := fun k => match k with
  | 0 => .array .int
  | 1 => .array .int
  | 2 => .array .int
  | _ => .int
abbrev wsX80 : List Cond := u_ws RX8 TX8 4
theorem nmX8 : ∀ a, a < 4 → ∀ b, b < 4 → a ≠ b → (TX8 a).2.1 ≠ (TX8 b).2.1 := by decide +kernel
theorem tyX8_ok : ∀ k, k < 4 → parseFieldDescriptor (TX8 k).2.2.1 = some (tyX8 k) := by decide +kernel
theorem inX8 : ∀ w ∈ wsX80, w ∈ lw_tbl := by decide +kernel
def RX9 : String := "RottenSeats$Tape"
def TX9 : u_T := fun k => match k with
  | 0 => ("RottenSeats$Tape", "bytes", "[I", true)
  | 1 => ("RottenSeats$Tape", "size", "I", false)
  | 2 => ("RottenSeats$Tape", "steps", "[I", true)
  | 3 => ("RottenSeats$Tape", "length", "I", false)
  | 4 => ("RottenSeats$Tape", "at", "I", false)
  | _ => ("RottenSeats$Tape", "letters", "Ljava/lang/String;", false)
def tyX9 : Nat → FieldType := fun k => match k with
  | 0 => .array .int
  | 1 => .int
  | 2 => .array .int
  | 3 => .int
  | 4 => .int
  | _ => .object "java/lang/String"
abbrev wsX90 : List Cond := u_ws RX9 TX9 6
theorem nmX9 : ∀ a, a < 6 → ∀ b, b < 6 → a ≠ b → (TX9 a).2.1 ≠ (TX9 b).2.1 := by decide +kernel
theorem tyX9_ok : ∀ k, k < 6 → parseFieldDescriptor (TX9 k).2.2.1 = some (tyX9 k) := by decide +kernel
theorem inX9 : ∀ w ∈ wsX90, w ∈ lw_tbl := by decide +kernel
def RX10 : String := "RottenSeats$Texts"
def TX10 : u_T := fun k => match k with
  | 0 => ("RottenSeats$Texts", "rules", "[[I", true)
  | 1 => ("RottenSeats$Texts", "lengths", "[I", true)
  | _ => ("RottenSeats$Texts", "size", "I", false)
def tyX10 : Nat → FieldType := fun k => match k with
  | 0 => .array (.array .int)
  | 1 => .array .int
  | _ => .int
abbrev wsX100 : List Cond := u_ws RX10 TX10 3
theorem nmX10 : ∀ a, a < 3 → ∀ b, b < 3 → a ≠ b → (TX10 a).2.1 ≠ (TX10 b).2.1 := by decide +kernel
theorem tyX10_ok : ∀ k, k < 3 → parseFieldDescriptor (TX10 k).2.2.1 = some (tyX10 k) := by decide +kernel
theorem inX10 : ∀ w ∈ wsX100, w ∈ lw_tbl := by decide +kernel
def RX11 : String := "RottenSeats"
def TX11 : u_T := fun k => match k with
  | 0 => ("RottenSeats", "places", "LRottenSeats$Places;", true)
  | 1 => ("RottenSeats", "rolls", "LRottenSeats$Rolls;", true)
  | 2 => ("RottenSeats", "people", "LRottenSeats$People;", true)
  | 3 => ("RottenSeats", "tape", "LRottenSeats$Tape;", true)
  | 4 => ("RottenSeats", "texts", "LRottenSeats$Texts;", true)
  | 5 => ("RottenSeats", "petitions", "LRottenSeats$Petitions;", true)
  | 6 => ("RottenSeats", "sales", "LRottenSeats$Sales;", true)
  | 7 => ("RottenSeats", "members", "LRottenSeats$Members;", true)
  | 8 => ("RottenSeats", "bill", "LRottenSeats$Bill;", true)
  | 9 => ("RottenSeats", "knots", "LRottenSeats$Knots;", true)
  | 10 => ("RottenSeats", "plan", "LRottenSeats$Plan;", true)
  | 11 => ("RottenSeats", "refusals", "[I", true)
  | 12 => ("RottenSeats", "votes", "[I", true)
  | 13 => ("RottenSeats", "row", "[I", true)
  | 14 => ("RottenSeats", "rowSize", "I", false)
  | _ => ("RottenSeats", "today", "I", false)
def tyX11 : Nat → FieldType := fun k => match k with
  | 0 => .object "RottenSeats$Places"
  | 1 => .object "RottenSeats$Rolls"
  | 2 => .object "RottenSeats$People"
  | 3 => .object "RottenSeats$Tape"
  | 4 => .object "RottenSeats$Texts"
  | 5 => .object "RottenSeats$Petitions"
  | 6 => .object "RottenSeats$Sales"
  | 7 => .object "RottenSeats$Members"
  | 8 => .object "RottenSeats$Bill"
  | 9 => .object "RottenSeats$Knots"
  | 10 => .object "RottenSeats$Plan"
  | 11 => .array .int
  | 12 => .array .int
  | 13 => .array .int
  | 14 => .int
  | _ => .int
abbrev wsX110 : List Cond := u_ws RX11 TX11 16
theorem nmX11 : ∀ a, a < 16 → ∀ b, b < 16 → a ≠ b → (TX11 a).2.1 ≠ (TX11 b).2.1 := by decide +kernel
theorem tyX11_ok : ∀ k, k < 16 → parseFieldDescriptor (TX11 k).2.2.1 = some (tyX11 k) := by decide +kernel
theorem inX11 : ∀ w ∈ wsX110, w ∈ lw_tbl := by decide +kernel
def RX12 : String := "RottenSeatsModel"
def TX12 : u_T := fun k => match k with
  | 0 => ("RottenSeatsModel", "day", "I", false)
  | 1 => ("RottenSeatsModel", "places", "I", false)
  | 2 => ("RottenSeatsModel", "sends", "[I", true)
  | 3 => ("RottenSeatsModel", "patronOf", "[I", true)
  | 4 => ("RottenSeatsModel", "bases", "[I", true)
  | 5 => ("RottenSeatsModel", "rolls", "I", false)
  | 6 => ("RottenSeatsModel", "rPlace", "[I", true)
  | 7 => ("RottenSeatsModel", "rWhat", "[I", true)
  | 8 => ("RottenSeatsModel", "rDay", "[I", true)
  | 9 => ("RottenSeatsModel", "rValue", "[I", true)
  | 10 => ("RottenSeatsModel", "rWrong", "[I", true)
  | 11 => ("RottenSeatsModel", "rTold", "[I", true)
  | 12 => ("RottenSeatsModel", "weights", "[I", true)
  | 13 => ("RottenSeatsModel", "people", "I", false)
  | 14 => ("RottenSeatsModel", "home", "[I", true)
  | 15 => ("RottenSeatsModel", "since", "[I", true)
  | 16 => ("RottenSeatsModel", "wish", "[I", true)
  | 17 => ("RottenSeatsModel", "debt", "[I", true)
  | 18 => ("RottenSeatsModel", "isGone", "[Z", true)
  | 19 => ("RottenSeatsModel", "rights", "I", false)
  | 20 => ("RottenSeatsModel", "gWho", "[I", true)
  | 21 => ("RottenSeatsModel", "gPlace", "[I", true)
  | 22 => ("RottenSeatsModel", "gKind", "[I", true)
  | 23 => ("RottenSeatsModel", "gSize", "[I", true)
  | 24 => ("RottenSeatsModel", "gSince", "[I", true)
  | 25 => ("RottenSeatsModel", "gEnd", "[I", true)
  | 26 => ("RottenSeatsModel", "sideOf", "[I", true)
  | 27 => ("RottenSeatsModel", "refused", "[I", true)
  | 28 => ("RottenSeatsModel", "facts", "[I", true)
  | 29 => ("RottenSeatsModel", "tape", "[I", true)
  | 30 => ("RottenSeatsModel", "tapeMany", "I", false)
  | 31 => ("RottenSeatsModel", "texts", "I", false)
  | 32 => ("RottenSeatsModel", "petitions", "I", false)
  | 33 => ("RottenSeatsModel", "written", "[I", true)
  | 34 => ("RottenSeatsModel", "writtenMany", "[I", true)
  | 35 => ("RottenSeatsModel", "isTold", "Z", false)
  | 36 => ("RottenSeatsModel", "isPetition", "Z", false)
  | 37 => ("RottenSeatsModel", "base", "I", false)
  | 38 => ("RottenSeatsModel", "end", "I", false)
  | 39 => ("RottenSeatsModel", "at", "I", false)
  | 40 => ("RottenSeatsModel", "isBad", "Z", false)
  | 41 => ("RottenSeatsModel", "deep", "I", false)
  | 42 => ("RottenSeatsModel", "values", "[Z", true)
  | 43 => ("RottenSeatsModel", "valueMany", "I", false)
  | 44 => ("RottenSeatsModel", "signs", "[I", true)
  | 45 => ("RottenSeatsModel", "signMany", "I", false)
  | 46 => ("RottenSeatsModel", "olds", "I", false)
  | 47 => ("RottenSeatsModel", "oPlace", "[I", true)
  | 48 => ("RottenSeatsModel", "oText", "[I", true)
  | 49 => ("RottenSeatsModel", "oDay", "[I", true)
  | 50 => ("RottenSeatsModel", "sales", "I", false)
  | 51 => ("RottenSeatsModel", "sPlace", "[I", true)
  | 52 => ("RottenSeatsModel", "sFrom", "[I", true)
  | 53 => ("RottenSeatsModel", "sTo", "[I", true)
  | 54 => ("RottenSeatsModel", "toldFact", "[I", true)
  | 55 => ("RottenSeatsModel", "holdMany", "I", false)
  | 56 => ("RottenSeatsModel", "allMany", "I", false)
  | 57 => ("RottenSeatsModel", "members", "I", false)
  | 58 => ("RottenSeatsModel", "knot", "[I", true)
  | 59 => ("RottenSeatsModel", "lean", "[I", true)
  | 60 => ("RottenSeatsModel", "isDrawn", "[Z", true)
  | 61 => ("RottenSeatsModel", "lines", "I", false)
  | 62 => ("RottenSeatsModel", "lKind", "[I", true)
  | 63 => ("RottenSeatsModel", "lMany", "[I", true)
  | 64 => ("RottenSeatsModel", "lX", "[I", true)
  | 65 => ("RottenSeatsModel", "lHangs", "[I", true)
  | 66 => ("RottenSeatsModel", "seatsUnder", "[I", true)
  | 67 => ("RottenSeatsModel", "textUnder", "[I", true)
  | 68 => ("RottenSeatsModel", "ranks", "[I", true)
  | 69 => ("RottenSeatsModel", "rollsOf", "[I", true)
  | 70 => ("RottenSeatsModel", "seatsWith", "[I", true)
  | 71 => ("RottenSeatsModel", "votesWith", "[Z", true)
  | 72 => ("RottenSeatsModel", "wants", "[I", true)
  | 73 => ("RottenSeatsModel", "bars", "[I", true)
  | 74 => ("RottenSeatsModel", "reads", "[I", true)
  | 75 => ("RottenSeatsModel", "leastThere", "[I", true)
  | 76 => ("RottenSeatsModel", "mostThere", "[I", true)
  | 77 => ("RottenSeatsModel", "carriesOn", "[Z", true)
  | 78 => ("RottenSeatsModel", "nightAt", "[I", true)
  | 79 => ("RottenSeatsModel", "bestNight", "[I", true)
  | 80 => ("RottenSeatsModel", "brought", "[I", true)
  | 81 => ("RottenSeatsModel", "full", "[I", true)
  | 82 => ("RottenSeatsModel", "couldBe", "[I", true)
  | 83 => ("RottenSeatsModel", "votes", "[I", true)
  | 84 => ("RottenSeatsModel", "sidesIn", "I", false)
  | 85 => ("RottenSeatsModel", "isQuarrelled", "Z", false)
  | 86 => ("RottenSeatsModel", "row", "[I", true)
  | _ => ("RottenSeatsModel", "rowMany", "I", false)
def tyX12 : Nat → FieldType := fun k => match k with
  | 0 => .int
  | 1 => .int
  | 2 => .array .int
  | 3 => .array .int
  | 4 => .array .int
  | 5 => .int
  | 6 => .array .int
  | 7 => .array .int
  | 8 => .array .int
  | 9 => .array .int
  | 10 => .array .int
  | 11 => .array .int
  | 12 => .array .int
  | 13 => .int
  | 14 => .array .int
  | 15 => .array .int
  | 16 => .array .int
  | 17 => .array .int
  | 18 => .array .boolean
  | 19 => .int
  | 20 => .array .int
  | 21 => .array .int
  | 22 => .array .int
  | 23 => .array .int
  | 24 => .array .int
  | 25 => .array .int
  | 26 => .array .int
  | 27 => .array .int
  | 28 => .array .int
  | 29 => .array .int
  | 30 => .int
  | 31 => .int
  | 32 => .int
  | 33 => .array .int
  | 34 => .array .int
  | 35 => .boolean
  | 36 => .boolean
  | 37 => .int
  | 38 => .int
  | 39 => .int
  | 40 => .boolean
  | 41 => .int
  | 42 => .array .boolean
  | 43 => .int
  | 44 => .array .int
  | 45 => .int
  | 46 => .int
  | 47 => .array .int
  | 48 => .array .int
  | 49 => .array .int
  | 50 => .int
  | 51 => .array .int
  | 52 => .array .int
  | 53 => .array .int
  | 54 => .array .int
  | 55 => .int
  | 56 => .int
  | 57 => .int
  | 58 => .array .int
  | 59 => .array .int
  | 60 => .array .boolean
  | 61 => .int
  | 62 => .array .int
  | 63 => .array .int
  | 64 => .array .int
  | 65 => .array .int
  | 66 => .array .int
  | 67 => .array .int
  | 68 => .array .int
  | 69 => .array .int
  | 70 => .array .int
  | 71 => .array .boolean
  | 72 => .array .int
  | 73 => .array .int
  | 74 => .array .int
  | 75 => .array .int
  | 76 => .array .int
  | 77 => .array .boolean
  | 78 => .array .int
  | 79 => .array .int
  | 80 => .array .int
  | 81 => .array .int
  | 82 => .array .int
  | 83 => .array .int
  | 84 => .int
  | 85 => .boolean
  | 86 => .array .int
  | _ => .int
abbrev wsX120 : List Cond := u_ws RX12 TX12 88
theorem nmX12 : ∀ a, a < 88 → ∀ b, b < 88 → a ≠ b → (TX12 a).2.1 ≠ (TX12 b).2.1 := by decide +kernel
theorem tyX12_ok : ∀ k, k < 88 → parseFieldDescriptor (TX12 k).2.2.1 = some (tyX12 k) := by decide +kernel
theorem inX12 : ∀ w ∈ wsX120, w ∈ lw_tbl := by decide +kernel
abbrev vwCl : List vw_C := [(RX0, TX0, 9), (RX1, TX1, 5), (RX2, TX2, 5), (RX3, TX3, 14), (RX4, TX4, 4), (RX5, TX5, 9), (RX6, TX6, 7), (RX7, TX7, 12), (RX8, TX8, 4), (RX9, TX9, 6), (RX10, TX10, 3), (RX11, TX11, 16), (RX12, TX12, 88)]
