section
-- ===== PART A: goes FIRST, ahead of the names: the tables' words, and 'selects' of the private methods out of them =====
/-- a private method of a class that the tables say can be made, by its rows of tables_1 -/
def lw_okq (q : MethodName × Nat) : Prop := (q.1.cls ≠ "java/lang/invoke/MethodHandle" ∧ q.1.cls ≠ "java/lang/invoke/VarHandle") ∧ Cond.instantiable q.1.cls q.2 ∈ tables_1 ∧ Cond.privateMethod q.1 ∈ tables_1 ∧ Cond.instanceMethod q.1 ∈ tables_1
theorem lw_p0 : lw_okq (⟨"TournamentDesk$History", "stateAt", "(I)LTournamentDesk$Board;"⟩, 3) := ⟨⟨by decide +kernel, by decide +kernel⟩, List.mem_of_getElem? (i := 55) (by decide +kernel), List.mem_of_getElem? (i := 212) (by decide +kernel), List.mem_of_getElem? (i := 213) (by decide +kernel)⟩
theorem lw_p1 : lw_okq (⟨"TournamentDesk$Paths", "put", "(II)V"⟩, 2) := ⟨⟨by decide +kernel, by decide +kernel⟩, List.mem_of_getElem? (i := 111) (by decide +kernel), List.mem_of_getElem? (i := 314) (by decide +kernel), List.mem_of_getElem? (i := 315) (by decide +kernel)⟩
theorem lw_p2 : lw_okq (⟨"TournamentDesk$Board", "swapAgainst", "(III)V"⟩, 4) := ⟨⟨by decide +kernel, by decide +kernel⟩, List.mem_of_getElem? (i := 25) (by decide +kernel), List.mem_of_getElem? (i := 341) (by decide +kernel), List.mem_of_getElem? (i := 342) (by decide +kernel)⟩
theorem lw_p3 : lw_okq (⟨"TournamentDesk$Sequence", "sumOfSmallest", "(I)I"⟩, 2) := ⟨⟨by decide +kernel, by decide +kernel⟩, List.mem_of_getElem? (i := 74) (by decide +kernel), List.mem_of_getElem? (i := 355) (by decide +kernel), List.mem_of_getElem? (i := 356) (by decide +kernel)⟩
theorem lw_p4 : lw_okq (⟨"TournamentDesk$Sequence", "timesOf", "(I)I"⟩, 2) := ⟨⟨by decide +kernel, by decide +kernel⟩, List.mem_of_getElem? (i := 74) (by decide +kernel), List.mem_of_getElem? (i := 359) (by decide +kernel), List.mem_of_getElem? (i := 360) (by decide +kernel)⟩
theorem lw_p5 : lw_okq (⟨"TournamentDesk$Construction", "greatestOf", "(I)I"⟩, 1) := ⟨⟨by decide +kernel, by decide +kernel⟩, List.mem_of_getElem? (i := 101) (by decide +kernel), List.mem_of_getElem? (i := 382) (by decide +kernel), List.mem_of_getElem? (i := 383) (by decide +kernel)⟩
theorem lw_p6 : lw_okq (⟨"TournamentDesk$Construction", "restOf", "(I)I"⟩, 1) := ⟨⟨by decide +kernel, by decide +kernel⟩, List.mem_of_getElem? (i := 101) (by decide +kernel), List.mem_of_getElem? (i := 391) (by decide +kernel), List.mem_of_getElem? (i := 392) (by decide +kernel)⟩
theorem lw_p7 : lw_okq (⟨"TournamentDesk$Construction", "smallestOf", "(II)I"⟩, 1) := ⟨⟨by decide +kernel, by decide +kernel⟩, List.mem_of_getElem? (i := 101) (by decide +kernel), List.mem_of_getElem? (i := 399) (by decide +kernel), List.mem_of_getElem? (i := 400) (by decide +kernel)⟩
theorem lw_p8 : lw_okq (⟨"TournamentDesk$Construction", "smallestIn", "(I)I"⟩, 1) := ⟨⟨by decide +kernel, by decide +kernel⟩, List.mem_of_getElem? (i := 101) (by decide +kernel), List.mem_of_getElem? (i := 403) (by decide +kernel), List.mem_of_getElem? (i := 404) (by decide +kernel)⟩
theorem lw_p9 : lw_okq (⟨"TournamentDesk$Construction", "settle", "(LTournamentDesk$Board;III)V"⟩, 1) := ⟨⟨by decide +kernel, by decide +kernel⟩, List.mem_of_getElem? (i := 101) (by decide +kernel), List.mem_of_getElem? (i := 408) (by decide +kernel), List.mem_of_getElem? (i := 409) (by decide +kernel)⟩
theorem lw_p10 : lw_okq (⟨"TournamentDesk$ResultText", "isResult", "(LTournamentDesk$Board;I)Z"⟩, 2) := ⟨⟨by decide +kernel, by decide +kernel⟩, List.mem_of_getElem? (i := 87) (by decide +kernel), List.mem_of_getElem? (i := 421) (by decide +kernel), List.mem_of_getElem? (i := 422) (by decide +kernel)⟩
theorem lw_p11 : lw_okq (⟨"TournamentDesk$ResultText", "at", "(I)C"⟩, 2) := ⟨⟨by decide +kernel, by decide +kernel⟩, List.mem_of_getElem? (i := 87) (by decide +kernel), List.mem_of_getElem? (i := 425) (by decide +kernel), List.mem_of_getElem? (i := 426) (by decide +kernel)⟩
theorem lw_p12 : lw_okq (⟨"TournamentDesk$Paths", "countEnding", "(LTournamentDesk$Board;II)I"⟩, 2) := ⟨⟨by decide +kernel, by decide +kernel⟩, List.mem_of_getElem? (i := 111) (by decide +kernel), List.mem_of_getElem? (i := 569) (by decide +kernel), List.mem_of_getElem? (i := 570) (by decide +kernel)⟩
theorem lw_p13 : lw_okq (⟨"TournamentDesk$Paths", "sumOfCounts", "(II)I"⟩, 2) := ⟨⟨by decide +kernel, by decide +kernel⟩, List.mem_of_getElem? (i := 111) (by decide +kernel), List.mem_of_getElem? (i := 573) (by decide +kernel), List.mem_of_getElem? (i := 574) (by decide +kernel)⟩
theorem lw_p14 : lw_okq (⟨"TournamentDesk$Paths", "putCount", "(III)V"⟩, 2) := ⟨⟨by decide +kernel, by decide +kernel⟩, List.mem_of_getElem? (i := 111) (by decide +kernel), List.mem_of_getElem? (i := 578) (by decide +kernel), List.mem_of_getElem? (i := 579) (by decide +kernel)⟩
theorem lw_p15 : lw_okq (⟨"TournamentDesk$Orders", "learn", "(LTournamentDesk$Board;)V"⟩, 4) := ⟨⟨by decide +kernel, by decide +kernel⟩, List.mem_of_getElem? (i := 137) (by decide +kernel), List.mem_of_getElem? (i := 631) (by decide +kernel), List.mem_of_getElem? (i := 632) (by decide +kernel)⟩
def lw_privs_1 : List (MethodName × Nat) := [(⟨"TournamentDesk$History", "stateAt", "(I)LTournamentDesk$Board;"⟩, 3), (⟨"TournamentDesk$Paths", "put", "(II)V"⟩, 2), (⟨"TournamentDesk$Board", "swapAgainst", "(III)V"⟩, 4), (⟨"TournamentDesk$Sequence", "sumOfSmallest", "(I)I"⟩, 2), (⟨"TournamentDesk$Sequence", "timesOf", "(I)I"⟩, 2), (⟨"TournamentDesk$Construction", "greatestOf", "(I)I"⟩, 1), (⟨"TournamentDesk$Construction", "restOf", "(I)I"⟩, 1), (⟨"TournamentDesk$Construction", "smallestOf", "(II)I"⟩, 1), (⟨"TournamentDesk$Construction", "smallestIn", "(I)I"⟩, 1), (⟨"TournamentDesk$Construction", "settle", "(LTournamentDesk$Board;III)V"⟩, 1), (⟨"TournamentDesk$ResultText", "isResult", "(LTournamentDesk$Board;I)Z"⟩, 2), (⟨"TournamentDesk$ResultText", "at", "(I)C"⟩, 2), (⟨"TournamentDesk$Paths", "countEnding", "(LTournamentDesk$Board;II)I"⟩, 2), (⟨"TournamentDesk$Paths", "sumOfCounts", "(II)I"⟩, 2), (⟨"TournamentDesk$Paths", "putCount", "(III)V"⟩, 2), (⟨"TournamentDesk$Orders", "learn", "(LTournamentDesk$Board;)V"⟩, 4)]
theorem lw_r1 : ∀ q ∈ lw_privs_1, lw_okq q := List.forall_mem_cons.mpr ⟨lw_p0, List.forall_mem_cons.mpr ⟨lw_p1, List.forall_mem_cons.mpr ⟨lw_p2, List.forall_mem_cons.mpr ⟨lw_p3, List.forall_mem_cons.mpr ⟨lw_p4, List.forall_mem_cons.mpr ⟨lw_p5, List.forall_mem_cons.mpr ⟨lw_p6, List.forall_mem_cons.mpr ⟨lw_p7, List.forall_mem_cons.mpr ⟨lw_p8, List.forall_mem_cons.mpr ⟨lw_p9, List.forall_mem_cons.mpr ⟨lw_p10, List.forall_mem_cons.mpr ⟨lw_p11, List.forall_mem_cons.mpr ⟨lw_p12, List.forall_mem_cons.mpr ⟨lw_p13, List.forall_mem_cons.mpr ⟨lw_p14, List.forall_mem_cons.mpr ⟨lw_p15, fun _ h => absurd h List.not_mem_nil⟩⟩⟩⟩⟩⟩⟩⟩⟩⟩⟩⟩⟩⟩⟩⟩
theorem lw_p16 : lw_okq (⟨"TournamentDesk$Orders", "sumCosts", "(LTournamentDesk$Board;II)V"⟩, 4) := ⟨⟨by decide +kernel, by decide +kernel⟩, List.mem_of_getElem? (i := 137) (by decide +kernel), List.mem_of_getElem? (i := 640) (by decide +kernel), List.mem_of_getElem? (i := 641) (by decide +kernel)⟩
theorem lw_p17 : lw_okq (⟨"TournamentDesk$Orders", "leastWithin", "(II)I"⟩, 4) := ⟨⟨by decide +kernel, by decide +kernel⟩, List.mem_of_getElem? (i := 137) (by decide +kernel), List.mem_of_getElem? (i := 650) (by decide +kernel), List.mem_of_getElem? (i := 651) (by decide +kernel)⟩
theorem lw_p18 : lw_okq (⟨"TournamentDesk$Orders", "costWithFirst", "(II)I"⟩, 4) := ⟨⟨by decide +kernel, by decide +kernel⟩, List.mem_of_getElem? (i := 137) (by decide +kernel), List.mem_of_getElem? (i := 656) (by decide +kernel), List.mem_of_getElem? (i := 657) (by decide +kernel)⟩
theorem lw_p19 : lw_okq (⟨"TournamentDesk$Orders", "leastFor", "(I)I"⟩, 4) := ⟨⟨by decide +kernel, by decide +kernel⟩, List.mem_of_getElem? (i := 137) (by decide +kernel), List.mem_of_getElem? (i := 661) (by decide +kernel), List.mem_of_getElem? (i := 662) (by decide +kernel)⟩
theorem lw_p20 : lw_okq (⟨"TournamentDesk$Orders", "firstOnesWithin", "(II)I"⟩, 4) := ⟨⟨by decide +kernel, by decide +kernel⟩, List.mem_of_getElem? (i := 137) (by decide +kernel), List.mem_of_getElem? (i := 674) (by decide +kernel), List.mem_of_getElem? (i := 675) (by decide +kernel)⟩
theorem lw_p21 : lw_okq (⟨"TournamentDesk", "winnersBy", "(I)I"⟩, 10) := ⟨⟨by decide +kernel, by decide +kernel⟩, List.mem_of_getElem? (i := 17) (by decide +kernel), List.mem_of_getElem? (i := 683) (by decide +kernel), List.mem_of_getElem? (i := 684) (by decide +kernel)⟩
theorem lw_p22 : lw_okq (⟨"TournamentDeskModel", "begins", "(I)V"⟩, 12) := ⟨⟨by decide +kernel, by decide +kernel⟩, List.mem_of_getElem? (i := 763) (by decide +kernel), List.mem_of_getElem? (i := 769) (by decide +kernel), List.mem_of_getElem? (i := 770) (by decide +kernel)⟩
theorem lw_p23 : lw_okq (⟨"TournamentDeskModel", "keeps", "()V"⟩, 12) := ⟨⟨by decide +kernel, by decide +kernel⟩, List.mem_of_getElem? (i := 763) (by decide +kernel), List.mem_of_getElem? (i := 823) (by decide +kernel), List.mem_of_getElem? (i := 824) (by decide +kernel)⟩
theorem lw_p24 : lw_okq (⟨"TournamentDeskModel", "isPair", "(II)Z"⟩, 12) := ⟨⟨by decide +kernel, by decide +kernel⟩, List.mem_of_getElem? (i := 763) (by decide +kernel), List.mem_of_getElem? (i := 831) (by decide +kernel), List.mem_of_getElem? (i := 832) (by decide +kernel)⟩
theorem lw_p25 : lw_okq (⟨"TournamentDeskModel", "isPlayer", "(I)Z"⟩, 12) := ⟨⟨by decide +kernel, by decide +kernel⟩, List.mem_of_getElem? (i := 763) (by decide +kernel), List.mem_of_getElem? (i := 835) (by decide +kernel), List.mem_of_getElem? (i := 836) (by decide +kernel)⟩
theorem lw_p26 : lw_okq (⟨"TournamentDeskModel", "beats1", "(II)Z"⟩, 12) := ⟨⟨by decide +kernel, by decide +kernel⟩, List.mem_of_getElem? (i := 763) (by decide +kernel), List.mem_of_getElem? (i := 839) (by decide +kernel), List.mem_of_getElem? (i := 840) (by decide +kernel)⟩
theorem lw_p27 : lw_okq (⟨"TournamentDeskModel", "beaten", "(I)I"⟩, 12) := ⟨⟨by decide +kernel, by decide +kernel⟩, List.mem_of_getElem? (i := 763) (by decide +kernel), List.mem_of_getElem? (i := 843) (by decide +kernel), List.mem_of_getElem? (i := 844) (by decide +kernel)⟩
theorem lw_p28 : lw_okq (⟨"TournamentDeskModel", "wins", "(II)V"⟩, 12) := ⟨⟨by decide +kernel, by decide +kernel⟩, List.mem_of_getElem? (i := 763) (by decide +kernel), List.mem_of_getElem? (i := 850) (by decide +kernel), List.mem_of_getElem? (i := 851) (by decide +kernel)⟩
theorem lw_p29 : lw_okq (⟨"TournamentDeskModel", "isCycle", "(III)Z"⟩, 12) := ⟨⟨by decide +kernel, by decide +kernel⟩, List.mem_of_getElem? (i := 763) (by decide +kernel), List.mem_of_getElem? (i := 862) (by decide +kernel), List.mem_of_getElem? (i := 863) (by decide +kernel)⟩
theorem lw_p30 : lw_okq (⟨"TournamentDeskModel", "turns", "(II)V"⟩, 12) := ⟨⟨by decide +kernel, by decide +kernel⟩, List.mem_of_getElem? (i := 763) (by decide +kernel), List.mem_of_getElem? (i := 866) (by decide +kernel), List.mem_of_getElem? (i := 867) (by decide +kernel)⟩
theorem lw_p31 : lw_okq (⟨"TournamentDeskModel", "n", "()I"⟩, 12) := ⟨⟨by decide +kernel, by decide +kernel⟩, List.mem_of_getElem? (i := 763) (by decide +kernel), List.mem_of_getElem? (i := 874) (by decide +kernel), List.mem_of_getElem? (i := 875) (by decide +kernel)⟩
def lw_privs_2 : List (MethodName × Nat) := [(⟨"TournamentDesk$Orders", "sumCosts", "(LTournamentDesk$Board;II)V"⟩, 4), (⟨"TournamentDesk$Orders", "leastWithin", "(II)I"⟩, 4), (⟨"TournamentDesk$Orders", "costWithFirst", "(II)I"⟩, 4), (⟨"TournamentDesk$Orders", "leastFor", "(I)I"⟩, 4), (⟨"TournamentDesk$Orders", "firstOnesWithin", "(II)I"⟩, 4), (⟨"TournamentDesk", "winnersBy", "(I)I"⟩, 10), (⟨"TournamentDeskModel", "begins", "(I)V"⟩, 12), (⟨"TournamentDeskModel", "keeps", "()V"⟩, 12), (⟨"TournamentDeskModel", "isPair", "(II)Z"⟩, 12), (⟨"TournamentDeskModel", "isPlayer", "(I)Z"⟩, 12), (⟨"TournamentDeskModel", "beats1", "(II)Z"⟩, 12), (⟨"TournamentDeskModel", "beaten", "(I)I"⟩, 12), (⟨"TournamentDeskModel", "wins", "(II)V"⟩, 12), (⟨"TournamentDeskModel", "isCycle", "(III)Z"⟩, 12), (⟨"TournamentDeskModel", "turns", "(II)V"⟩, 12), (⟨"TournamentDeskModel", "n", "()I"⟩, 12)]
theorem lw_r2 : ∀ q ∈ lw_privs_2, lw_okq q := List.forall_mem_cons.mpr ⟨lw_p16, List.forall_mem_cons.mpr ⟨lw_p17, List.forall_mem_cons.mpr ⟨lw_p18, List.forall_mem_cons.mpr ⟨lw_p19, List.forall_mem_cons.mpr ⟨lw_p20, List.forall_mem_cons.mpr ⟨lw_p21, List.forall_mem_cons.mpr ⟨lw_p22, List.forall_mem_cons.mpr ⟨lw_p23, List.forall_mem_cons.mpr ⟨lw_p24, List.forall_mem_cons.mpr ⟨lw_p25, List.forall_mem_cons.mpr ⟨lw_p26, List.forall_mem_cons.mpr ⟨lw_p27, List.forall_mem_cons.mpr ⟨lw_p28, List.forall_mem_cons.mpr ⟨lw_p29, List.forall_mem_cons.mpr ⟨lw_p30, List.forall_mem_cons.mpr ⟨lw_p31, fun _ h => absurd h List.not_mem_nil⟩⟩⟩⟩⟩⟩⟩⟩⟩⟩⟩⟩⟩⟩⟩⟩
theorem lw_p32 : lw_okq (⟨"TournamentDeskModel", "stepsTo", "(I)V"⟩, 12) := ⟨⟨by decide +kernel, by decide +kernel⟩, List.mem_of_getElem? (i := 763) (by decide +kernel), List.mem_of_getElem? (i := 882) (by decide +kernel), List.mem_of_getElem? (i := 883) (by decide +kernel)⟩
theorem lw_p33 : lw_okq (⟨"TournamentDeskModel", "fails", "()I"⟩, 12) := ⟨⟨by decide +kernel, by decide +kernel⟩, List.mem_of_getElem? (i := 763) (by decide +kernel), List.mem_of_getElem? (i := 904) (by decide +kernel), List.mem_of_getElem? (i := 905) (by decide +kernel)⟩
theorem lw_p34 : lw_okq (⟨"TournamentDeskModel", "all", "()I"⟩, 12) := ⟨⟨by decide +kernel, by decide +kernel⟩, List.mem_of_getElem? (i := 763) (by decide +kernel), List.mem_of_getElem? (i := 908) (by decide +kernel), List.mem_of_getElem? (i := 909) (by decide +kernel)⟩
theorem lw_p35 : lw_okq (⟨"TournamentDeskModel", "faultOf", "()I"⟩, 12) := ⟨⟨by decide +kernel, by decide +kernel⟩, List.mem_of_getElem? (i := 763) (by decide +kernel), List.mem_of_getElem? (i := 916) (by decide +kernel), List.mem_of_getElem? (i := 917) (by decide +kernel)⟩
theorem lw_p36 : lw_okq (⟨"TournamentDeskModel", "reaches", "()V"⟩, 12) := ⟨⟨by decide +kernel, by decide +kernel⟩, List.mem_of_getElem? (i := 763) (by decide +kernel), List.mem_of_getElem? (i := 981) (by decide +kernel), List.mem_of_getElem? (i := 982) (by decide +kernel)⟩
theorem lw_p37 : lw_okq (⟨"TournamentDeskModel", "isLowest", "(I)Z"⟩, 12) := ⟨⟨by decide +kernel, by decide +kernel⟩, List.mem_of_getElem? (i := 763) (by decide +kernel), List.mem_of_getElem? (i := 985) (by decide +kernel), List.mem_of_getElem? (i := 986) (by decide +kernel)⟩
theorem lw_p38 : lw_okq (⟨"TournamentDeskModel", "componentAt", "(I)I"⟩, 12) := ⟨⟨by decide +kernel, by decide +kernel⟩, List.mem_of_getElem? (i := 763) (by decide +kernel), List.mem_of_getElem? (i := 993) (by decide +kernel), List.mem_of_getElem? (i := 994) (by decide +kernel)⟩
theorem lw_p39 : lw_okq (⟨"TournamentDeskModel", "countsPaths", "()V"⟩, 12) := ⟨⟨by decide +kernel, by decide +kernel⟩, List.mem_of_getElem? (i := 763) (by decide +kernel), List.mem_of_getElem? (i := 1001) (by decide +kernel), List.mem_of_getElem? (i := 1002) (by decide +kernel)⟩
theorem lw_p40 : lw_okq (⟨"TournamentDeskModel", "closes", "(II)V"⟩, 12) := ⟨⟨by decide +kernel, by decide +kernel⟩, List.mem_of_getElem? (i := 763) (by decide +kernel), List.mem_of_getElem? (i := 1013) (by decide +kernel), List.mem_of_getElem? (i := 1014) (by decide +kernel)⟩
theorem lw_p41 : lw_okq (⟨"TournamentDeskModel", "isClosed", "(I)Z"⟩, 12) := ⟨⟨by decide +kernel, by decide +kernel⟩, List.mem_of_getElem? (i := 763) (by decide +kernel), List.mem_of_getElem? (i := 1017) (by decide +kernel), List.mem_of_getElem? (i := 1018) (by decide +kernel)⟩
theorem lw_p42 : lw_okq (⟨"TournamentDeskModel", "orders", "()V"⟩, 12) := ⟨⟨by decide +kernel, by decide +kernel⟩, List.mem_of_getElem? (i := 763) (by decide +kernel), List.mem_of_getElem? (i := 1029) (by decide +kernel), List.mem_of_getElem? (i := 1030) (by decide +kernel)⟩
theorem lw_p43 : lw_okq (⟨"TournamentDeskModel", "costOf", "(II)I"⟩, 12) := ⟨⟨by decide +kernel, by decide +kernel⟩, List.mem_of_getElem? (i := 763) (by decide +kernel), List.mem_of_getElem? (i := 1033) (by decide +kernel), List.mem_of_getElem? (i := 1034) (by decide +kernel)⟩
theorem lw_p44 : lw_okq (⟨"TournamentDeskModel", "isBest", "(II)Z"⟩, 12) := ⟨⟨by decide +kernel, by decide +kernel⟩, List.mem_of_getElem? (i := 763) (by decide +kernel), List.mem_of_getElem? (i := 1041) (by decide +kernel), List.mem_of_getElem? (i := 1042) (by decide +kernel)⟩
theorem lw_p45 : lw_okq (⟨"TournamentDeskModel", "winnersBy", "(I)I"⟩, 12) := ⟨⟨by decide +kernel, by decide +kernel⟩, List.mem_of_getElem? (i := 763) (by decide +kernel), List.mem_of_getElem? (i := 1049) (by decide +kernel), List.mem_of_getElem? (i := 1050) (by decide +kernel)⟩
theorem lw_p46 : lw_okq (⟨"TournamentDeskModel", "isKing", "(I)Z"⟩, 12) := ⟨⟨by decide +kernel, by decide +kernel⟩, List.mem_of_getElem? (i := 763) (by decide +kernel), List.mem_of_getElem? (i := 1053) (by decide +kernel), List.mem_of_getElem? (i := 1054) (by decide +kernel)⟩
theorem lw_p47 : lw_okq (⟨"TournamentDeskModel", "isTop", "(I)Z"⟩, 12) := ⟨⟨by decide +kernel, by decide +kernel⟩, List.mem_of_getElem? (i := 763) (by decide +kernel), List.mem_of_getElem? (i := 1057) (by decide +kernel), List.mem_of_getElem? (i := 1058) (by decide +kernel)⟩
def lw_privs_3 : List (MethodName × Nat) := [(⟨"TournamentDeskModel", "stepsTo", "(I)V"⟩, 12), (⟨"TournamentDeskModel", "fails", "()I"⟩, 12), (⟨"TournamentDeskModel", "all", "()I"⟩, 12), (⟨"TournamentDeskModel", "faultOf", "()I"⟩, 12), (⟨"TournamentDeskModel", "reaches", "()V"⟩, 12), (⟨"TournamentDeskModel", "isLowest", "(I)Z"⟩, 12), (⟨"TournamentDeskModel", "componentAt", "(I)I"⟩, 12), (⟨"TournamentDeskModel", "countsPaths", "()V"⟩, 12), (⟨"TournamentDeskModel", "closes", "(II)V"⟩, 12), (⟨"TournamentDeskModel", "isClosed", "(I)Z"⟩, 12), (⟨"TournamentDeskModel", "orders", "()V"⟩, 12), (⟨"TournamentDeskModel", "costOf", "(II)I"⟩, 12), (⟨"TournamentDeskModel", "isBest", "(II)Z"⟩, 12), (⟨"TournamentDeskModel", "winnersBy", "(I)I"⟩, 12), (⟨"TournamentDeskModel", "isKing", "(I)Z"⟩, 12), (⟨"TournamentDeskModel", "isTop", "(I)Z"⟩, 12)]
theorem lw_r3 : ∀ q ∈ lw_privs_3, lw_okq q := List.forall_mem_cons.mpr ⟨lw_p32, List.forall_mem_cons.mpr ⟨lw_p33, List.forall_mem_cons.mpr ⟨lw_p34, List.forall_mem_cons.mpr ⟨lw_p35, List.forall_mem_cons.mpr ⟨lw_p36, List.forall_mem_cons.mpr ⟨lw_p37, List.forall_mem_cons.mpr ⟨lw_p38, List.forall_mem_cons.mpr ⟨lw_p39, List.forall_mem_cons.mpr ⟨lw_p40, List.forall_mem_cons.mpr ⟨lw_p41, List.forall_mem_cons.mpr ⟨lw_p42, List.forall_mem_cons.mpr ⟨lw_p43, List.forall_mem_cons.mpr ⟨lw_p44, List.forall_mem_cons.mpr ⟨lw_p45, List.forall_mem_cons.mpr ⟨lw_p46, List.forall_mem_cons.mpr ⟨lw_p47, fun _ h => absurd h List.not_mem_nil⟩⟩⟩⟩⟩⟩⟩⟩⟩⟩⟩⟩⟩⟩⟩⟩
theorem lw_p48 : lw_okq (⟨"TournamentDeskModel", "isFirst", "(I)Z"⟩, 12) := ⟨⟨by decide +kernel, by decide +kernel⟩, List.mem_of_getElem? (i := 763) (by decide +kernel), List.mem_of_getElem? (i := 1061) (by decide +kernel), List.mem_of_getElem? (i := 1062) (by decide +kernel)⟩
theorem lw_p49 : lw_okq (⟨"TournamentDeskModel", "isChain", "(I)Z"⟩, 12) := ⟨⟨by decide +kernel, by decide +kernel⟩, List.mem_of_getElem? (i := 763) (by decide +kernel), List.mem_of_getElem? (i := 1065) (by decide +kernel), List.mem_of_getElem? (i := 1066) (by decide +kernel)⟩
theorem lw_p50 : lw_okq (⟨"TournamentDeskModel", "isBeaten", "(I)Z"⟩, 12) := ⟨⟨by decide +kernel, by decide +kernel⟩, List.mem_of_getElem? (i := 763) (by decide +kernel), List.mem_of_getElem? (i := 1069) (by decide +kernel), List.mem_of_getElem? (i := 1070) (by decide +kernel)⟩
theorem lw_p51 : lw_okq (⟨"TournamentDeskModel", "differs", "(II)Z"⟩, 12) := ⟨⟨by decide +kernel, by decide +kernel⟩, List.mem_of_getElem? (i := 763) (by decide +kernel), List.mem_of_getElem? (i := 1085) (by decide +kernel), List.mem_of_getElem? (i := 1086) (by decide +kernel)⟩
theorem lw_p52 : lw_okq (⟨"TournamentDeskModel", "fits", "(I)Z"⟩, 12) := ⟨⟨by decide +kernel, by decide +kernel⟩, List.mem_of_getElem? (i := 763) (by decide +kernel), List.mem_of_getElem? (i := 1093) (by decide +kernel), List.mem_of_getElem? (i := 1094) (by decide +kernel)⟩
def lw_privs_4 : List (MethodName × Nat) := [(⟨"TournamentDeskModel", "isFirst", "(I)Z"⟩, 12), (⟨"TournamentDeskModel", "isChain", "(I)Z"⟩, 12), (⟨"TournamentDeskModel", "isBeaten", "(I)Z"⟩, 12), (⟨"TournamentDeskModel", "differs", "(II)Z"⟩, 12), (⟨"TournamentDeskModel", "fits", "(I)Z"⟩, 12)]
theorem lw_r4 : ∀ q ∈ lw_privs_4, lw_okq q := List.forall_mem_cons.mpr ⟨lw_p48, List.forall_mem_cons.mpr ⟨lw_p49, List.forall_mem_cons.mpr ⟨lw_p50, List.forall_mem_cons.mpr ⟨lw_p51, List.forall_mem_cons.mpr ⟨lw_p52, fun _ h => absurd h List.not_mem_nil⟩⟩⟩⟩⟩
def lw_privs : List (MethodName × Nat) := lw_privs_1 ++ (lw_privs_2 ++ (lw_privs_3 ++ (lw_privs_4)))
def lw_tbl : List Cond := k2_sels lw_privs ++ tables_1
theorem lw_privs_ok : ∀ q ∈ lw_privs, lw_okq q := by
  show ∀ q ∈ lw_privs_1 ++ (lw_privs_2 ++ (lw_privs_3 ++ (lw_privs_4))), lw_okq q
  exact List.forall_mem_append.mpr ⟨lw_r1, List.forall_mem_append.mpr ⟨lw_r2, List.forall_mem_append.mpr ⟨lw_r3, lw_r4⟩⟩⟩
end
section
/-! ===== BEGIN printed: names, fields, word lists, decode rows ===== -/
def RX0 : String := "TournamentDesk$Board"
def TX0 : u_T := fun k => match k with
  | 0 => ("TournamentDesk$Board", "size", "I", false)
  | 1 => ("TournamentDesk$Board", "stamp", "I", false)
  | 2 => ("TournamentDesk$Board", "beaten", "[I", true)
  | _ => ("TournamentDesk$Board", "weights", "[I", true)
def tyX0 : Nat → FieldType := fun k => match k with
  | 0 => .int
  | 1 => .int
  | 2 => .array .int
  | _ => .array .int
abbrev wsX00 : List Cond := u_ws RX0 TX0 4
theorem nmX0 : ∀ a, a < 4 → ∀ b, b < 4 → a ≠ b → (TX0 a).2.1 ≠ (TX0 b).2.1 := by decide +kernel
theorem tyX0_ok : ∀ k, k < 4 → parseFieldDescriptor (TX0 k).2.2.1 = some (tyX0 k) := by decide +kernel
abbrev cX0_init : ByteArray := prog_2_method_1_code
def yX0_init : MethodName := ⟨RX0, "<init>", "()V"⟩
abbrev cX0_start : ByteArray := prog_2_method_2_code
def yX0_start : MethodName := ⟨RX0, "start", "(I)V"⟩
abbrev cX0_copyFrom : ByteArray := prog_2_method_3_code
def yX0_copyFrom : MethodName := ⟨RX0, "copyFrom", "(LTournamentDesk$Board;)V"⟩
abbrev cX0_size : ByteArray := prog_2_method_4_code
def yX0_size : MethodName := ⟨RX0, "size", "()I"⟩
abbrev cX0_stamp : ByteArray := prog_2_method_5_code
def yX0_stamp : MethodName := ⟨RX0, "stamp", "()I"⟩
abbrev cX0_everyone : ByteArray := prog_2_method_6_code
def yX0_everyone : MethodName := ⟨RX0, "everyone", "()I"⟩
abbrev cX0_has : ByteArray := prog_2_method_7_code
def yX0_has : MethodName := ⟨RX0, "has", "(I)Z"⟩
abbrev cX0_hasPair : ByteArray := prog_2_method_8_code
def yX0_hasPair : MethodName := ⟨RX0, "hasPair", "(II)Z"⟩
abbrev cX0_beatenBy : ByteArray := prog_2_method_9_code
def yX0_beatenBy : MethodName := ⟨RX0, "beatenBy", "(I)I"⟩
abbrev cX0_beatersOf : ByteArray := prog_2_method_10_code
def yX0_beatersOf : MethodName := ⟨RX0, "beatersOf", "(I)I"⟩
abbrev cX0_wins : ByteArray := prog_2_method_11_code
def yX0_wins : MethodName := ⟨RX0, "wins", "(II)Z"⟩
abbrev cX0_winsOf : ByteArray := prog_2_method_12_code
def yX0_winsOf : MethodName := ⟨RX0, "winsOf", "(I)I"⟩
abbrev cX0_winsAtPlace : ByteArray := prog_2_method_13_code
def yX0_winsAtPlace : MethodName := ⟨RX0, "winsAtPlace", "(I)I"⟩
abbrev cX0_turn : ByteArray := prog_2_method_14_code
def yX0_turn : MethodName := ⟨RX0, "turn", "(II)V"⟩
abbrev cX0_setWinner : ByteArray := prog_2_method_15_code
def yX0_setWinner : MethodName := ⟨RX0, "setWinner", "(II)V"⟩
abbrev cX0_weightOf : ByteArray := prog_2_method_16_code
def yX0_weightOf : MethodName := ⟨RX0, "weightOf", "(II)I"⟩
abbrev cX0_putWeight : ByteArray := prog_2_method_17_code
def yX0_putWeight : MethodName := ⟨RX0, "putWeight", "(III)V"⟩
abbrev cX0_swap : ByteArray := prog_2_method_18_code
def yX0_swap : MethodName := ⟨RX0, "swap", "(II)V"⟩
abbrev cX0_swapAgainst : ByteArray := prog_2_method_19_code
def yX0_swapAgainst : MethodName := ⟨RX0, "swapAgainst", "(III)V"⟩
abbrev cX0_isTriangle : ByteArray := prog_2_method_20_code
def yX0_isTriangle : MethodName := ⟨RX0, "isTriangle", "(III)Z"⟩
abbrev cX0_countTriangles : ByteArray := prog_2_method_21_code
def yX0_countTriangles : MethodName := ⟨RX0, "countTriangles", "()I"⟩
abbrev cX0_costOfBefore : ByteArray := prog_2_method_22_code
def yX0_costOfBefore : MethodName := ⟨RX0, "costOfBefore", "(II)I"⟩
def RX1 : String := "TournamentDesk$Construction"
def TX1 : u_T := fun k => match k with
  | _ => ("TournamentDesk$Construction", "rests", "[I", true)
def tyX1 : Nat → FieldType := fun k => match k with
  | _ => .array .int
abbrev wsX10 : List Cond := u_ws RX1 TX1 1
theorem nmX1 : ∀ a, a < 1 → ∀ b, b < 1 → a ≠ b → (TX1 a).2.1 ≠ (TX1 b).2.1 := by decide +kernel
theorem tyX1_ok : ∀ k, k < 1 → parseFieldDescriptor (TX1 k).2.2.1 = some (tyX1 k) := by decide +kernel
abbrev cX1_init : ByteArray := prog_3_method_1_code
def yX1_init : MethodName := ⟨RX1, "<init>", "()V"⟩
abbrev cX1_build : ByteArray := prog_3_method_2_code
def yX1_build : MethodName := ⟨RX1, "build", "(LTournamentDesk$Sequence;LTournamentDesk$Board;)V"⟩
abbrev cX1_restOf : ByteArray := prog_3_method_3_code
def yX1_restOf : MethodName := ⟨RX1, "restOf", "(I)I"⟩
abbrev cX1_greatestOf : ByteArray := prog_3_method_4_code
def yX1_greatestOf : MethodName := ⟨RX1, "greatestOf", "(I)I"⟩
abbrev cX1_smallestOf : ByteArray := prog_3_method_5_code
def yX1_smallestOf : MethodName := ⟨RX1, "smallestOf", "(II)I"⟩
abbrev cX1_smallestIn : ByteArray := prog_3_method_6_code
def yX1_smallestIn : MethodName := ⟨RX1, "smallestIn", "(I)I"⟩
abbrev cX1_settle : ByteArray := prog_3_method_7_code
def yX1_settle : MethodName := ⟨RX1, "settle", "(LTournamentDesk$Board;III)V"⟩
def RX2 : String := "TournamentDesk$Cycle"
def TX2 : u_T := fun k => match k with
  | 0 => ("TournamentDesk$Cycle", "found", "[I", true)
  | _ => ("TournamentDesk$Cycle", "failed", "[I", true)
def tyX2 : Nat → FieldType := fun k => match k with
  | 0 => .array .int
  | _ => .array .int
abbrev wsX20 : List Cond := u_ws RX2 TX2 2
theorem nmX2 : ∀ a, a < 2 → ∀ b, b < 2 → a ≠ b → (TX2 a).2.1 ≠ (TX2 b).2.1 := by decide +kernel
theorem tyX2_ok : ∀ k, k < 2 → parseFieldDescriptor (TX2 k).2.2.1 = some (tyX2 k) := by decide +kernel
abbrev cX2_init : ByteArray := prog_4_method_1_code
def yX2_init : MethodName := ⟨RX2, "<init>", "()V"⟩
abbrev cX2_playerAt : ByteArray := prog_4_method_2_code
def yX2_playerAt : MethodName := ⟨RX2, "playerAt", "(I)I"⟩
abbrev cX2_countLengths : ByteArray := prog_4_method_3_code
def yX2_countLengths : MethodName := ⟨RX2, "countLengths", "(LTournamentDesk$Board;I)I"⟩
abbrev cX2_find : ByteArray := prog_4_method_4_code
def yX2_find : MethodName := ⟨RX2, "find", "(LTournamentDesk$Board;II)Z"⟩
abbrev cX2_extend : ByteArray := prog_4_method_5_code
def yX2_extend : MethodName := ⟨RX2, "extend", "(LTournamentDesk$Board;[I[IIII)Z"⟩
def RX3 : String := "TournamentDesk$History"
def TX3 : u_T := fun k => match k with
  | 0 => ("TournamentDesk$History", "states", "[LTournamentDesk$Board;", true)
  | 1 => ("TournamentDesk$History", "oldest", "I", false)
  | _ => ("TournamentDesk$History", "count", "I", false)
def tyX3 : Nat → FieldType := fun k => match k with
  | 0 => .array (.object "TournamentDesk$Board")
  | 1 => .int
  | _ => .int
abbrev wsX30 : List Cond := u_ws RX3 TX3 3
theorem nmX3 : ∀ a, a < 3 → ∀ b, b < 3 → a ≠ b → (TX3 a).2.1 ≠ (TX3 b).2.1 := by decide +kernel
theorem tyX3_ok : ∀ k, k < 3 → parseFieldDescriptor (TX3 k).2.2.1 = some (tyX3 k) := by decide +kernel
abbrev cX3_init : ByteArray := prog_5_method_1_code
def yX3_init : MethodName := ⟨RX3, "<init>", "()V"⟩
abbrev cX3_size : ByteArray := prog_5_method_2_code
def yX3_size : MethodName := ⟨RX3, "size", "()I"⟩
abbrev cX3_isEmpty : ByteArray := prog_5_method_3_code
def yX3_isEmpty : MethodName := ⟨RX3, "isEmpty", "()Z"⟩
abbrev cX3_stateAt : ByteArray := prog_5_method_4_code
def yX3_stateAt : MethodName := ⟨RX3, "stateAt", "(I)LTournamentDesk$Board;"⟩
abbrev cX3_record : ByteArray := prog_5_method_5_code
def yX3_record : MethodName := ⟨RX3, "record", "(LTournamentDesk$Board;)V"⟩
abbrev cX3_takeLatest : ByteArray := prog_5_method_6_code
def yX3_takeLatest : MethodName := ⟨RX3, "takeLatest", "(LTournamentDesk$Board;)V"⟩
def RX4 : String := "TournamentDesk$Likeness"
def TX4 : u_T := fun k => match k with
  | _ => ("TournamentDesk$Likeness", "images", "[I", true)
def tyX4 : Nat → FieldType := fun k => match k with
  | _ => .array .int
abbrev wsX40 : List Cond := u_ws RX4 TX4 1
theorem nmX4 : ∀ a, a < 1 → ∀ b, b < 1 → a ≠ b → (TX4 a).2.1 ≠ (TX4 b).2.1 := by decide +kernel
theorem tyX4_ok : ∀ k, k < 1 → parseFieldDescriptor (TX4 k).2.2.1 = some (tyX4 k) := by decide +kernel
abbrev cX4_init : ByteArray := prog_6_method_1_code
def yX4_init : MethodName := ⟨RX4, "<init>", "()V"⟩
abbrev cX4_countDiffering : ByteArray := prog_6_method_2_code
def yX4_countDiffering : MethodName := ⟨RX4, "countDiffering", "(LTournamentDesk$Board;LTournamentDesk$Board;)I"⟩
abbrev cX4_helpfulTriangle : ByteArray := prog_6_method_3_code
def yX4_helpfulTriangle : MethodName := ⟨RX4, "helpfulTriangle", "(LTournamentDesk$Board;LTournamentDesk$Board;)I"⟩
abbrev cX4_differingAmong : ByteArray := prog_6_method_4_code
def yX4_differingAmong : MethodName := ⟨RX4, "differingAmong", "(LTournamentDesk$Board;LTournamentDesk$Board;III)I"⟩
abbrev cX4_differs : ByteArray := prog_6_method_5_code
def yX4_differs : MethodName := ⟨RX4, "differs", "(LTournamentDesk$Board;LTournamentDesk$Board;II)I"⟩
abbrev cX4_areAlike : ByteArray := prog_6_method_6_code
def yX4_areAlike : MethodName := ⟨RX4, "areAlike", "(LTournamentDesk$Board;LTournamentDesk$Board;)Z"⟩
abbrev cX4_assign : ByteArray := prog_6_method_7_code
def yX4_assign : MethodName := ⟨RX4, "assign", "(LTournamentDesk$Board;LTournamentDesk$Board;[III)Z"⟩
abbrev cX4_corresponds : ByteArray := prog_6_method_8_code
def yX4_corresponds : MethodName := ⟨RX4, "corresponds", "(LTournamentDesk$Board;LTournamentDesk$Board;[III)Z"⟩
def RX5 : String := "TournamentDesk$Orders"
def TX5 : u_T := fun k => match k with
  | 0 => ("TournamentDesk$Orders", "least", "[I", true)
  | 1 => ("TournamentDesk$Orders", "lowCosts", "[I", true)
  | 2 => ("TournamentDesk$Orders", "highCosts", "[I", true)
  | _ => ("TournamentDesk$Orders", "knownStamp", "I", false)
def tyX5 : Nat → FieldType := fun k => match k with
  | 0 => .array .int
  | 1 => .array .int
  | 2 => .array .int
  | _ => .int
abbrev wsX50 : List Cond := u_ws RX5 TX5 4
theorem nmX5 : ∀ a, a < 4 → ∀ b, b < 4 → a ≠ b → (TX5 a).2.1 ≠ (TX5 b).2.1 := by decide +kernel
theorem tyX5_ok : ∀ k, k < 4 → parseFieldDescriptor (TX5 k).2.2.1 = some (tyX5 k) := by decide +kernel
abbrev cX5_init : ByteArray := prog_7_method_1_code
def yX5_init : MethodName := ⟨RX5, "<init>", "()V"⟩
abbrev cX5_learn : ByteArray := prog_7_method_2_code
def yX5_learn : MethodName := ⟨RX5, "learn", "(LTournamentDesk$Board;)V"⟩
abbrev cX5_sumCosts : ByteArray := prog_7_method_3_code
def yX5_sumCosts : MethodName := ⟨RX5, "sumCosts", "(LTournamentDesk$Board;II)V"⟩
abbrev cX5_leastWithin : ByteArray := prog_7_method_4_code
def yX5_leastWithin : MethodName := ⟨RX5, "leastWithin", "(II)I"⟩
abbrev cX5_costWithFirst : ByteArray := prog_7_method_5_code
def yX5_costWithFirst : MethodName := ⟨RX5, "costWithFirst", "(II)I"⟩
abbrev cX5_leastFor : ByteArray := prog_7_method_6_code
def yX5_leastFor : MethodName := ⟨RX5, "leastFor", "(I)I"⟩
abbrev cX5_firstOnesWithin : ByteArray := prog_7_method_7_code
def yX5_firstOnesWithin : MethodName := ⟨RX5, "firstOnesWithin", "(II)I"⟩
abbrev cX5_leastCostOf : ByteArray := prog_7_method_8_code
def yX5_leastCostOf : MethodName := ⟨RX5, "leastCostOf", "(LTournamentDesk$Board;)I"⟩
abbrev cX5_firstOnes : ByteArray := prog_7_method_9_code
def yX5_firstOnes : MethodName := ⟨RX5, "firstOnes", "(LTournamentDesk$Board;)I"⟩
abbrev cX5_playerAt : ByteArray := prog_7_method_10_code
def yX5_playerAt : MethodName := ⟨RX5, "playerAt", "(LTournamentDesk$Board;I)I"⟩
def RX6 : String := "TournamentDesk$Paths"
def TX6 : u_T := fun k => match k with
  | 0 => ("TournamentDesk$Paths", "path", "[I", true)
  | _ => ("TournamentDesk$Paths", "counts", "[I", true)
def tyX6 : Nat → FieldType := fun k => match k with
  | 0 => .array .int
  | _ => .array .int
abbrev wsX60 : List Cond := u_ws RX6 TX6 2
theorem nmX6 : ∀ a, a < 2 → ∀ b, b < 2 → a ≠ b → (TX6 a).2.1 ≠ (TX6 b).2.1 := by decide +kernel
theorem tyX6_ok : ∀ k, k < 2 → parseFieldDescriptor (TX6 k).2.2.1 = some (tyX6 k) := by decide +kernel
abbrev cX6_init : ByteArray := prog_8_method_1_code
def yX6_init : MethodName := ⟨RX6, "<init>", "()V"⟩
abbrev cX6_playerAt : ByteArray := prog_8_method_2_code
def yX6_playerAt : MethodName := ⟨RX6, "playerAt", "(I)I"⟩
abbrev cX6_put : ByteArray := prog_8_method_3_code
def yX6_put : MethodName := ⟨RX6, "put", "(II)V"⟩
abbrev cX6_stepsBetween : ByteArray := prog_8_method_4_code
def yX6_stepsBetween : MethodName := ⟨RX6, "stepsBetween", "(LTournamentDesk$Board;II)I"⟩
abbrev cX6_beatenByAny : ByteArray := prog_8_method_5_code
def yX6_beatenByAny : MethodName := ⟨RX6, "beatenByAny", "(LTournamentDesk$Board;I)I"⟩
abbrev cX6_findShortest : ByteArray := prog_8_method_6_code
def yX6_findShortest : MethodName := ⟨RX6, "findShortest", "(LTournamentDesk$Board;II)V"⟩
abbrev cX6_nextTowards : ByteArray := prog_8_method_7_code
def yX6_nextTowards : MethodName := ⟨RX6, "nextTowards", "(LTournamentDesk$Board;III)I"⟩
abbrev cX6_findSpanning : ByteArray := prog_8_method_8_code
def yX6_findSpanning : MethodName := ⟨RX6, "findSpanning", "(LTournamentDesk$Board;)V"⟩
abbrev cX6_countSpanning : ByteArray := prog_8_method_9_code
def yX6_countSpanning : MethodName := ⟨RX6, "countSpanning", "(LTournamentDesk$Board;)I"⟩
abbrev cX6_countEnding : ByteArray := prog_8_method_10_code
def yX6_countEnding : MethodName := ⟨RX6, "countEnding", "(LTournamentDesk$Board;II)I"⟩
abbrev cX6_sumOfCounts : ByteArray := prog_8_method_11_code
def yX6_sumOfCounts : MethodName := ⟨RX6, "sumOfCounts", "(II)I"⟩
abbrev cX6_putCount : ByteArray := prog_8_method_12_code
def yX6_putCount : MethodName := ⟨RX6, "putCount", "(III)V"⟩
def RX7 : String := "TournamentDesk$ResultText"
def TX7 : u_T := fun k => match k with
  | 0 => ("TournamentDesk$ResultText", "characters", "[C", true)
  | _ => ("TournamentDesk$ResultText", "length", "I", false)
def tyX7 : Nat → FieldType := fun k => match k with
  | 0 => .array .char
  | _ => .int
abbrev wsX70 : List Cond := u_ws RX7 TX7 2
theorem nmX7 : ∀ a, a < 2 → ∀ b, b < 2 → a ≠ b → (TX7 a).2.1 ≠ (TX7 b).2.1 := by decide +kernel
theorem tyX7_ok : ∀ k, k < 2 → parseFieldDescriptor (TX7 k).2.2.1 = some (tyX7 k) := by decide +kernel
abbrev cX7_init : ByteArray := prog_9_method_1_code
def yX7_init : MethodName := ⟨RX7, "<init>", "()V"⟩
abbrev cX7_size : ByteArray := prog_9_method_2_code
def yX7_size : MethodName := ⟨RX7, "size", "()I"⟩
abbrev cX7_empty : ByteArray := prog_9_method_3_code
def yX7_empty : MethodName := ⟨RX7, "empty", "()V"⟩
abbrev cX7_add : ByteArray := prog_9_method_4_code
def yX7_add : MethodName := ⟨RX7, "add", "(C)Z"⟩
abbrev cX7_at : ByteArray := prog_9_method_5_code
def yX7_at : MethodName := ⟨RX7, "at", "(I)C"⟩
abbrev cX7_faultFor : ByteArray := prog_9_method_6_code
def yX7_faultFor : MethodName := ⟨RX7, "faultFor", "(LTournamentDesk$Board;)I"⟩
abbrev cX7_isResult : ByteArray := prog_9_method_7_code
def yX7_isResult : MethodName := ⟨RX7, "isResult", "(LTournamentDesk$Board;I)Z"⟩
abbrev cX7_enterInto : ByteArray := prog_9_method_8_code
def yX7_enterInto : MethodName := ⟨RX7, "enterInto", "(LTournamentDesk$Board;)I"⟩
def RX8 : String := "TournamentDesk$Sequence"
def TX8 : u_T := fun k => match k with
  | 0 => ("TournamentDesk$Sequence", "numbers", "[I", true)
  | _ => ("TournamentDesk$Sequence", "length", "I", false)
def tyX8 : Nat → FieldType := fun k => match k with
  | 0 => .array .int
  | _ => .int
abbrev wsX80 : List Cond := u_ws RX8 TX8 2
theorem nmX8 : ∀ a, a < 2 → ∀ b, b < 2 → a ≠ b → (TX8 a).2.1 ≠ (TX8 b).2.1 := by decide +kernel
theorem tyX8_ok : ∀ k, k < 2 → parseFieldDescriptor (TX8 k).2.2.1 = some (tyX8 k) := by decide +kernel
abbrev cX8_init : ByteArray := prog_10_method_1_code
def yX8_init : MethodName := ⟨RX8, "<init>", "()V"⟩
abbrev cX8_size : ByteArray := prog_10_method_2_code
def yX8_size : MethodName := ⟨RX8, "size", "()I"⟩
abbrev cX8_empty : ByteArray := prog_10_method_3_code
def yX8_empty : MethodName := ⟨RX8, "empty", "()V"⟩
abbrev cX8_add : ByteArray := prog_10_method_4_code
def yX8_add : MethodName := ⟨RX8, "add", "(I)Z"⟩
abbrev cX8_numberAt : ByteArray := prog_10_method_5_code
def yX8_numberAt : MethodName := ⟨RX8, "numberAt", "(I)I"⟩
abbrev cX8_failingCount : ByteArray := prog_10_method_6_code
def yX8_failingCount : MethodName := ⟨RX8, "failingCount", "()I"⟩
abbrev cX8_sumOfSmallest : ByteArray := prog_10_method_7_code
def yX8_sumOfSmallest : MethodName := ⟨RX8, "sumOfSmallest", "(I)I"⟩
abbrev cX8_timesOf : ByteArray := prog_10_method_8_code
def yX8_timesOf : MethodName := ⟨RX8, "timesOf", "(I)I"⟩
def RX9 : String := "TournamentDesk$Structure"
def TX9 : u_T := fun k => match k with
  | _ => ("", "", "", false)
def tyX9 : Nat → FieldType := fun k => match k with
  | _ => .int
abbrev wsX90 : List Cond := u_ws RX9 TX9 0
theorem nmX9 : ∀ a, a < 0 → ∀ b, b < 0 → a ≠ b → (TX9 a).2.1 ≠ (TX9 b).2.1 := by decide +kernel
theorem tyX9_ok : ∀ k, k < 0 → parseFieldDescriptor (TX9 k).2.2.1 = some (tyX9 k) := by decide +kernel
abbrev cX9_leadersOf : ByteArray := prog_11_method_2_code
def yX9_leadersOf : MethodName := ⟨RX9, "leadersOf", "(LTournamentDesk$Board;I)I"⟩
abbrev cX9_topOf : ByteArray := prog_11_method_3_code
def yX9_topOf : MethodName := ⟨RX9, "topOf", "(LTournamentDesk$Board;I)I"⟩
abbrev cX9_countParts : ByteArray := prog_11_method_4_code
def yX9_countParts : MethodName := ⟨RX9, "countParts", "(LTournamentDesk$Board;)I"⟩
abbrev cX9_partNumber : ByteArray := prog_11_method_5_code
def yX9_partNumber : MethodName := ⟨RX9, "partNumber", "(LTournamentDesk$Board;I)I"⟩
abbrev cX9_partWith : ByteArray := prog_11_method_6_code
def yX9_partWith : MethodName := ⟨RX9, "partWith", "(LTournamentDesk$Board;I)I"⟩
abbrev cX9_kingsOf : ByteArray := prog_11_method_7_code
def yX9_kingsOf : MethodName := ⟨RX9, "kingsOf", "(LTournamentDesk$Board;)I"⟩
abbrev cX9_isKing : ByteArray := prog_11_method_8_code
def yX9_isKing : MethodName := ⟨RX9, "isKing", "(LTournamentDesk$Board;I)Z"⟩
abbrev cX9_chainTopsOf : ByteArray := prog_11_method_9_code
def yX9_chainTopsOf : MethodName := ⟨RX9, "chainTopsOf", "(LTournamentDesk$Board;)I"⟩
abbrev cX9_topsAbove : ByteArray := prog_11_method_10_code
def yX9_topsAbove : MethodName := ⟨RX9, "topsAbove", "(LTournamentDesk$Board;III)I"⟩
def RX10 : String := "TournamentDesk"
def TX10 : u_T := fun k => match k with
  | 0 => ("TournamentDesk", "present", "LTournamentDesk$Board;", true)
  | 1 => ("TournamentDesk", "kept", "LTournamentDesk$Board;", true)
  | 2 => ("TournamentDesk", "history", "LTournamentDesk$History;", true)
  | 3 => ("TournamentDesk", "sequence", "LTournamentDesk$Sequence;", true)
  | 4 => ("TournamentDesk", "text", "LTournamentDesk$ResultText;", true)
  | 5 => ("TournamentDesk", "construction", "LTournamentDesk$Construction;", true)
  | 6 => ("TournamentDesk", "paths", "LTournamentDesk$Paths;", true)
  | 7 => ("TournamentDesk", "cycle", "LTournamentDesk$Cycle;", true)
  | 8 => ("TournamentDesk", "orders", "LTournamentDesk$Orders;", true)
  | _ => ("TournamentDesk", "likeness", "LTournamentDesk$Likeness;", true)
def tyX10 : Nat → FieldType := fun k => match k with
  | 0 => .object "TournamentDesk$Board"
  | 1 => .object "TournamentDesk$Board"
  | 2 => .object "TournamentDesk$History"
  | 3 => .object "TournamentDesk$Sequence"
  | 4 => .object "TournamentDesk$ResultText"
  | 5 => .object "TournamentDesk$Construction"
  | 6 => .object "TournamentDesk$Paths"
  | 7 => .object "TournamentDesk$Cycle"
  | 8 => .object "TournamentDesk$Orders"
  | _ => .object "TournamentDesk$Likeness"
abbrev wsX100 : List Cond := u_ws RX10 TX10 10
theorem nmX10 : ∀ a, a < 10 → ∀ b, b < 10 → a ≠ b → (TX10 a).2.1 ≠ (TX10 b).2.1 := by decide +kernel
theorem tyX10_ok : ∀ k, k < 10 → parseFieldDescriptor (TX10 k).2.2.1 = some (tyX10 k) := by decide +kernel
abbrev cX10_init : ByteArray := prog_1_method_1_code
def yX10_init : MethodName := ⟨RX10, "<init>", "()V"⟩
abbrev cX10_reset : ByteArray := prog_1_method_2_code
def yX10_reset : MethodName := ⟨RX10, "reset", "(I)I"⟩
abbrev cX10_setResult : ByteArray := prog_1_method_3_code
def yX10_setResult : MethodName := ⟨RX10, "setResult", "(II)I"⟩
abbrev cX10_setWeight : ByteArray := prog_1_method_4_code
def yX10_setWeight : MethodName := ⟨RX10, "setWeight", "(III)I"⟩
abbrev cX10_reverseTriangle : ByteArray := prog_1_method_5_code
def yX10_reverseTriangle : MethodName := ⟨RX10, "reverseTriangle", "(III)I"⟩
abbrev cX10_reversePath : ByteArray := prog_1_method_6_code
def yX10_reversePath : MethodName := ⟨RX10, "reversePath", "(II)I"⟩
abbrev cX10_reversePlayer : ByteArray := prog_1_method_7_code
def yX10_reversePlayer : MethodName := ⟨RX10, "reversePlayer", "(I)I"⟩
abbrev cX10_exchange : ByteArray := prog_1_method_8_code
def yX10_exchange : MethodName := ⟨RX10, "exchange", "(II)I"⟩
abbrev cX10_construct : ByteArray := prog_1_method_9_code
def yX10_construct : MethodName := ⟨RX10, "construct", "()I"⟩
abbrev cX10_enter : ByteArray := prog_1_method_10_code
def yX10_enter : MethodName := ⟨RX10, "enter", "()I"⟩
abbrev cX10_recall : ByteArray := prog_1_method_11_code
def yX10_recall : MethodName := ⟨RX10, "recall", "()I"⟩
abbrev cX10_undo : ByteArray := prog_1_method_12_code
def yX10_undo : MethodName := ⟨RX10, "undo", "()I"⟩
abbrev cX10_append : ByteArray := prog_1_method_13_code
def yX10_append : MethodName := ⟨RX10, "append", "(I)I"⟩
abbrev cX10_clearSequence : ByteArray := prog_1_method_14_code
def yX10_clearSequence : MethodName := ⟨RX10, "clearSequence", "()I"⟩
abbrev cX10_checkSequence : ByteArray := prog_1_method_15_code
def yX10_checkSequence : MethodName := ⟨RX10, "checkSequence", "()I"⟩
abbrev cX10_type : ByteArray := prog_1_method_16_code
def yX10_type : MethodName := ⟨RX10, "type", "(I)I"⟩
abbrev cX10_clearText : ByteArray := prog_1_method_17_code
def yX10_clearText : MethodName := ⟨RX10, "clearText", "()I"⟩
abbrev cX10_fault : ByteArray := prog_1_method_18_code
def yX10_fault : MethodName := ⟨RX10, "fault", "()I"⟩
abbrev cX10_players : ByteArray := prog_1_method_19_code
def yX10_players : MethodName := ⟨RX10, "players", "()I"⟩
abbrev cX10_beats : ByteArray := prog_1_method_20_code
def yX10_beats : MethodName := ⟨RX10, "beats", "(II)I"⟩
abbrev cX10_weight : ByteArray := prog_1_method_21_code
def yX10_weight : MethodName := ⟨RX10, "weight", "(II)I"⟩
abbrev cX10_score : ByteArray := prog_1_method_22_code
def yX10_score : MethodName := ⟨RX10, "score", "(I)I"⟩
abbrev cX10_scoreAt : ByteArray := prog_1_method_23_code
def yX10_scoreAt : MethodName := ⟨RX10, "scoreAt", "(I)I"⟩
abbrev cX10_triangles : ByteArray := prog_1_method_24_code
def yX10_triangles : MethodName := ⟨RX10, "triangles", "()I"⟩
abbrev cX10_distance : ByteArray := prog_1_method_25_code
def yX10_distance : MethodName := ⟨RX10, "distance", "(II)I"⟩
abbrev cX10_components : ByteArray := prog_1_method_26_code
def yX10_components : MethodName := ⟨RX10, "components", "()I"⟩
abbrev cX10_componentOf : ByteArray := prog_1_method_27_code
def yX10_componentOf : MethodName := ⟨RX10, "componentOf", "(I)I"⟩
abbrev cX10_spanningPaths : ByteArray := prog_1_method_28_code
def yX10_spanningPaths : MethodName := ⟨RX10, "spanningPaths", "()I"⟩
abbrev cX10_pathAt : ByteArray := prog_1_method_29_code
def yX10_pathAt : MethodName := ⟨RX10, "pathAt", "(I)I"⟩
abbrev cX10_cycleAt : ByteArray := prog_1_method_30_code
def yX10_cycleAt : MethodName := ⟨RX10, "cycleAt", "(III)I"⟩
abbrev cX10_cycleLengths : ByteArray := prog_1_method_31_code
def yX10_cycleLengths : MethodName := ⟨RX10, "cycleLengths", "(I)I"⟩
abbrev cX10_leastCost : ByteArray := prog_1_method_32_code
def yX10_leastCost : MethodName := ⟨RX10, "leastCost", "()I"⟩
abbrev cX10_orderAt : ByteArray := prog_1_method_33_code
def yX10_orderAt : MethodName := ⟨RX10, "orderAt", "(I)I"⟩
abbrev cX10_winners : ByteArray := prog_1_method_34_code
def yX10_winners : MethodName := ⟨RX10, "winners", "(I)I"⟩
abbrev cX10_undisputed : ByteArray := prog_1_method_35_code
def yX10_undisputed : MethodName := ⟨RX10, "undisputed", "()I"⟩
abbrev cX10_winnersBy : ByteArray := prog_1_method_36_code
def yX10_winnersBy : MethodName := ⟨RX10, "winnersBy", "(I)I"⟩
abbrev cX10_store : ByteArray := prog_1_method_37_code
def yX10_store : MethodName := ⟨RX10, "store", "()I"⟩
abbrev cX10_difference : ByteArray := prog_1_method_38_code
def yX10_difference : MethodName := ⟨RX10, "difference", "()I"⟩
abbrev cX10_isLikeStored : ByteArray := prog_1_method_39_code
def yX10_isLikeStored : MethodName := ⟨RX10, "isLikeStored", "()I"⟩
abbrev cX10_towardsStored : ByteArray := prog_1_method_40_code
def yX10_towardsStored : MethodName := ⟨RX10, "towardsStored", "()I"⟩
abbrev cX10_holds : ByteArray := prog_1_method_41_code
def yX10_holds : MethodName := ⟨RX10, "holds", "(II)Z"⟩
abbrev cX10_only : ByteArray := prog_1_method_42_code
def yX10_only : MethodName := ⟨RX10, "only", "(I)I"⟩
abbrev cX10_without : ByteArray := prog_1_method_43_code
def yX10_without : MethodName := ⟨RX10, "without", "(II)I"⟩
abbrev cX10_lowestOf : ByteArray := prog_1_method_44_code
def yX10_lowestOf : MethodName := ⟨RX10, "lowestOf", "(I)I"⟩
def RX11 : String := "TournamentDeskModel"
def TX11 : u_T := fun k => match k with
  | 0 => ("TournamentDeskModel", "now", "[I", true)
  | 1 => ("TournamentDeskModel", "stored", "[I", true)
  | 2 => ("TournamentDeskModel", "before", "[I", true)
  | 3 => ("TournamentDeskModel", "undoMany", "I", false)
  | 4 => ("TournamentDeskModel", "numbers", "I", false)
  | 5 => ("TournamentDeskModel", "sequence", "[I", true)
  | 6 => ("TournamentDeskModel", "length", "I", false)
  | 7 => ("TournamentDeskModel", "text", "[I", true)
  | 8 => ("TournamentDeskModel", "table", "[I", true)
  | 9 => ("TournamentDeskModel", "costs", "[I", true)
  | 10 => ("TournamentDeskModel", "reach", "[I", true)
  | _ => ("TournamentDeskModel", "steps", "[I", true)
def tyX11 : Nat → FieldType := fun k => match k with
  | 0 => .array .int
  | 1 => .array .int
  | 2 => .array .int
  | 3 => .int
  | 4 => .int
  | 5 => .array .int
  | 6 => .int
  | 7 => .array .int
  | 8 => .array .int
  | 9 => .array .int
  | 10 => .array .int
  | _ => .array .int
abbrev wsX110 : List Cond := u_ws RX11 TX11 12
theorem nmX11 : ∀ a, a < 12 → ∀ b, b < 12 → a ≠ b → (TX11 a).2.1 ≠ (TX11 b).2.1 := by decide +kernel
theorem tyX11_ok : ∀ k, k < 12 → parseFieldDescriptor (TX11 k).2.2.1 = some (tyX11 k) := by decide +kernel
abbrev cX11_init : ByteArray := prog_13_method_1_code
def yX11_init : MethodName := ⟨RX11, "<init>", "()V"⟩
abbrev cX11_in : ByteArray := prog_13_method_2_code
def yX11_in : MethodName := ⟨RX11, "in", "(III)Z"⟩
abbrev cX11_has : ByteArray := prog_13_method_3_code
def yX11_has : MethodName := ⟨RX11, "has", "(II)Z"⟩
abbrev cX11_count : ByteArray := prog_13_method_4_code
def yX11_count : MethodName := ⟨RX11, "count", "(I)I"⟩
abbrev cX11_copies : ByteArray := prog_13_method_5_code
def yX11_copies : MethodName := ⟨RX11, "copies", "([I[I)V"⟩
abbrev cX11_n : ByteArray := prog_13_method_6_code
def yX11_n : MethodName := ⟨RX11, "n", "()I"⟩
abbrev cX11_all : ByteArray := prog_13_method_7_code
def yX11_all : MethodName := ⟨RX11, "all", "()I"⟩
abbrev cX11_beaten : ByteArray := prog_13_method_8_code
def yX11_beaten : MethodName := ⟨RX11, "beaten", "(I)I"⟩
abbrev cX11_beats1 : ByteArray := prog_13_method_9_code
def yX11_beats1 : MethodName := ⟨RX11, "beats1", "(II)Z"⟩
abbrev cX11_isPlayer : ByteArray := prog_13_method_10_code
def yX11_isPlayer : MethodName := ⟨RX11, "isPlayer", "(I)Z"⟩
abbrev cX11_isPair : ByteArray := prog_13_method_11_code
def yX11_isPair : MethodName := ⟨RX11, "isPair", "(II)Z"⟩
abbrev cX11_at : ByteArray := prog_13_method_12_code
def yX11_at : MethodName := ⟨RX11, "at", "(II)I"⟩
abbrev cX11_begins : ByteArray := prog_13_method_13_code
def yX11_begins : MethodName := ⟨RX11, "begins", "(I)V"⟩
abbrev cX11_keeps : ByteArray := prog_13_method_14_code
def yX11_keeps : MethodName := ⟨RX11, "keeps", "()V"⟩
abbrev cX11_wins : ByteArray := prog_13_method_15_code
def yX11_wins : MethodName := ⟨RX11, "wins", "(II)V"⟩
abbrev cX11_turns : ByteArray := prog_13_method_16_code
def yX11_turns : MethodName := ⟨RX11, "turns", "(II)V"⟩
abbrev cX11_reset : ByteArray := prog_13_method_17_code
def yX11_reset : MethodName := ⟨RX11, "reset", "(I)I"⟩
abbrev cX11_setResult : ByteArray := prog_13_method_18_code
def yX11_setResult : MethodName := ⟨RX11, "setResult", "(II)I"⟩
abbrev cX11_setWeight : ByteArray := prog_13_method_19_code
def yX11_setWeight : MethodName := ⟨RX11, "setWeight", "(III)I"⟩
abbrev cX11_isCycle : ByteArray := prog_13_method_20_code
def yX11_isCycle : MethodName := ⟨RX11, "isCycle", "(III)Z"⟩
abbrev cX11_reverseTriangle : ByteArray := prog_13_method_21_code
def yX11_reverseTriangle : MethodName := ⟨RX11, "reverseTriangle", "(III)I"⟩
abbrev cX11_stepsTo : ByteArray := prog_13_method_22_code
def yX11_stepsTo : MethodName := ⟨RX11, "stepsTo", "(I)V"⟩
abbrev cX11_reversePath : ByteArray := prog_13_method_23_code
def yX11_reversePath : MethodName := ⟨RX11, "reversePath", "(II)I"⟩
abbrev cX11_reversePlayer : ByteArray := prog_13_method_24_code
def yX11_reversePlayer : MethodName := ⟨RX11, "reversePlayer", "(I)I"⟩
abbrev cX11_swapped : ByteArray := prog_13_method_25_code
def yX11_swapped : MethodName := ⟨RX11, "swapped", "(III)I"⟩
abbrev cX11_exchange : ByteArray := prog_13_method_26_code
def yX11_exchange : MethodName := ⟨RX11, "exchange", "(II)I"⟩
abbrev cX11_fails : ByteArray := prog_13_method_27_code
def yX11_fails : MethodName := ⟨RX11, "fails", "()I"⟩
abbrev cX11_construct : ByteArray := prog_13_method_28_code
def yX11_construct : MethodName := ⟨RX11, "construct", "()I"⟩
abbrev cX11_faultOf : ByteArray := prog_13_method_29_code
def yX11_faultOf : MethodName := ⟨RX11, "faultOf", "()I"⟩
abbrev cX11_enter : ByteArray := prog_13_method_30_code
def yX11_enter : MethodName := ⟨RX11, "enter", "()I"⟩
abbrev cX11_recall : ByteArray := prog_13_method_31_code
def yX11_recall : MethodName := ⟨RX11, "recall", "()I"⟩
abbrev cX11_undo : ByteArray := prog_13_method_32_code
def yX11_undo : MethodName := ⟨RX11, "undo", "()I"⟩
abbrev cX11_append : ByteArray := prog_13_method_33_code
def yX11_append : MethodName := ⟨RX11, "append", "(I)I"⟩
abbrev cX11_clearSequence : ByteArray := prog_13_method_34_code
def yX11_clearSequence : MethodName := ⟨RX11, "clearSequence", "()I"⟩
abbrev cX11_checkSequence : ByteArray := prog_13_method_35_code
def yX11_checkSequence : MethodName := ⟨RX11, "checkSequence", "()I"⟩
abbrev cX11_type : ByteArray := prog_13_method_36_code
def yX11_type : MethodName := ⟨RX11, "type", "(I)I"⟩
abbrev cX11_clearText : ByteArray := prog_13_method_37_code
def yX11_clearText : MethodName := ⟨RX11, "clearText", "()I"⟩
abbrev cX11_fault : ByteArray := prog_13_method_38_code
def yX11_fault : MethodName := ⟨RX11, "fault", "()I"⟩
abbrev cX11_players : ByteArray := prog_13_method_39_code
def yX11_players : MethodName := ⟨RX11, "players", "()I"⟩
abbrev cX11_beats : ByteArray := prog_13_method_40_code
def yX11_beats : MethodName := ⟨RX11, "beats", "(II)I"⟩
abbrev cX11_weight : ByteArray := prog_13_method_41_code
def yX11_weight : MethodName := ⟨RX11, "weight", "(II)I"⟩
abbrev cX11_score : ByteArray := prog_13_method_42_code
def yX11_score : MethodName := ⟨RX11, "score", "(I)I"⟩
abbrev cX11_scoreAt : ByteArray := prog_13_method_43_code
def yX11_scoreAt : MethodName := ⟨RX11, "scoreAt", "(I)I"⟩
abbrev cX11_triangles : ByteArray := prog_13_method_44_code
def yX11_triangles : MethodName := ⟨RX11, "triangles", "()I"⟩
abbrev cX11_distance : ByteArray := prog_13_method_45_code
def yX11_distance : MethodName := ⟨RX11, "distance", "(II)I"⟩
abbrev cX11_reaches : ByteArray := prog_13_method_46_code
def yX11_reaches : MethodName := ⟨RX11, "reaches", "()V"⟩
abbrev cX11_isLowest : ByteArray := prog_13_method_47_code
def yX11_isLowest : MethodName := ⟨RX11, "isLowest", "(I)Z"⟩
abbrev cX11_components : ByteArray := prog_13_method_48_code
def yX11_components : MethodName := ⟨RX11, "components", "()I"⟩
abbrev cX11_componentAt : ByteArray := prog_13_method_49_code
def yX11_componentAt : MethodName := ⟨RX11, "componentAt", "(I)I"⟩
abbrev cX11_componentOf : ByteArray := prog_13_method_50_code
def yX11_componentOf : MethodName := ⟨RX11, "componentOf", "(I)I"⟩
abbrev cX11_countsPaths : ByteArray := prog_13_method_51_code
def yX11_countsPaths : MethodName := ⟨RX11, "countsPaths", "()V"⟩
abbrev cX11_spanningPaths : ByteArray := prog_13_method_52_code
def yX11_spanningPaths : MethodName := ⟨RX11, "spanningPaths", "()I"⟩
abbrev cX11_pathAt : ByteArray := prog_13_method_53_code
def yX11_pathAt : MethodName := ⟨RX11, "pathAt", "(I)I"⟩
abbrev cX11_closes : ByteArray := prog_13_method_54_code
def yX11_closes : MethodName := ⟨RX11, "closes", "(II)V"⟩
abbrev cX11_isClosed : ByteArray := prog_13_method_55_code
def yX11_isClosed : MethodName := ⟨RX11, "isClosed", "(I)Z"⟩
abbrev cX11_cycleAt : ByteArray := prog_13_method_56_code
def yX11_cycleAt : MethodName := ⟨RX11, "cycleAt", "(III)I"⟩
abbrev cX11_cycleLengths : ByteArray := prog_13_method_57_code
def yX11_cycleLengths : MethodName := ⟨RX11, "cycleLengths", "(I)I"⟩
abbrev cX11_costOf : ByteArray := prog_13_method_58_code
def yX11_costOf : MethodName := ⟨RX11, "costOf", "(II)I"⟩
abbrev cX11_orders : ByteArray := prog_13_method_59_code
def yX11_orders : MethodName := ⟨RX11, "orders", "()V"⟩
abbrev cX11_isBest : ByteArray := prog_13_method_60_code
def yX11_isBest : MethodName := ⟨RX11, "isBest", "(II)Z"⟩
abbrev cX11_leastCost : ByteArray := prog_13_method_61_code
def yX11_leastCost : MethodName := ⟨RX11, "leastCost", "()I"⟩
abbrev cX11_orderAt : ByteArray := prog_13_method_62_code
def yX11_orderAt : MethodName := ⟨RX11, "orderAt", "(I)I"⟩
abbrev cX11_isKing : ByteArray := prog_13_method_63_code
def yX11_isKing : MethodName := ⟨RX11, "isKing", "(I)Z"⟩
abbrev cX11_isTop : ByteArray := prog_13_method_64_code
def yX11_isTop : MethodName := ⟨RX11, "isTop", "(I)Z"⟩
abbrev cX11_isChain : ByteArray := prog_13_method_65_code
def yX11_isChain : MethodName := ⟨RX11, "isChain", "(I)Z"⟩
abbrev cX11_isBeaten : ByteArray := prog_13_method_66_code
def yX11_isBeaten : MethodName := ⟨RX11, "isBeaten", "(I)Z"⟩
abbrev cX11_isFirst : ByteArray := prog_13_method_67_code
def yX11_isFirst : MethodName := ⟨RX11, "isFirst", "(I)Z"⟩
abbrev cX11_winnersBy : ByteArray := prog_13_method_68_code
def yX11_winnersBy : MethodName := ⟨RX11, "winnersBy", "(I)I"⟩
abbrev cX11_winners : ByteArray := prog_13_method_69_code
def yX11_winners : MethodName := ⟨RX11, "winners", "(I)I"⟩
abbrev cX11_undisputed : ByteArray := prog_13_method_70_code
def yX11_undisputed : MethodName := ⟨RX11, "undisputed", "()I"⟩
abbrev cX11_store : ByteArray := prog_13_method_71_code
def yX11_store : MethodName := ⟨RX11, "store", "()I"⟩
abbrev cX11_differs : ByteArray := prog_13_method_72_code
def yX11_differs : MethodName := ⟨RX11, "differs", "(II)Z"⟩
abbrev cX11_difference : ByteArray := prog_13_method_73_code
def yX11_difference : MethodName := ⟨RX11, "difference", "()I"⟩
abbrev cX11_fits : ByteArray := prog_13_method_74_code
def yX11_fits : MethodName := ⟨RX11, "fits", "(I)Z"⟩
abbrev cX11_isLikeStored : ByteArray := prog_13_method_75_code
def yX11_isLikeStored : MethodName := ⟨RX11, "isLikeStored", "()I"⟩
abbrev cX11_towardsStored : ByteArray := prog_13_method_76_code
def yX11_towardsStored : MethodName := ⟨RX11, "towardsStored", "()I"⟩
def RJ6 : String := "java/lang/Integer"
def TJ6 : u_T := fun k => match k with
  | _ => ("", "", "", false)
def tyJ6 : Nat → FieldType := fun k => match k with
  | _ => .int
abbrev wsJ60 : List Cond := u_ws RJ6 TJ6 0
theorem nmJ6 : ∀ a, a < 0 → ∀ b, b < 0 → a ≠ b → (TJ6 a).2.1 ≠ (TJ6 b).2.1 := by decide +kernel
theorem tyJ6_ok : ∀ k, k < 0 → parseFieldDescriptor (TJ6 k).2.2.1 = some (tyJ6 k) := by decide +kernel
abbrev cJ6_bitCount_0f7a4 : ByteArray := prog_14_method_49_code
def yJ6_bitCount_0f7a4 : MethodName := ⟨RJ6, "bitCount", "(I)I"⟩
def RJ9 : String := "java/lang/Math"
def TJ9 : u_T := fun k => match k with
  | _ => ("", "", "", false)
def tyJ9 : Nat → FieldType := fun k => match k with
  | _ => .int
abbrev wsJ90 : List Cond := u_ws RJ9 TJ9 0
theorem nmJ9 : ∀ a, a < 0 → ∀ b, b < 0 → a ≠ b → (TJ9 a).2.1 ≠ (TJ9 b).2.1 := by decide +kernel
theorem tyJ9_ok : ∀ k, k < 0 → parseFieldDescriptor (TJ9 k).2.2.1 = some (tyJ9 k) := by decide +kernel
abbrev cJ9_floorMod_7cf53 : ByteArray := prog_15_method_50_code
def yJ9_floorMod_7cf53 : MethodName := ⟨RJ9, "floorMod", "(II)I"⟩
abbrev cJ9_max_7cf53 : ByteArray := prog_15_method_65_code
def yJ9_max_7cf53 : MethodName := ⟨RJ9, "max", "(II)I"⟩
abbrev cJ9_min_7cf53 : ByteArray := prog_15_method_69_code
def yJ9_min_7cf53 : MethodName := ⟨RJ9, "min", "(II)I"⟩
def RJ10 : String := "java/lang/System"
def TJ10 : u_T := fun k => match k with
  | _ => ("", "", "", false)
def tyJ10 : Nat → FieldType := fun k => match k with
  | _ => .int
abbrev wsJ100 : List Cond := u_ws RJ10 TJ10 0
theorem nmJ10 : ∀ a, a < 0 → ∀ b, b < 0 → a ≠ b → (TJ10 a).2.1 ≠ (TJ10 b).2.1 := by decide +kernel
theorem tyJ10_ok : ∀ k, k < 0 → parseFieldDescriptor (TJ10 k).2.2.1 = some (tyJ10 k) := by decide +kernel
def RL : String := "TournamentDeskLaw"
abbrev cL_law : ByteArray := code
def yL_law : MethodName := ⟨RL, "law", "([I)Z"⟩
abbrev vwCl : List vw_C := [(RX0, TX0, 4), (RX1, TX1, 1), (RX2, TX2, 2), (RX3, TX3, 3), (RX4, TX4, 1), (RX5, TX5, 4), (RX6, TX6, 2), (RX7, TX7, 2), (RX8, TX8, 2), (RX10, TX10, 10), (RX11, TX11, 12)]
end
section
theorem dX0_init_0 : decode cX0_init 0 = .ok (.aload_n 0, 1) := by decide +kernel
theorem dX0_init_1 : decode cX0_init 1 = .ok (.invokespecial 3, 3) := by decide +kernel
theorem dX0_init_4 : decode cX0_init 4 = .ok (.aload_n 0, 1) := by decide +kernel
theorem dX0_init_5 : decode cX0_init 5 = .ok (.bipush 10, 2) := by decide +kernel
theorem dX0_init_7 : decode cX0_init 7 = .ok (.newarray .int, 2) := by decide +kernel
theorem dX0_init_9 : decode cX0_init 9 = .ok (.putfield 9, 3) := by decide +kernel
theorem dX0_init_12 : decode cX0_init 12 = .ok (.aload_n 0, 1) := by decide +kernel
theorem dX0_init_13 : decode cX0_init 13 = .ok (.bipush 100, 2) := by decide +kernel
theorem dX0_init_15 : decode cX0_init 15 = .ok (.newarray .int, 2) := by decide +kernel
theorem dX0_init_17 : decode cX0_init 17 = .ok (.putfield 15, 3) := by decide +kernel
theorem dX0_init_20 : decode cX0_init 20 = .ok (.aload_n 0, 1) := by decide +kernel
theorem dX0_init_21 : decode cX0_init 21 = .ok (.iconst 4, 1) := by decide +kernel
theorem dX0_init_22 : decode cX0_init 22 = .ok (.invokevirtual 18, 3) := by decide +kernel
theorem dX0_init_25 : decode cX0_init 25 = .ok (.return_, 1) := by decide +kernel
theorem dX0_start_0 : decode cX0_start 0 = .ok (.aload_n 0, 1) := by decide +kernel
theorem dX0_start_1 : decode cX0_start 1 = .ok (.dup, 1) := by decide +kernel
theorem dX0_start_2 : decode cX0_start 2 = .ok (.getfield 22, 3) := by decide +kernel
theorem dX0_start_5 : decode cX0_start 5 = .ok (.iconst 1, 1) := by decide +kernel
theorem dX0_start_6 : decode cX0_start 6 = .ok (.iadd, 1) := by decide +kernel
theorem dX0_start_7 : decode cX0_start 7 = .ok (.putfield 22, 3) := by decide +kernel
theorem dX0_start_10 : decode cX0_start 10 = .ok (.aload_n 0, 1) := by decide +kernel
theorem dX0_start_11 : decode cX0_start 11 = .ok (.iconst 2, 1) := by decide +kernel
theorem dX0_start_12 : decode cX0_start 12 = .ok (.iload_n 1, 1) := by decide +kernel
theorem dX0_start_13 : decode cX0_start 13 = .ok (.bipush 10, 2) := by decide +kernel
theorem dX0_start_15 : decode cX0_start 15 = .ok (.invokestatic 26, 3) := by decide +kernel
theorem dX0_start_18 : decode cX0_start 18 = .ok (.invokestatic 32, 3) := by decide +kernel
theorem dX0_start_21 : decode cX0_start 21 = .ok (.putfield 35, 3) := by decide +kernel
theorem dX0_start_24 : decode cX0_start 24 = .ok (.iconst 0, 1) := by decide +kernel
theorem dX0_start_25 : decode cX0_start 25 = .ok (.istore_n 2, 1) := by decide +kernel
theorem dX0_start_26 : decode cX0_start 26 = .ok (.iload_n 2, 1) := by decide +kernel
theorem dX0_start_27 : decode cX0_start 27 = .ok (.aload_n 0, 1) := by decide +kernel
theorem dX0_start_28 : decode cX0_start 28 = .ok (.getfield 9, 3) := by decide +kernel
theorem dX0_start_31 : decode cX0_start 31 = .ok (.arraylength, 1) := by decide +kernel
theorem dX0_start_32 : decode cX0_start 32 = .ok (.if_icmp .ge 37, 3) := by decide +kernel
theorem dX0_start_35 : decode cX0_start 35 = .ok (.aload_n 0, 1) := by decide +kernel
theorem dX0_start_36 : decode cX0_start 36 = .ok (.getfield 9, 3) := by decide +kernel
theorem dX0_start_39 : decode cX0_start 39 = .ok (.iload_n 2, 1) := by decide +kernel
theorem dX0_start_40 : decode cX0_start 40 = .ok (.iload_n 2, 1) := by decide +kernel
theorem dX0_start_41 : decode cX0_start 41 = .ok (.aload_n 0, 1) := by decide +kernel
theorem dX0_start_42 : decode cX0_start 42 = .ok (.getfield 35, 3) := by decide +kernel
theorem dX0_start_45 : decode cX0_start 45 = .ok (.if_icmp .ge 16, 3) := by decide +kernel
theorem dX0_start_48 : decode cX0_start 48 = .ok (.iconst 1, 1) := by decide +kernel
theorem dX0_start_49 : decode cX0_start 49 = .ok (.aload_n 0, 1) := by decide +kernel
theorem dX0_start_50 : decode cX0_start 50 = .ok (.getfield 35, 3) := by decide +kernel
theorem dX0_start_53 : decode cX0_start 53 = .ok (.ishl, 1) := by decide +kernel
theorem dX0_start_54 : decode cX0_start 54 = .ok (.iconst 2, 1) := by decide +kernel
theorem dX0_start_55 : decode cX0_start 55 = .ok (.iload_n 2, 1) := by decide +kernel
theorem dX0_start_56 : decode cX0_start 56 = .ok (.ishl, 1) := by decide +kernel
theorem dX0_start_57 : decode cX0_start 57 = .ok (.isub, 1) := by decide +kernel
theorem dX0_start_58 : decode cX0_start 58 = .ok (.goto 4, 3) := by decide +kernel
theorem dX0_start_61 : decode cX0_start 61 = .ok (.iconst 0, 1) := by decide +kernel
theorem dX0_start_62 : decode cX0_start 62 = .ok (.iastore, 1) := by decide +kernel
theorem dX0_start_63 : decode cX0_start 63 = .ok (.iinc 2 1, 3) := by decide +kernel
theorem dX0_start_66 : decode cX0_start 66 = .ok (.goto (-40), 3) := by decide +kernel
theorem dX0_start_69 : decode cX0_start 69 = .ok (.iconst 0, 1) := by decide +kernel
theorem dX0_start_70 : decode cX0_start 70 = .ok (.istore_n 2, 1) := by decide +kernel
theorem dX0_start_71 : decode cX0_start 71 = .ok (.iload_n 2, 1) := by decide +kernel
theorem dX0_start_72 : decode cX0_start 72 = .ok (.aload_n 0, 1) := by decide +kernel
theorem dX0_start_73 : decode cX0_start 73 = .ok (.getfield 15, 3) := by decide +kernel
theorem dX0_start_76 : decode cX0_start 76 = .ok (.arraylength, 1) := by decide +kernel
theorem dX0_start_77 : decode cX0_start 77 = .ok (.if_icmp .ge 16, 3) := by decide +kernel
theorem dX0_start_80 : decode cX0_start 80 = .ok (.aload_n 0, 1) := by decide +kernel
theorem dX0_start_81 : decode cX0_start 81 = .ok (.getfield 15, 3) := by decide +kernel
theorem dX0_start_84 : decode cX0_start 84 = .ok (.iload_n 2, 1) := by decide +kernel
theorem dX0_start_85 : decode cX0_start 85 = .ok (.iconst 1, 1) := by decide +kernel
theorem dX0_start_86 : decode cX0_start 86 = .ok (.iastore, 1) := by decide +kernel
theorem dX0_start_87 : decode cX0_start 87 = .ok (.iinc 2 1, 3) := by decide +kernel
theorem dX0_start_90 : decode cX0_start 90 = .ok (.goto (-19), 3) := by decide +kernel
theorem dX0_start_93 : decode cX0_start 93 = .ok (.return_, 1) := by decide +kernel
theorem dX0_copyFrom_0 : decode cX0_copyFrom 0 = .ok (.aload_n 0, 1) := by decide +kernel
theorem dX0_copyFrom_1 : decode cX0_copyFrom 1 = .ok (.dup, 1) := by decide +kernel
theorem dX0_copyFrom_2 : decode cX0_copyFrom 2 = .ok (.getfield 22, 3) := by decide +kernel
theorem dX0_copyFrom_5 : decode cX0_copyFrom 5 = .ok (.iconst 1, 1) := by decide +kernel
theorem dX0_copyFrom_6 : decode cX0_copyFrom 6 = .ok (.iadd, 1) := by decide +kernel
theorem dX0_copyFrom_7 : decode cX0_copyFrom 7 = .ok (.putfield 22, 3) := by decide +kernel
theorem dX0_copyFrom_10 : decode cX0_copyFrom 10 = .ok (.aload_n 0, 1) := by decide +kernel
theorem dX0_copyFrom_11 : decode cX0_copyFrom 11 = .ok (.aload_n 1, 1) := by decide +kernel
theorem dX0_copyFrom_12 : decode cX0_copyFrom 12 = .ok (.getfield 35, 3) := by decide +kernel
theorem dX0_copyFrom_15 : decode cX0_copyFrom 15 = .ok (.putfield 35, 3) := by decide +kernel
theorem dX0_copyFrom_18 : decode cX0_copyFrom 18 = .ok (.aload_n 1, 1) := by decide +kernel
theorem dX0_copyFrom_19 : decode cX0_copyFrom 19 = .ok (.getfield 9, 3) := by decide +kernel
theorem dX0_copyFrom_22 : decode cX0_copyFrom 22 = .ok (.iconst 0, 1) := by decide +kernel
theorem dX0_copyFrom_23 : decode cX0_copyFrom 23 = .ok (.aload_n 0, 1) := by decide +kernel
theorem dX0_copyFrom_24 : decode cX0_copyFrom 24 = .ok (.getfield 9, 3) := by decide +kernel
theorem dX0_copyFrom_27 : decode cX0_copyFrom 27 = .ok (.iconst 0, 1) := by decide +kernel
theorem dX0_copyFrom_28 : decode cX0_copyFrom 28 = .ok (.bipush 10, 2) := by decide +kernel
theorem dX0_copyFrom_30 : decode cX0_copyFrom 30 = .ok (.invokestatic 38, 3) := by decide +kernel
theorem dX0_copyFrom_33 : decode cX0_copyFrom 33 = .ok (.aload_n 1, 1) := by decide +kernel
theorem dX0_copyFrom_34 : decode cX0_copyFrom 34 = .ok (.getfield 15, 3) := by decide +kernel
theorem dX0_copyFrom_37 : decode cX0_copyFrom 37 = .ok (.iconst 0, 1) := by decide +kernel
theorem dX0_copyFrom_38 : decode cX0_copyFrom 38 = .ok (.aload_n 0, 1) := by decide +kernel
theorem dX0_copyFrom_39 : decode cX0_copyFrom 39 = .ok (.getfield 15, 3) := by decide +kernel
theorem dX0_copyFrom_42 : decode cX0_copyFrom 42 = .ok (.iconst 0, 1) := by decide +kernel
theorem dX0_copyFrom_43 : decode cX0_copyFrom 43 = .ok (.bipush 100, 2) := by decide +kernel
theorem dX0_copyFrom_45 : decode cX0_copyFrom 45 = .ok (.invokestatic 38, 3) := by decide +kernel
theorem dX0_copyFrom_48 : decode cX0_copyFrom 48 = .ok (.return_, 1) := by decide +kernel
theorem dX0_size_0 : decode cX0_size 0 = .ok (.aload_n 0, 1) := by decide +kernel
theorem dX0_size_1 : decode cX0_size 1 = .ok (.getfield 35, 3) := by decide +kernel
theorem dX0_size_4 : decode cX0_size 4 = .ok (.ireturn, 1) := by decide +kernel
theorem dX0_stamp_0 : decode cX0_stamp 0 = .ok (.aload_n 0, 1) := by decide +kernel
theorem dX0_stamp_1 : decode cX0_stamp 1 = .ok (.getfield 22, 3) := by decide +kernel
theorem dX0_stamp_4 : decode cX0_stamp 4 = .ok (.ireturn, 1) := by decide +kernel
theorem dX0_everyone_0 : decode cX0_everyone 0 = .ok (.iconst 1, 1) := by decide +kernel
theorem dX0_everyone_1 : decode cX0_everyone 1 = .ok (.aload_n 0, 1) := by decide +kernel
theorem dX0_everyone_2 : decode cX0_everyone 2 = .ok (.getfield 35, 3) := by decide +kernel
theorem dX0_everyone_5 : decode cX0_everyone 5 = .ok (.ishl, 1) := by decide +kernel
theorem dX0_everyone_6 : decode cX0_everyone 6 = .ok (.iconst 1, 1) := by decide +kernel
theorem dX0_everyone_7 : decode cX0_everyone 7 = .ok (.isub, 1) := by decide +kernel
theorem dX0_everyone_8 : decode cX0_everyone 8 = .ok (.ireturn, 1) := by decide +kernel
theorem dX0_has_0 : decode cX0_has 0 = .ok (.iload_n 1, 1) := by decide +kernel
theorem dX0_has_1 : decode cX0_has 1 = .ok (.ifCond .lt 15, 3) := by decide +kernel
theorem dX0_has_4 : decode cX0_has 4 = .ok (.iload_n 1, 1) := by decide +kernel
theorem dX0_has_5 : decode cX0_has 5 = .ok (.aload_n 0, 1) := by decide +kernel
theorem dX0_has_6 : decode cX0_has 6 = .ok (.getfield 35, 3) := by decide +kernel
theorem dX0_has_9 : decode cX0_has 9 = .ok (.if_icmp .ge 7, 3) := by decide +kernel
theorem dX0_has_12 : decode cX0_has 12 = .ok (.iconst 1, 1) := by decide +kernel
theorem dX0_has_13 : decode cX0_has 13 = .ok (.goto 4, 3) := by decide +kernel
theorem dX0_has_16 : decode cX0_has 16 = .ok (.iconst 0, 1) := by decide +kernel
theorem dX0_has_17 : decode cX0_has 17 = .ok (.ireturn, 1) := by decide +kernel
theorem dX0_hasPair_0 : decode cX0_hasPair 0 = .ok (.aload_n 0, 1) := by decide +kernel
theorem dX0_hasPair_1 : decode cX0_hasPair 1 = .ok (.iload_n 1, 1) := by decide +kernel
theorem dX0_hasPair_2 : decode cX0_hasPair 2 = .ok (.invokevirtual 44, 3) := by decide +kernel
theorem dX0_hasPair_5 : decode cX0_hasPair 5 = .ok (.ifCond .eq 20, 3) := by decide +kernel
theorem dX0_hasPair_8 : decode cX0_hasPair 8 = .ok (.aload_n 0, 1) := by decide +kernel
theorem dX0_hasPair_9 : decode cX0_hasPair 9 = .ok (.iload_n 2, 1) := by decide +kernel
theorem dX0_hasPair_10 : decode cX0_hasPair 10 = .ok (.invokevirtual 44, 3) := by decide +kernel
theorem dX0_hasPair_13 : decode cX0_hasPair 13 = .ok (.ifCond .eq 12, 3) := by decide +kernel
theorem dX0_hasPair_16 : decode cX0_hasPair 16 = .ok (.iload_n 1, 1) := by decide +kernel
theorem dX0_hasPair_17 : decode cX0_hasPair 17 = .ok (.iload_n 2, 1) := by decide +kernel
theorem dX0_hasPair_18 : decode cX0_hasPair 18 = .ok (.if_icmp .eq 7, 3) := by decide +kernel
theorem dX0_hasPair_21 : decode cX0_hasPair 21 = .ok (.iconst 1, 1) := by decide +kernel
theorem dX0_hasPair_22 : decode cX0_hasPair 22 = .ok (.goto 4, 3) := by decide +kernel
theorem dX0_hasPair_25 : decode cX0_hasPair 25 = .ok (.iconst 0, 1) := by decide +kernel
theorem dX0_hasPair_26 : decode cX0_hasPair 26 = .ok (.ireturn, 1) := by decide +kernel
theorem dX0_beatenBy_0 : decode cX0_beatenBy 0 = .ok (.iload_n 1, 1) := by decide +kernel
theorem dX0_beatenBy_1 : decode cX0_beatenBy 1 = .ok (.ifCond .lt 21, 3) := by decide +kernel
theorem dX0_beatenBy_4 : decode cX0_beatenBy 4 = .ok (.iload_n 1, 1) := by decide +kernel
theorem dX0_beatenBy_5 : decode cX0_beatenBy 5 = .ok (.aload_n 0, 1) := by decide +kernel
theorem dX0_beatenBy_6 : decode cX0_beatenBy 6 = .ok (.getfield 9, 3) := by decide +kernel
theorem dX0_beatenBy_9 : decode cX0_beatenBy 9 = .ok (.arraylength, 1) := by decide +kernel
theorem dX0_beatenBy_10 : decode cX0_beatenBy 10 = .ok (.if_icmp .ge 12, 3) := by decide +kernel
theorem dX0_beatenBy_13 : decode cX0_beatenBy 13 = .ok (.aload_n 0, 1) := by decide +kernel
theorem dX0_beatenBy_14 : decode cX0_beatenBy 14 = .ok (.getfield 9, 3) := by decide +kernel
theorem dX0_beatenBy_17 : decode cX0_beatenBy 17 = .ok (.iload_n 1, 1) := by decide +kernel
theorem dX0_beatenBy_18 : decode cX0_beatenBy 18 = .ok (.iaload, 1) := by decide +kernel
theorem dX0_beatenBy_19 : decode cX0_beatenBy 19 = .ok (.goto 4, 3) := by decide +kernel
theorem dX0_beatenBy_22 : decode cX0_beatenBy 22 = .ok (.iconst 0, 1) := by decide +kernel
theorem dX0_beatenBy_23 : decode cX0_beatenBy 23 = .ok (.ireturn, 1) := by decide +kernel
theorem dX0_beatersOf_0 : decode cX0_beatersOf 0 = .ok (.aload_n 0, 1) := by decide +kernel
theorem dX0_beatersOf_1 : decode cX0_beatersOf 1 = .ok (.invokevirtual 48, 3) := by decide +kernel
theorem dX0_beatersOf_4 : decode cX0_beatersOf 4 = .ok (.aload_n 0, 1) := by decide +kernel
theorem dX0_beatersOf_5 : decode cX0_beatersOf 5 = .ok (.iload_n 1, 1) := by decide +kernel
theorem dX0_beatersOf_6 : decode cX0_beatersOf 6 = .ok (.invokevirtual 52, 3) := by decide +kernel
theorem dX0_beatersOf_9 : decode cX0_beatersOf 9 = .ok (.iconst (-1), 1) := by decide +kernel
theorem dX0_beatersOf_10 : decode cX0_beatersOf 10 = .ok (.ixor, 1) := by decide +kernel
theorem dX0_beatersOf_11 : decode cX0_beatersOf 11 = .ok (.iand, 1) := by decide +kernel
theorem dX0_beatersOf_12 : decode cX0_beatersOf 12 = .ok (.iload_n 1, 1) := by decide +kernel
theorem dX0_beatersOf_13 : decode cX0_beatersOf 13 = .ok (.invokestatic 56, 3) := by decide +kernel
theorem dX0_beatersOf_16 : decode cX0_beatersOf 16 = .ok (.iconst (-1), 1) := by decide +kernel
theorem dX0_beatersOf_17 : decode cX0_beatersOf 17 = .ok (.ixor, 1) := by decide +kernel
theorem dX0_beatersOf_18 : decode cX0_beatersOf 18 = .ok (.iand, 1) := by decide +kernel
theorem dX0_beatersOf_19 : decode cX0_beatersOf 19 = .ok (.ireturn, 1) := by decide +kernel
theorem dX0_wins_0 : decode cX0_wins 0 = .ok (.aload_n 0, 1) := by decide +kernel
theorem dX0_wins_1 : decode cX0_wins 1 = .ok (.iload_n 1, 1) := by decide +kernel
theorem dX0_wins_2 : decode cX0_wins 2 = .ok (.invokevirtual 52, 3) := by decide +kernel
theorem dX0_wins_5 : decode cX0_wins 5 = .ok (.iload_n 2, 1) := by decide +kernel
theorem dX0_wins_6 : decode cX0_wins 6 = .ok (.invokestatic 59, 3) := by decide +kernel
theorem dX0_wins_9 : decode cX0_wins 9 = .ok (.ireturn, 1) := by decide +kernel
theorem dX0_winsOf_0 : decode cX0_winsOf 0 = .ok (.aload_n 0, 1) := by decide +kernel
theorem dX0_winsOf_1 : decode cX0_winsOf 1 = .ok (.iload_n 1, 1) := by decide +kernel
theorem dX0_winsOf_2 : decode cX0_winsOf 2 = .ok (.invokevirtual 52, 3) := by decide +kernel
theorem dX0_winsOf_5 : decode cX0_winsOf 5 = .ok (.invokestatic 63, 3) := by decide +kernel
theorem dX0_winsOf_8 : decode cX0_winsOf 8 = .ok (.ireturn, 1) := by decide +kernel
theorem dX0_winsAtPlace_0 : decode cX0_winsAtPlace 0 = .ok (.iconst 0, 1) := by decide +kernel
theorem dX0_winsAtPlace_1 : decode cX0_winsAtPlace 1 = .ok (.istore_n 2, 1) := by decide +kernel
theorem dX0_winsAtPlace_2 : decode cX0_winsAtPlace 2 = .ok (.iconst 0, 1) := by decide +kernel
theorem dX0_winsAtPlace_3 : decode cX0_winsAtPlace 3 = .ok (.istore_n 3, 1) := by decide +kernel
theorem dX0_winsAtPlace_4 : decode cX0_winsAtPlace 4 = .ok (.iload_n 3, 1) := by decide +kernel
theorem dX0_winsAtPlace_5 : decode cX0_winsAtPlace 5 = .ok (.aload_n 0, 1) := by decide +kernel
theorem dX0_winsAtPlace_6 : decode cX0_winsAtPlace 6 = .ok (.getfield 35, 3) := by decide +kernel
theorem dX0_winsAtPlace_9 : decode cX0_winsAtPlace 9 = .ok (.if_icmp .ge 52, 3) := by decide +kernel
theorem dX0_winsAtPlace_12 : decode cX0_winsAtPlace 12 = .ok (.iconst 0, 1) := by decide +kernel
theorem dX0_winsAtPlace_13 : decode cX0_winsAtPlace 13 = .ok (.istore 4, 2) := by decide +kernel
theorem dX0_winsAtPlace_15 : decode cX0_winsAtPlace 15 = .ok (.iload 4, 2) := by decide +kernel
theorem dX0_winsAtPlace_17 : decode cX0_winsAtPlace 17 = .ok (.aload_n 0, 1) := by decide +kernel
theorem dX0_winsAtPlace_18 : decode cX0_winsAtPlace 18 = .ok (.getfield 35, 3) := by decide +kernel
theorem dX0_winsAtPlace_21 : decode cX0_winsAtPlace 21 = .ok (.if_icmp .ge 27, 3) := by decide +kernel
theorem dX0_winsAtPlace_24 : decode cX0_winsAtPlace 24 = .ok (.iload_n 2, 1) := by decide +kernel
theorem dX0_winsAtPlace_25 : decode cX0_winsAtPlace 25 = .ok (.aload_n 0, 1) := by decide +kernel
theorem dX0_winsAtPlace_26 : decode cX0_winsAtPlace 26 = .ok (.iload 4, 2) := by decide +kernel
theorem dX0_winsAtPlace_28 : decode cX0_winsAtPlace 28 = .ok (.invokevirtual 68, 3) := by decide +kernel
theorem dX0_winsAtPlace_31 : decode cX0_winsAtPlace 31 = .ok (.iload_n 3, 1) := by decide +kernel
theorem dX0_winsAtPlace_32 : decode cX0_winsAtPlace 32 = .ok (.if_icmp .ne 7, 3) := by decide +kernel
theorem dX0_winsAtPlace_35 : decode cX0_winsAtPlace 35 = .ok (.iconst 1, 1) := by decide +kernel
theorem dX0_winsAtPlace_36 : decode cX0_winsAtPlace 36 = .ok (.goto 4, 3) := by decide +kernel
theorem dX0_winsAtPlace_39 : decode cX0_winsAtPlace 39 = .ok (.iconst 0, 1) := by decide +kernel
theorem dX0_winsAtPlace_40 : decode cX0_winsAtPlace 40 = .ok (.iadd, 1) := by decide +kernel
theorem dX0_winsAtPlace_41 : decode cX0_winsAtPlace 41 = .ok (.istore_n 2, 1) := by decide +kernel
theorem dX0_winsAtPlace_42 : decode cX0_winsAtPlace 42 = .ok (.iinc 4 1, 3) := by decide +kernel
theorem dX0_winsAtPlace_45 : decode cX0_winsAtPlace 45 = .ok (.goto (-30), 3) := by decide +kernel
theorem dX0_winsAtPlace_48 : decode cX0_winsAtPlace 48 = .ok (.iload_n 2, 1) := by decide +kernel
theorem dX0_winsAtPlace_49 : decode cX0_winsAtPlace 49 = .ok (.iload_n 1, 1) := by decide +kernel
theorem dX0_winsAtPlace_50 : decode cX0_winsAtPlace 50 = .ok (.if_icmp .le 5, 3) := by decide +kernel
theorem dX0_winsAtPlace_53 : decode cX0_winsAtPlace 53 = .ok (.iload_n 3, 1) := by decide +kernel
theorem dX0_winsAtPlace_54 : decode cX0_winsAtPlace 54 = .ok (.ireturn, 1) := by decide +kernel
theorem dX0_winsAtPlace_55 : decode cX0_winsAtPlace 55 = .ok (.iinc 3 1, 3) := by decide +kernel
theorem dX0_winsAtPlace_58 : decode cX0_winsAtPlace 58 = .ok (.goto (-54), 3) := by decide +kernel
theorem dX0_winsAtPlace_61 : decode cX0_winsAtPlace 61 = .ok (.iconst 0, 1) := by decide +kernel
theorem dX0_winsAtPlace_62 : decode cX0_winsAtPlace 62 = .ok (.ireturn, 1) := by decide +kernel
theorem dX0_turn_0 : decode cX0_turn 0 = .ok (.aload_n 0, 1) := by decide +kernel
theorem dX0_turn_1 : decode cX0_turn 1 = .ok (.iload_n 1, 1) := by decide +kernel
theorem dX0_turn_2 : decode cX0_turn 2 = .ok (.iload_n 2, 1) := by decide +kernel
theorem dX0_turn_3 : decode cX0_turn 3 = .ok (.invokevirtual 71, 3) := by decide +kernel
theorem dX0_turn_6 : decode cX0_turn 6 = .ok (.ifCond .eq 21, 3) := by decide +kernel
theorem dX0_turn_9 : decode cX0_turn 9 = .ok (.iload_n 1, 1) := by decide +kernel
theorem dX0_turn_10 : decode cX0_turn 10 = .ok (.aload_n 0, 1) := by decide +kernel
theorem dX0_turn_11 : decode cX0_turn 11 = .ok (.getfield 9, 3) := by decide +kernel
theorem dX0_turn_14 : decode cX0_turn 14 = .ok (.arraylength, 1) := by decide +kernel
theorem dX0_turn_15 : decode cX0_turn 15 = .ok (.if_icmp .ge 12, 3) := by decide +kernel
theorem dX0_turn_18 : decode cX0_turn 18 = .ok (.iload_n 2, 1) := by decide +kernel
theorem dX0_turn_19 : decode cX0_turn 19 = .ok (.aload_n 0, 1) := by decide +kernel
theorem dX0_turn_20 : decode cX0_turn 20 = .ok (.getfield 9, 3) := by decide +kernel
theorem dX0_turn_23 : decode cX0_turn 23 = .ok (.arraylength, 1) := by decide +kernel
theorem dX0_turn_24 : decode cX0_turn 24 = .ok (.if_icmp .lt 4, 3) := by decide +kernel
theorem dX0_turn_27 : decode cX0_turn 27 = .ok (.return_, 1) := by decide +kernel
theorem dX0_turn_28 : decode cX0_turn 28 = .ok (.aload_n 0, 1) := by decide +kernel
theorem dX0_turn_29 : decode cX0_turn 29 = .ok (.dup, 1) := by decide +kernel
theorem dX0_turn_30 : decode cX0_turn 30 = .ok (.getfield 22, 3) := by decide +kernel
theorem dX0_turn_33 : decode cX0_turn 33 = .ok (.iconst 1, 1) := by decide +kernel
theorem dX0_turn_34 : decode cX0_turn 34 = .ok (.iadd, 1) := by decide +kernel
theorem dX0_turn_35 : decode cX0_turn 35 = .ok (.putfield 22, 3) := by decide +kernel
theorem dX0_turn_38 : decode cX0_turn 38 = .ok (.aload_n 0, 1) := by decide +kernel
theorem dX0_turn_39 : decode cX0_turn 39 = .ok (.getfield 9, 3) := by decide +kernel
theorem dX0_turn_42 : decode cX0_turn 42 = .ok (.iload_n 1, 1) := by decide +kernel
theorem dX0_turn_43 : decode cX0_turn 43 = .ok (.dup2, 1) := by decide +kernel
theorem dX0_turn_44 : decode cX0_turn 44 = .ok (.iaload, 1) := by decide +kernel
theorem dX0_turn_45 : decode cX0_turn 45 = .ok (.iload_n 2, 1) := by decide +kernel
theorem dX0_turn_46 : decode cX0_turn 46 = .ok (.invokestatic 56, 3) := by decide +kernel
theorem dX0_turn_49 : decode cX0_turn 49 = .ok (.ixor, 1) := by decide +kernel
theorem dX0_turn_50 : decode cX0_turn 50 = .ok (.iastore, 1) := by decide +kernel
theorem dX0_turn_51 : decode cX0_turn 51 = .ok (.aload_n 0, 1) := by decide +kernel
theorem dX0_turn_52 : decode cX0_turn 52 = .ok (.getfield 9, 3) := by decide +kernel
theorem dX0_turn_55 : decode cX0_turn 55 = .ok (.iload_n 2, 1) := by decide +kernel
theorem dX0_turn_56 : decode cX0_turn 56 = .ok (.dup2, 1) := by decide +kernel
theorem dX0_turn_57 : decode cX0_turn 57 = .ok (.iaload, 1) := by decide +kernel
theorem dX0_turn_58 : decode cX0_turn 58 = .ok (.iload_n 1, 1) := by decide +kernel
theorem dX0_turn_59 : decode cX0_turn 59 = .ok (.invokestatic 56, 3) := by decide +kernel
theorem dX0_turn_62 : decode cX0_turn 62 = .ok (.ixor, 1) := by decide +kernel
theorem dX0_turn_63 : decode cX0_turn 63 = .ok (.iastore, 1) := by decide +kernel
theorem dX0_turn_64 : decode cX0_turn 64 = .ok (.return_, 1) := by decide +kernel
theorem dX0_setWinner_0 : decode cX0_setWinner 0 = .ok (.aload_n 0, 1) := by decide +kernel
theorem dX0_setWinner_1 : decode cX0_setWinner 1 = .ok (.iload_n 1, 1) := by decide +kernel
theorem dX0_setWinner_2 : decode cX0_setWinner 2 = .ok (.iload_n 2, 1) := by decide +kernel
theorem dX0_setWinner_3 : decode cX0_setWinner 3 = .ok (.invokevirtual 74, 3) := by decide +kernel
theorem dX0_setWinner_6 : decode cX0_setWinner 6 = .ok (.ifCond .ne 9, 3) := by decide +kernel
theorem dX0_setWinner_9 : decode cX0_setWinner 9 = .ok (.aload_n 0, 1) := by decide +kernel
theorem dX0_setWinner_10 : decode cX0_setWinner 10 = .ok (.iload_n 1, 1) := by decide +kernel
theorem dX0_setWinner_11 : decode cX0_setWinner 11 = .ok (.iload_n 2, 1) := by decide +kernel
theorem dX0_setWinner_12 : decode cX0_setWinner 12 = .ok (.invokevirtual 77, 3) := by decide +kernel
theorem dX0_setWinner_15 : decode cX0_setWinner 15 = .ok (.return_, 1) := by decide +kernel
theorem dX0_weightOf_0 : decode cX0_weightOf 0 = .ok (.iload_n 1, 1) := by decide +kernel
theorem dX0_weightOf_1 : decode cX0_weightOf 1 = .ok (.bipush 10, 2) := by decide +kernel
theorem dX0_weightOf_3 : decode cX0_weightOf 3 = .ok (.imul, 1) := by decide +kernel
theorem dX0_weightOf_4 : decode cX0_weightOf 4 = .ok (.iload_n 2, 1) := by decide +kernel
theorem dX0_weightOf_5 : decode cX0_weightOf 5 = .ok (.iadd, 1) := by decide +kernel
theorem dX0_weightOf_6 : decode cX0_weightOf 6 = .ok (.istore_n 3, 1) := by decide +kernel
theorem dX0_weightOf_7 : decode cX0_weightOf 7 = .ok (.aload_n 0, 1) := by decide +kernel
theorem dX0_weightOf_8 : decode cX0_weightOf 8 = .ok (.iload_n 1, 1) := by decide +kernel
theorem dX0_weightOf_9 : decode cX0_weightOf 9 = .ok (.invokevirtual 44, 3) := by decide +kernel
theorem dX0_weightOf_12 : decode cX0_weightOf 12 = .ok (.ifCond .eq 33, 3) := by decide +kernel
theorem dX0_weightOf_15 : decode cX0_weightOf 15 = .ok (.aload_n 0, 1) := by decide +kernel
theorem dX0_weightOf_16 : decode cX0_weightOf 16 = .ok (.iload_n 2, 1) := by decide +kernel
theorem dX0_weightOf_17 : decode cX0_weightOf 17 = .ok (.invokevirtual 44, 3) := by decide +kernel
theorem dX0_weightOf_20 : decode cX0_weightOf 20 = .ok (.ifCond .eq 25, 3) := by decide +kernel
theorem dX0_weightOf_23 : decode cX0_weightOf 23 = .ok (.iload_n 3, 1) := by decide +kernel
theorem dX0_weightOf_24 : decode cX0_weightOf 24 = .ok (.ifCond .lt 21, 3) := by decide +kernel
theorem dX0_weightOf_27 : decode cX0_weightOf 27 = .ok (.iload_n 3, 1) := by decide +kernel
theorem dX0_weightOf_28 : decode cX0_weightOf 28 = .ok (.aload_n 0, 1) := by decide +kernel
theorem dX0_weightOf_29 : decode cX0_weightOf 29 = .ok (.getfield 15, 3) := by decide +kernel
theorem dX0_weightOf_32 : decode cX0_weightOf 32 = .ok (.arraylength, 1) := by decide +kernel
theorem dX0_weightOf_33 : decode cX0_weightOf 33 = .ok (.if_icmp .ge 12, 3) := by decide +kernel
theorem dX0_weightOf_36 : decode cX0_weightOf 36 = .ok (.aload_n 0, 1) := by decide +kernel
theorem dX0_weightOf_37 : decode cX0_weightOf 37 = .ok (.getfield 15, 3) := by decide +kernel
theorem dX0_weightOf_40 : decode cX0_weightOf 40 = .ok (.iload_n 3, 1) := by decide +kernel
theorem dX0_weightOf_41 : decode cX0_weightOf 41 = .ok (.iaload, 1) := by decide +kernel
theorem dX0_weightOf_42 : decode cX0_weightOf 42 = .ok (.goto 4, 3) := by decide +kernel
theorem dX0_weightOf_45 : decode cX0_weightOf 45 = .ok (.iconst 0, 1) := by decide +kernel
theorem dX0_weightOf_46 : decode cX0_weightOf 46 = .ok (.ireturn, 1) := by decide +kernel
theorem dX0_putWeight_0 : decode cX0_putWeight 0 = .ok (.iload_n 1, 1) := by decide +kernel
theorem dX0_putWeight_1 : decode cX0_putWeight 1 = .ok (.bipush 10, 2) := by decide +kernel
theorem dX0_putWeight_3 : decode cX0_putWeight 3 = .ok (.imul, 1) := by decide +kernel
theorem dX0_putWeight_4 : decode cX0_putWeight 4 = .ok (.iload_n 2, 1) := by decide +kernel
theorem dX0_putWeight_5 : decode cX0_putWeight 5 = .ok (.iadd, 1) := by decide +kernel
theorem dX0_putWeight_6 : decode cX0_putWeight 6 = .ok (.istore 4, 2) := by decide +kernel
theorem dX0_putWeight_8 : decode cX0_putWeight 8 = .ok (.iload_n 2, 1) := by decide +kernel
theorem dX0_putWeight_9 : decode cX0_putWeight 9 = .ok (.bipush 10, 2) := by decide +kernel
theorem dX0_putWeight_11 : decode cX0_putWeight 11 = .ok (.imul, 1) := by decide +kernel
theorem dX0_putWeight_12 : decode cX0_putWeight 12 = .ok (.iload_n 1, 1) := by decide +kernel
theorem dX0_putWeight_13 : decode cX0_putWeight 13 = .ok (.iadd, 1) := by decide +kernel
theorem dX0_putWeight_14 : decode cX0_putWeight 14 = .ok (.istore 5, 2) := by decide +kernel
theorem dX0_putWeight_16 : decode cX0_putWeight 16 = .ok (.aload_n 0, 1) := by decide +kernel
theorem dX0_putWeight_17 : decode cX0_putWeight 17 = .ok (.iload_n 1, 1) := by decide +kernel
theorem dX0_putWeight_18 : decode cX0_putWeight 18 = .ok (.iload_n 2, 1) := by decide +kernel
theorem dX0_putWeight_19 : decode cX0_putWeight 19 = .ok (.invokevirtual 71, 3) := by decide +kernel
theorem dX0_putWeight_22 : decode cX0_putWeight 22 = .ok (.ifCond .eq 28, 3) := by decide +kernel
theorem dX0_putWeight_25 : decode cX0_putWeight 25 = .ok (.iload 4, 2) := by decide +kernel
theorem dX0_putWeight_27 : decode cX0_putWeight 27 = .ok (.iload 5, 2) := by decide +kernel
theorem dX0_putWeight_29 : decode cX0_putWeight 29 = .ok (.invokestatic 26, 3) := by decide +kernel
theorem dX0_putWeight_32 : decode cX0_putWeight 32 = .ok (.ifCond .lt 18, 3) := by decide +kernel
theorem dX0_putWeight_35 : decode cX0_putWeight 35 = .ok (.iload 4, 2) := by decide +kernel
theorem dX0_putWeight_37 : decode cX0_putWeight 37 = .ok (.iload 5, 2) := by decide +kernel
theorem dX0_putWeight_39 : decode cX0_putWeight 39 = .ok (.invokestatic 32, 3) := by decide +kernel
theorem dX0_putWeight_42 : decode cX0_putWeight 42 = .ok (.aload_n 0, 1) := by decide +kernel
theorem dX0_putWeight_43 : decode cX0_putWeight 43 = .ok (.getfield 15, 3) := by decide +kernel
theorem dX0_putWeight_46 : decode cX0_putWeight 46 = .ok (.arraylength, 1) := by decide +kernel
theorem dX0_putWeight_47 : decode cX0_putWeight 47 = .ok (.if_icmp .lt 4, 3) := by decide +kernel
theorem dX0_putWeight_50 : decode cX0_putWeight 50 = .ok (.return_, 1) := by decide +kernel
theorem dX0_putWeight_51 : decode cX0_putWeight 51 = .ok (.aload_n 0, 1) := by decide +kernel
theorem dX0_putWeight_52 : decode cX0_putWeight 52 = .ok (.dup, 1) := by decide +kernel
theorem dX0_putWeight_53 : decode cX0_putWeight 53 = .ok (.getfield 22, 3) := by decide +kernel
theorem dX0_putWeight_56 : decode cX0_putWeight 56 = .ok (.iconst 1, 1) := by decide +kernel
theorem dX0_putWeight_57 : decode cX0_putWeight 57 = .ok (.iadd, 1) := by decide +kernel
theorem dX0_putWeight_58 : decode cX0_putWeight 58 = .ok (.putfield 22, 3) := by decide +kernel
theorem dX0_putWeight_61 : decode cX0_putWeight 61 = .ok (.aload_n 0, 1) := by decide +kernel
theorem dX0_putWeight_62 : decode cX0_putWeight 62 = .ok (.getfield 15, 3) := by decide +kernel
theorem dX0_putWeight_65 : decode cX0_putWeight 65 = .ok (.iload 4, 2) := by decide +kernel
theorem dX0_putWeight_67 : decode cX0_putWeight 67 = .ok (.iload_n 3, 1) := by decide +kernel
theorem dX0_putWeight_68 : decode cX0_putWeight 68 = .ok (.iastore, 1) := by decide +kernel
theorem dX0_putWeight_69 : decode cX0_putWeight 69 = .ok (.aload_n 0, 1) := by decide +kernel
theorem dX0_putWeight_70 : decode cX0_putWeight 70 = .ok (.getfield 15, 3) := by decide +kernel
theorem dX0_putWeight_73 : decode cX0_putWeight 73 = .ok (.iload 5, 2) := by decide +kernel
theorem dX0_putWeight_75 : decode cX0_putWeight 75 = .ok (.iload_n 3, 1) := by decide +kernel
theorem dX0_putWeight_76 : decode cX0_putWeight 76 = .ok (.iastore, 1) := by decide +kernel
theorem dX0_putWeight_77 : decode cX0_putWeight 77 = .ok (.return_, 1) := by decide +kernel
theorem dX0_swap_0 : decode cX0_swap 0 = .ok (.iconst 0, 1) := by decide +kernel
theorem dX0_swap_1 : decode cX0_swap 1 = .ok (.istore_n 3, 1) := by decide +kernel
theorem dX0_swap_2 : decode cX0_swap 2 = .ok (.iload_n 3, 1) := by decide +kernel
theorem dX0_swap_3 : decode cX0_swap 3 = .ok (.aload_n 0, 1) := by decide +kernel
theorem dX0_swap_4 : decode cX0_swap 4 = .ok (.getfield 35, 3) := by decide +kernel
theorem dX0_swap_7 : decode cX0_swap 7 = .ok (.if_icmp .ge 34, 3) := by decide +kernel
theorem dX0_swap_10 : decode cX0_swap 10 = .ok (.aload_n 0, 1) := by decide +kernel
theorem dX0_swap_11 : decode cX0_swap 11 = .ok (.iload_n 1, 1) := by decide +kernel
theorem dX0_swap_12 : decode cX0_swap 12 = .ok (.iload_n 3, 1) := by decide +kernel
theorem dX0_swap_13 : decode cX0_swap 13 = .ok (.invokevirtual 71, 3) := by decide +kernel
theorem dX0_swap_16 : decode cX0_swap 16 = .ok (.ifCond .eq 19, 3) := by decide +kernel
theorem dX0_swap_19 : decode cX0_swap 19 = .ok (.aload_n 0, 1) := by decide +kernel
theorem dX0_swap_20 : decode cX0_swap 20 = .ok (.iload_n 2, 1) := by decide +kernel
theorem dX0_swap_21 : decode cX0_swap 21 = .ok (.iload_n 3, 1) := by decide +kernel
theorem dX0_swap_22 : decode cX0_swap 22 = .ok (.invokevirtual 71, 3) := by decide +kernel
theorem dX0_swap_25 : decode cX0_swap 25 = .ok (.ifCond .eq 10, 3) := by decide +kernel
theorem dX0_swap_28 : decode cX0_swap 28 = .ok (.aload_n 0, 1) := by decide +kernel
theorem dX0_swap_29 : decode cX0_swap 29 = .ok (.iload_n 1, 1) := by decide +kernel
theorem dX0_swap_30 : decode cX0_swap 30 = .ok (.iload_n 2, 1) := by decide +kernel
theorem dX0_swap_31 : decode cX0_swap 31 = .ok (.iload_n 3, 1) := by decide +kernel
theorem dX0_swap_32 : decode cX0_swap 32 = .ok (.invokevirtual 81, 3) := by decide +kernel
theorem dX0_swap_35 : decode cX0_swap 35 = .ok (.iinc 3 1, 3) := by decide +kernel
theorem dX0_swap_38 : decode cX0_swap 38 = .ok (.goto (-36), 3) := by decide +kernel
theorem dX0_swap_41 : decode cX0_swap 41 = .ok (.aload_n 0, 1) := by decide +kernel
theorem dX0_swap_42 : decode cX0_swap 42 = .ok (.iload_n 1, 1) := by decide +kernel
theorem dX0_swap_43 : decode cX0_swap 43 = .ok (.iload_n 2, 1) := by decide +kernel
theorem dX0_swap_44 : decode cX0_swap 44 = .ok (.invokevirtual 77, 3) := by decide +kernel
theorem dX0_swap_47 : decode cX0_swap 47 = .ok (.return_, 1) := by decide +kernel
theorem dX0_swapAgainst_0 : decode cX0_swapAgainst 0 = .ok (.aload_n 0, 1) := by decide +kernel
theorem dX0_swapAgainst_1 : decode cX0_swapAgainst 1 = .ok (.iload_n 1, 1) := by decide +kernel
theorem dX0_swapAgainst_2 : decode cX0_swapAgainst 2 = .ok (.iload_n 3, 1) := by decide +kernel
theorem dX0_swapAgainst_3 : decode cX0_swapAgainst 3 = .ok (.invokevirtual 85, 3) := by decide +kernel
theorem dX0_swapAgainst_6 : decode cX0_swapAgainst 6 = .ok (.istore 4, 2) := by decide +kernel
theorem dX0_swapAgainst_8 : decode cX0_swapAgainst 8 = .ok (.aload_n 0, 1) := by decide +kernel
theorem dX0_swapAgainst_9 : decode cX0_swapAgainst 9 = .ok (.iload_n 1, 1) := by decide +kernel
theorem dX0_swapAgainst_10 : decode cX0_swapAgainst 10 = .ok (.iload_n 3, 1) := by decide +kernel
theorem dX0_swapAgainst_11 : decode cX0_swapAgainst 11 = .ok (.aload_n 0, 1) := by decide +kernel
theorem dX0_swapAgainst_12 : decode cX0_swapAgainst 12 = .ok (.iload_n 2, 1) := by decide +kernel
theorem dX0_swapAgainst_13 : decode cX0_swapAgainst 13 = .ok (.iload_n 3, 1) := by decide +kernel
theorem dX0_swapAgainst_14 : decode cX0_swapAgainst 14 = .ok (.invokevirtual 85, 3) := by decide +kernel
theorem dX0_swapAgainst_17 : decode cX0_swapAgainst 17 = .ok (.invokevirtual 88, 3) := by decide +kernel
theorem dX0_swapAgainst_20 : decode cX0_swapAgainst 20 = .ok (.aload_n 0, 1) := by decide +kernel
theorem dX0_swapAgainst_21 : decode cX0_swapAgainst 21 = .ok (.iload_n 2, 1) := by decide +kernel
theorem dX0_swapAgainst_22 : decode cX0_swapAgainst 22 = .ok (.iload_n 3, 1) := by decide +kernel
theorem dX0_swapAgainst_23 : decode cX0_swapAgainst 23 = .ok (.iload 4, 2) := by decide +kernel
theorem dX0_swapAgainst_25 : decode cX0_swapAgainst 25 = .ok (.invokevirtual 88, 3) := by decide +kernel
theorem dX0_swapAgainst_28 : decode cX0_swapAgainst 28 = .ok (.aload_n 0, 1) := by decide +kernel
theorem dX0_swapAgainst_29 : decode cX0_swapAgainst 29 = .ok (.iload_n 1, 1) := by decide +kernel
theorem dX0_swapAgainst_30 : decode cX0_swapAgainst 30 = .ok (.iload_n 3, 1) := by decide +kernel
theorem dX0_swapAgainst_31 : decode cX0_swapAgainst 31 = .ok (.invokevirtual 74, 3) := by decide +kernel
theorem dX0_swapAgainst_34 : decode cX0_swapAgainst 34 = .ok (.aload_n 0, 1) := by decide +kernel
theorem dX0_swapAgainst_35 : decode cX0_swapAgainst 35 = .ok (.iload_n 2, 1) := by decide +kernel
theorem dX0_swapAgainst_36 : decode cX0_swapAgainst 36 = .ok (.iload_n 3, 1) := by decide +kernel
theorem dX0_swapAgainst_37 : decode cX0_swapAgainst 37 = .ok (.invokevirtual 74, 3) := by decide +kernel
theorem dX0_swapAgainst_40 : decode cX0_swapAgainst 40 = .ok (.if_icmp .eq 15, 3) := by decide +kernel
theorem dX0_swapAgainst_43 : decode cX0_swapAgainst 43 = .ok (.aload_n 0, 1) := by decide +kernel
theorem dX0_swapAgainst_44 : decode cX0_swapAgainst 44 = .ok (.iload_n 1, 1) := by decide +kernel
theorem dX0_swapAgainst_45 : decode cX0_swapAgainst 45 = .ok (.iload_n 3, 1) := by decide +kernel
theorem dX0_swapAgainst_46 : decode cX0_swapAgainst 46 = .ok (.invokevirtual 77, 3) := by decide +kernel
theorem dX0_swapAgainst_49 : decode cX0_swapAgainst 49 = .ok (.aload_n 0, 1) := by decide +kernel
theorem dX0_swapAgainst_50 : decode cX0_swapAgainst 50 = .ok (.iload_n 2, 1) := by decide +kernel
theorem dX0_swapAgainst_51 : decode cX0_swapAgainst 51 = .ok (.iload_n 3, 1) := by decide +kernel
theorem dX0_swapAgainst_52 : decode cX0_swapAgainst 52 = .ok (.invokevirtual 77, 3) := by decide +kernel
theorem dX0_swapAgainst_55 : decode cX0_swapAgainst 55 = .ok (.return_, 1) := by decide +kernel
theorem dX0_isTriangle_0 : decode cX0_isTriangle 0 = .ok (.aload_n 0, 1) := by decide +kernel
theorem dX0_isTriangle_1 : decode cX0_isTriangle 1 = .ok (.iload_n 1, 1) := by decide +kernel
theorem dX0_isTriangle_2 : decode cX0_isTriangle 2 = .ok (.iload_n 2, 1) := by decide +kernel
theorem dX0_isTriangle_3 : decode cX0_isTriangle 3 = .ok (.invokevirtual 74, 3) := by decide +kernel
theorem dX0_isTriangle_6 : decode cX0_isTriangle 6 = .ok (.aload_n 0, 1) := by decide +kernel
theorem dX0_isTriangle_7 : decode cX0_isTriangle 7 = .ok (.iload_n 2, 1) := by decide +kernel
theorem dX0_isTriangle_8 : decode cX0_isTriangle 8 = .ok (.iload_n 3, 1) := by decide +kernel
theorem dX0_isTriangle_9 : decode cX0_isTriangle 9 = .ok (.invokevirtual 74, 3) := by decide +kernel
theorem dX0_isTriangle_12 : decode cX0_isTriangle 12 = .ok (.if_icmp .ne 22, 3) := by decide +kernel
theorem dX0_isTriangle_15 : decode cX0_isTriangle 15 = .ok (.aload_n 0, 1) := by decide +kernel
theorem dX0_isTriangle_16 : decode cX0_isTriangle 16 = .ok (.iload_n 2, 1) := by decide +kernel
theorem dX0_isTriangle_17 : decode cX0_isTriangle 17 = .ok (.iload_n 3, 1) := by decide +kernel
theorem dX0_isTriangle_18 : decode cX0_isTriangle 18 = .ok (.invokevirtual 74, 3) := by decide +kernel
theorem dX0_isTriangle_21 : decode cX0_isTriangle 21 = .ok (.aload_n 0, 1) := by decide +kernel
theorem dX0_isTriangle_22 : decode cX0_isTriangle 22 = .ok (.iload_n 3, 1) := by decide +kernel
theorem dX0_isTriangle_23 : decode cX0_isTriangle 23 = .ok (.iload_n 1, 1) := by decide +kernel
theorem dX0_isTriangle_24 : decode cX0_isTriangle 24 = .ok (.invokevirtual 74, 3) := by decide +kernel
theorem dX0_isTriangle_27 : decode cX0_isTriangle 27 = .ok (.if_icmp .ne 7, 3) := by decide +kernel
theorem dX0_isTriangle_30 : decode cX0_isTriangle 30 = .ok (.iconst 1, 1) := by decide +kernel
theorem dX0_isTriangle_31 : decode cX0_isTriangle 31 = .ok (.goto 4, 3) := by decide +kernel
theorem dX0_isTriangle_34 : decode cX0_isTriangle 34 = .ok (.iconst 0, 1) := by decide +kernel
theorem dX0_isTriangle_35 : decode cX0_isTriangle 35 = .ok (.ireturn, 1) := by decide +kernel
theorem dX0_countTriangles_0 : decode cX0_countTriangles 0 = .ok (.aload_n 0, 1) := by decide +kernel
theorem dX0_countTriangles_1 : decode cX0_countTriangles 1 = .ok (.getfield 35, 3) := by decide +kernel
theorem dX0_countTriangles_4 : decode cX0_countTriangles 4 = .ok (.aload_n 0, 1) := by decide +kernel
theorem dX0_countTriangles_5 : decode cX0_countTriangles 5 = .ok (.getfield 35, 3) := by decide +kernel
theorem dX0_countTriangles_8 : decode cX0_countTriangles 8 = .ok (.iconst 1, 1) := by decide +kernel
theorem dX0_countTriangles_9 : decode cX0_countTriangles 9 = .ok (.isub, 1) := by decide +kernel
theorem dX0_countTriangles_10 : decode cX0_countTriangles 10 = .ok (.imul, 1) := by decide +kernel
theorem dX0_countTriangles_11 : decode cX0_countTriangles 11 = .ok (.aload_n 0, 1) := by decide +kernel
theorem dX0_countTriangles_12 : decode cX0_countTriangles 12 = .ok (.getfield 35, 3) := by decide +kernel
theorem dX0_countTriangles_15 : decode cX0_countTriangles 15 = .ok (.iconst 2, 1) := by decide +kernel
theorem dX0_countTriangles_16 : decode cX0_countTriangles 16 = .ok (.isub, 1) := by decide +kernel
theorem dX0_countTriangles_17 : decode cX0_countTriangles 17 = .ok (.imul, 1) := by decide +kernel
theorem dX0_countTriangles_18 : decode cX0_countTriangles 18 = .ok (.bipush 6, 2) := by decide +kernel
theorem dX0_countTriangles_20 : decode cX0_countTriangles 20 = .ok (.idiv, 1) := by decide +kernel
theorem dX0_countTriangles_21 : decode cX0_countTriangles 21 = .ok (.istore_n 1, 1) := by decide +kernel
theorem dX0_countTriangles_22 : decode cX0_countTriangles 22 = .ok (.iconst 0, 1) := by decide +kernel
theorem dX0_countTriangles_23 : decode cX0_countTriangles 23 = .ok (.istore_n 2, 1) := by decide +kernel
theorem dX0_countTriangles_24 : decode cX0_countTriangles 24 = .ok (.iload_n 2, 1) := by decide +kernel
theorem dX0_countTriangles_25 : decode cX0_countTriangles 25 = .ok (.aload_n 0, 1) := by decide +kernel
theorem dX0_countTriangles_26 : decode cX0_countTriangles 26 = .ok (.getfield 35, 3) := by decide +kernel
theorem dX0_countTriangles_29 : decode cX0_countTriangles 29 = .ok (.if_icmp .ge 27, 3) := by decide +kernel
theorem dX0_countTriangles_32 : decode cX0_countTriangles 32 = .ok (.iload_n 1, 1) := by decide +kernel
theorem dX0_countTriangles_33 : decode cX0_countTriangles 33 = .ok (.aload_n 0, 1) := by decide +kernel
theorem dX0_countTriangles_34 : decode cX0_countTriangles 34 = .ok (.iload_n 2, 1) := by decide +kernel
theorem dX0_countTriangles_35 : decode cX0_countTriangles 35 = .ok (.invokevirtual 68, 3) := by decide +kernel
theorem dX0_countTriangles_38 : decode cX0_countTriangles 38 = .ok (.aload_n 0, 1) := by decide +kernel
theorem dX0_countTriangles_39 : decode cX0_countTriangles 39 = .ok (.iload_n 2, 1) := by decide +kernel
theorem dX0_countTriangles_40 : decode cX0_countTriangles 40 = .ok (.invokevirtual 68, 3) := by decide +kernel
theorem dX0_countTriangles_43 : decode cX0_countTriangles 43 = .ok (.iconst 1, 1) := by decide +kernel
theorem dX0_countTriangles_44 : decode cX0_countTriangles 44 = .ok (.isub, 1) := by decide +kernel
theorem dX0_countTriangles_45 : decode cX0_countTriangles 45 = .ok (.imul, 1) := by decide +kernel
theorem dX0_countTriangles_46 : decode cX0_countTriangles 46 = .ok (.iconst 2, 1) := by decide +kernel
theorem dX0_countTriangles_47 : decode cX0_countTriangles 47 = .ok (.idiv, 1) := by decide +kernel
theorem dX0_countTriangles_48 : decode cX0_countTriangles 48 = .ok (.isub, 1) := by decide +kernel
theorem dX0_countTriangles_49 : decode cX0_countTriangles 49 = .ok (.istore_n 1, 1) := by decide +kernel
theorem dX0_countTriangles_50 : decode cX0_countTriangles 50 = .ok (.iinc 2 1, 3) := by decide +kernel
theorem dX0_countTriangles_53 : decode cX0_countTriangles 53 = .ok (.goto (-29), 3) := by decide +kernel
theorem dX0_countTriangles_56 : decode cX0_countTriangles 56 = .ok (.iload_n 1, 1) := by decide +kernel
theorem dX0_countTriangles_57 : decode cX0_countTriangles 57 = .ok (.ireturn, 1) := by decide +kernel
theorem dX0_costOfBefore_0 : decode cX0_costOfBefore 0 = .ok (.aload_n 0, 1) := by decide +kernel
theorem dX0_costOfBefore_1 : decode cX0_costOfBefore 1 = .ok (.iload_n 2, 1) := by decide +kernel
theorem dX0_costOfBefore_2 : decode cX0_costOfBefore 2 = .ok (.iload_n 1, 1) := by decide +kernel
theorem dX0_costOfBefore_3 : decode cX0_costOfBefore 3 = .ok (.invokevirtual 74, 3) := by decide +kernel
theorem dX0_costOfBefore_6 : decode cX0_costOfBefore 6 = .ok (.ifCond .eq 12, 3) := by decide +kernel
theorem dX0_costOfBefore_9 : decode cX0_costOfBefore 9 = .ok (.aload_n 0, 1) := by decide +kernel
theorem dX0_costOfBefore_10 : decode cX0_costOfBefore 10 = .ok (.iload_n 1, 1) := by decide +kernel
theorem dX0_costOfBefore_11 : decode cX0_costOfBefore 11 = .ok (.iload_n 2, 1) := by decide +kernel
theorem dX0_costOfBefore_12 : decode cX0_costOfBefore 12 = .ok (.invokevirtual 85, 3) := by decide +kernel
theorem dX0_costOfBefore_15 : decode cX0_costOfBefore 15 = .ok (.goto 4, 3) := by decide +kernel
theorem dX0_costOfBefore_18 : decode cX0_costOfBefore 18 = .ok (.iconst 0, 1) := by decide +kernel
theorem dX0_costOfBefore_19 : decode cX0_costOfBefore 19 = .ok (.ireturn, 1) := by decide +kernel
theorem dX1_init_0 : decode cX1_init 0 = .ok (.aload_n 0, 1) := by decide +kernel
theorem dX1_init_1 : decode cX1_init 1 = .ok (.invokespecial 3, 3) := by decide +kernel
theorem dX1_init_4 : decode cX1_init 4 = .ok (.aload_n 0, 1) := by decide +kernel
theorem dX1_init_5 : decode cX1_init 5 = .ok (.bipush 10, 2) := by decide +kernel
theorem dX1_init_7 : decode cX1_init 7 = .ok (.newarray .int, 2) := by decide +kernel
theorem dX1_init_9 : decode cX1_init 9 = .ok (.putfield 9, 3) := by decide +kernel
theorem dX1_init_12 : decode cX1_init 12 = .ok (.return_, 1) := by decide +kernel
theorem dX1_build_0 : decode cX1_build 0 = .ok (.aload_n 2, 1) := by decide +kernel
theorem dX1_build_1 : decode cX1_build 1 = .ok (.aload_n 1, 1) := by decide +kernel
theorem dX1_build_2 : decode cX1_build 2 = .ok (.invokevirtual 15, 3) := by decide +kernel
theorem dX1_build_5 : decode cX1_build 5 = .ok (.invokevirtual 21, 3) := by decide +kernel
theorem dX1_build_8 : decode cX1_build 8 = .ok (.iconst 0, 1) := by decide +kernel
theorem dX1_build_9 : decode cX1_build 9 = .ok (.istore_n 3, 1) := by decide +kernel
theorem dX1_build_10 : decode cX1_build 10 = .ok (.iload_n 3, 1) := by decide +kernel
theorem dX1_build_11 : decode cX1_build 11 = .ok (.aload_n 0, 1) := by decide +kernel
theorem dX1_build_12 : decode cX1_build 12 = .ok (.getfield 9, 3) := by decide +kernel
theorem dX1_build_15 : decode cX1_build 15 = .ok (.arraylength, 1) := by decide +kernel
theorem dX1_build_16 : decode cX1_build 16 = .ok (.if_icmp .ge 20, 3) := by decide +kernel
theorem dX1_build_19 : decode cX1_build 19 = .ok (.aload_n 0, 1) := by decide +kernel
theorem dX1_build_20 : decode cX1_build 20 = .ok (.getfield 9, 3) := by decide +kernel
theorem dX1_build_23 : decode cX1_build 23 = .ok (.iload_n 3, 1) := by decide +kernel
theorem dX1_build_24 : decode cX1_build 24 = .ok (.aload_n 1, 1) := by decide +kernel
theorem dX1_build_25 : decode cX1_build 25 = .ok (.iload_n 3, 1) := by decide +kernel
theorem dX1_build_26 : decode cX1_build 26 = .ok (.invokevirtual 27, 3) := by decide +kernel
theorem dX1_build_29 : decode cX1_build 29 = .ok (.iastore, 1) := by decide +kernel
theorem dX1_build_30 : decode cX1_build 30 = .ok (.iinc 3 1, 3) := by decide +kernel
theorem dX1_build_33 : decode cX1_build 33 = .ok (.goto (-23), 3) := by decide +kernel
theorem dX1_build_36 : decode cX1_build 36 = .ok (.aload_n 2, 1) := by decide +kernel
theorem dX1_build_37 : decode cX1_build 37 = .ok (.invokevirtual 31, 3) := by decide +kernel
theorem dX1_build_40 : decode cX1_build 40 = .ok (.istore_n 3, 1) := by decide +kernel
theorem dX1_build_41 : decode cX1_build 41 = .ok (.iconst 0, 1) := by decide +kernel
theorem dX1_build_42 : decode cX1_build 42 = .ok (.istore 4, 2) := by decide +kernel
theorem dX1_build_44 : decode cX1_build 44 = .ok (.iload 4, 2) := by decide +kernel
theorem dX1_build_46 : decode cX1_build 46 = .ok (.bipush 10, 2) := by decide +kernel
theorem dX1_build_48 : decode cX1_build 48 = .ok (.if_icmp .ge 46, 3) := by decide +kernel
theorem dX1_build_51 : decode cX1_build 51 = .ok (.iload_n 3, 1) := by decide +kernel
theorem dX1_build_52 : decode cX1_build 52 = .ok (.ifCond .eq 42, 3) := by decide +kernel
theorem dX1_build_55 : decode cX1_build 55 = .ok (.aload_n 0, 1) := by decide +kernel
theorem dX1_build_56 : decode cX1_build 56 = .ok (.iload_n 3, 1) := by decide +kernel
theorem dX1_build_57 : decode cX1_build 57 = .ok (.invokevirtual 34, 3) := by decide +kernel
theorem dX1_build_60 : decode cX1_build 60 = .ok (.istore 5, 2) := by decide +kernel
theorem dX1_build_62 : decode cX1_build 62 = .ok (.iload_n 3, 1) := by decide +kernel
theorem dX1_build_63 : decode cX1_build 63 = .ok (.iload 5, 2) := by decide +kernel
theorem dX1_build_65 : decode cX1_build 65 = .ok (.invokestatic 37, 3) := by decide +kernel
theorem dX1_build_68 : decode cX1_build 68 = .ok (.istore_n 3, 1) := by decide +kernel
theorem dX1_build_69 : decode cX1_build 69 = .ok (.aload_n 0, 1) := by decide +kernel
theorem dX1_build_70 : decode cX1_build 70 = .ok (.aload_n 2, 1) := by decide +kernel
theorem dX1_build_71 : decode cX1_build 71 = .ok (.iload 5, 2) := by decide +kernel
theorem dX1_build_73 : decode cX1_build 73 = .ok (.iload_n 3, 1) := by decide +kernel
theorem dX1_build_74 : decode cX1_build 74 = .ok (.aload_n 0, 1) := by decide +kernel
theorem dX1_build_75 : decode cX1_build 75 = .ok (.iload_n 3, 1) := by decide +kernel
theorem dX1_build_76 : decode cX1_build 76 = .ok (.aload_n 0, 1) := by decide +kernel
theorem dX1_build_77 : decode cX1_build 77 = .ok (.iload 5, 2) := by decide +kernel
theorem dX1_build_79 : decode cX1_build 79 = .ok (.invokevirtual 41, 3) := by decide +kernel
theorem dX1_build_82 : decode cX1_build 82 = .ok (.invokevirtual 44, 3) := by decide +kernel
theorem dX1_build_85 : decode cX1_build 85 = .ok (.invokevirtual 47, 3) := by decide +kernel
theorem dX1_build_88 : decode cX1_build 88 = .ok (.iinc 4 1, 3) := by decide +kernel
theorem dX1_build_91 : decode cX1_build 91 = .ok (.goto (-47), 3) := by decide +kernel
theorem dX1_build_94 : decode cX1_build 94 = .ok (.return_, 1) := by decide +kernel
theorem dX1_restOf_0 : decode cX1_restOf 0 = .ok (.iload_n 1, 1) := by decide +kernel
theorem dX1_restOf_1 : decode cX1_restOf 1 = .ok (.ifCond .lt 21, 3) := by decide +kernel
theorem dX1_restOf_4 : decode cX1_restOf 4 = .ok (.iload_n 1, 1) := by decide +kernel
theorem dX1_restOf_5 : decode cX1_restOf 5 = .ok (.aload_n 0, 1) := by decide +kernel
theorem dX1_restOf_6 : decode cX1_restOf 6 = .ok (.getfield 9, 3) := by decide +kernel
theorem dX1_restOf_9 : decode cX1_restOf 9 = .ok (.arraylength, 1) := by decide +kernel
theorem dX1_restOf_10 : decode cX1_restOf 10 = .ok (.if_icmp .ge 12, 3) := by decide +kernel
theorem dX1_restOf_13 : decode cX1_restOf 13 = .ok (.aload_n 0, 1) := by decide +kernel
theorem dX1_restOf_14 : decode cX1_restOf 14 = .ok (.getfield 9, 3) := by decide +kernel
theorem dX1_restOf_17 : decode cX1_restOf 17 = .ok (.iload_n 1, 1) := by decide +kernel
theorem dX1_restOf_18 : decode cX1_restOf 18 = .ok (.iaload, 1) := by decide +kernel
theorem dX1_restOf_19 : decode cX1_restOf 19 = .ok (.goto 4, 3) := by decide +kernel
theorem dX1_restOf_22 : decode cX1_restOf 22 = .ok (.iconst 0, 1) := by decide +kernel
theorem dX1_restOf_23 : decode cX1_restOf 23 = .ok (.ireturn, 1) := by decide +kernel
theorem dX1_greatestOf_0 : decode cX1_greatestOf 0 = .ok (.iload_n 1, 1) := by decide +kernel
theorem dX1_greatestOf_1 : decode cX1_greatestOf 1 = .ok (.invokestatic 51, 3) := by decide +kernel
theorem dX1_greatestOf_4 : decode cX1_greatestOf 4 = .ok (.istore_n 2, 1) := by decide +kernel
theorem dX1_greatestOf_5 : decode cX1_greatestOf 5 = .ok (.iconst 0, 1) := by decide +kernel
theorem dX1_greatestOf_6 : decode cX1_greatestOf 6 = .ok (.istore_n 3, 1) := by decide +kernel
theorem dX1_greatestOf_7 : decode cX1_greatestOf 7 = .ok (.iload_n 3, 1) := by decide +kernel
theorem dX1_greatestOf_8 : decode cX1_greatestOf 8 = .ok (.aload_n 0, 1) := by decide +kernel
theorem dX1_greatestOf_9 : decode cX1_greatestOf 9 = .ok (.getfield 9, 3) := by decide +kernel
theorem dX1_greatestOf_12 : decode cX1_greatestOf 12 = .ok (.arraylength, 1) := by decide +kernel
theorem dX1_greatestOf_13 : decode cX1_greatestOf 13 = .ok (.if_icmp .ge 32, 3) := by decide +kernel
theorem dX1_greatestOf_16 : decode cX1_greatestOf 16 = .ok (.iload_n 1, 1) := by decide +kernel
theorem dX1_greatestOf_17 : decode cX1_greatestOf 17 = .ok (.iload_n 3, 1) := by decide +kernel
theorem dX1_greatestOf_18 : decode cX1_greatestOf 18 = .ok (.invokestatic 54, 3) := by decide +kernel
theorem dX1_greatestOf_21 : decode cX1_greatestOf 21 = .ok (.ifCond .eq 18, 3) := by decide +kernel
theorem dX1_greatestOf_24 : decode cX1_greatestOf 24 = .ok (.aload_n 0, 1) := by decide +kernel
theorem dX1_greatestOf_25 : decode cX1_greatestOf 25 = .ok (.iload_n 3, 1) := by decide +kernel
theorem dX1_greatestOf_26 : decode cX1_greatestOf 26 = .ok (.invokevirtual 41, 3) := by decide +kernel
theorem dX1_greatestOf_29 : decode cX1_greatestOf 29 = .ok (.aload_n 0, 1) := by decide +kernel
theorem dX1_greatestOf_30 : decode cX1_greatestOf 30 = .ok (.iload_n 2, 1) := by decide +kernel
theorem dX1_greatestOf_31 : decode cX1_greatestOf 31 = .ok (.invokevirtual 41, 3) := by decide +kernel
theorem dX1_greatestOf_34 : decode cX1_greatestOf 34 = .ok (.if_icmp .lt 5, 3) := by decide +kernel
theorem dX1_greatestOf_37 : decode cX1_greatestOf 37 = .ok (.iload_n 3, 1) := by decide +kernel
theorem dX1_greatestOf_38 : decode cX1_greatestOf 38 = .ok (.istore_n 2, 1) := by decide +kernel
theorem dX1_greatestOf_39 : decode cX1_greatestOf 39 = .ok (.iinc 3 1, 3) := by decide +kernel
theorem dX1_greatestOf_42 : decode cX1_greatestOf 42 = .ok (.goto (-35), 3) := by decide +kernel
theorem dX1_greatestOf_45 : decode cX1_greatestOf 45 = .ok (.iload_n 2, 1) := by decide +kernel
theorem dX1_greatestOf_46 : decode cX1_greatestOf 46 = .ok (.ireturn, 1) := by decide +kernel
theorem dX1_smallestOf_0 : decode cX1_smallestOf 0 = .ok (.iconst 0, 1) := by decide +kernel
theorem dX1_smallestOf_1 : decode cX1_smallestOf 1 = .ok (.istore_n 3, 1) := by decide +kernel
theorem dX1_smallestOf_2 : decode cX1_smallestOf 2 = .ok (.iconst 0, 1) := by decide +kernel
theorem dX1_smallestOf_3 : decode cX1_smallestOf 3 = .ok (.istore 4, 2) := by decide +kernel
theorem dX1_smallestOf_5 : decode cX1_smallestOf 5 = .ok (.iload 4, 2) := by decide +kernel
theorem dX1_smallestOf_7 : decode cX1_smallestOf 7 = .ok (.iload_n 2, 1) := by decide +kernel
theorem dX1_smallestOf_8 : decode cX1_smallestOf 8 = .ok (.if_icmp .ge 31, 3) := by decide +kernel
theorem dX1_smallestOf_11 : decode cX1_smallestOf 11 = .ok (.iload 4, 2) := by decide +kernel
theorem dX1_smallestOf_13 : decode cX1_smallestOf 13 = .ok (.bipush 10, 2) := by decide +kernel
theorem dX1_smallestOf_15 : decode cX1_smallestOf 15 = .ok (.if_icmp .ge 24, 3) := by decide +kernel
theorem dX1_smallestOf_18 : decode cX1_smallestOf 18 = .ok (.iload_n 3, 1) := by decide +kernel
theorem dX1_smallestOf_19 : decode cX1_smallestOf 19 = .ok (.aload_n 0, 1) := by decide +kernel
theorem dX1_smallestOf_20 : decode cX1_smallestOf 20 = .ok (.iload_n 1, 1) := by decide +kernel
theorem dX1_smallestOf_21 : decode cX1_smallestOf 21 = .ok (.iload_n 3, 1) := by decide +kernel
theorem dX1_smallestOf_22 : decode cX1_smallestOf 22 = .ok (.iconst (-1), 1) := by decide +kernel
theorem dX1_smallestOf_23 : decode cX1_smallestOf 23 = .ok (.ixor, 1) := by decide +kernel
theorem dX1_smallestOf_24 : decode cX1_smallestOf 24 = .ok (.iand, 1) := by decide +kernel
theorem dX1_smallestOf_25 : decode cX1_smallestOf 25 = .ok (.invokevirtual 58, 3) := by decide +kernel
theorem dX1_smallestOf_28 : decode cX1_smallestOf 28 = .ok (.invokestatic 61, 3) := by decide +kernel
theorem dX1_smallestOf_31 : decode cX1_smallestOf 31 = .ok (.ior, 1) := by decide +kernel
theorem dX1_smallestOf_32 : decode cX1_smallestOf 32 = .ok (.istore_n 3, 1) := by decide +kernel
theorem dX1_smallestOf_33 : decode cX1_smallestOf 33 = .ok (.iinc 4 1, 3) := by decide +kernel
theorem dX1_smallestOf_36 : decode cX1_smallestOf 36 = .ok (.goto (-31), 3) := by decide +kernel
theorem dX1_smallestOf_39 : decode cX1_smallestOf 39 = .ok (.iload_n 3, 1) := by decide +kernel
theorem dX1_smallestOf_40 : decode cX1_smallestOf 40 = .ok (.ireturn, 1) := by decide +kernel
theorem dX1_smallestIn_0 : decode cX1_smallestIn 0 = .ok (.iload_n 1, 1) := by decide +kernel
theorem dX1_smallestIn_1 : decode cX1_smallestIn 1 = .ok (.invokestatic 51, 3) := by decide +kernel
theorem dX1_smallestIn_4 : decode cX1_smallestIn 4 = .ok (.istore_n 2, 1) := by decide +kernel
theorem dX1_smallestIn_5 : decode cX1_smallestIn 5 = .ok (.iconst 0, 1) := by decide +kernel
theorem dX1_smallestIn_6 : decode cX1_smallestIn 6 = .ok (.istore_n 3, 1) := by decide +kernel
theorem dX1_smallestIn_7 : decode cX1_smallestIn 7 = .ok (.iload_n 3, 1) := by decide +kernel
theorem dX1_smallestIn_8 : decode cX1_smallestIn 8 = .ok (.aload_n 0, 1) := by decide +kernel
theorem dX1_smallestIn_9 : decode cX1_smallestIn 9 = .ok (.getfield 9, 3) := by decide +kernel
theorem dX1_smallestIn_12 : decode cX1_smallestIn 12 = .ok (.arraylength, 1) := by decide +kernel
theorem dX1_smallestIn_13 : decode cX1_smallestIn 13 = .ok (.if_icmp .ge 32, 3) := by decide +kernel
theorem dX1_smallestIn_16 : decode cX1_smallestIn 16 = .ok (.iload_n 1, 1) := by decide +kernel
theorem dX1_smallestIn_17 : decode cX1_smallestIn 17 = .ok (.iload_n 3, 1) := by decide +kernel
theorem dX1_smallestIn_18 : decode cX1_smallestIn 18 = .ok (.invokestatic 54, 3) := by decide +kernel
theorem dX1_smallestIn_21 : decode cX1_smallestIn 21 = .ok (.ifCond .eq 18, 3) := by decide +kernel
theorem dX1_smallestIn_24 : decode cX1_smallestIn 24 = .ok (.aload_n 0, 1) := by decide +kernel
theorem dX1_smallestIn_25 : decode cX1_smallestIn 25 = .ok (.iload_n 3, 1) := by decide +kernel
theorem dX1_smallestIn_26 : decode cX1_smallestIn 26 = .ok (.invokevirtual 41, 3) := by decide +kernel
theorem dX1_smallestIn_29 : decode cX1_smallestIn 29 = .ok (.aload_n 0, 1) := by decide +kernel
theorem dX1_smallestIn_30 : decode cX1_smallestIn 30 = .ok (.iload_n 2, 1) := by decide +kernel
theorem dX1_smallestIn_31 : decode cX1_smallestIn 31 = .ok (.invokevirtual 41, 3) := by decide +kernel
theorem dX1_smallestIn_34 : decode cX1_smallestIn 34 = .ok (.if_icmp .ge 5, 3) := by decide +kernel
theorem dX1_smallestIn_37 : decode cX1_smallestIn 37 = .ok (.iload_n 3, 1) := by decide +kernel
theorem dX1_smallestIn_38 : decode cX1_smallestIn 38 = .ok (.istore_n 2, 1) := by decide +kernel
theorem dX1_smallestIn_39 : decode cX1_smallestIn 39 = .ok (.iinc 3 1, 3) := by decide +kernel
theorem dX1_smallestIn_42 : decode cX1_smallestIn 42 = .ok (.goto (-35), 3) := by decide +kernel
theorem dX1_smallestIn_45 : decode cX1_smallestIn 45 = .ok (.iload_n 2, 1) := by decide +kernel
theorem dX1_smallestIn_46 : decode cX1_smallestIn 46 = .ok (.ireturn, 1) := by decide +kernel
theorem dX1_settle_0 : decode cX1_settle 0 = .ok (.iconst 0, 1) := by decide +kernel
theorem dX1_settle_1 : decode cX1_settle 1 = .ok (.istore 5, 2) := by decide +kernel
theorem dX1_settle_3 : decode cX1_settle 3 = .ok (.iload 5, 2) := by decide +kernel
theorem dX1_settle_5 : decode cX1_settle 5 = .ok (.aload_n 0, 1) := by decide +kernel
theorem dX1_settle_6 : decode cX1_settle 6 = .ok (.getfield 9, 3) := by decide +kernel
theorem dX1_settle_9 : decode cX1_settle 9 = .ok (.arraylength, 1) := by decide +kernel
theorem dX1_settle_10 : decode cX1_settle 10 = .ok (.if_icmp .ge 56, 3) := by decide +kernel
theorem dX1_settle_13 : decode cX1_settle 13 = .ok (.iload 4, 2) := by decide +kernel
theorem dX1_settle_15 : decode cX1_settle 15 = .ok (.iload 5, 2) := by decide +kernel
theorem dX1_settle_17 : decode cX1_settle 17 = .ok (.invokestatic 54, 3) := by decide +kernel
theorem dX1_settle_20 : decode cX1_settle 20 = .ok (.ifCond .eq 13, 3) := by decide +kernel
theorem dX1_settle_23 : decode cX1_settle 23 = .ok (.aload_n 1, 1) := by decide +kernel
theorem dX1_settle_24 : decode cX1_settle 24 = .ok (.iload_n 2, 1) := by decide +kernel
theorem dX1_settle_25 : decode cX1_settle 25 = .ok (.iload 5, 2) := by decide +kernel
theorem dX1_settle_27 : decode cX1_settle 27 = .ok (.invokevirtual 64, 3) := by decide +kernel
theorem dX1_settle_30 : decode cX1_settle 30 = .ok (.goto 30, 3) := by decide +kernel
theorem dX1_settle_33 : decode cX1_settle 33 = .ok (.iload_n 3, 1) := by decide +kernel
theorem dX1_settle_34 : decode cX1_settle 34 = .ok (.iload 5, 2) := by decide +kernel
theorem dX1_settle_36 : decode cX1_settle 36 = .ok (.invokestatic 54, 3) := by decide +kernel
theorem dX1_settle_39 : decode cX1_settle 39 = .ok (.ifCond .eq 21, 3) := by decide +kernel
theorem dX1_settle_42 : decode cX1_settle 42 = .ok (.aload_n 1, 1) := by decide +kernel
theorem dX1_settle_43 : decode cX1_settle 43 = .ok (.iload 5, 2) := by decide +kernel
theorem dX1_settle_45 : decode cX1_settle 45 = .ok (.iload_n 2, 1) := by decide +kernel
theorem dX1_settle_46 : decode cX1_settle 46 = .ok (.invokevirtual 64, 3) := by decide +kernel
theorem dX1_settle_49 : decode cX1_settle 49 = .ok (.aload_n 0, 1) := by decide +kernel
theorem dX1_settle_50 : decode cX1_settle 50 = .ok (.getfield 9, 3) := by decide +kernel
theorem dX1_settle_53 : decode cX1_settle 53 = .ok (.iload 5, 2) := by decide +kernel
theorem dX1_settle_55 : decode cX1_settle 55 = .ok (.dup2, 1) := by decide +kernel
theorem dX1_settle_56 : decode cX1_settle 56 = .ok (.iaload, 1) := by decide +kernel
theorem dX1_settle_57 : decode cX1_settle 57 = .ok (.iconst 1, 1) := by decide +kernel
theorem dX1_settle_58 : decode cX1_settle 58 = .ok (.isub, 1) := by decide +kernel
theorem dX1_settle_59 : decode cX1_settle 59 = .ok (.iastore, 1) := by decide +kernel
theorem dX1_settle_60 : decode cX1_settle 60 = .ok (.iinc 5 1, 3) := by decide +kernel
theorem dX1_settle_63 : decode cX1_settle 63 = .ok (.goto (-60), 3) := by decide +kernel
theorem dX1_settle_66 : decode cX1_settle 66 = .ok (.return_, 1) := by decide +kernel
theorem dX2_init_0 : decode cX2_init 0 = .ok (.aload_n 0, 1) := by decide +kernel
theorem dX2_init_1 : decode cX2_init 1 = .ok (.invokespecial 3, 3) := by decide +kernel
theorem dX2_init_4 : decode cX2_init 4 = .ok (.aload_n 0, 1) := by decide +kernel
theorem dX2_init_5 : decode cX2_init 5 = .ok (.bipush 10, 2) := by decide +kernel
theorem dX2_init_7 : decode cX2_init 7 = .ok (.newarray .int, 2) := by decide +kernel
theorem dX2_init_9 : decode cX2_init 9 = .ok (.putfield 9, 3) := by decide +kernel
theorem dX2_init_12 : decode cX2_init 12 = .ok (.aload_n 0, 1) := by decide +kernel
theorem dX2_init_13 : decode cX2_init 13 = .ok (.sipush 1024, 3) := by decide +kernel
theorem dX2_init_16 : decode cX2_init 16 = .ok (.newarray .int, 2) := by decide +kernel
theorem dX2_init_18 : decode cX2_init 18 = .ok (.putfield 15, 3) := by decide +kernel
theorem dX2_init_21 : decode cX2_init 21 = .ok (.return_, 1) := by decide +kernel
theorem dX2_playerAt_0 : decode cX2_playerAt 0 = .ok (.iload_n 1, 1) := by decide +kernel
theorem dX2_playerAt_1 : decode cX2_playerAt 1 = .ok (.ifCond .lt 21, 3) := by decide +kernel
theorem dX2_playerAt_4 : decode cX2_playerAt 4 = .ok (.iload_n 1, 1) := by decide +kernel
theorem dX2_playerAt_5 : decode cX2_playerAt 5 = .ok (.aload_n 0, 1) := by decide +kernel
theorem dX2_playerAt_6 : decode cX2_playerAt 6 = .ok (.getfield 9, 3) := by decide +kernel
theorem dX2_playerAt_9 : decode cX2_playerAt 9 = .ok (.arraylength, 1) := by decide +kernel
theorem dX2_playerAt_10 : decode cX2_playerAt 10 = .ok (.if_icmp .ge 12, 3) := by decide +kernel
theorem dX2_playerAt_13 : decode cX2_playerAt 13 = .ok (.aload_n 0, 1) := by decide +kernel
theorem dX2_playerAt_14 : decode cX2_playerAt 14 = .ok (.getfield 9, 3) := by decide +kernel
theorem dX2_playerAt_17 : decode cX2_playerAt 17 = .ok (.iload_n 1, 1) := by decide +kernel
theorem dX2_playerAt_18 : decode cX2_playerAt 18 = .ok (.iaload, 1) := by decide +kernel
theorem dX2_playerAt_19 : decode cX2_playerAt 19 = .ok (.goto 5, 3) := by decide +kernel
theorem dX2_playerAt_22 : decode cX2_playerAt 22 = .ok (.bipush (-4), 2) := by decide +kernel
theorem dX2_playerAt_24 : decode cX2_playerAt 24 = .ok (.ireturn, 1) := by decide +kernel
theorem dX2_countLengths_0 : decode cX2_countLengths 0 = .ok (.iconst 0, 1) := by decide +kernel
theorem dX2_countLengths_1 : decode cX2_countLengths 1 = .ok (.aload_n 0, 1) := by decide +kernel
theorem dX2_countLengths_2 : decode cX2_countLengths 2 = .ok (.iload_n 1, 1) := by decide +kernel
theorem dX2_countLengths_3 : decode cX2_countLengths 3 = .ok (.invokestatic 18, 3) := by decide +kernel
theorem dX2_countLengths_6 : decode cX2_countLengths 6 = .ok (.invokestatic 24, 3) := by decide +kernel
theorem dX2_countLengths_9 : decode cX2_countLengths 9 = .ok (.iconst 3, 1) := by decide +kernel
theorem dX2_countLengths_10 : decode cX2_countLengths 10 = .ok (.isub, 1) := by decide +kernel
theorem dX2_countLengths_11 : decode cX2_countLengths 11 = .ok (.iconst 1, 1) := by decide +kernel
theorem dX2_countLengths_12 : decode cX2_countLengths 12 = .ok (.iadd, 1) := by decide +kernel
theorem dX2_countLengths_13 : decode cX2_countLengths 13 = .ok (.invokestatic 30, 3) := by decide +kernel
theorem dX2_countLengths_16 : decode cX2_countLengths 16 = .ok (.ireturn, 1) := by decide +kernel
theorem dX2_find_0 : decode cX2_find 0 = .ok (.aload_n 1, 1) := by decide +kernel
theorem dX2_find_1 : decode cX2_find 1 = .ok (.iload_n 2, 1) := by decide +kernel
theorem dX2_find_2 : decode cX2_find 2 = .ok (.invokestatic 18, 3) := by decide +kernel
theorem dX2_find_5 : decode cX2_find 5 = .ok (.istore 4, 2) := by decide +kernel
theorem dX2_find_7 : decode cX2_find 7 = .ok (.iload 4, 2) := by decide +kernel
theorem dX2_find_9 : decode cX2_find 9 = .ok (.invokestatic 24, 3) := by decide +kernel
theorem dX2_find_12 : decode cX2_find 12 = .ok (.iload_n 3, 1) := by decide +kernel
theorem dX2_find_13 : decode cX2_find 13 = .ok (.if_icmp .ge 5, 3) := by decide +kernel
theorem dX2_find_16 : decode cX2_find 16 = .ok (.iconst 0, 1) := by decide +kernel
theorem dX2_find_17 : decode cX2_find 17 = .ok (.ireturn, 1) := by decide +kernel
theorem dX2_find_18 : decode cX2_find 18 = .ok (.iconst 0, 1) := by decide +kernel
theorem dX2_find_19 : decode cX2_find 19 = .ok (.istore 5, 2) := by decide +kernel
theorem dX2_find_21 : decode cX2_find 21 = .ok (.iload 5, 2) := by decide +kernel
theorem dX2_find_23 : decode cX2_find 23 = .ok (.iload 4, 2) := by decide +kernel
theorem dX2_find_25 : decode cX2_find 25 = .ok (.if_icmp .gt 27, 3) := by decide +kernel
theorem dX2_find_28 : decode cX2_find 28 = .ok (.iload 5, 2) := by decide +kernel
theorem dX2_find_30 : decode cX2_find 30 = .ok (.aload_n 0, 1) := by decide +kernel
theorem dX2_find_31 : decode cX2_find 31 = .ok (.getfield 15, 3) := by decide +kernel
theorem dX2_find_34 : decode cX2_find 34 = .ok (.arraylength, 1) := by decide +kernel
theorem dX2_find_35 : decode cX2_find 35 = .ok (.if_icmp .ge 17, 3) := by decide +kernel
theorem dX2_find_38 : decode cX2_find 38 = .ok (.aload_n 0, 1) := by decide +kernel
theorem dX2_find_39 : decode cX2_find 39 = .ok (.getfield 15, 3) := by decide +kernel
theorem dX2_find_42 : decode cX2_find 42 = .ok (.iload 5, 2) := by decide +kernel
theorem dX2_find_44 : decode cX2_find 44 = .ok (.iconst 0, 1) := by decide +kernel
theorem dX2_find_45 : decode cX2_find 45 = .ok (.iastore, 1) := by decide +kernel
theorem dX2_find_46 : decode cX2_find 46 = .ok (.iinc 5 1, 3) := by decide +kernel
theorem dX2_find_49 : decode cX2_find 49 = .ok (.goto (-28), 3) := by decide +kernel
theorem dX2_find_52 : decode cX2_find 52 = .ok (.aload_n 0, 1) := by decide +kernel
theorem dX2_find_53 : decode cX2_find 53 = .ok (.getfield 9, 3) := by decide +kernel
theorem dX2_find_56 : decode cX2_find 56 = .ok (.iconst 0, 1) := by decide +kernel
theorem dX2_find_57 : decode cX2_find 57 = .ok (.iload_n 2, 1) := by decide +kernel
theorem dX2_find_58 : decode cX2_find 58 = .ok (.iastore, 1) := by decide +kernel
theorem dX2_find_59 : decode cX2_find 59 = .ok (.aload_n 1, 1) := by decide +kernel
theorem dX2_find_60 : decode cX2_find 60 = .ok (.aload_n 0, 1) := by decide +kernel
theorem dX2_find_61 : decode cX2_find 61 = .ok (.getfield 9, 3) := by decide +kernel
theorem dX2_find_64 : decode cX2_find 64 = .ok (.aload_n 0, 1) := by decide +kernel
theorem dX2_find_65 : decode cX2_find 65 = .ok (.getfield 15, 3) := by decide +kernel
theorem dX2_find_68 : decode cX2_find 68 = .ok (.iload 4, 2) := by decide +kernel
theorem dX2_find_70 : decode cX2_find 70 = .ok (.iload_n 2, 1) := by decide +kernel
theorem dX2_find_71 : decode cX2_find 71 = .ok (.invokestatic 36, 3) := by decide +kernel
theorem dX2_find_74 : decode cX2_find 74 = .ok (.iconst 1, 1) := by decide +kernel
theorem dX2_find_75 : decode cX2_find 75 = .ok (.iload_n 3, 1) := by decide +kernel
theorem dX2_find_76 : decode cX2_find 76 = .ok (.invokestatic 39, 3) := by decide +kernel
theorem dX2_find_79 : decode cX2_find 79 = .ok (.ireturn, 1) := by decide +kernel
theorem dX2_extend_0 : decode cX2_extend 0 = .ok (.iload 4, 2) := by decide +kernel
theorem dX2_extend_2 : decode cX2_extend 2 = .ok (.iconst 1, 1) := by decide +kernel
theorem dX2_extend_3 : decode cX2_extend 3 = .ok (.if_icmp .lt 27, 3) := by decide +kernel
theorem dX2_extend_6 : decode cX2_extend 6 = .ok (.iload 4, 2) := by decide +kernel
theorem dX2_extend_8 : decode cX2_extend 8 = .ok (.iload 5, 2) := by decide +kernel
theorem dX2_extend_10 : decode cX2_extend 10 = .ok (.if_icmp .gt 20, 3) := by decide +kernel
theorem dX2_extend_13 : decode cX2_extend 13 = .ok (.iload 4, 2) := by decide +kernel
theorem dX2_extend_15 : decode cX2_extend 15 = .ok (.aload_n 1, 1) := by decide +kernel
theorem dX2_extend_16 : decode cX2_extend 16 = .ok (.arraylength, 1) := by decide +kernel
theorem dX2_extend_17 : decode cX2_extend 17 = .ok (.if_icmp .gt 13, 3) := by decide +kernel
theorem dX2_extend_20 : decode cX2_extend 20 = .ok (.iload_n 3, 1) := by decide +kernel
theorem dX2_extend_21 : decode cX2_extend 21 = .ok (.ifCond .lt 9, 3) := by decide +kernel
theorem dX2_extend_24 : decode cX2_extend 24 = .ok (.iload_n 3, 1) := by decide +kernel
theorem dX2_extend_25 : decode cX2_extend 25 = .ok (.aload_n 2, 1) := by decide +kernel
theorem dX2_extend_26 : decode cX2_extend 26 = .ok (.arraylength, 1) := by decide +kernel
theorem dX2_extend_27 : decode cX2_extend 27 = .ok (.if_icmp .lt 5, 3) := by decide +kernel
theorem dX2_extend_30 : decode cX2_extend 30 = .ok (.iconst 0, 1) := by decide +kernel
theorem dX2_extend_31 : decode cX2_extend 31 = .ok (.ireturn, 1) := by decide +kernel
theorem dX2_extend_32 : decode cX2_extend 32 = .ok (.aload_n 1, 1) := by decide +kernel
theorem dX2_extend_33 : decode cX2_extend 33 = .ok (.iload 4, 2) := by decide +kernel
theorem dX2_extend_35 : decode cX2_extend 35 = .ok (.iconst 1, 1) := by decide +kernel
theorem dX2_extend_36 : decode cX2_extend 36 = .ok (.isub, 1) := by decide +kernel
theorem dX2_extend_37 : decode cX2_extend 37 = .ok (.iaload, 1) := by decide +kernel
theorem dX2_extend_38 : decode cX2_extend 38 = .ok (.istore 6, 2) := by decide +kernel
theorem dX2_extend_40 : decode cX2_extend 40 = .ok (.iload 4, 2) := by decide +kernel
theorem dX2_extend_42 : decode cX2_extend 42 = .ok (.iload 5, 2) := by decide +kernel
theorem dX2_extend_44 : decode cX2_extend 44 = .ok (.if_icmp .ne 13, 3) := by decide +kernel
theorem dX2_extend_47 : decode cX2_extend 47 = .ok (.aload_n 0, 1) := by decide +kernel
theorem dX2_extend_48 : decode cX2_extend 48 = .ok (.iload 6, 2) := by decide +kernel
theorem dX2_extend_50 : decode cX2_extend 50 = .ok (.aload_n 1, 1) := by decide +kernel
theorem dX2_extend_51 : decode cX2_extend 51 = .ok (.iconst 0, 1) := by decide +kernel
theorem dX2_extend_52 : decode cX2_extend 52 = .ok (.iaload, 1) := by decide +kernel
theorem dX2_extend_53 : decode cX2_extend 53 = .ok (.invokevirtual 43, 3) := by decide +kernel
theorem dX2_extend_56 : decode cX2_extend 56 = .ok (.ireturn, 1) := by decide +kernel
theorem dX2_extend_57 : decode cX2_extend 57 = .ok (.aload_n 2, 1) := by decide +kernel
theorem dX2_extend_58 : decode cX2_extend 58 = .ok (.iload_n 3, 1) := by decide +kernel
theorem dX2_extend_59 : decode cX2_extend 59 = .ok (.iaload, 1) := by decide +kernel
theorem dX2_extend_60 : decode cX2_extend 60 = .ok (.iload 6, 2) := by decide +kernel
theorem dX2_extend_62 : decode cX2_extend 62 = .ok (.invokestatic 49, 3) := by decide +kernel
theorem dX2_extend_65 : decode cX2_extend 65 = .ok (.ifCond .eq 5, 3) := by decide +kernel
theorem dX2_extend_68 : decode cX2_extend 68 = .ok (.iconst 0, 1) := by decide +kernel
theorem dX2_extend_69 : decode cX2_extend 69 = .ok (.ireturn, 1) := by decide +kernel
theorem dX2_extend_70 : decode cX2_extend 70 = .ok (.iconst 0, 1) := by decide +kernel
theorem dX2_extend_71 : decode cX2_extend 71 = .ok (.istore 7, 2) := by decide +kernel
theorem dX2_extend_73 : decode cX2_extend 73 = .ok (.iload 7, 2) := by decide +kernel
theorem dX2_extend_75 : decode cX2_extend 75 = .ok (.aload_n 0, 1) := by decide +kernel
theorem dX2_extend_76 : decode cX2_extend 76 = .ok (.invokevirtual 52, 3) := by decide +kernel
theorem dX2_extend_79 : decode cX2_extend 79 = .ok (.if_icmp .ge 65, 3) := by decide +kernel
theorem dX2_extend_82 : decode cX2_extend 82 = .ok (.iload 4, 2) := by decide +kernel
theorem dX2_extend_84 : decode cX2_extend 84 = .ok (.aload_n 1, 1) := by decide +kernel
theorem dX2_extend_85 : decode cX2_extend 85 = .ok (.arraylength, 1) := by decide +kernel
theorem dX2_extend_86 : decode cX2_extend 86 = .ok (.if_icmp .ge 58, 3) := by decide +kernel
theorem dX2_extend_89 : decode cX2_extend 89 = .ok (.iload_n 3, 1) := by decide +kernel
theorem dX2_extend_90 : decode cX2_extend 90 = .ok (.iload 7, 2) := by decide +kernel
theorem dX2_extend_92 : decode cX2_extend 92 = .ok (.invokestatic 49, 3) := by decide +kernel
theorem dX2_extend_95 : decode cX2_extend 95 = .ok (.ifCond .eq 43, 3) := by decide +kernel
theorem dX2_extend_98 : decode cX2_extend 98 = .ok (.aload_n 0, 1) := by decide +kernel
theorem dX2_extend_99 : decode cX2_extend 99 = .ok (.iload 6, 2) := by decide +kernel
theorem dX2_extend_101 : decode cX2_extend 101 = .ok (.iload 7, 2) := by decide +kernel
theorem dX2_extend_103 : decode cX2_extend 103 = .ok (.invokevirtual 43, 3) := by decide +kernel
theorem dX2_extend_106 : decode cX2_extend 106 = .ok (.ifCond .eq 32, 3) := by decide +kernel
theorem dX2_extend_109 : decode cX2_extend 109 = .ok (.aload_n 1, 1) := by decide +kernel
theorem dX2_extend_110 : decode cX2_extend 110 = .ok (.iload 4, 2) := by decide +kernel
theorem dX2_extend_112 : decode cX2_extend 112 = .ok (.iload 7, 2) := by decide +kernel
theorem dX2_extend_114 : decode cX2_extend 114 = .ok (.iastore, 1) := by decide +kernel
theorem dX2_extend_115 : decode cX2_extend 115 = .ok (.aload_n 0, 1) := by decide +kernel
theorem dX2_extend_116 : decode cX2_extend 116 = .ok (.aload_n 1, 1) := by decide +kernel
theorem dX2_extend_117 : decode cX2_extend 117 = .ok (.aload_n 2, 1) := by decide +kernel
theorem dX2_extend_118 : decode cX2_extend 118 = .ok (.iload_n 3, 1) := by decide +kernel
theorem dX2_extend_119 : decode cX2_extend 119 = .ok (.iload 7, 2) := by decide +kernel
theorem dX2_extend_121 : decode cX2_extend 121 = .ok (.invokestatic 36, 3) := by decide +kernel
theorem dX2_extend_124 : decode cX2_extend 124 = .ok (.iload 4, 2) := by decide +kernel
theorem dX2_extend_126 : decode cX2_extend 126 = .ok (.iconst 1, 1) := by decide +kernel
theorem dX2_extend_127 : decode cX2_extend 127 = .ok (.iadd, 1) := by decide +kernel
theorem dX2_extend_128 : decode cX2_extend 128 = .ok (.iload 5, 2) := by decide +kernel
theorem dX2_extend_130 : decode cX2_extend 130 = .ok (.invokestatic 39, 3) := by decide +kernel
theorem dX2_extend_133 : decode cX2_extend 133 = .ok (.ifCond .eq 5, 3) := by decide +kernel
theorem dX2_extend_136 : decode cX2_extend 136 = .ok (.iconst 1, 1) := by decide +kernel
theorem dX2_extend_137 : decode cX2_extend 137 = .ok (.ireturn, 1) := by decide +kernel
theorem dX2_extend_138 : decode cX2_extend 138 = .ok (.iinc 7 1, 3) := by decide +kernel
theorem dX2_extend_141 : decode cX2_extend 141 = .ok (.goto (-68), 3) := by decide +kernel
theorem dX2_extend_144 : decode cX2_extend 144 = .ok (.aload_n 2, 1) := by decide +kernel
theorem dX2_extend_145 : decode cX2_extend 145 = .ok (.iload_n 3, 1) := by decide +kernel
theorem dX2_extend_146 : decode cX2_extend 146 = .ok (.dup2, 1) := by decide +kernel
theorem dX2_extend_147 : decode cX2_extend 147 = .ok (.iaload, 1) := by decide +kernel
theorem dX2_extend_148 : decode cX2_extend 148 = .ok (.iload 6, 2) := by decide +kernel
theorem dX2_extend_150 : decode cX2_extend 150 = .ok (.invokestatic 56, 3) := by decide +kernel
theorem dX2_extend_153 : decode cX2_extend 153 = .ok (.ior, 1) := by decide +kernel
theorem dX2_extend_154 : decode cX2_extend 154 = .ok (.iastore, 1) := by decide +kernel
theorem dX2_extend_155 : decode cX2_extend 155 = .ok (.iconst 0, 1) := by decide +kernel
theorem dX2_extend_156 : decode cX2_extend 156 = .ok (.ireturn, 1) := by decide +kernel
theorem dX3_init_0 : decode cX3_init 0 = .ok (.aload_n 0, 1) := by decide +kernel
theorem dX3_init_1 : decode cX3_init 1 = .ok (.invokespecial 3, 3) := by decide +kernel
theorem dX3_init_4 : decode cX3_init 4 = .ok (.aload_n 0, 1) := by decide +kernel
theorem dX3_init_5 : decode cX3_init 5 = .ok (.bipush 8, 2) := by decide +kernel
theorem dX3_init_7 : decode cX3_init 7 = .ok (.anewarray 9, 3) := by decide +kernel
theorem dX3_init_10 : decode cX3_init 10 = .ok (.putfield 11, 3) := by decide +kernel
theorem dX3_init_13 : decode cX3_init 13 = .ok (.iconst 0, 1) := by decide +kernel
theorem dX3_init_14 : decode cX3_init 14 = .ok (.istore_n 1, 1) := by decide +kernel
theorem dX3_init_15 : decode cX3_init 15 = .ok (.iload_n 1, 1) := by decide +kernel
theorem dX3_init_16 : decode cX3_init 16 = .ok (.aload_n 0, 1) := by decide +kernel
theorem dX3_init_17 : decode cX3_init 17 = .ok (.getfield 11, 3) := by decide +kernel
theorem dX3_init_20 : decode cX3_init 20 = .ok (.arraylength, 1) := by decide +kernel
theorem dX3_init_21 : decode cX3_init 21 = .ok (.if_icmp .ge 22, 3) := by decide +kernel
theorem dX3_init_24 : decode cX3_init 24 = .ok (.aload_n 0, 1) := by decide +kernel
theorem dX3_init_25 : decode cX3_init 25 = .ok (.getfield 11, 3) := by decide +kernel
theorem dX3_init_28 : decode cX3_init 28 = .ok (.iload_n 1, 1) := by decide +kernel
theorem dX3_init_29 : decode cX3_init 29 = .ok (.new 9, 3) := by decide +kernel
theorem dX3_init_32 : decode cX3_init 32 = .ok (.dup, 1) := by decide +kernel
theorem dX3_init_33 : decode cX3_init 33 = .ok (.invokespecial 17, 3) := by decide +kernel
theorem dX3_init_36 : decode cX3_init 36 = .ok (.aastore, 1) := by decide +kernel
theorem dX3_init_37 : decode cX3_init 37 = .ok (.iinc 1 1, 3) := by decide +kernel
theorem dX3_init_40 : decode cX3_init 40 = .ok (.goto (-25), 3) := by decide +kernel
theorem dX3_init_43 : decode cX3_init 43 = .ok (.return_, 1) := by decide +kernel
theorem dX3_size_0 : decode cX3_size 0 = .ok (.aload_n 0, 1) := by decide +kernel
theorem dX3_size_1 : decode cX3_size 1 = .ok (.getfield 18, 3) := by decide +kernel
theorem dX3_size_4 : decode cX3_size 4 = .ok (.ireturn, 1) := by decide +kernel
theorem dX3_isEmpty_0 : decode cX3_isEmpty 0 = .ok (.aload_n 0, 1) := by decide +kernel
theorem dX3_isEmpty_1 : decode cX3_isEmpty 1 = .ok (.getfield 18, 3) := by decide +kernel
theorem dX3_isEmpty_4 : decode cX3_isEmpty 4 = .ok (.ifCond .ne 7, 3) := by decide +kernel
theorem dX3_isEmpty_7 : decode cX3_isEmpty 7 = .ok (.iconst 1, 1) := by decide +kernel
theorem dX3_isEmpty_8 : decode cX3_isEmpty 8 = .ok (.goto 4, 3) := by decide +kernel
theorem dX3_isEmpty_11 : decode cX3_isEmpty 11 = .ok (.iconst 0, 1) := by decide +kernel
theorem dX3_isEmpty_12 : decode cX3_isEmpty 12 = .ok (.ireturn, 1) := by decide +kernel
theorem dX3_stateAt_0 : decode cX3_stateAt 0 = .ok (.aload_n 0, 1) := by decide +kernel
theorem dX3_stateAt_1 : decode cX3_stateAt 1 = .ok (.getfield 22, 3) := by decide +kernel
theorem dX3_stateAt_4 : decode cX3_stateAt 4 = .ok (.iload_n 1, 1) := by decide +kernel
theorem dX3_stateAt_5 : decode cX3_stateAt 5 = .ok (.iadd, 1) := by decide +kernel
theorem dX3_stateAt_6 : decode cX3_stateAt 6 = .ok (.bipush 8, 2) := by decide +kernel
theorem dX3_stateAt_8 : decode cX3_stateAt 8 = .ok (.invokestatic 25, 3) := by decide +kernel
theorem dX3_stateAt_11 : decode cX3_stateAt 11 = .ok (.istore_n 2, 1) := by decide +kernel
theorem dX3_stateAt_12 : decode cX3_stateAt 12 = .ok (.iload_n 2, 1) := by decide +kernel
theorem dX3_stateAt_13 : decode cX3_stateAt 13 = .ok (.aload_n 0, 1) := by decide +kernel
theorem dX3_stateAt_14 : decode cX3_stateAt 14 = .ok (.getfield 11, 3) := by decide +kernel
theorem dX3_stateAt_17 : decode cX3_stateAt 17 = .ok (.arraylength, 1) := by decide +kernel
theorem dX3_stateAt_18 : decode cX3_stateAt 18 = .ok (.if_icmp .ge 12, 3) := by decide +kernel
theorem dX3_stateAt_21 : decode cX3_stateAt 21 = .ok (.aload_n 0, 1) := by decide +kernel
theorem dX3_stateAt_22 : decode cX3_stateAt 22 = .ok (.getfield 11, 3) := by decide +kernel
theorem dX3_stateAt_25 : decode cX3_stateAt 25 = .ok (.iload_n 2, 1) := by decide +kernel
theorem dX3_stateAt_26 : decode cX3_stateAt 26 = .ok (.aaload, 1) := by decide +kernel
theorem dX3_stateAt_27 : decode cX3_stateAt 27 = .ok (.goto 4, 3) := by decide +kernel
theorem dX3_stateAt_30 : decode cX3_stateAt 30 = .ok (.aconst_null, 1) := by decide +kernel
theorem dX3_stateAt_31 : decode cX3_stateAt 31 = .ok (.areturn, 1) := by decide +kernel
theorem dX3_record_0 : decode cX3_record 0 = .ok (.aload_n 0, 1) := by decide +kernel
theorem dX3_record_1 : decode cX3_record 1 = .ok (.getfield 18, 3) := by decide +kernel
theorem dX3_record_4 : decode cX3_record 4 = .ok (.bipush 8, 2) := by decide +kernel
theorem dX3_record_6 : decode cX3_record 6 = .ok (.if_icmp .ne 28, 3) := by decide +kernel
theorem dX3_record_9 : decode cX3_record 9 = .ok (.aload_n 0, 1) := by decide +kernel
theorem dX3_record_10 : decode cX3_record 10 = .ok (.aload_n 0, 1) := by decide +kernel
theorem dX3_record_11 : decode cX3_record 11 = .ok (.getfield 22, 3) := by decide +kernel
theorem dX3_record_14 : decode cX3_record 14 = .ok (.iconst 1, 1) := by decide +kernel
theorem dX3_record_15 : decode cX3_record 15 = .ok (.iadd, 1) := by decide +kernel
theorem dX3_record_16 : decode cX3_record 16 = .ok (.bipush 8, 2) := by decide +kernel
theorem dX3_record_18 : decode cX3_record 18 = .ok (.invokestatic 25, 3) := by decide +kernel
theorem dX3_record_21 : decode cX3_record 21 = .ok (.putfield 22, 3) := by decide +kernel
theorem dX3_record_24 : decode cX3_record 24 = .ok (.aload_n 0, 1) := by decide +kernel
theorem dX3_record_25 : decode cX3_record 25 = .ok (.dup, 1) := by decide +kernel
theorem dX3_record_26 : decode cX3_record 26 = .ok (.getfield 18, 3) := by decide +kernel
theorem dX3_record_29 : decode cX3_record 29 = .ok (.iconst 1, 1) := by decide +kernel
theorem dX3_record_30 : decode cX3_record 30 = .ok (.isub, 1) := by decide +kernel
theorem dX3_record_31 : decode cX3_record 31 = .ok (.putfield 18, 3) := by decide +kernel
theorem dX3_record_34 : decode cX3_record 34 = .ok (.aload_n 0, 1) := by decide +kernel
theorem dX3_record_35 : decode cX3_record 35 = .ok (.aload_n 0, 1) := by decide +kernel
theorem dX3_record_36 : decode cX3_record 36 = .ok (.getfield 18, 3) := by decide +kernel
theorem dX3_record_39 : decode cX3_record 39 = .ok (.invokevirtual 31, 3) := by decide +kernel
theorem dX3_record_42 : decode cX3_record 42 = .ok (.astore_n 2, 1) := by decide +kernel
theorem dX3_record_43 : decode cX3_record 43 = .ok (.aload_n 2, 1) := by decide +kernel
theorem dX3_record_44 : decode cX3_record 44 = .ok (.ifnull 18, 3) := by decide +kernel
theorem dX3_record_47 : decode cX3_record 47 = .ok (.aload_n 2, 1) := by decide +kernel
theorem dX3_record_48 : decode cX3_record 48 = .ok (.aload_n 1, 1) := by decide +kernel
theorem dX3_record_49 : decode cX3_record 49 = .ok (.invokevirtual 35, 3) := by decide +kernel
theorem dX3_record_52 : decode cX3_record 52 = .ok (.aload_n 0, 1) := by decide +kernel
theorem dX3_record_53 : decode cX3_record 53 = .ok (.dup, 1) := by decide +kernel
theorem dX3_record_54 : decode cX3_record 54 = .ok (.getfield 18, 3) := by decide +kernel
theorem dX3_record_57 : decode cX3_record 57 = .ok (.iconst 1, 1) := by decide +kernel
theorem dX3_record_58 : decode cX3_record 58 = .ok (.iadd, 1) := by decide +kernel
theorem dX3_record_59 : decode cX3_record 59 = .ok (.putfield 18, 3) := by decide +kernel
theorem dX3_record_62 : decode cX3_record 62 = .ok (.return_, 1) := by decide +kernel
theorem dX3_takeLatest_0 : decode cX3_takeLatest 0 = .ok (.aload_n 0, 1) := by decide +kernel
theorem dX3_takeLatest_1 : decode cX3_takeLatest 1 = .ok (.aload_n 0, 1) := by decide +kernel
theorem dX3_takeLatest_2 : decode cX3_takeLatest 2 = .ok (.getfield 18, 3) := by decide +kernel
theorem dX3_takeLatest_5 : decode cX3_takeLatest 5 = .ok (.iconst 1, 1) := by decide +kernel
theorem dX3_takeLatest_6 : decode cX3_takeLatest 6 = .ok (.isub, 1) := by decide +kernel
theorem dX3_takeLatest_7 : decode cX3_takeLatest 7 = .ok (.invokevirtual 31, 3) := by decide +kernel
theorem dX3_takeLatest_10 : decode cX3_takeLatest 10 = .ok (.astore_n 2, 1) := by decide +kernel
theorem dX3_takeLatest_11 : decode cX3_takeLatest 11 = .ok (.aload_n 0, 1) := by decide +kernel
theorem dX3_takeLatest_12 : decode cX3_takeLatest 12 = .ok (.getfield 18, 3) := by decide +kernel
theorem dX3_takeLatest_15 : decode cX3_takeLatest 15 = .ok (.ifCond .le 22, 3) := by decide +kernel
theorem dX3_takeLatest_18 : decode cX3_takeLatest 18 = .ok (.aload_n 2, 1) := by decide +kernel
theorem dX3_takeLatest_19 : decode cX3_takeLatest 19 = .ok (.ifnull 18, 3) := by decide +kernel
theorem dX3_takeLatest_22 : decode cX3_takeLatest 22 = .ok (.aload_n 1, 1) := by decide +kernel
theorem dX3_takeLatest_23 : decode cX3_takeLatest 23 = .ok (.aload_n 2, 1) := by decide +kernel
theorem dX3_takeLatest_24 : decode cX3_takeLatest 24 = .ok (.invokevirtual 35, 3) := by decide +kernel
theorem dX3_takeLatest_27 : decode cX3_takeLatest 27 = .ok (.aload_n 0, 1) := by decide +kernel
theorem dX3_takeLatest_28 : decode cX3_takeLatest 28 = .ok (.dup, 1) := by decide +kernel
theorem dX3_takeLatest_29 : decode cX3_takeLatest 29 = .ok (.getfield 18, 3) := by decide +kernel
theorem dX3_takeLatest_32 : decode cX3_takeLatest 32 = .ok (.iconst 1, 1) := by decide +kernel
theorem dX3_takeLatest_33 : decode cX3_takeLatest 33 = .ok (.isub, 1) := by decide +kernel
theorem dX3_takeLatest_34 : decode cX3_takeLatest 34 = .ok (.putfield 18, 3) := by decide +kernel
theorem dX3_takeLatest_37 : decode cX3_takeLatest 37 = .ok (.return_, 1) := by decide +kernel
theorem dX4_init_0 : decode cX4_init 0 = .ok (.aload_n 0, 1) := by decide +kernel
theorem dX4_init_1 : decode cX4_init 1 = .ok (.invokespecial 3, 3) := by decide +kernel
theorem dX4_init_4 : decode cX4_init 4 = .ok (.aload_n 0, 1) := by decide +kernel
theorem dX4_init_5 : decode cX4_init 5 = .ok (.bipush 10, 2) := by decide +kernel
theorem dX4_init_7 : decode cX4_init 7 = .ok (.newarray .int, 2) := by decide +kernel
theorem dX4_init_9 : decode cX4_init 9 = .ok (.putfield 9, 3) := by decide +kernel
theorem dX4_init_12 : decode cX4_init 12 = .ok (.return_, 1) := by decide +kernel
theorem dX4_countDiffering_0 : decode cX4_countDiffering 0 = .ok (.iconst 0, 1) := by decide +kernel
theorem dX4_countDiffering_1 : decode cX4_countDiffering 1 = .ok (.istore_n 2, 1) := by decide +kernel
theorem dX4_countDiffering_2 : decode cX4_countDiffering 2 = .ok (.iconst 0, 1) := by decide +kernel
theorem dX4_countDiffering_3 : decode cX4_countDiffering 3 = .ok (.istore_n 3, 1) := by decide +kernel
theorem dX4_countDiffering_4 : decode cX4_countDiffering 4 = .ok (.iload_n 3, 1) := by decide +kernel
theorem dX4_countDiffering_5 : decode cX4_countDiffering 5 = .ok (.aload_n 0, 1) := by decide +kernel
theorem dX4_countDiffering_6 : decode cX4_countDiffering 6 = .ok (.invokevirtual 15, 3) := by decide +kernel
theorem dX4_countDiffering_9 : decode cX4_countDiffering 9 = .ok (.if_icmp .ge 26, 3) := by decide +kernel
theorem dX4_countDiffering_12 : decode cX4_countDiffering 12 = .ok (.iload_n 2, 1) := by decide +kernel
theorem dX4_countDiffering_13 : decode cX4_countDiffering 13 = .ok (.aload_n 0, 1) := by decide +kernel
theorem dX4_countDiffering_14 : decode cX4_countDiffering 14 = .ok (.iload_n 3, 1) := by decide +kernel
theorem dX4_countDiffering_15 : decode cX4_countDiffering 15 = .ok (.invokevirtual 21, 3) := by decide +kernel
theorem dX4_countDiffering_18 : decode cX4_countDiffering 18 = .ok (.aload_n 1, 1) := by decide +kernel
theorem dX4_countDiffering_19 : decode cX4_countDiffering 19 = .ok (.iload_n 3, 1) := by decide +kernel
theorem dX4_countDiffering_20 : decode cX4_countDiffering 20 = .ok (.invokevirtual 21, 3) := by decide +kernel
theorem dX4_countDiffering_23 : decode cX4_countDiffering 23 = .ok (.ixor, 1) := by decide +kernel
theorem dX4_countDiffering_24 : decode cX4_countDiffering 24 = .ok (.invokestatic 25, 3) := by decide +kernel
theorem dX4_countDiffering_27 : decode cX4_countDiffering 27 = .ok (.iadd, 1) := by decide +kernel
theorem dX4_countDiffering_28 : decode cX4_countDiffering 28 = .ok (.istore_n 2, 1) := by decide +kernel
theorem dX4_countDiffering_29 : decode cX4_countDiffering 29 = .ok (.iinc 3 1, 3) := by decide +kernel
theorem dX4_countDiffering_32 : decode cX4_countDiffering 32 = .ok (.goto (-28), 3) := by decide +kernel
theorem dX4_countDiffering_35 : decode cX4_countDiffering 35 = .ok (.iload_n 2, 1) := by decide +kernel
theorem dX4_countDiffering_36 : decode cX4_countDiffering 36 = .ok (.iconst 2, 1) := by decide +kernel
theorem dX4_countDiffering_37 : decode cX4_countDiffering 37 = .ok (.idiv, 1) := by decide +kernel
theorem dX4_countDiffering_38 : decode cX4_countDiffering 38 = .ok (.ireturn, 1) := by decide +kernel
theorem dX4_helpfulTriangle_0 : decode cX4_helpfulTriangle 0 = .ok (.iconst 0, 1) := by decide +kernel
theorem dX4_helpfulTriangle_1 : decode cX4_helpfulTriangle 1 = .ok (.istore_n 2, 1) := by decide +kernel
theorem dX4_helpfulTriangle_2 : decode cX4_helpfulTriangle 2 = .ok (.iload_n 2, 1) := by decide +kernel
theorem dX4_helpfulTriangle_3 : decode cX4_helpfulTriangle 3 = .ok (.aload_n 0, 1) := by decide +kernel
theorem dX4_helpfulTriangle_4 : decode cX4_helpfulTriangle 4 = .ok (.invokevirtual 15, 3) := by decide +kernel
theorem dX4_helpfulTriangle_7 : decode cX4_helpfulTriangle 7 = .ok (.if_icmp .ge 84, 3) := by decide +kernel
theorem dX4_helpfulTriangle_10 : decode cX4_helpfulTriangle 10 = .ok (.iload_n 2, 1) := by decide +kernel
theorem dX4_helpfulTriangle_11 : decode cX4_helpfulTriangle 11 = .ok (.iconst 1, 1) := by decide +kernel
theorem dX4_helpfulTriangle_12 : decode cX4_helpfulTriangle 12 = .ok (.iadd, 1) := by decide +kernel
theorem dX4_helpfulTriangle_13 : decode cX4_helpfulTriangle 13 = .ok (.istore_n 3, 1) := by decide +kernel
theorem dX4_helpfulTriangle_14 : decode cX4_helpfulTriangle 14 = .ok (.iload_n 3, 1) := by decide +kernel
theorem dX4_helpfulTriangle_15 : decode cX4_helpfulTriangle 15 = .ok (.aload_n 0, 1) := by decide +kernel
theorem dX4_helpfulTriangle_16 : decode cX4_helpfulTriangle 16 = .ok (.invokevirtual 15, 3) := by decide +kernel
theorem dX4_helpfulTriangle_19 : decode cX4_helpfulTriangle 19 = .ok (.if_icmp .ge 66, 3) := by decide +kernel
theorem dX4_helpfulTriangle_22 : decode cX4_helpfulTriangle 22 = .ok (.iload_n 3, 1) := by decide +kernel
theorem dX4_helpfulTriangle_23 : decode cX4_helpfulTriangle 23 = .ok (.iconst 1, 1) := by decide +kernel
theorem dX4_helpfulTriangle_24 : decode cX4_helpfulTriangle 24 = .ok (.iadd, 1) := by decide +kernel
theorem dX4_helpfulTriangle_25 : decode cX4_helpfulTriangle 25 = .ok (.istore 4, 2) := by decide +kernel
theorem dX4_helpfulTriangle_27 : decode cX4_helpfulTriangle 27 = .ok (.iload 4, 2) := by decide +kernel
theorem dX4_helpfulTriangle_29 : decode cX4_helpfulTriangle 29 = .ok (.aload_n 0, 1) := by decide +kernel
theorem dX4_helpfulTriangle_30 : decode cX4_helpfulTriangle 30 = .ok (.invokevirtual 15, 3) := by decide +kernel
theorem dX4_helpfulTriangle_33 : decode cX4_helpfulTriangle 33 = .ok (.if_icmp .ge 46, 3) := by decide +kernel
theorem dX4_helpfulTriangle_36 : decode cX4_helpfulTriangle 36 = .ok (.aload_n 0, 1) := by decide +kernel
theorem dX4_helpfulTriangle_37 : decode cX4_helpfulTriangle 37 = .ok (.iload_n 2, 1) := by decide +kernel
theorem dX4_helpfulTriangle_38 : decode cX4_helpfulTriangle 38 = .ok (.iload_n 3, 1) := by decide +kernel
theorem dX4_helpfulTriangle_39 : decode cX4_helpfulTriangle 39 = .ok (.iload 4, 2) := by decide +kernel
theorem dX4_helpfulTriangle_41 : decode cX4_helpfulTriangle 41 = .ok (.invokevirtual 30, 3) := by decide +kernel
theorem dX4_helpfulTriangle_44 : decode cX4_helpfulTriangle 44 = .ok (.ifCond .eq 29, 3) := by decide +kernel
theorem dX4_helpfulTriangle_47 : decode cX4_helpfulTriangle 47 = .ok (.aload_n 0, 1) := by decide +kernel
theorem dX4_helpfulTriangle_48 : decode cX4_helpfulTriangle 48 = .ok (.aload_n 1, 1) := by decide +kernel
theorem dX4_helpfulTriangle_49 : decode cX4_helpfulTriangle 49 = .ok (.iload_n 2, 1) := by decide +kernel
theorem dX4_helpfulTriangle_50 : decode cX4_helpfulTriangle 50 = .ok (.iload_n 3, 1) := by decide +kernel
theorem dX4_helpfulTriangle_51 : decode cX4_helpfulTriangle 51 = .ok (.iload 4, 2) := by decide +kernel
theorem dX4_helpfulTriangle_53 : decode cX4_helpfulTriangle 53 = .ok (.invokestatic 34, 3) := by decide +kernel
theorem dX4_helpfulTriangle_56 : decode cX4_helpfulTriangle 56 = .ok (.iconst 2, 1) := by decide +kernel
theorem dX4_helpfulTriangle_57 : decode cX4_helpfulTriangle 57 = .ok (.if_icmp .lt 16, 3) := by decide +kernel
theorem dX4_helpfulTriangle_60 : decode cX4_helpfulTriangle 60 = .ok (.bipush 100, 2) := by decide +kernel
theorem dX4_helpfulTriangle_62 : decode cX4_helpfulTriangle 62 = .ok (.iload_n 2, 1) := by decide +kernel
theorem dX4_helpfulTriangle_63 : decode cX4_helpfulTriangle 63 = .ok (.imul, 1) := by decide +kernel
theorem dX4_helpfulTriangle_64 : decode cX4_helpfulTriangle 64 = .ok (.bipush 10, 2) := by decide +kernel
theorem dX4_helpfulTriangle_66 : decode cX4_helpfulTriangle 66 = .ok (.iload_n 3, 1) := by decide +kernel
theorem dX4_helpfulTriangle_67 : decode cX4_helpfulTriangle 67 = .ok (.imul, 1) := by decide +kernel
theorem dX4_helpfulTriangle_68 : decode cX4_helpfulTriangle 68 = .ok (.iadd, 1) := by decide +kernel
theorem dX4_helpfulTriangle_69 : decode cX4_helpfulTriangle 69 = .ok (.iload 4, 2) := by decide +kernel
theorem dX4_helpfulTriangle_71 : decode cX4_helpfulTriangle 71 = .ok (.iadd, 1) := by decide +kernel
theorem dX4_helpfulTriangle_72 : decode cX4_helpfulTriangle 72 = .ok (.ireturn, 1) := by decide +kernel
theorem dX4_helpfulTriangle_73 : decode cX4_helpfulTriangle 73 = .ok (.iinc 4 1, 3) := by decide +kernel
theorem dX4_helpfulTriangle_76 : decode cX4_helpfulTriangle 76 = .ok (.goto (-49), 3) := by decide +kernel
theorem dX4_helpfulTriangle_79 : decode cX4_helpfulTriangle 79 = .ok (.iinc 3 1, 3) := by decide +kernel
theorem dX4_helpfulTriangle_82 : decode cX4_helpfulTriangle 82 = .ok (.goto (-68), 3) := by decide +kernel
theorem dX4_helpfulTriangle_85 : decode cX4_helpfulTriangle 85 = .ok (.iinc 2 1, 3) := by decide +kernel
theorem dX4_helpfulTriangle_88 : decode cX4_helpfulTriangle 88 = .ok (.goto (-86), 3) := by decide +kernel
theorem dX4_helpfulTriangle_91 : decode cX4_helpfulTriangle 91 = .ok (.bipush (-4), 2) := by decide +kernel
theorem dX4_helpfulTriangle_93 : decode cX4_helpfulTriangle 93 = .ok (.ireturn, 1) := by decide +kernel
theorem dX4_differingAmong_0 : decode cX4_differingAmong 0 = .ok (.aload_n 0, 1) := by decide +kernel
theorem dX4_differingAmong_1 : decode cX4_differingAmong 1 = .ok (.aload_n 1, 1) := by decide +kernel
theorem dX4_differingAmong_2 : decode cX4_differingAmong 2 = .ok (.iload_n 2, 1) := by decide +kernel
theorem dX4_differingAmong_3 : decode cX4_differingAmong 3 = .ok (.iload_n 3, 1) := by decide +kernel
theorem dX4_differingAmong_4 : decode cX4_differingAmong 4 = .ok (.invokestatic 38, 3) := by decide +kernel
theorem dX4_differingAmong_7 : decode cX4_differingAmong 7 = .ok (.aload_n 0, 1) := by decide +kernel
theorem dX4_differingAmong_8 : decode cX4_differingAmong 8 = .ok (.aload_n 1, 1) := by decide +kernel
theorem dX4_differingAmong_9 : decode cX4_differingAmong 9 = .ok (.iload_n 3, 1) := by decide +kernel
theorem dX4_differingAmong_10 : decode cX4_differingAmong 10 = .ok (.iload 4, 2) := by decide +kernel
theorem dX4_differingAmong_12 : decode cX4_differingAmong 12 = .ok (.invokestatic 38, 3) := by decide +kernel
theorem dX4_differingAmong_15 : decode cX4_differingAmong 15 = .ok (.iadd, 1) := by decide +kernel
theorem dX4_differingAmong_16 : decode cX4_differingAmong 16 = .ok (.aload_n 0, 1) := by decide +kernel
theorem dX4_differingAmong_17 : decode cX4_differingAmong 17 = .ok (.aload_n 1, 1) := by decide +kernel
theorem dX4_differingAmong_18 : decode cX4_differingAmong 18 = .ok (.iload_n 2, 1) := by decide +kernel
theorem dX4_differingAmong_19 : decode cX4_differingAmong 19 = .ok (.iload 4, 2) := by decide +kernel
theorem dX4_differingAmong_21 : decode cX4_differingAmong 21 = .ok (.invokestatic 38, 3) := by decide +kernel
theorem dX4_differingAmong_24 : decode cX4_differingAmong 24 = .ok (.iadd, 1) := by decide +kernel
theorem dX4_differingAmong_25 : decode cX4_differingAmong 25 = .ok (.ireturn, 1) := by decide +kernel
theorem dX4_differs_0 : decode cX4_differs 0 = .ok (.aload_n 0, 1) := by decide +kernel
theorem dX4_differs_1 : decode cX4_differs 1 = .ok (.iload_n 2, 1) := by decide +kernel
theorem dX4_differs_2 : decode cX4_differs 2 = .ok (.iload_n 3, 1) := by decide +kernel
theorem dX4_differs_3 : decode cX4_differs 3 = .ok (.invokevirtual 42, 3) := by decide +kernel
theorem dX4_differs_6 : decode cX4_differs 6 = .ok (.aload_n 1, 1) := by decide +kernel
theorem dX4_differs_7 : decode cX4_differs 7 = .ok (.iload_n 2, 1) := by decide +kernel
theorem dX4_differs_8 : decode cX4_differs 8 = .ok (.iload_n 3, 1) := by decide +kernel
theorem dX4_differs_9 : decode cX4_differs 9 = .ok (.invokevirtual 42, 3) := by decide +kernel
theorem dX4_differs_12 : decode cX4_differs 12 = .ok (.if_icmp .ne 7, 3) := by decide +kernel
theorem dX4_differs_15 : decode cX4_differs 15 = .ok (.iconst 0, 1) := by decide +kernel
theorem dX4_differs_16 : decode cX4_differs 16 = .ok (.goto 4, 3) := by decide +kernel
theorem dX4_differs_19 : decode cX4_differs 19 = .ok (.iconst 1, 1) := by decide +kernel
theorem dX4_differs_20 : decode cX4_differs 20 = .ok (.ireturn, 1) := by decide +kernel
theorem dX4_areAlike_0 : decode cX4_areAlike 0 = .ok (.aload_n 1, 1) := by decide +kernel
theorem dX4_areAlike_1 : decode cX4_areAlike 1 = .ok (.invokevirtual 15, 3) := by decide +kernel
theorem dX4_areAlike_4 : decode cX4_areAlike 4 = .ok (.aload_n 2, 1) := by decide +kernel
theorem dX4_areAlike_5 : decode cX4_areAlike 5 = .ok (.invokevirtual 15, 3) := by decide +kernel
theorem dX4_areAlike_8 : decode cX4_areAlike 8 = .ok (.if_icmp .ne 24, 3) := by decide +kernel
theorem dX4_areAlike_11 : decode cX4_areAlike 11 = .ok (.aload_n 1, 1) := by decide +kernel
theorem dX4_areAlike_12 : decode cX4_areAlike 12 = .ok (.aload_n 2, 1) := by decide +kernel
theorem dX4_areAlike_13 : decode cX4_areAlike 13 = .ok (.aload_n 0, 1) := by decide +kernel
theorem dX4_areAlike_14 : decode cX4_areAlike 14 = .ok (.getfield 9, 3) := by decide +kernel
theorem dX4_areAlike_17 : decode cX4_areAlike 17 = .ok (.aload_n 2, 1) := by decide +kernel
theorem dX4_areAlike_18 : decode cX4_areAlike 18 = .ok (.invokevirtual 46, 3) := by decide +kernel
theorem dX4_areAlike_21 : decode cX4_areAlike 21 = .ok (.iconst 0, 1) := by decide +kernel
theorem dX4_areAlike_22 : decode cX4_areAlike 22 = .ok (.invokestatic 49, 3) := by decide +kernel
theorem dX4_areAlike_25 : decode cX4_areAlike 25 = .ok (.ifCond .eq 7, 3) := by decide +kernel
theorem dX4_areAlike_28 : decode cX4_areAlike 28 = .ok (.iconst 1, 1) := by decide +kernel
theorem dX4_areAlike_29 : decode cX4_areAlike 29 = .ok (.goto 4, 3) := by decide +kernel
theorem dX4_areAlike_32 : decode cX4_areAlike 32 = .ok (.iconst 0, 1) := by decide +kernel
theorem dX4_areAlike_33 : decode cX4_areAlike 33 = .ok (.ireturn, 1) := by decide +kernel
theorem dX4_assign_0 : decode cX4_assign 0 = .ok (.iload 4, 2) := by decide +kernel
theorem dX4_assign_2 : decode cX4_assign 2 = .ok (.ifCond .lt 19, 3) := by decide +kernel
theorem dX4_assign_5 : decode cX4_assign 5 = .ok (.iload 4, 2) := by decide +kernel
theorem dX4_assign_7 : decode cX4_assign 7 = .ok (.aload_n 0, 1) := by decide +kernel
theorem dX4_assign_8 : decode cX4_assign 8 = .ok (.invokevirtual 15, 3) := by decide +kernel
theorem dX4_assign_11 : decode cX4_assign 11 = .ok (.if_icmp .ge 10, 3) := by decide +kernel
theorem dX4_assign_14 : decode cX4_assign 14 = .ok (.iload 4, 2) := by decide +kernel
theorem dX4_assign_16 : decode cX4_assign 16 = .ok (.aload_n 2, 1) := by decide +kernel
theorem dX4_assign_17 : decode cX4_assign 17 = .ok (.arraylength, 1) := by decide +kernel
theorem dX4_assign_18 : decode cX4_assign 18 = .ok (.if_icmp .lt 18, 3) := by decide +kernel
theorem dX4_assign_21 : decode cX4_assign 21 = .ok (.iload 4, 2) := by decide +kernel
theorem dX4_assign_23 : decode cX4_assign 23 = .ok (.aload_n 0, 1) := by decide +kernel
theorem dX4_assign_24 : decode cX4_assign 24 = .ok (.invokevirtual 15, 3) := by decide +kernel
theorem dX4_assign_27 : decode cX4_assign 27 = .ok (.if_icmp .ne 7, 3) := by decide +kernel
theorem dX4_assign_30 : decode cX4_assign 30 = .ok (.iconst 1, 1) := by decide +kernel
theorem dX4_assign_31 : decode cX4_assign 31 = .ok (.goto 4, 3) := by decide +kernel
theorem dX4_assign_34 : decode cX4_assign 34 = .ok (.iconst 0, 1) := by decide +kernel
theorem dX4_assign_35 : decode cX4_assign 35 = .ok (.ireturn, 1) := by decide +kernel
theorem dX4_assign_36 : decode cX4_assign 36 = .ok (.iconst 0, 1) := by decide +kernel
theorem dX4_assign_37 : decode cX4_assign 37 = .ok (.istore 5, 2) := by decide +kernel
theorem dX4_assign_39 : decode cX4_assign 39 = .ok (.iload 5, 2) := by decide +kernel
theorem dX4_assign_41 : decode cX4_assign 41 = .ok (.aload_n 1, 1) := by decide +kernel
theorem dX4_assign_42 : decode cX4_assign 42 = .ok (.invokevirtual 15, 3) := by decide +kernel
theorem dX4_assign_45 : decode cX4_assign 45 = .ok (.if_icmp .ge 58, 3) := by decide +kernel
theorem dX4_assign_48 : decode cX4_assign 48 = .ok (.iload_n 3, 1) := by decide +kernel
theorem dX4_assign_49 : decode cX4_assign 49 = .ok (.iload 5, 2) := by decide +kernel
theorem dX4_assign_51 : decode cX4_assign 51 = .ok (.invokestatic 53, 3) := by decide +kernel
theorem dX4_assign_54 : decode cX4_assign 54 = .ok (.ifCond .eq 43, 3) := by decide +kernel
theorem dX4_assign_57 : decode cX4_assign 57 = .ok (.aload_n 0, 1) := by decide +kernel
theorem dX4_assign_58 : decode cX4_assign 58 = .ok (.aload_n 1, 1) := by decide +kernel
theorem dX4_assign_59 : decode cX4_assign 59 = .ok (.aload_n 2, 1) := by decide +kernel
theorem dX4_assign_60 : decode cX4_assign 60 = .ok (.iload 4, 2) := by decide +kernel
theorem dX4_assign_62 : decode cX4_assign 62 = .ok (.iload 5, 2) := by decide +kernel
theorem dX4_assign_64 : decode cX4_assign 64 = .ok (.invokestatic 56, 3) := by decide +kernel
theorem dX4_assign_67 : decode cX4_assign 67 = .ok (.ifCond .eq 30, 3) := by decide +kernel
theorem dX4_assign_70 : decode cX4_assign 70 = .ok (.aload_n 2, 1) := by decide +kernel
theorem dX4_assign_71 : decode cX4_assign 71 = .ok (.iload 4, 2) := by decide +kernel
theorem dX4_assign_73 : decode cX4_assign 73 = .ok (.iload 5, 2) := by decide +kernel
theorem dX4_assign_75 : decode cX4_assign 75 = .ok (.iastore, 1) := by decide +kernel
theorem dX4_assign_76 : decode cX4_assign 76 = .ok (.aload_n 0, 1) := by decide +kernel
theorem dX4_assign_77 : decode cX4_assign 77 = .ok (.aload_n 1, 1) := by decide +kernel
theorem dX4_assign_78 : decode cX4_assign 78 = .ok (.aload_n 2, 1) := by decide +kernel
theorem dX4_assign_79 : decode cX4_assign 79 = .ok (.iload_n 3, 1) := by decide +kernel
theorem dX4_assign_80 : decode cX4_assign 80 = .ok (.iload 5, 2) := by decide +kernel
theorem dX4_assign_82 : decode cX4_assign 82 = .ok (.invokestatic 59, 3) := by decide +kernel
theorem dX4_assign_85 : decode cX4_assign 85 = .ok (.iload 4, 2) := by decide +kernel
theorem dX4_assign_87 : decode cX4_assign 87 = .ok (.iconst 1, 1) := by decide +kernel
theorem dX4_assign_88 : decode cX4_assign 88 = .ok (.iadd, 1) := by decide +kernel
theorem dX4_assign_89 : decode cX4_assign 89 = .ok (.invokestatic 49, 3) := by decide +kernel
theorem dX4_assign_92 : decode cX4_assign 92 = .ok (.ifCond .eq 5, 3) := by decide +kernel
theorem dX4_assign_95 : decode cX4_assign 95 = .ok (.iconst 1, 1) := by decide +kernel
theorem dX4_assign_96 : decode cX4_assign 96 = .ok (.ireturn, 1) := by decide +kernel
theorem dX4_assign_97 : decode cX4_assign 97 = .ok (.iinc 5 1, 3) := by decide +kernel
theorem dX4_assign_100 : decode cX4_assign 100 = .ok (.goto (-61), 3) := by decide +kernel
theorem dX4_assign_103 : decode cX4_assign 103 = .ok (.iconst 0, 1) := by decide +kernel
theorem dX4_assign_104 : decode cX4_assign 104 = .ok (.ireturn, 1) := by decide +kernel
theorem dX4_corresponds_0 : decode cX4_corresponds 0 = .ok (.aload_n 0, 1) := by decide +kernel
theorem dX4_corresponds_1 : decode cX4_corresponds 1 = .ok (.iload_n 3, 1) := by decide +kernel
theorem dX4_corresponds_2 : decode cX4_corresponds 2 = .ok (.invokevirtual 63, 3) := by decide +kernel
theorem dX4_corresponds_5 : decode cX4_corresponds 5 = .ok (.aload_n 1, 1) := by decide +kernel
theorem dX4_corresponds_6 : decode cX4_corresponds 6 = .ok (.iload 4, 2) := by decide +kernel
theorem dX4_corresponds_8 : decode cX4_corresponds 8 = .ok (.invokevirtual 63, 3) := by decide +kernel
theorem dX4_corresponds_11 : decode cX4_corresponds 11 = .ok (.if_icmp .eq 5, 3) := by decide +kernel
theorem dX4_corresponds_14 : decode cX4_corresponds 14 = .ok (.iconst 0, 1) := by decide +kernel
theorem dX4_corresponds_15 : decode cX4_corresponds 15 = .ok (.ireturn, 1) := by decide +kernel
theorem dX4_corresponds_16 : decode cX4_corresponds 16 = .ok (.iconst 0, 1) := by decide +kernel
theorem dX4_corresponds_17 : decode cX4_corresponds 17 = .ok (.istore 5, 2) := by decide +kernel
theorem dX4_corresponds_19 : decode cX4_corresponds 19 = .ok (.iload 5, 2) := by decide +kernel
theorem dX4_corresponds_21 : decode cX4_corresponds 21 = .ok (.iload_n 3, 1) := by decide +kernel
theorem dX4_corresponds_22 : decode cX4_corresponds 22 = .ok (.if_icmp .ge 38, 3) := by decide +kernel
theorem dX4_corresponds_25 : decode cX4_corresponds 25 = .ok (.iload 5, 2) := by decide +kernel
theorem dX4_corresponds_27 : decode cX4_corresponds 27 = .ok (.aload_n 2, 1) := by decide +kernel
theorem dX4_corresponds_28 : decode cX4_corresponds 28 = .ok (.arraylength, 1) := by decide +kernel
theorem dX4_corresponds_29 : decode cX4_corresponds 29 = .ok (.if_icmp .ge 31, 3) := by decide +kernel
theorem dX4_corresponds_32 : decode cX4_corresponds 32 = .ok (.aload_n 0, 1) := by decide +kernel
theorem dX4_corresponds_33 : decode cX4_corresponds 33 = .ok (.iload_n 3, 1) := by decide +kernel
theorem dX4_corresponds_34 : decode cX4_corresponds 34 = .ok (.iload 5, 2) := by decide +kernel
theorem dX4_corresponds_36 : decode cX4_corresponds 36 = .ok (.invokevirtual 42, 3) := by decide +kernel
theorem dX4_corresponds_39 : decode cX4_corresponds 39 = .ok (.aload_n 1, 1) := by decide +kernel
theorem dX4_corresponds_40 : decode cX4_corresponds 40 = .ok (.iload 4, 2) := by decide +kernel
theorem dX4_corresponds_42 : decode cX4_corresponds 42 = .ok (.aload_n 2, 1) := by decide +kernel
theorem dX4_corresponds_43 : decode cX4_corresponds 43 = .ok (.iload 5, 2) := by decide +kernel
theorem dX4_corresponds_45 : decode cX4_corresponds 45 = .ok (.iaload, 1) := by decide +kernel
theorem dX4_corresponds_46 : decode cX4_corresponds 46 = .ok (.invokevirtual 42, 3) := by decide +kernel
theorem dX4_corresponds_49 : decode cX4_corresponds 49 = .ok (.if_icmp .eq 5, 3) := by decide +kernel
theorem dX4_corresponds_52 : decode cX4_corresponds 52 = .ok (.iconst 0, 1) := by decide +kernel
theorem dX4_corresponds_53 : decode cX4_corresponds 53 = .ok (.ireturn, 1) := by decide +kernel
theorem dX4_corresponds_54 : decode cX4_corresponds 54 = .ok (.iinc 5 1, 3) := by decide +kernel
theorem dX4_corresponds_57 : decode cX4_corresponds 57 = .ok (.goto (-38), 3) := by decide +kernel
theorem dX4_corresponds_60 : decode cX4_corresponds 60 = .ok (.iconst 1, 1) := by decide +kernel
theorem dX4_corresponds_61 : decode cX4_corresponds 61 = .ok (.ireturn, 1) := by decide +kernel
theorem dX5_init_0 : decode cX5_init 0 = .ok (.aload_n 0, 1) := by decide +kernel
theorem dX5_init_1 : decode cX5_init 1 = .ok (.invokespecial 3, 3) := by decide +kernel
theorem dX5_init_4 : decode cX5_init 4 = .ok (.aload_n 0, 1) := by decide +kernel
theorem dX5_init_5 : decode cX5_init 5 = .ok (.sipush 1024, 3) := by decide +kernel
theorem dX5_init_8 : decode cX5_init 8 = .ok (.newarray .int, 2) := by decide +kernel
theorem dX5_init_10 : decode cX5_init 10 = .ok (.putfield 9, 3) := by decide +kernel
theorem dX5_init_13 : decode cX5_init 13 = .ok (.aload_n 0, 1) := by decide +kernel
theorem dX5_init_14 : decode cX5_init 14 = .ok (.sipush 320, 3) := by decide +kernel
theorem dX5_init_17 : decode cX5_init 17 = .ok (.newarray .int, 2) := by decide +kernel
theorem dX5_init_19 : decode cX5_init 19 = .ok (.putfield 15, 3) := by decide +kernel
theorem dX5_init_22 : decode cX5_init 22 = .ok (.aload_n 0, 1) := by decide +kernel
theorem dX5_init_23 : decode cX5_init 23 = .ok (.sipush 320, 3) := by decide +kernel
theorem dX5_init_26 : decode cX5_init 26 = .ok (.newarray .int, 2) := by decide +kernel
theorem dX5_init_28 : decode cX5_init 28 = .ok (.putfield 18, 3) := by decide +kernel
theorem dX5_init_31 : decode cX5_init 31 = .ok (.return_, 1) := by decide +kernel
theorem dX5_learn_0 : decode cX5_learn 0 = .ok (.aload_n 0, 1) := by decide +kernel
theorem dX5_learn_1 : decode cX5_learn 1 = .ok (.getfield 21, 3) := by decide +kernel
theorem dX5_learn_4 : decode cX5_learn 4 = .ok (.aload_n 1, 1) := by decide +kernel
theorem dX5_learn_5 : decode cX5_learn 5 = .ok (.invokevirtual 25, 3) := by decide +kernel
theorem dX5_learn_8 : decode cX5_learn 8 = .ok (.if_icmp .ne 4, 3) := by decide +kernel
theorem dX5_learn_11 : decode cX5_learn 11 = .ok (.return_, 1) := by decide +kernel
theorem dX5_learn_12 : decode cX5_learn 12 = .ok (.aload_n 0, 1) := by decide +kernel
theorem dX5_learn_13 : decode cX5_learn 13 = .ok (.aload_n 1, 1) := by decide +kernel
theorem dX5_learn_14 : decode cX5_learn 14 = .ok (.invokevirtual 25, 3) := by decide +kernel
theorem dX5_learn_17 : decode cX5_learn 17 = .ok (.putfield 21, 3) := by decide +kernel
theorem dX5_learn_20 : decode cX5_learn 20 = .ok (.iconst 0, 1) := by decide +kernel
theorem dX5_learn_21 : decode cX5_learn 21 = .ok (.istore_n 2, 1) := by decide +kernel
theorem dX5_learn_22 : decode cX5_learn 22 = .ok (.iload_n 2, 1) := by decide +kernel
theorem dX5_learn_23 : decode cX5_learn 23 = .ok (.aload_n 1, 1) := by decide +kernel
theorem dX5_learn_24 : decode cX5_learn 24 = .ok (.invokevirtual 31, 3) := by decide +kernel
theorem dX5_learn_27 : decode cX5_learn 27 = .ok (.if_icmp .ge 30, 3) := by decide +kernel
theorem dX5_learn_30 : decode cX5_learn 30 = .ok (.iconst 1, 1) := by decide +kernel
theorem dX5_learn_31 : decode cX5_learn 31 = .ok (.istore_n 3, 1) := by decide +kernel
theorem dX5_learn_32 : decode cX5_learn 32 = .ok (.iload_n 3, 1) := by decide +kernel
theorem dX5_learn_33 : decode cX5_learn 33 = .ok (.bipush 32, 2) := by decide +kernel
theorem dX5_learn_35 : decode cX5_learn 35 = .ok (.if_icmp .ge 16, 3) := by decide +kernel
theorem dX5_learn_38 : decode cX5_learn 38 = .ok (.aload_n 0, 1) := by decide +kernel
theorem dX5_learn_39 : decode cX5_learn 39 = .ok (.aload_n 1, 1) := by decide +kernel
theorem dX5_learn_40 : decode cX5_learn 40 = .ok (.iload_n 2, 1) := by decide +kernel
theorem dX5_learn_41 : decode cX5_learn 41 = .ok (.iload_n 3, 1) := by decide +kernel
theorem dX5_learn_42 : decode cX5_learn 42 = .ok (.invokevirtual 34, 3) := by decide +kernel
theorem dX5_learn_45 : decode cX5_learn 45 = .ok (.iinc 3 1, 3) := by decide +kernel
theorem dX5_learn_48 : decode cX5_learn 48 = .ok (.goto (-16), 3) := by decide +kernel
theorem dX5_learn_51 : decode cX5_learn 51 = .ok (.iinc 2 1, 3) := by decide +kernel
theorem dX5_learn_54 : decode cX5_learn 54 = .ok (.goto (-32), 3) := by decide +kernel
theorem dX5_learn_57 : decode cX5_learn 57 = .ok (.aload_n 1, 1) := by decide +kernel
theorem dX5_learn_58 : decode cX5_learn 58 = .ok (.invokevirtual 38, 3) := by decide +kernel
theorem dX5_learn_61 : decode cX5_learn 61 = .ok (.istore_n 2, 1) := by decide +kernel
theorem dX5_learn_62 : decode cX5_learn 62 = .ok (.iconst 1, 1) := by decide +kernel
theorem dX5_learn_63 : decode cX5_learn 63 = .ok (.istore_n 3, 1) := by decide +kernel
theorem dX5_learn_64 : decode cX5_learn 64 = .ok (.iload_n 3, 1) := by decide +kernel
theorem dX5_learn_65 : decode cX5_learn 65 = .ok (.iload_n 2, 1) := by decide +kernel
theorem dX5_learn_66 : decode cX5_learn 66 = .ok (.if_icmp .gt 33, 3) := by decide +kernel
theorem dX5_learn_69 : decode cX5_learn 69 = .ok (.iload_n 3, 1) := by decide +kernel
theorem dX5_learn_70 : decode cX5_learn 70 = .ok (.aload_n 0, 1) := by decide +kernel
theorem dX5_learn_71 : decode cX5_learn 71 = .ok (.getfield 9, 3) := by decide +kernel
theorem dX5_learn_74 : decode cX5_learn 74 = .ok (.arraylength, 1) := by decide +kernel
theorem dX5_learn_75 : decode cX5_learn 75 = .ok (.if_icmp .ge 24, 3) := by decide +kernel
theorem dX5_learn_78 : decode cX5_learn 78 = .ok (.aload_n 0, 1) := by decide +kernel
theorem dX5_learn_79 : decode cX5_learn 79 = .ok (.getfield 9, 3) := by decide +kernel
theorem dX5_learn_82 : decode cX5_learn 82 = .ok (.iload_n 3, 1) := by decide +kernel
theorem dX5_learn_83 : decode cX5_learn 83 = .ok (.aload_n 0, 1) := by decide +kernel
theorem dX5_learn_84 : decode cX5_learn 84 = .ok (.aload_n 1, 1) := by decide +kernel
theorem dX5_learn_85 : decode cX5_learn 85 = .ok (.invokevirtual 31, 3) := by decide +kernel
theorem dX5_learn_88 : decode cX5_learn 88 = .ok (.iload_n 3, 1) := by decide +kernel
theorem dX5_learn_89 : decode cX5_learn 89 = .ok (.invokevirtual 41, 3) := by decide +kernel
theorem dX5_learn_92 : decode cX5_learn 92 = .ok (.iastore, 1) := by decide +kernel
theorem dX5_learn_93 : decode cX5_learn 93 = .ok (.iinc 3 1, 3) := by decide +kernel
theorem dX5_learn_96 : decode cX5_learn 96 = .ok (.goto (-32), 3) := by decide +kernel
theorem dX5_learn_99 : decode cX5_learn 99 = .ok (.return_, 1) := by decide +kernel
theorem dX5_sumCosts_0 : decode cX5_sumCosts 0 = .ok (.iload_n 2, 1) := by decide +kernel
theorem dX5_sumCosts_1 : decode cX5_sumCosts 1 = .ok (.iconst 5, 1) := by decide +kernel
theorem dX5_sumCosts_2 : decode cX5_sumCosts 2 = .ok (.ishl, 1) := by decide +kernel
theorem dX5_sumCosts_3 : decode cX5_sumCosts 3 = .ok (.iload_n 3, 1) := by decide +kernel
theorem dX5_sumCosts_4 : decode cX5_sumCosts 4 = .ok (.iadd, 1) := by decide +kernel
theorem dX5_sumCosts_5 : decode cX5_sumCosts 5 = .ok (.istore 4, 2) := by decide +kernel
theorem dX5_sumCosts_7 : decode cX5_sumCosts 7 = .ok (.iload_n 2, 1) := by decide +kernel
theorem dX5_sumCosts_8 : decode cX5_sumCosts 8 = .ok (.iconst 5, 1) := by decide +kernel
theorem dX5_sumCosts_9 : decode cX5_sumCosts 9 = .ok (.ishl, 1) := by decide +kernel
theorem dX5_sumCosts_10 : decode cX5_sumCosts 10 = .ok (.iload_n 3, 1) := by decide +kernel
theorem dX5_sumCosts_11 : decode cX5_sumCosts 11 = .ok (.iload_n 3, 1) := by decide +kernel
theorem dX5_sumCosts_12 : decode cX5_sumCosts 12 = .ok (.iconst 1, 1) := by decide +kernel
theorem dX5_sumCosts_13 : decode cX5_sumCosts 13 = .ok (.isub, 1) := by decide +kernel
theorem dX5_sumCosts_14 : decode cX5_sumCosts 14 = .ok (.iand, 1) := by decide +kernel
theorem dX5_sumCosts_15 : decode cX5_sumCosts 15 = .ok (.iadd, 1) := by decide +kernel
theorem dX5_sumCosts_16 : decode cX5_sumCosts 16 = .ok (.istore 5, 2) := by decide +kernel
theorem dX5_sumCosts_18 : decode cX5_sumCosts 18 = .ok (.iload_n 3, 1) := by decide +kernel
theorem dX5_sumCosts_19 : decode cX5_sumCosts 19 = .ok (.invokestatic 45, 3) := by decide +kernel
theorem dX5_sumCosts_22 : decode cX5_sumCosts 22 = .ok (.istore 6, 2) := by decide +kernel
theorem dX5_sumCosts_24 : decode cX5_sumCosts 24 = .ok (.iload 5, 2) := by decide +kernel
theorem dX5_sumCosts_26 : decode cX5_sumCosts 26 = .ok (.ifCond .lt 76, 3) := by decide +kernel
theorem dX5_sumCosts_29 : decode cX5_sumCosts 29 = .ok (.iload 5, 2) := by decide +kernel
theorem dX5_sumCosts_31 : decode cX5_sumCosts 31 = .ok (.iload 4, 2) := by decide +kernel
theorem dX5_sumCosts_33 : decode cX5_sumCosts 33 = .ok (.if_icmp .ge 69, 3) := by decide +kernel
theorem dX5_sumCosts_36 : decode cX5_sumCosts 36 = .ok (.iload 4, 2) := by decide +kernel
theorem dX5_sumCosts_38 : decode cX5_sumCosts 38 = .ok (.aload_n 0, 1) := by decide +kernel
theorem dX5_sumCosts_39 : decode cX5_sumCosts 39 = .ok (.getfield 15, 3) := by decide +kernel
theorem dX5_sumCosts_42 : decode cX5_sumCosts 42 = .ok (.arraylength, 1) := by decide +kernel
theorem dX5_sumCosts_43 : decode cX5_sumCosts 43 = .ok (.if_icmp .ge 59, 3) := by decide +kernel
theorem dX5_sumCosts_46 : decode cX5_sumCosts 46 = .ok (.iload 4, 2) := by decide +kernel
theorem dX5_sumCosts_48 : decode cX5_sumCosts 48 = .ok (.aload_n 0, 1) := by decide +kernel
theorem dX5_sumCosts_49 : decode cX5_sumCosts 49 = .ok (.getfield 18, 3) := by decide +kernel
theorem dX5_sumCosts_52 : decode cX5_sumCosts 52 = .ok (.arraylength, 1) := by decide +kernel
theorem dX5_sumCosts_53 : decode cX5_sumCosts 53 = .ok (.if_icmp .ge 49, 3) := by decide +kernel
theorem dX5_sumCosts_56 : decode cX5_sumCosts 56 = .ok (.aload_n 0, 1) := by decide +kernel
theorem dX5_sumCosts_57 : decode cX5_sumCosts 57 = .ok (.getfield 15, 3) := by decide +kernel
theorem dX5_sumCosts_60 : decode cX5_sumCosts 60 = .ok (.iload 4, 2) := by decide +kernel
theorem dX5_sumCosts_62 : decode cX5_sumCosts 62 = .ok (.aload_n 0, 1) := by decide +kernel
theorem dX5_sumCosts_63 : decode cX5_sumCosts 63 = .ok (.getfield 15, 3) := by decide +kernel
theorem dX5_sumCosts_66 : decode cX5_sumCosts 66 = .ok (.iload 5, 2) := by decide +kernel
theorem dX5_sumCosts_68 : decode cX5_sumCosts 68 = .ok (.iaload, 1) := by decide +kernel
theorem dX5_sumCosts_69 : decode cX5_sumCosts 69 = .ok (.aload_n 1, 1) := by decide +kernel
theorem dX5_sumCosts_70 : decode cX5_sumCosts 70 = .ok (.iload_n 2, 1) := by decide +kernel
theorem dX5_sumCosts_71 : decode cX5_sumCosts 71 = .ok (.iload 6, 2) := by decide +kernel
theorem dX5_sumCosts_73 : decode cX5_sumCosts 73 = .ok (.invokevirtual 49, 3) := by decide +kernel
theorem dX5_sumCosts_76 : decode cX5_sumCosts 76 = .ok (.iadd, 1) := by decide +kernel
theorem dX5_sumCosts_77 : decode cX5_sumCosts 77 = .ok (.iastore, 1) := by decide +kernel
theorem dX5_sumCosts_78 : decode cX5_sumCosts 78 = .ok (.aload_n 0, 1) := by decide +kernel
theorem dX5_sumCosts_79 : decode cX5_sumCosts 79 = .ok (.getfield 18, 3) := by decide +kernel
theorem dX5_sumCosts_82 : decode cX5_sumCosts 82 = .ok (.iload 4, 2) := by decide +kernel
theorem dX5_sumCosts_84 : decode cX5_sumCosts 84 = .ok (.aload_n 0, 1) := by decide +kernel
theorem dX5_sumCosts_85 : decode cX5_sumCosts 85 = .ok (.getfield 18, 3) := by decide +kernel
theorem dX5_sumCosts_88 : decode cX5_sumCosts 88 = .ok (.iload 5, 2) := by decide +kernel
theorem dX5_sumCosts_90 : decode cX5_sumCosts 90 = .ok (.iaload, 1) := by decide +kernel
theorem dX5_sumCosts_91 : decode cX5_sumCosts 91 = .ok (.aload_n 1, 1) := by decide +kernel
theorem dX5_sumCosts_92 : decode cX5_sumCosts 92 = .ok (.iload_n 2, 1) := by decide +kernel
theorem dX5_sumCosts_93 : decode cX5_sumCosts 93 = .ok (.iload 6, 2) := by decide +kernel
theorem dX5_sumCosts_95 : decode cX5_sumCosts 95 = .ok (.iconst 5, 1) := by decide +kernel
theorem dX5_sumCosts_96 : decode cX5_sumCosts 96 = .ok (.iadd, 1) := by decide +kernel
theorem dX5_sumCosts_97 : decode cX5_sumCosts 97 = .ok (.invokevirtual 49, 3) := by decide +kernel
theorem dX5_sumCosts_100 : decode cX5_sumCosts 100 = .ok (.iadd, 1) := by decide +kernel
theorem dX5_sumCosts_101 : decode cX5_sumCosts 101 = .ok (.iastore, 1) := by decide +kernel
theorem dX5_sumCosts_102 : decode cX5_sumCosts 102 = .ok (.return_, 1) := by decide +kernel
theorem dX5_leastWithin_0 : decode cX5_leastWithin 0 = .ok (.ldc 54, 2) := by decide +kernel
theorem dX5_leastWithin_2 : decode cX5_leastWithin 2 = .ok (.istore_n 3, 1) := by decide +kernel
theorem dX5_leastWithin_3 : decode cX5_leastWithin 3 = .ok (.iconst 0, 1) := by decide +kernel
theorem dX5_leastWithin_4 : decode cX5_leastWithin 4 = .ok (.istore 4, 2) := by decide +kernel
theorem dX5_leastWithin_6 : decode cX5_leastWithin 6 = .ok (.iload 4, 2) := by decide +kernel
theorem dX5_leastWithin_8 : decode cX5_leastWithin 8 = .ok (.iload_n 1, 1) := by decide +kernel
theorem dX5_leastWithin_9 : decode cX5_leastWithin 9 = .ok (.if_icmp .ge 30, 3) := by decide +kernel
theorem dX5_leastWithin_12 : decode cX5_leastWithin 12 = .ok (.iload_n 2, 1) := by decide +kernel
theorem dX5_leastWithin_13 : decode cX5_leastWithin 13 = .ok (.iload 4, 2) := by decide +kernel
theorem dX5_leastWithin_15 : decode cX5_leastWithin 15 = .ok (.invokestatic 55, 3) := by decide +kernel
theorem dX5_leastWithin_18 : decode cX5_leastWithin 18 = .ok (.ifCond .eq 15, 3) := by decide +kernel
theorem dX5_leastWithin_21 : decode cX5_leastWithin 21 = .ok (.iload_n 3, 1) := by decide +kernel
theorem dX5_leastWithin_22 : decode cX5_leastWithin 22 = .ok (.aload_n 0, 1) := by decide +kernel
theorem dX5_leastWithin_23 : decode cX5_leastWithin 23 = .ok (.iload_n 2, 1) := by decide +kernel
theorem dX5_leastWithin_24 : decode cX5_leastWithin 24 = .ok (.iload 4, 2) := by decide +kernel
theorem dX5_leastWithin_26 : decode cX5_leastWithin 26 = .ok (.invokevirtual 59, 3) := by decide +kernel
theorem dX5_leastWithin_29 : decode cX5_leastWithin 29 = .ok (.invokestatic 62, 3) := by decide +kernel
theorem dX5_leastWithin_32 : decode cX5_leastWithin 32 = .ok (.istore_n 3, 1) := by decide +kernel
theorem dX5_leastWithin_33 : decode cX5_leastWithin 33 = .ok (.iinc 4 1, 3) := by decide +kernel
theorem dX5_leastWithin_36 : decode cX5_leastWithin 36 = .ok (.goto (-30), 3) := by decide +kernel
theorem dX5_leastWithin_39 : decode cX5_leastWithin 39 = .ok (.iload_n 3, 1) := by decide +kernel
theorem dX5_leastWithin_40 : decode cX5_leastWithin 40 = .ok (.ireturn, 1) := by decide +kernel
theorem dX5_costWithFirst_0 : decode cX5_costWithFirst 0 = .ok (.iload_n 2, 1) := by decide +kernel
theorem dX5_costWithFirst_1 : decode cX5_costWithFirst 1 = .ok (.iconst 5, 1) := by decide +kernel
theorem dX5_costWithFirst_2 : decode cX5_costWithFirst 2 = .ok (.ishl, 1) := by decide +kernel
theorem dX5_costWithFirst_3 : decode cX5_costWithFirst 3 = .ok (.iload_n 1, 1) := by decide +kernel
theorem dX5_costWithFirst_4 : decode cX5_costWithFirst 4 = .ok (.bipush 31, 2) := by decide +kernel
theorem dX5_costWithFirst_6 : decode cX5_costWithFirst 6 = .ok (.iand, 1) := by decide +kernel
theorem dX5_costWithFirst_7 : decode cX5_costWithFirst 7 = .ok (.iadd, 1) := by decide +kernel
theorem dX5_costWithFirst_8 : decode cX5_costWithFirst 8 = .ok (.istore_n 3, 1) := by decide +kernel
theorem dX5_costWithFirst_9 : decode cX5_costWithFirst 9 = .ok (.iload_n 2, 1) := by decide +kernel
theorem dX5_costWithFirst_10 : decode cX5_costWithFirst 10 = .ok (.iconst 5, 1) := by decide +kernel
theorem dX5_costWithFirst_11 : decode cX5_costWithFirst 11 = .ok (.ishl, 1) := by decide +kernel
theorem dX5_costWithFirst_12 : decode cX5_costWithFirst 12 = .ok (.iload_n 1, 1) := by decide +kernel
theorem dX5_costWithFirst_13 : decode cX5_costWithFirst 13 = .ok (.iconst 5, 1) := by decide +kernel
theorem dX5_costWithFirst_14 : decode cX5_costWithFirst 14 = .ok (.ishr, 1) := by decide +kernel
theorem dX5_costWithFirst_15 : decode cX5_costWithFirst 15 = .ok (.iadd, 1) := by decide +kernel
theorem dX5_costWithFirst_16 : decode cX5_costWithFirst 16 = .ok (.istore 4, 2) := by decide +kernel
theorem dX5_costWithFirst_18 : decode cX5_costWithFirst 18 = .ok (.iload_n 3, 1) := by decide +kernel
theorem dX5_costWithFirst_19 : decode cX5_costWithFirst 19 = .ok (.ifCond .lt 27, 3) := by decide +kernel
theorem dX5_costWithFirst_22 : decode cX5_costWithFirst 22 = .ok (.iload_n 3, 1) := by decide +kernel
theorem dX5_costWithFirst_23 : decode cX5_costWithFirst 23 = .ok (.aload_n 0, 1) := by decide +kernel
theorem dX5_costWithFirst_24 : decode cX5_costWithFirst 24 = .ok (.getfield 15, 3) := by decide +kernel
theorem dX5_costWithFirst_27 : decode cX5_costWithFirst 27 = .ok (.arraylength, 1) := by decide +kernel
theorem dX5_costWithFirst_28 : decode cX5_costWithFirst 28 = .ok (.if_icmp .ge 18, 3) := by decide +kernel
theorem dX5_costWithFirst_31 : decode cX5_costWithFirst 31 = .ok (.iload 4, 2) := by decide +kernel
theorem dX5_costWithFirst_33 : decode cX5_costWithFirst 33 = .ok (.ifCond .lt 13, 3) := by decide +kernel
theorem dX5_costWithFirst_36 : decode cX5_costWithFirst 36 = .ok (.iload 4, 2) := by decide +kernel
theorem dX5_costWithFirst_38 : decode cX5_costWithFirst 38 = .ok (.aload_n 0, 1) := by decide +kernel
theorem dX5_costWithFirst_39 : decode cX5_costWithFirst 39 = .ok (.getfield 18, 3) := by decide +kernel
theorem dX5_costWithFirst_42 : decode cX5_costWithFirst 42 = .ok (.arraylength, 1) := by decide +kernel
theorem dX5_costWithFirst_43 : decode cX5_costWithFirst 43 = .ok (.if_icmp .lt 5, 3) := by decide +kernel
theorem dX5_costWithFirst_46 : decode cX5_costWithFirst 46 = .ok (.iconst 0, 1) := by decide +kernel
theorem dX5_costWithFirst_47 : decode cX5_costWithFirst 47 = .ok (.ireturn, 1) := by decide +kernel
theorem dX5_costWithFirst_48 : decode cX5_costWithFirst 48 = .ok (.aload_n 0, 1) := by decide +kernel
theorem dX5_costWithFirst_49 : decode cX5_costWithFirst 49 = .ok (.iload_n 1, 1) := by decide +kernel
theorem dX5_costWithFirst_50 : decode cX5_costWithFirst 50 = .ok (.iload_n 2, 1) := by decide +kernel
theorem dX5_costWithFirst_51 : decode cX5_costWithFirst 51 = .ok (.invokestatic 67, 3) := by decide +kernel
theorem dX5_costWithFirst_54 : decode cX5_costWithFirst 54 = .ok (.invokevirtual 70, 3) := by decide +kernel
theorem dX5_costWithFirst_57 : decode cX5_costWithFirst 57 = .ok (.aload_n 0, 1) := by decide +kernel
theorem dX5_costWithFirst_58 : decode cX5_costWithFirst 58 = .ok (.getfield 15, 3) := by decide +kernel
theorem dX5_costWithFirst_61 : decode cX5_costWithFirst 61 = .ok (.iload_n 3, 1) := by decide +kernel
theorem dX5_costWithFirst_62 : decode cX5_costWithFirst 62 = .ok (.iaload, 1) := by decide +kernel
theorem dX5_costWithFirst_63 : decode cX5_costWithFirst 63 = .ok (.iadd, 1) := by decide +kernel
theorem dX5_costWithFirst_64 : decode cX5_costWithFirst 64 = .ok (.aload_n 0, 1) := by decide +kernel
theorem dX5_costWithFirst_65 : decode cX5_costWithFirst 65 = .ok (.getfield 18, 3) := by decide +kernel
theorem dX5_costWithFirst_68 : decode cX5_costWithFirst 68 = .ok (.iload 4, 2) := by decide +kernel
theorem dX5_costWithFirst_70 : decode cX5_costWithFirst 70 = .ok (.iaload, 1) := by decide +kernel
theorem dX5_costWithFirst_71 : decode cX5_costWithFirst 71 = .ok (.iadd, 1) := by decide +kernel
theorem dX5_costWithFirst_72 : decode cX5_costWithFirst 72 = .ok (.ireturn, 1) := by decide +kernel
theorem dX5_leastFor_0 : decode cX5_leastFor 0 = .ok (.iload_n 1, 1) := by decide +kernel
theorem dX5_leastFor_1 : decode cX5_leastFor 1 = .ok (.ifCond .lt 21, 3) := by decide +kernel
theorem dX5_leastFor_4 : decode cX5_leastFor 4 = .ok (.iload_n 1, 1) := by decide +kernel
theorem dX5_leastFor_5 : decode cX5_leastFor 5 = .ok (.aload_n 0, 1) := by decide +kernel
theorem dX5_leastFor_6 : decode cX5_leastFor 6 = .ok (.getfield 9, 3) := by decide +kernel
theorem dX5_leastFor_9 : decode cX5_leastFor 9 = .ok (.arraylength, 1) := by decide +kernel
theorem dX5_leastFor_10 : decode cX5_leastFor 10 = .ok (.if_icmp .ge 12, 3) := by decide +kernel
theorem dX5_leastFor_13 : decode cX5_leastFor 13 = .ok (.aload_n 0, 1) := by decide +kernel
theorem dX5_leastFor_14 : decode cX5_leastFor 14 = .ok (.getfield 9, 3) := by decide +kernel
theorem dX5_leastFor_17 : decode cX5_leastFor 17 = .ok (.iload_n 1, 1) := by decide +kernel
theorem dX5_leastFor_18 : decode cX5_leastFor 18 = .ok (.iaload, 1) := by decide +kernel
theorem dX5_leastFor_19 : decode cX5_leastFor 19 = .ok (.goto 4, 3) := by decide +kernel
theorem dX5_leastFor_22 : decode cX5_leastFor 22 = .ok (.iconst 0, 1) := by decide +kernel
theorem dX5_leastFor_23 : decode cX5_leastFor 23 = .ok (.ireturn, 1) := by decide +kernel
theorem dX5_firstOnesWithin_0 : decode cX5_firstOnesWithin 0 = .ok (.iconst 0, 1) := by decide +kernel
theorem dX5_firstOnesWithin_1 : decode cX5_firstOnesWithin 1 = .ok (.istore_n 3, 1) := by decide +kernel
theorem dX5_firstOnesWithin_2 : decode cX5_firstOnesWithin 2 = .ok (.iconst 0, 1) := by decide +kernel
theorem dX5_firstOnesWithin_3 : decode cX5_firstOnesWithin 3 = .ok (.istore 4, 2) := by decide +kernel
theorem dX5_firstOnesWithin_5 : decode cX5_firstOnesWithin 5 = .ok (.iload 4, 2) := by decide +kernel
theorem dX5_firstOnesWithin_7 : decode cX5_firstOnesWithin 7 = .ok (.iload_n 1, 1) := by decide +kernel
theorem dX5_firstOnesWithin_8 : decode cX5_firstOnesWithin 8 = .ok (.if_icmp .ge 41, 3) := by decide +kernel
theorem dX5_firstOnesWithin_11 : decode cX5_firstOnesWithin 11 = .ok (.iload_n 2, 1) := by decide +kernel
theorem dX5_firstOnesWithin_12 : decode cX5_firstOnesWithin 12 = .ok (.iload 4, 2) := by decide +kernel
theorem dX5_firstOnesWithin_14 : decode cX5_firstOnesWithin 14 = .ok (.invokestatic 55, 3) := by decide +kernel
theorem dX5_firstOnesWithin_17 : decode cX5_firstOnesWithin 17 = .ok (.ifCond .eq 26, 3) := by decide +kernel
theorem dX5_firstOnesWithin_20 : decode cX5_firstOnesWithin 20 = .ok (.aload_n 0, 1) := by decide +kernel
theorem dX5_firstOnesWithin_21 : decode cX5_firstOnesWithin 21 = .ok (.iload_n 2, 1) := by decide +kernel
theorem dX5_firstOnesWithin_22 : decode cX5_firstOnesWithin 22 = .ok (.iload 4, 2) := by decide +kernel
theorem dX5_firstOnesWithin_24 : decode cX5_firstOnesWithin 24 = .ok (.invokevirtual 59, 3) := by decide +kernel
theorem dX5_firstOnesWithin_27 : decode cX5_firstOnesWithin 27 = .ok (.aload_n 0, 1) := by decide +kernel
theorem dX5_firstOnesWithin_28 : decode cX5_firstOnesWithin 28 = .ok (.iload_n 2, 1) := by decide +kernel
theorem dX5_firstOnesWithin_29 : decode cX5_firstOnesWithin 29 = .ok (.invokevirtual 70, 3) := by decide +kernel
theorem dX5_firstOnesWithin_32 : decode cX5_firstOnesWithin 32 = .ok (.if_icmp .ne 11, 3) := by decide +kernel
theorem dX5_firstOnesWithin_35 : decode cX5_firstOnesWithin 35 = .ok (.iload_n 3, 1) := by decide +kernel
theorem dX5_firstOnesWithin_36 : decode cX5_firstOnesWithin 36 = .ok (.iload 4, 2) := by decide +kernel
theorem dX5_firstOnesWithin_38 : decode cX5_firstOnesWithin 38 = .ok (.invokestatic 73, 3) := by decide +kernel
theorem dX5_firstOnesWithin_41 : decode cX5_firstOnesWithin 41 = .ok (.ior, 1) := by decide +kernel
theorem dX5_firstOnesWithin_42 : decode cX5_firstOnesWithin 42 = .ok (.istore_n 3, 1) := by decide +kernel
theorem dX5_firstOnesWithin_43 : decode cX5_firstOnesWithin 43 = .ok (.iinc 4 1, 3) := by decide +kernel
theorem dX5_firstOnesWithin_46 : decode cX5_firstOnesWithin 46 = .ok (.goto (-41), 3) := by decide +kernel
theorem dX5_firstOnesWithin_49 : decode cX5_firstOnesWithin 49 = .ok (.iload_n 3, 1) := by decide +kernel
theorem dX5_firstOnesWithin_50 : decode cX5_firstOnesWithin 50 = .ok (.ireturn, 1) := by decide +kernel
theorem dX5_leastCostOf_0 : decode cX5_leastCostOf 0 = .ok (.aload_n 0, 1) := by decide +kernel
theorem dX5_leastCostOf_1 : decode cX5_leastCostOf 1 = .ok (.aload_n 1, 1) := by decide +kernel
theorem dX5_leastCostOf_2 : decode cX5_leastCostOf 2 = .ok (.invokevirtual 76, 3) := by decide +kernel
theorem dX5_leastCostOf_5 : decode cX5_leastCostOf 5 = .ok (.aload_n 0, 1) := by decide +kernel
theorem dX5_leastCostOf_6 : decode cX5_leastCostOf 6 = .ok (.aload_n 1, 1) := by decide +kernel
theorem dX5_leastCostOf_7 : decode cX5_leastCostOf 7 = .ok (.invokevirtual 38, 3) := by decide +kernel
theorem dX5_leastCostOf_10 : decode cX5_leastCostOf 10 = .ok (.invokevirtual 70, 3) := by decide +kernel
theorem dX5_leastCostOf_13 : decode cX5_leastCostOf 13 = .ok (.ireturn, 1) := by decide +kernel
theorem dX5_firstOnes_0 : decode cX5_firstOnes 0 = .ok (.aload_n 0, 1) := by decide +kernel
theorem dX5_firstOnes_1 : decode cX5_firstOnes 1 = .ok (.aload_n 1, 1) := by decide +kernel
theorem dX5_firstOnes_2 : decode cX5_firstOnes 2 = .ok (.invokevirtual 76, 3) := by decide +kernel
theorem dX5_firstOnes_5 : decode cX5_firstOnes 5 = .ok (.aload_n 0, 1) := by decide +kernel
theorem dX5_firstOnes_6 : decode cX5_firstOnes 6 = .ok (.aload_n 1, 1) := by decide +kernel
theorem dX5_firstOnes_7 : decode cX5_firstOnes 7 = .ok (.invokevirtual 31, 3) := by decide +kernel
theorem dX5_firstOnes_10 : decode cX5_firstOnes 10 = .ok (.aload_n 1, 1) := by decide +kernel
theorem dX5_firstOnes_11 : decode cX5_firstOnes 11 = .ok (.invokevirtual 38, 3) := by decide +kernel
theorem dX5_firstOnes_14 : decode cX5_firstOnes 14 = .ok (.invokevirtual 80, 3) := by decide +kernel
theorem dX5_firstOnes_17 : decode cX5_firstOnes 17 = .ok (.ireturn, 1) := by decide +kernel
theorem dX5_playerAt_0 : decode cX5_playerAt 0 = .ok (.aload_n 0, 1) := by decide +kernel
theorem dX5_playerAt_1 : decode cX5_playerAt 1 = .ok (.aload_n 1, 1) := by decide +kernel
theorem dX5_playerAt_2 : decode cX5_playerAt 2 = .ok (.invokevirtual 76, 3) := by decide +kernel
theorem dX5_playerAt_5 : decode cX5_playerAt 5 = .ok (.aload_n 1, 1) := by decide +kernel
theorem dX5_playerAt_6 : decode cX5_playerAt 6 = .ok (.invokevirtual 38, 3) := by decide +kernel
theorem dX5_playerAt_9 : decode cX5_playerAt 9 = .ok (.istore_n 3, 1) := by decide +kernel
theorem dX5_playerAt_10 : decode cX5_playerAt 10 = .ok (.iconst 0, 1) := by decide +kernel
theorem dX5_playerAt_11 : decode cX5_playerAt 11 = .ok (.istore 4, 2) := by decide +kernel
theorem dX5_playerAt_13 : decode cX5_playerAt 13 = .ok (.iload 4, 2) := by decide +kernel
theorem dX5_playerAt_15 : decode cX5_playerAt 15 = .ok (.iload_n 2, 1) := by decide +kernel
theorem dX5_playerAt_16 : decode cX5_playerAt 16 = .ok (.if_icmp .ge 33, 3) := by decide +kernel
theorem dX5_playerAt_19 : decode cX5_playerAt 19 = .ok (.iload 4, 2) := by decide +kernel
theorem dX5_playerAt_21 : decode cX5_playerAt 21 = .ok (.bipush 10, 2) := by decide +kernel
theorem dX5_playerAt_23 : decode cX5_playerAt 23 = .ok (.if_icmp .ge 26, 3) := by decide +kernel
theorem dX5_playerAt_26 : decode cX5_playerAt 26 = .ok (.iload_n 3, 1) := by decide +kernel
theorem dX5_playerAt_27 : decode cX5_playerAt 27 = .ok (.aload_n 0, 1) := by decide +kernel
theorem dX5_playerAt_28 : decode cX5_playerAt 28 = .ok (.aload_n 1, 1) := by decide +kernel
theorem dX5_playerAt_29 : decode cX5_playerAt 29 = .ok (.invokevirtual 31, 3) := by decide +kernel
theorem dX5_playerAt_32 : decode cX5_playerAt 32 = .ok (.iload_n 3, 1) := by decide +kernel
theorem dX5_playerAt_33 : decode cX5_playerAt 33 = .ok (.invokevirtual 80, 3) := by decide +kernel
theorem dX5_playerAt_36 : decode cX5_playerAt 36 = .ok (.invokestatic 45, 3) := by decide +kernel
theorem dX5_playerAt_39 : decode cX5_playerAt 39 = .ok (.invokestatic 67, 3) := by decide +kernel
theorem dX5_playerAt_42 : decode cX5_playerAt 42 = .ok (.istore_n 3, 1) := by decide +kernel
theorem dX5_playerAt_43 : decode cX5_playerAt 43 = .ok (.iinc 4 1, 3) := by decide +kernel
theorem dX5_playerAt_46 : decode cX5_playerAt 46 = .ok (.goto (-33), 3) := by decide +kernel
theorem dX5_playerAt_49 : decode cX5_playerAt 49 = .ok (.aload_n 0, 1) := by decide +kernel
theorem dX5_playerAt_50 : decode cX5_playerAt 50 = .ok (.aload_n 1, 1) := by decide +kernel
theorem dX5_playerAt_51 : decode cX5_playerAt 51 = .ok (.invokevirtual 31, 3) := by decide +kernel
theorem dX5_playerAt_54 : decode cX5_playerAt 54 = .ok (.iload_n 3, 1) := by decide +kernel
theorem dX5_playerAt_55 : decode cX5_playerAt 55 = .ok (.invokevirtual 80, 3) := by decide +kernel
theorem dX5_playerAt_58 : decode cX5_playerAt 58 = .ok (.invokestatic 45, 3) := by decide +kernel
theorem dX5_playerAt_61 : decode cX5_playerAt 61 = .ok (.ireturn, 1) := by decide +kernel
theorem dX6_init_0 : decode cX6_init 0 = .ok (.aload_n 0, 1) := by decide +kernel
theorem dX6_init_1 : decode cX6_init 1 = .ok (.invokespecial 3, 3) := by decide +kernel
theorem dX6_init_4 : decode cX6_init 4 = .ok (.aload_n 0, 1) := by decide +kernel
theorem dX6_init_5 : decode cX6_init 5 = .ok (.bipush 10, 2) := by decide +kernel
theorem dX6_init_7 : decode cX6_init 7 = .ok (.newarray .int, 2) := by decide +kernel
theorem dX6_init_9 : decode cX6_init 9 = .ok (.putfield 9, 3) := by decide +kernel
theorem dX6_init_12 : decode cX6_init 12 = .ok (.aload_n 0, 1) := by decide +kernel
theorem dX6_init_13 : decode cX6_init 13 = .ok (.sipush 10240, 3) := by decide +kernel
theorem dX6_init_16 : decode cX6_init 16 = .ok (.newarray .int, 2) := by decide +kernel
theorem dX6_init_18 : decode cX6_init 18 = .ok (.putfield 15, 3) := by decide +kernel
theorem dX6_init_21 : decode cX6_init 21 = .ok (.return_, 1) := by decide +kernel
theorem dX6_playerAt_0 : decode cX6_playerAt 0 = .ok (.iload_n 1, 1) := by decide +kernel
theorem dX6_playerAt_1 : decode cX6_playerAt 1 = .ok (.ifCond .lt 21, 3) := by decide +kernel
theorem dX6_playerAt_4 : decode cX6_playerAt 4 = .ok (.iload_n 1, 1) := by decide +kernel
theorem dX6_playerAt_5 : decode cX6_playerAt 5 = .ok (.aload_n 0, 1) := by decide +kernel
theorem dX6_playerAt_6 : decode cX6_playerAt 6 = .ok (.getfield 9, 3) := by decide +kernel
theorem dX6_playerAt_9 : decode cX6_playerAt 9 = .ok (.arraylength, 1) := by decide +kernel
theorem dX6_playerAt_10 : decode cX6_playerAt 10 = .ok (.if_icmp .ge 12, 3) := by decide +kernel
theorem dX6_playerAt_13 : decode cX6_playerAt 13 = .ok (.aload_n 0, 1) := by decide +kernel
theorem dX6_playerAt_14 : decode cX6_playerAt 14 = .ok (.getfield 9, 3) := by decide +kernel
theorem dX6_playerAt_17 : decode cX6_playerAt 17 = .ok (.iload_n 1, 1) := by decide +kernel
theorem dX6_playerAt_18 : decode cX6_playerAt 18 = .ok (.iaload, 1) := by decide +kernel
theorem dX6_playerAt_19 : decode cX6_playerAt 19 = .ok (.goto 5, 3) := by decide +kernel
theorem dX6_playerAt_22 : decode cX6_playerAt 22 = .ok (.bipush (-4), 2) := by decide +kernel
theorem dX6_playerAt_24 : decode cX6_playerAt 24 = .ok (.ireturn, 1) := by decide +kernel
theorem dX6_put_0 : decode cX6_put 0 = .ok (.iload_n 1, 1) := by decide +kernel
theorem dX6_put_1 : decode cX6_put 1 = .ok (.ifCond .lt 19, 3) := by decide +kernel
theorem dX6_put_4 : decode cX6_put 4 = .ok (.iload_n 1, 1) := by decide +kernel
theorem dX6_put_5 : decode cX6_put 5 = .ok (.aload_n 0, 1) := by decide +kernel
theorem dX6_put_6 : decode cX6_put 6 = .ok (.getfield 9, 3) := by decide +kernel
theorem dX6_put_9 : decode cX6_put 9 = .ok (.arraylength, 1) := by decide +kernel
theorem dX6_put_10 : decode cX6_put 10 = .ok (.if_icmp .ge 10, 3) := by decide +kernel
theorem dX6_put_13 : decode cX6_put 13 = .ok (.aload_n 0, 1) := by decide +kernel
theorem dX6_put_14 : decode cX6_put 14 = .ok (.getfield 9, 3) := by decide +kernel
theorem dX6_put_17 : decode cX6_put 17 = .ok (.iload_n 1, 1) := by decide +kernel
theorem dX6_put_18 : decode cX6_put 18 = .ok (.iload_n 2, 1) := by decide +kernel
theorem dX6_put_19 : decode cX6_put 19 = .ok (.iastore, 1) := by decide +kernel
theorem dX6_put_20 : decode cX6_put 20 = .ok (.return_, 1) := by decide +kernel
theorem dX6_stepsBetween_0 : decode cX6_stepsBetween 0 = .ok (.iload_n 1, 1) := by decide +kernel
theorem dX6_stepsBetween_1 : decode cX6_stepsBetween 1 = .ok (.invokestatic 18, 3) := by decide +kernel
theorem dX6_stepsBetween_4 : decode cX6_stepsBetween 4 = .ok (.istore_n 3, 1) := by decide +kernel
theorem dX6_stepsBetween_5 : decode cX6_stepsBetween 5 = .ok (.iconst 0, 1) := by decide +kernel
theorem dX6_stepsBetween_6 : decode cX6_stepsBetween 6 = .ok (.istore 4, 2) := by decide +kernel
theorem dX6_stepsBetween_8 : decode cX6_stepsBetween 8 = .ok (.iload 4, 2) := by decide +kernel
theorem dX6_stepsBetween_10 : decode cX6_stepsBetween 10 = .ok (.aload_n 0, 1) := by decide +kernel
theorem dX6_stepsBetween_11 : decode cX6_stepsBetween 11 = .ok (.invokevirtual 22, 3) := by decide +kernel
theorem dX6_stepsBetween_14 : decode cX6_stepsBetween 14 = .ok (.if_icmp .ge 28, 3) := by decide +kernel
theorem dX6_stepsBetween_17 : decode cX6_stepsBetween 17 = .ok (.iload_n 3, 1) := by decide +kernel
theorem dX6_stepsBetween_18 : decode cX6_stepsBetween 18 = .ok (.iload_n 2, 1) := by decide +kernel
theorem dX6_stepsBetween_19 : decode cX6_stepsBetween 19 = .ok (.invokestatic 28, 3) := by decide +kernel
theorem dX6_stepsBetween_22 : decode cX6_stepsBetween 22 = .ok (.ifCond .eq 6, 3) := by decide +kernel
theorem dX6_stepsBetween_25 : decode cX6_stepsBetween 25 = .ok (.iload 4, 2) := by decide +kernel
theorem dX6_stepsBetween_27 : decode cX6_stepsBetween 27 = .ok (.ireturn, 1) := by decide +kernel
theorem dX6_stepsBetween_28 : decode cX6_stepsBetween 28 = .ok (.iload_n 3, 1) := by decide +kernel
theorem dX6_stepsBetween_29 : decode cX6_stepsBetween 29 = .ok (.aload_n 0, 1) := by decide +kernel
theorem dX6_stepsBetween_30 : decode cX6_stepsBetween 30 = .ok (.iload_n 3, 1) := by decide +kernel
theorem dX6_stepsBetween_31 : decode cX6_stepsBetween 31 = .ok (.invokestatic 32, 3) := by decide +kernel
theorem dX6_stepsBetween_34 : decode cX6_stepsBetween 34 = .ok (.ior, 1) := by decide +kernel
theorem dX6_stepsBetween_35 : decode cX6_stepsBetween 35 = .ok (.istore_n 3, 1) := by decide +kernel
theorem dX6_stepsBetween_36 : decode cX6_stepsBetween 36 = .ok (.iinc 4 1, 3) := by decide +kernel
theorem dX6_stepsBetween_39 : decode cX6_stepsBetween 39 = .ok (.goto (-31), 3) := by decide +kernel
theorem dX6_stepsBetween_42 : decode cX6_stepsBetween 42 = .ok (.bipush (-4), 2) := by decide +kernel
theorem dX6_stepsBetween_44 : decode cX6_stepsBetween 44 = .ok (.ireturn, 1) := by decide +kernel
theorem dX6_beatenByAny_0 : decode cX6_beatenByAny 0 = .ok (.iconst 0, 1) := by decide +kernel
theorem dX6_beatenByAny_1 : decode cX6_beatenByAny 1 = .ok (.istore_n 2, 1) := by decide +kernel
theorem dX6_beatenByAny_2 : decode cX6_beatenByAny 2 = .ok (.iconst 0, 1) := by decide +kernel
theorem dX6_beatenByAny_3 : decode cX6_beatenByAny 3 = .ok (.istore_n 3, 1) := by decide +kernel
theorem dX6_beatenByAny_4 : decode cX6_beatenByAny 4 = .ok (.iload_n 3, 1) := by decide +kernel
theorem dX6_beatenByAny_5 : decode cX6_beatenByAny 5 = .ok (.aload_n 0, 1) := by decide +kernel
theorem dX6_beatenByAny_6 : decode cX6_beatenByAny 6 = .ok (.invokevirtual 22, 3) := by decide +kernel
theorem dX6_beatenByAny_9 : decode cX6_beatenByAny 9 = .ok (.if_icmp .ge 25, 3) := by decide +kernel
theorem dX6_beatenByAny_12 : decode cX6_beatenByAny 12 = .ok (.iload_n 1, 1) := by decide +kernel
theorem dX6_beatenByAny_13 : decode cX6_beatenByAny 13 = .ok (.iload_n 3, 1) := by decide +kernel
theorem dX6_beatenByAny_14 : decode cX6_beatenByAny 14 = .ok (.invokestatic 28, 3) := by decide +kernel
theorem dX6_beatenByAny_17 : decode cX6_beatenByAny 17 = .ok (.ifCond .eq 11, 3) := by decide +kernel
theorem dX6_beatenByAny_20 : decode cX6_beatenByAny 20 = .ok (.iload_n 2, 1) := by decide +kernel
theorem dX6_beatenByAny_21 : decode cX6_beatenByAny 21 = .ok (.aload_n 0, 1) := by decide +kernel
theorem dX6_beatenByAny_22 : decode cX6_beatenByAny 22 = .ok (.iload_n 3, 1) := by decide +kernel
theorem dX6_beatenByAny_23 : decode cX6_beatenByAny 23 = .ok (.invokevirtual 36, 3) := by decide +kernel
theorem dX6_beatenByAny_26 : decode cX6_beatenByAny 26 = .ok (.ior, 1) := by decide +kernel
theorem dX6_beatenByAny_27 : decode cX6_beatenByAny 27 = .ok (.istore_n 2, 1) := by decide +kernel
theorem dX6_beatenByAny_28 : decode cX6_beatenByAny 28 = .ok (.iinc 3 1, 3) := by decide +kernel
theorem dX6_beatenByAny_31 : decode cX6_beatenByAny 31 = .ok (.goto (-27), 3) := by decide +kernel
theorem dX6_beatenByAny_34 : decode cX6_beatenByAny 34 = .ok (.iload_n 2, 1) := by decide +kernel
theorem dX6_beatenByAny_35 : decode cX6_beatenByAny 35 = .ok (.ireturn, 1) := by decide +kernel
theorem dX6_findShortest_0 : decode cX6_findShortest 0 = .ok (.aload_n 1, 1) := by decide +kernel
theorem dX6_findShortest_1 : decode cX6_findShortest 1 = .ok (.iload_n 2, 1) := by decide +kernel
theorem dX6_findShortest_2 : decode cX6_findShortest 2 = .ok (.iload_n 3, 1) := by decide +kernel
theorem dX6_findShortest_3 : decode cX6_findShortest 3 = .ok (.invokestatic 39, 3) := by decide +kernel
theorem dX6_findShortest_6 : decode cX6_findShortest 6 = .ok (.istore 4, 2) := by decide +kernel
theorem dX6_findShortest_8 : decode cX6_findShortest 8 = .ok (.aload_n 0, 1) := by decide +kernel
theorem dX6_findShortest_9 : decode cX6_findShortest 9 = .ok (.iconst 0, 1) := by decide +kernel
theorem dX6_findShortest_10 : decode cX6_findShortest 10 = .ok (.iload_n 2, 1) := by decide +kernel
theorem dX6_findShortest_11 : decode cX6_findShortest 11 = .ok (.invokevirtual 43, 3) := by decide +kernel
theorem dX6_findShortest_14 : decode cX6_findShortest 14 = .ok (.iconst 1, 1) := by decide +kernel
theorem dX6_findShortest_15 : decode cX6_findShortest 15 = .ok (.istore 5, 2) := by decide +kernel
theorem dX6_findShortest_17 : decode cX6_findShortest 17 = .ok (.iload 5, 2) := by decide +kernel
theorem dX6_findShortest_19 : decode cX6_findShortest 19 = .ok (.iload 4, 2) := by decide +kernel
theorem dX6_findShortest_21 : decode cX6_findShortest 21 = .ok (.if_icmp .gt 40, 3) := by decide +kernel
theorem dX6_findShortest_24 : decode cX6_findShortest 24 = .ok (.iload 5, 2) := by decide +kernel
theorem dX6_findShortest_26 : decode cX6_findShortest 26 = .ok (.bipush 10, 2) := by decide +kernel
theorem dX6_findShortest_28 : decode cX6_findShortest 28 = .ok (.if_icmp .ge 33, 3) := by decide +kernel
theorem dX6_findShortest_31 : decode cX6_findShortest 31 = .ok (.aload_n 0, 1) := by decide +kernel
theorem dX6_findShortest_32 : decode cX6_findShortest 32 = .ok (.iload 5, 2) := by decide +kernel
theorem dX6_findShortest_34 : decode cX6_findShortest 34 = .ok (.aload_n 1, 1) := by decide +kernel
theorem dX6_findShortest_35 : decode cX6_findShortest 35 = .ok (.aload_n 0, 1) := by decide +kernel
theorem dX6_findShortest_36 : decode cX6_findShortest 36 = .ok (.iload 5, 2) := by decide +kernel
theorem dX6_findShortest_38 : decode cX6_findShortest 38 = .ok (.iconst 1, 1) := by decide +kernel
theorem dX6_findShortest_39 : decode cX6_findShortest 39 = .ok (.isub, 1) := by decide +kernel
theorem dX6_findShortest_40 : decode cX6_findShortest 40 = .ok (.invokevirtual 47, 3) := by decide +kernel
theorem dX6_findShortest_43 : decode cX6_findShortest 43 = .ok (.iload_n 3, 1) := by decide +kernel
theorem dX6_findShortest_44 : decode cX6_findShortest 44 = .ok (.iload 4, 2) := by decide +kernel
theorem dX6_findShortest_46 : decode cX6_findShortest 46 = .ok (.iload 5, 2) := by decide +kernel
theorem dX6_findShortest_48 : decode cX6_findShortest 48 = .ok (.isub, 1) := by decide +kernel
theorem dX6_findShortest_49 : decode cX6_findShortest 49 = .ok (.invokestatic 50, 3) := by decide +kernel
theorem dX6_findShortest_52 : decode cX6_findShortest 52 = .ok (.invokevirtual 43, 3) := by decide +kernel
theorem dX6_findShortest_55 : decode cX6_findShortest 55 = .ok (.iinc 5 1, 3) := by decide +kernel
theorem dX6_findShortest_58 : decode cX6_findShortest 58 = .ok (.goto (-41), 3) := by decide +kernel
theorem dX6_findShortest_61 : decode cX6_findShortest 61 = .ok (.return_, 1) := by decide +kernel
theorem dX6_nextTowards_0 : decode cX6_nextTowards 0 = .ok (.iconst 0, 1) := by decide +kernel
theorem dX6_nextTowards_1 : decode cX6_nextTowards 1 = .ok (.istore 4, 2) := by decide +kernel
theorem dX6_nextTowards_3 : decode cX6_nextTowards 3 = .ok (.iload 4, 2) := by decide +kernel
theorem dX6_nextTowards_5 : decode cX6_nextTowards 5 = .ok (.aload_n 0, 1) := by decide +kernel
theorem dX6_nextTowards_6 : decode cX6_nextTowards 6 = .ok (.invokevirtual 22, 3) := by decide +kernel
theorem dX6_nextTowards_9 : decode cX6_nextTowards 9 = .ok (.if_icmp .ge 33, 3) := by decide +kernel
theorem dX6_nextTowards_12 : decode cX6_nextTowards 12 = .ok (.aload_n 0, 1) := by decide +kernel
theorem dX6_nextTowards_13 : decode cX6_nextTowards 13 = .ok (.iload_n 1, 1) := by decide +kernel
theorem dX6_nextTowards_14 : decode cX6_nextTowards 14 = .ok (.iload 4, 2) := by decide +kernel
theorem dX6_nextTowards_16 : decode cX6_nextTowards 16 = .ok (.invokevirtual 54, 3) := by decide +kernel
theorem dX6_nextTowards_19 : decode cX6_nextTowards 19 = .ok (.ifCond .eq 17, 3) := by decide +kernel
theorem dX6_nextTowards_22 : decode cX6_nextTowards 22 = .ok (.aload_n 0, 1) := by decide +kernel
theorem dX6_nextTowards_23 : decode cX6_nextTowards 23 = .ok (.iload 4, 2) := by decide +kernel
theorem dX6_nextTowards_25 : decode cX6_nextTowards 25 = .ok (.iload_n 2, 1) := by decide +kernel
theorem dX6_nextTowards_26 : decode cX6_nextTowards 26 = .ok (.invokestatic 39, 3) := by decide +kernel
theorem dX6_nextTowards_29 : decode cX6_nextTowards 29 = .ok (.iload_n 3, 1) := by decide +kernel
theorem dX6_nextTowards_30 : decode cX6_nextTowards 30 = .ok (.if_icmp .ne 6, 3) := by decide +kernel
theorem dX6_nextTowards_33 : decode cX6_nextTowards 33 = .ok (.iload 4, 2) := by decide +kernel
theorem dX6_nextTowards_35 : decode cX6_nextTowards 35 = .ok (.ireturn, 1) := by decide +kernel
theorem dX6_nextTowards_36 : decode cX6_nextTowards 36 = .ok (.iinc 4 1, 3) := by decide +kernel
theorem dX6_nextTowards_39 : decode cX6_nextTowards 39 = .ok (.goto (-36), 3) := by decide +kernel
theorem dX6_nextTowards_42 : decode cX6_nextTowards 42 = .ok (.bipush (-4), 2) := by decide +kernel
theorem dX6_nextTowards_44 : decode cX6_nextTowards 44 = .ok (.ireturn, 1) := by decide +kernel
theorem dX6_findSpanning_0 : decode cX6_findSpanning 0 = .ok (.aload_n 1, 1) := by decide +kernel
theorem dX6_findSpanning_1 : decode cX6_findSpanning 1 = .ok (.invokevirtual 57, 3) := by decide +kernel
theorem dX6_findSpanning_4 : decode cX6_findSpanning 4 = .ok (.istore_n 2, 1) := by decide +kernel
theorem dX6_findSpanning_5 : decode cX6_findSpanning 5 = .ok (.iload_n 2, 1) := by decide +kernel
theorem dX6_findSpanning_6 : decode cX6_findSpanning 6 = .ok (.istore_n 3, 1) := by decide +kernel
theorem dX6_findSpanning_7 : decode cX6_findSpanning 7 = .ok (.iconst 0, 1) := by decide +kernel
theorem dX6_findSpanning_8 : decode cX6_findSpanning 8 = .ok (.istore 4, 2) := by decide +kernel
theorem dX6_findSpanning_10 : decode cX6_findSpanning 10 = .ok (.iload 4, 2) := by decide +kernel
theorem dX6_findSpanning_12 : decode cX6_findSpanning 12 = .ok (.aload_n 1, 1) := by decide +kernel
theorem dX6_findSpanning_13 : decode cX6_findSpanning 13 = .ok (.invokevirtual 22, 3) := by decide +kernel
theorem dX6_findSpanning_16 : decode cX6_findSpanning 16 = .ok (.if_icmp .ge 43, 3) := by decide +kernel
theorem dX6_findSpanning_19 : decode cX6_findSpanning 19 = .ok (.aload_n 1, 1) := by decide +kernel
theorem dX6_findSpanning_20 : decode cX6_findSpanning 20 = .ok (.iload_n 2, 1) := by decide +kernel
theorem dX6_findSpanning_21 : decode cX6_findSpanning 21 = .ok (.invokestatic 60, 3) := by decide +kernel
theorem dX6_findSpanning_24 : decode cX6_findSpanning 24 = .ok (.iload_n 3, 1) := by decide +kernel
theorem dX6_findSpanning_25 : decode cX6_findSpanning 25 = .ok (.iand, 1) := by decide +kernel
theorem dX6_findSpanning_26 : decode cX6_findSpanning 26 = .ok (.invokestatic 65, 3) := by decide +kernel
theorem dX6_findSpanning_29 : decode cX6_findSpanning 29 = .ok (.istore 5, 2) := by decide +kernel
theorem dX6_findSpanning_31 : decode cX6_findSpanning 31 = .ok (.aload_n 0, 1) := by decide +kernel
theorem dX6_findSpanning_32 : decode cX6_findSpanning 32 = .ok (.iload 4, 2) := by decide +kernel
theorem dX6_findSpanning_34 : decode cX6_findSpanning 34 = .ok (.iload 5, 2) := by decide +kernel
theorem dX6_findSpanning_36 : decode cX6_findSpanning 36 = .ok (.invokevirtual 43, 3) := by decide +kernel
theorem dX6_findSpanning_39 : decode cX6_findSpanning 39 = .ok (.iload_n 2, 1) := by decide +kernel
theorem dX6_findSpanning_40 : decode cX6_findSpanning 40 = .ok (.iload 5, 2) := by decide +kernel
theorem dX6_findSpanning_42 : decode cX6_findSpanning 42 = .ok (.invokestatic 68, 3) := by decide +kernel
theorem dX6_findSpanning_45 : decode cX6_findSpanning 45 = .ok (.istore_n 2, 1) := by decide +kernel
theorem dX6_findSpanning_46 : decode cX6_findSpanning 46 = .ok (.aload_n 1, 1) := by decide +kernel
theorem dX6_findSpanning_47 : decode cX6_findSpanning 47 = .ok (.iload 5, 2) := by decide +kernel
theorem dX6_findSpanning_49 : decode cX6_findSpanning 49 = .ok (.invokevirtual 36, 3) := by decide +kernel
theorem dX6_findSpanning_52 : decode cX6_findSpanning 52 = .ok (.istore_n 3, 1) := by decide +kernel
theorem dX6_findSpanning_53 : decode cX6_findSpanning 53 = .ok (.iinc 4 1, 3) := by decide +kernel
theorem dX6_findSpanning_56 : decode cX6_findSpanning 56 = .ok (.goto (-46), 3) := by decide +kernel
theorem dX6_findSpanning_59 : decode cX6_findSpanning 59 = .ok (.return_, 1) := by decide +kernel
theorem dX6_countSpanning_0 : decode cX6_countSpanning 0 = .ok (.aload_n 1, 1) := by decide +kernel
theorem dX6_countSpanning_1 : decode cX6_countSpanning 1 = .ok (.invokevirtual 57, 3) := by decide +kernel
theorem dX6_countSpanning_4 : decode cX6_countSpanning 4 = .ok (.istore_n 2, 1) := by decide +kernel
theorem dX6_countSpanning_5 : decode cX6_countSpanning 5 = .ok (.iconst 1, 1) := by decide +kernel
theorem dX6_countSpanning_6 : decode cX6_countSpanning 6 = .ok (.istore_n 3, 1) := by decide +kernel
theorem dX6_countSpanning_7 : decode cX6_countSpanning 7 = .ok (.iload_n 3, 1) := by decide +kernel
theorem dX6_countSpanning_8 : decode cX6_countSpanning 8 = .ok (.iload_n 2, 1) := by decide +kernel
theorem dX6_countSpanning_9 : decode cX6_countSpanning 9 = .ok (.if_icmp .gt 56, 3) := by decide +kernel
theorem dX6_countSpanning_12 : decode cX6_countSpanning 12 = .ok (.iconst 0, 1) := by decide +kernel
theorem dX6_countSpanning_13 : decode cX6_countSpanning 13 = .ok (.istore 4, 2) := by decide +kernel
theorem dX6_countSpanning_15 : decode cX6_countSpanning 15 = .ok (.iload 4, 2) := by decide +kernel
theorem dX6_countSpanning_17 : decode cX6_countSpanning 17 = .ok (.aload_n 1, 1) := by decide +kernel
theorem dX6_countSpanning_18 : decode cX6_countSpanning 18 = .ok (.invokevirtual 22, 3) := by decide +kernel
theorem dX6_countSpanning_21 : decode cX6_countSpanning 21 = .ok (.if_icmp .ge 38, 3) := by decide +kernel
theorem dX6_countSpanning_24 : decode cX6_countSpanning 24 = .ok (.iload_n 3, 1) := by decide +kernel
theorem dX6_countSpanning_25 : decode cX6_countSpanning 25 = .ok (.iload 4, 2) := by decide +kernel
theorem dX6_countSpanning_27 : decode cX6_countSpanning 27 = .ok (.invokestatic 28, 3) := by decide +kernel
theorem dX6_countSpanning_30 : decode cX6_countSpanning 30 = .ok (.ifCond .eq 23, 3) := by decide +kernel
theorem dX6_countSpanning_33 : decode cX6_countSpanning 33 = .ok (.aload_n 0, 1) := by decide +kernel
theorem dX6_countSpanning_34 : decode cX6_countSpanning 34 = .ok (.iload_n 3, 1) := by decide +kernel
theorem dX6_countSpanning_35 : decode cX6_countSpanning 35 = .ok (.iload 4, 2) := by decide +kernel
theorem dX6_countSpanning_37 : decode cX6_countSpanning 37 = .ok (.aload_n 0, 1) := by decide +kernel
theorem dX6_countSpanning_38 : decode cX6_countSpanning 38 = .ok (.aload_n 1, 1) := by decide +kernel
theorem dX6_countSpanning_39 : decode cX6_countSpanning 39 = .ok (.iload_n 3, 1) := by decide +kernel
theorem dX6_countSpanning_40 : decode cX6_countSpanning 40 = .ok (.iload 4, 2) := by decide +kernel
theorem dX6_countSpanning_42 : decode cX6_countSpanning 42 = .ok (.invokestatic 68, 3) := by decide +kernel
theorem dX6_countSpanning_45 : decode cX6_countSpanning 45 = .ok (.iload 4, 2) := by decide +kernel
theorem dX6_countSpanning_47 : decode cX6_countSpanning 47 = .ok (.invokevirtual 72, 3) := by decide +kernel
theorem dX6_countSpanning_50 : decode cX6_countSpanning 50 = .ok (.invokevirtual 75, 3) := by decide +kernel
theorem dX6_countSpanning_53 : decode cX6_countSpanning 53 = .ok (.iinc 4 1, 3) := by decide +kernel
theorem dX6_countSpanning_56 : decode cX6_countSpanning 56 = .ok (.goto (-41), 3) := by decide +kernel
theorem dX6_countSpanning_59 : decode cX6_countSpanning 59 = .ok (.iinc 3 1, 3) := by decide +kernel
theorem dX6_countSpanning_62 : decode cX6_countSpanning 62 = .ok (.goto (-55), 3) := by decide +kernel
theorem dX6_countSpanning_65 : decode cX6_countSpanning 65 = .ok (.aload_n 0, 1) := by decide +kernel
theorem dX6_countSpanning_66 : decode cX6_countSpanning 66 = .ok (.iload_n 2, 1) := by decide +kernel
theorem dX6_countSpanning_67 : decode cX6_countSpanning 67 = .ok (.iload_n 2, 1) := by decide +kernel
theorem dX6_countSpanning_68 : decode cX6_countSpanning 68 = .ok (.invokevirtual 79, 3) := by decide +kernel
theorem dX6_countSpanning_71 : decode cX6_countSpanning 71 = .ok (.ireturn, 1) := by decide +kernel
theorem dX6_countEnding_0 : decode cX6_countEnding 0 = .ok (.iload_n 2, 1) := by decide +kernel
theorem dX6_countEnding_1 : decode cX6_countEnding 1 = .ok (.ifCond .ne 7, 3) := by decide +kernel
theorem dX6_countEnding_4 : decode cX6_countEnding 4 = .ok (.iconst 1, 1) := by decide +kernel
theorem dX6_countEnding_5 : decode cX6_countEnding 5 = .ok (.goto 17, 3) := by decide +kernel
theorem dX6_countEnding_8 : decode cX6_countEnding 8 = .ok (.aload_n 0, 1) := by decide +kernel
theorem dX6_countEnding_9 : decode cX6_countEnding 9 = .ok (.iload_n 2, 1) := by decide +kernel
theorem dX6_countEnding_10 : decode cX6_countEnding 10 = .ok (.iload_n 2, 1) := by decide +kernel
theorem dX6_countEnding_11 : decode cX6_countEnding 11 = .ok (.aload_n 1, 1) := by decide +kernel
theorem dX6_countEnding_12 : decode cX6_countEnding 12 = .ok (.iload_n 3, 1) := by decide +kernel
theorem dX6_countEnding_13 : decode cX6_countEnding 13 = .ok (.invokevirtual 36, 3) := by decide +kernel
theorem dX6_countEnding_16 : decode cX6_countEnding 16 = .ok (.iconst (-1), 1) := by decide +kernel
theorem dX6_countEnding_17 : decode cX6_countEnding 17 = .ok (.ixor, 1) := by decide +kernel
theorem dX6_countEnding_18 : decode cX6_countEnding 18 = .ok (.iand, 1) := by decide +kernel
theorem dX6_countEnding_19 : decode cX6_countEnding 19 = .ok (.invokevirtual 79, 3) := by decide +kernel
theorem dX6_countEnding_22 : decode cX6_countEnding 22 = .ok (.ireturn, 1) := by decide +kernel
theorem dX6_sumOfCounts_0 : decode cX6_sumOfCounts 0 = .ok (.iload_n 2, 1) := by decide +kernel
theorem dX6_sumOfCounts_1 : decode cX6_sumOfCounts 1 = .ok (.istore_n 3, 1) := by decide +kernel
theorem dX6_sumOfCounts_2 : decode cX6_sumOfCounts 2 = .ok (.iconst 0, 1) := by decide +kernel
theorem dX6_sumOfCounts_3 : decode cX6_sumOfCounts 3 = .ok (.istore 4, 2) := by decide +kernel
theorem dX6_sumOfCounts_5 : decode cX6_sumOfCounts 5 = .ok (.iconst 0, 1) := by decide +kernel
theorem dX6_sumOfCounts_6 : decode cX6_sumOfCounts 6 = .ok (.istore 5, 2) := by decide +kernel
theorem dX6_sumOfCounts_8 : decode cX6_sumOfCounts 8 = .ok (.iload 5, 2) := by decide +kernel
theorem dX6_sumOfCounts_10 : decode cX6_sumOfCounts 10 = .ok (.bipush 10, 2) := by decide +kernel
theorem dX6_sumOfCounts_12 : decode cX6_sumOfCounts 12 = .ok (.if_icmp .ge 61, 3) := by decide +kernel
theorem dX6_sumOfCounts_15 : decode cX6_sumOfCounts 15 = .ok (.iload_n 3, 1) := by decide +kernel
theorem dX6_sumOfCounts_16 : decode cX6_sumOfCounts 16 = .ok (.ifCond .eq 57, 3) := by decide +kernel
theorem dX6_sumOfCounts_19 : decode cX6_sumOfCounts 19 = .ok (.iload_n 1, 1) := by decide +kernel
theorem dX6_sumOfCounts_20 : decode cX6_sumOfCounts 20 = .ok (.bipush 10, 2) := by decide +kernel
end
section
theorem dX6_sumOfCounts_22 : decode cX6_sumOfCounts 22 = .ok (.imul, 1) := by decide +kernel
theorem dX6_sumOfCounts_23 : decode cX6_sumOfCounts 23 = .ok (.iload_n 3, 1) := by decide +kernel
theorem dX6_sumOfCounts_24 : decode cX6_sumOfCounts 24 = .ok (.invokestatic 65, 3) := by decide +kernel
theorem dX6_sumOfCounts_27 : decode cX6_sumOfCounts 27 = .ok (.iadd, 1) := by decide +kernel
theorem dX6_sumOfCounts_28 : decode cX6_sumOfCounts 28 = .ok (.istore 6, 2) := by decide +kernel
theorem dX6_sumOfCounts_30 : decode cX6_sumOfCounts 30 = .ok (.iload 4, 2) := by decide +kernel
theorem dX6_sumOfCounts_32 : decode cX6_sumOfCounts 32 = .ok (.iload 6, 2) := by decide +kernel
theorem dX6_sumOfCounts_34 : decode cX6_sumOfCounts 34 = .ok (.ifCond .lt 23, 3) := by decide +kernel
theorem dX6_sumOfCounts_37 : decode cX6_sumOfCounts 37 = .ok (.iload 6, 2) := by decide +kernel
theorem dX6_sumOfCounts_39 : decode cX6_sumOfCounts 39 = .ok (.aload_n 0, 1) := by decide +kernel
theorem dX6_sumOfCounts_40 : decode cX6_sumOfCounts 40 = .ok (.getfield 15, 3) := by decide +kernel
theorem dX6_sumOfCounts_43 : decode cX6_sumOfCounts 43 = .ok (.arraylength, 1) := by decide +kernel
theorem dX6_sumOfCounts_44 : decode cX6_sumOfCounts 44 = .ok (.if_icmp .ge 13, 3) := by decide +kernel
theorem dX6_sumOfCounts_47 : decode cX6_sumOfCounts 47 = .ok (.aload_n 0, 1) := by decide +kernel
theorem dX6_sumOfCounts_48 : decode cX6_sumOfCounts 48 = .ok (.getfield 15, 3) := by decide +kernel
theorem dX6_sumOfCounts_51 : decode cX6_sumOfCounts 51 = .ok (.iload 6, 2) := by decide +kernel
theorem dX6_sumOfCounts_53 : decode cX6_sumOfCounts 53 = .ok (.iaload, 1) := by decide +kernel
theorem dX6_sumOfCounts_54 : decode cX6_sumOfCounts 54 = .ok (.goto 4, 3) := by decide +kernel
theorem dX6_sumOfCounts_57 : decode cX6_sumOfCounts 57 = .ok (.iconst 0, 1) := by decide +kernel
theorem dX6_sumOfCounts_58 : decode cX6_sumOfCounts 58 = .ok (.iadd, 1) := by decide +kernel
theorem dX6_sumOfCounts_59 : decode cX6_sumOfCounts 59 = .ok (.istore 4, 2) := by decide +kernel
theorem dX6_sumOfCounts_61 : decode cX6_sumOfCounts 61 = .ok (.iload_n 3, 1) := by decide +kernel
theorem dX6_sumOfCounts_62 : decode cX6_sumOfCounts 62 = .ok (.iload_n 3, 1) := by decide +kernel
theorem dX6_sumOfCounts_63 : decode cX6_sumOfCounts 63 = .ok (.iconst 1, 1) := by decide +kernel
theorem dX6_sumOfCounts_64 : decode cX6_sumOfCounts 64 = .ok (.isub, 1) := by decide +kernel
theorem dX6_sumOfCounts_65 : decode cX6_sumOfCounts 65 = .ok (.iand, 1) := by decide +kernel
theorem dX6_sumOfCounts_66 : decode cX6_sumOfCounts 66 = .ok (.istore_n 3, 1) := by decide +kernel
theorem dX6_sumOfCounts_67 : decode cX6_sumOfCounts 67 = .ok (.iinc 5 1, 3) := by decide +kernel
theorem dX6_sumOfCounts_70 : decode cX6_sumOfCounts 70 = .ok (.goto (-62), 3) := by decide +kernel
theorem dX6_sumOfCounts_73 : decode cX6_sumOfCounts 73 = .ok (.iload 4, 2) := by decide +kernel
theorem dX6_sumOfCounts_75 : decode cX6_sumOfCounts 75 = .ok (.ireturn, 1) := by decide +kernel
theorem dX6_putCount_0 : decode cX6_putCount 0 = .ok (.iload_n 1, 1) := by decide +kernel
theorem dX6_putCount_1 : decode cX6_putCount 1 = .ok (.bipush 10, 2) := by decide +kernel
theorem dX6_putCount_3 : decode cX6_putCount 3 = .ok (.imul, 1) := by decide +kernel
theorem dX6_putCount_4 : decode cX6_putCount 4 = .ok (.iload_n 2, 1) := by decide +kernel
theorem dX6_putCount_5 : decode cX6_putCount 5 = .ok (.iadd, 1) := by decide +kernel
theorem dX6_putCount_6 : decode cX6_putCount 6 = .ok (.istore 4, 2) := by decide +kernel
theorem dX6_putCount_8 : decode cX6_putCount 8 = .ok (.iload 4, 2) := by decide +kernel
theorem dX6_putCount_10 : decode cX6_putCount 10 = .ok (.ifCond .lt 21, 3) := by decide +kernel
theorem dX6_putCount_13 : decode cX6_putCount 13 = .ok (.iload 4, 2) := by decide +kernel
theorem dX6_putCount_15 : decode cX6_putCount 15 = .ok (.aload_n 0, 1) := by decide +kernel
theorem dX6_putCount_16 : decode cX6_putCount 16 = .ok (.getfield 15, 3) := by decide +kernel
theorem dX6_putCount_19 : decode cX6_putCount 19 = .ok (.arraylength, 1) := by decide +kernel
theorem dX6_putCount_20 : decode cX6_putCount 20 = .ok (.if_icmp .ge 11, 3) := by decide +kernel
theorem dX6_putCount_23 : decode cX6_putCount 23 = .ok (.aload_n 0, 1) := by decide +kernel
theorem dX6_putCount_24 : decode cX6_putCount 24 = .ok (.getfield 15, 3) := by decide +kernel
theorem dX6_putCount_27 : decode cX6_putCount 27 = .ok (.iload 4, 2) := by decide +kernel
theorem dX6_putCount_29 : decode cX6_putCount 29 = .ok (.iload_n 3, 1) := by decide +kernel
theorem dX6_putCount_30 : decode cX6_putCount 30 = .ok (.iastore, 1) := by decide +kernel
theorem dX6_putCount_31 : decode cX6_putCount 31 = .ok (.return_, 1) := by decide +kernel
theorem dX7_init_0 : decode cX7_init 0 = .ok (.aload_n 0, 1) := by decide +kernel
theorem dX7_init_1 : decode cX7_init 1 = .ok (.invokespecial 3, 3) := by decide +kernel
theorem dX7_init_4 : decode cX7_init 4 = .ok (.aload_n 0, 1) := by decide +kernel
theorem dX7_init_5 : decode cX7_init 5 = .ok (.bipush 120, 2) := by decide +kernel
theorem dX7_init_7 : decode cX7_init 7 = .ok (.newarray .char, 2) := by decide +kernel
theorem dX7_init_9 : decode cX7_init 9 = .ok (.putfield 9, 3) := by decide +kernel
theorem dX7_init_12 : decode cX7_init 12 = .ok (.return_, 1) := by decide +kernel
theorem dX7_size_0 : decode cX7_size 0 = .ok (.aload_n 0, 1) := by decide +kernel
theorem dX7_size_1 : decode cX7_size 1 = .ok (.getfield 15, 3) := by decide +kernel
theorem dX7_size_4 : decode cX7_size 4 = .ok (.ireturn, 1) := by decide +kernel
theorem dX7_empty_0 : decode cX7_empty 0 = .ok (.aload_n 0, 1) := by decide +kernel
theorem dX7_empty_1 : decode cX7_empty 1 = .ok (.iconst 0, 1) := by decide +kernel
theorem dX7_empty_2 : decode cX7_empty 2 = .ok (.putfield 15, 3) := by decide +kernel
theorem dX7_empty_5 : decode cX7_empty 5 = .ok (.return_, 1) := by decide +kernel
theorem dX7_add_0 : decode cX7_add 0 = .ok (.aload_n 0, 1) := by decide +kernel
theorem dX7_add_1 : decode cX7_add 1 = .ok (.getfield 15, 3) := by decide +kernel
theorem dX7_add_4 : decode cX7_add 4 = .ok (.ifCond .lt 15, 3) := by decide +kernel
theorem dX7_add_7 : decode cX7_add 7 = .ok (.aload_n 0, 1) := by decide +kernel
theorem dX7_add_8 : decode cX7_add 8 = .ok (.getfield 15, 3) := by decide +kernel
theorem dX7_add_11 : decode cX7_add 11 = .ok (.aload_n 0, 1) := by decide +kernel
theorem dX7_add_12 : decode cX7_add 12 = .ok (.getfield 9, 3) := by decide +kernel
theorem dX7_add_15 : decode cX7_add 15 = .ok (.arraylength, 1) := by decide +kernel
theorem dX7_add_16 : decode cX7_add 16 = .ok (.if_icmp .lt 5, 3) := by decide +kernel
theorem dX7_add_19 : decode cX7_add 19 = .ok (.iconst 0, 1) := by decide +kernel
theorem dX7_add_20 : decode cX7_add 20 = .ok (.ireturn, 1) := by decide +kernel
theorem dX7_add_21 : decode cX7_add 21 = .ok (.aload_n 0, 1) := by decide +kernel
theorem dX7_add_22 : decode cX7_add 22 = .ok (.getfield 9, 3) := by decide +kernel
theorem dX7_add_25 : decode cX7_add 25 = .ok (.aload_n 0, 1) := by decide +kernel
theorem dX7_add_26 : decode cX7_add 26 = .ok (.getfield 15, 3) := by decide +kernel
theorem dX7_add_29 : decode cX7_add 29 = .ok (.iload_n 1, 1) := by decide +kernel
theorem dX7_add_30 : decode cX7_add 30 = .ok (.castore, 1) := by decide +kernel
theorem dX7_add_31 : decode cX7_add 31 = .ok (.aload_n 0, 1) := by decide +kernel
theorem dX7_add_32 : decode cX7_add 32 = .ok (.dup, 1) := by decide +kernel
theorem dX7_add_33 : decode cX7_add 33 = .ok (.getfield 15, 3) := by decide +kernel
theorem dX7_add_36 : decode cX7_add 36 = .ok (.iconst 1, 1) := by decide +kernel
theorem dX7_add_37 : decode cX7_add 37 = .ok (.iadd, 1) := by decide +kernel
theorem dX7_add_38 : decode cX7_add 38 = .ok (.putfield 15, 3) := by decide +kernel
theorem dX7_add_41 : decode cX7_add 41 = .ok (.iconst 1, 1) := by decide +kernel
theorem dX7_add_42 : decode cX7_add 42 = .ok (.ireturn, 1) := by decide +kernel
theorem dX7_at_0 : decode cX7_at 0 = .ok (.iload_n 1, 1) := by decide +kernel
theorem dX7_at_1 : decode cX7_at 1 = .ok (.ifCond .lt 29, 3) := by decide +kernel
theorem dX7_at_4 : decode cX7_at 4 = .ok (.iload_n 1, 1) := by decide +kernel
theorem dX7_at_5 : decode cX7_at 5 = .ok (.aload_n 0, 1) := by decide +kernel
theorem dX7_at_6 : decode cX7_at 6 = .ok (.getfield 15, 3) := by decide +kernel
theorem dX7_at_9 : decode cX7_at 9 = .ok (.if_icmp .ge 21, 3) := by decide +kernel
theorem dX7_at_12 : decode cX7_at 12 = .ok (.iload_n 1, 1) := by decide +kernel
theorem dX7_at_13 : decode cX7_at 13 = .ok (.aload_n 0, 1) := by decide +kernel
theorem dX7_at_14 : decode cX7_at 14 = .ok (.getfield 9, 3) := by decide +kernel
theorem dX7_at_17 : decode cX7_at 17 = .ok (.arraylength, 1) := by decide +kernel
theorem dX7_at_18 : decode cX7_at 18 = .ok (.if_icmp .ge 12, 3) := by decide +kernel
theorem dX7_at_21 : decode cX7_at 21 = .ok (.aload_n 0, 1) := by decide +kernel
theorem dX7_at_22 : decode cX7_at 22 = .ok (.getfield 9, 3) := by decide +kernel
theorem dX7_at_25 : decode cX7_at 25 = .ok (.iload_n 1, 1) := by decide +kernel
theorem dX7_at_26 : decode cX7_at 26 = .ok (.caload, 1) := by decide +kernel
theorem dX7_at_27 : decode cX7_at 27 = .ok (.goto 5, 3) := by decide +kernel
theorem dX7_at_30 : decode cX7_at 30 = .ok (.bipush 32, 2) := by decide +kernel
theorem dX7_at_32 : decode cX7_at 32 = .ok (.ireturn, 1) := by decide +kernel
theorem dX7_faultFor_0 : decode cX7_faultFor 0 = .ok (.iconst 0, 1) := by decide +kernel
theorem dX7_faultFor_1 : decode cX7_faultFor 1 = .ok (.istore_n 2, 1) := by decide +kernel
theorem dX7_faultFor_2 : decode cX7_faultFor 2 = .ok (.iload_n 2, 1) := by decide +kernel
theorem dX7_faultFor_3 : decode cX7_faultFor 3 = .ok (.aload_n 0, 1) := by decide +kernel
theorem dX7_faultFor_4 : decode cX7_faultFor 4 = .ok (.getfield 15, 3) := by decide +kernel
theorem dX7_faultFor_7 : decode cX7_faultFor 7 = .ok (.if_icmp .ge 20, 3) := by decide +kernel
theorem dX7_faultFor_10 : decode cX7_faultFor 10 = .ok (.aload_n 0, 1) := by decide +kernel
theorem dX7_faultFor_11 : decode cX7_faultFor 11 = .ok (.aload_n 1, 1) := by decide +kernel
theorem dX7_faultFor_12 : decode cX7_faultFor 12 = .ok (.iload_n 2, 1) := by decide +kernel
theorem dX7_faultFor_13 : decode cX7_faultFor 13 = .ok (.invokevirtual 19, 3) := by decide +kernel
theorem dX7_faultFor_16 : decode cX7_faultFor 16 = .ok (.ifCond .ne 5, 3) := by decide +kernel
theorem dX7_faultFor_19 : decode cX7_faultFor 19 = .ok (.iload_n 2, 1) := by decide +kernel
theorem dX7_faultFor_20 : decode cX7_faultFor 20 = .ok (.ireturn, 1) := by decide +kernel
theorem dX7_faultFor_21 : decode cX7_faultFor 21 = .ok (.iinc 2 4, 3) := by decide +kernel
theorem dX7_faultFor_24 : decode cX7_faultFor 24 = .ok (.goto (-22), 3) := by decide +kernel
theorem dX7_faultFor_27 : decode cX7_faultFor 27 = .ok (.bipush (-4), 2) := by decide +kernel
theorem dX7_faultFor_29 : decode cX7_faultFor 29 = .ok (.ireturn, 1) := by decide +kernel
theorem dX7_isResult_0 : decode cX7_isResult 0 = .ok (.aload_n 0, 1) := by decide +kernel
theorem dX7_isResult_1 : decode cX7_isResult 1 = .ok (.iload_n 2, 1) := by decide +kernel
theorem dX7_isResult_2 : decode cX7_isResult 2 = .ok (.iconst 1, 1) := by decide +kernel
theorem dX7_isResult_3 : decode cX7_isResult 3 = .ok (.iadd, 1) := by decide +kernel
theorem dX7_isResult_4 : decode cX7_isResult 4 = .ok (.invokevirtual 23, 3) := by decide +kernel
theorem dX7_isResult_7 : decode cX7_isResult 7 = .ok (.istore_n 3, 1) := by decide +kernel
theorem dX7_isResult_8 : decode cX7_isResult 8 = .ok (.aload_n 1, 1) := by decide +kernel
theorem dX7_isResult_9 : decode cX7_isResult 9 = .ok (.aload_n 0, 1) := by decide +kernel
theorem dX7_isResult_10 : decode cX7_isResult 10 = .ok (.iload_n 2, 1) := by decide +kernel
theorem dX7_isResult_11 : decode cX7_isResult 11 = .ok (.invokevirtual 23, 3) := by decide +kernel
theorem dX7_isResult_14 : decode cX7_isResult 14 = .ok (.bipush 48, 2) := by decide +kernel
theorem dX7_isResult_16 : decode cX7_isResult 16 = .ok (.isub, 1) := by decide +kernel
theorem dX7_isResult_17 : decode cX7_isResult 17 = .ok (.aload_n 0, 1) := by decide +kernel
theorem dX7_isResult_18 : decode cX7_isResult 18 = .ok (.iload_n 2, 1) := by decide +kernel
theorem dX7_isResult_19 : decode cX7_isResult 19 = .ok (.iconst 2, 1) := by decide +kernel
theorem dX7_isResult_20 : decode cX7_isResult 20 = .ok (.iadd, 1) := by decide +kernel
theorem dX7_isResult_21 : decode cX7_isResult 21 = .ok (.invokevirtual 23, 3) := by decide +kernel
theorem dX7_isResult_24 : decode cX7_isResult 24 = .ok (.bipush 48, 2) := by decide +kernel
theorem dX7_isResult_26 : decode cX7_isResult 26 = .ok (.isub, 1) := by decide +kernel
theorem dX7_isResult_27 : decode cX7_isResult 27 = .ok (.invokevirtual 27, 3) := by decide +kernel
theorem dX7_isResult_30 : decode cX7_isResult 30 = .ok (.ifCond .eq 31, 3) := by decide +kernel
theorem dX7_isResult_33 : decode cX7_isResult 33 = .ok (.iload_n 3, 1) := by decide +kernel
theorem dX7_isResult_34 : decode cX7_isResult 34 = .ok (.bipush 62, 2) := by decide +kernel
theorem dX7_isResult_36 : decode cX7_isResult 36 = .ok (.if_icmp .eq 9, 3) := by decide +kernel
theorem dX7_isResult_39 : decode cX7_isResult 39 = .ok (.iload_n 3, 1) := by decide +kernel
theorem dX7_isResult_40 : decode cX7_isResult 40 = .ok (.bipush 60, 2) := by decide +kernel
theorem dX7_isResult_42 : decode cX7_isResult 42 = .ok (.if_icmp .ne 19, 3) := by decide +kernel
theorem dX7_isResult_45 : decode cX7_isResult 45 = .ok (.aload_n 0, 1) := by decide +kernel
theorem dX7_isResult_46 : decode cX7_isResult 46 = .ok (.iload_n 2, 1) := by decide +kernel
theorem dX7_isResult_47 : decode cX7_isResult 47 = .ok (.iconst 3, 1) := by decide +kernel
theorem dX7_isResult_48 : decode cX7_isResult 48 = .ok (.iadd, 1) := by decide +kernel
theorem dX7_isResult_49 : decode cX7_isResult 49 = .ok (.invokevirtual 23, 3) := by decide +kernel
theorem dX7_isResult_52 : decode cX7_isResult 52 = .ok (.bipush 59, 2) := by decide +kernel
theorem dX7_isResult_54 : decode cX7_isResult 54 = .ok (.if_icmp .ne 7, 3) := by decide +kernel
theorem dX7_isResult_57 : decode cX7_isResult 57 = .ok (.iconst 1, 1) := by decide +kernel
theorem dX7_isResult_58 : decode cX7_isResult 58 = .ok (.goto 4, 3) := by decide +kernel
theorem dX7_isResult_61 : decode cX7_isResult 61 = .ok (.iconst 0, 1) := by decide +kernel
theorem dX7_isResult_62 : decode cX7_isResult 62 = .ok (.ireturn, 1) := by decide +kernel
theorem dX7_enterInto_0 : decode cX7_enterInto 0 = .ok (.iconst 0, 1) := by decide +kernel
theorem dX7_enterInto_1 : decode cX7_enterInto 1 = .ok (.istore_n 2, 1) := by decide +kernel
theorem dX7_enterInto_2 : decode cX7_enterInto 2 = .ok (.iconst 0, 1) := by decide +kernel
theorem dX7_enterInto_3 : decode cX7_enterInto 3 = .ok (.istore_n 3, 1) := by decide +kernel
theorem dX7_enterInto_4 : decode cX7_enterInto 4 = .ok (.iload_n 3, 1) := by decide +kernel
theorem dX7_enterInto_5 : decode cX7_enterInto 5 = .ok (.aload_n 0, 1) := by decide +kernel
theorem dX7_enterInto_6 : decode cX7_enterInto 6 = .ok (.getfield 15, 3) := by decide +kernel
theorem dX7_enterInto_9 : decode cX7_enterInto 9 = .ok (.if_icmp .ge 81, 3) := by decide +kernel
theorem dX7_enterInto_12 : decode cX7_enterInto 12 = .ok (.aload_n 0, 1) := by decide +kernel
theorem dX7_enterInto_13 : decode cX7_enterInto 13 = .ok (.iload_n 3, 1) := by decide +kernel
theorem dX7_enterInto_14 : decode cX7_enterInto 14 = .ok (.invokevirtual 23, 3) := by decide +kernel
theorem dX7_enterInto_17 : decode cX7_enterInto 17 = .ok (.bipush 48, 2) := by decide +kernel
theorem dX7_enterInto_19 : decode cX7_enterInto 19 = .ok (.isub, 1) := by decide +kernel
theorem dX7_enterInto_20 : decode cX7_enterInto 20 = .ok (.istore 4, 2) := by decide +kernel
theorem dX7_enterInto_22 : decode cX7_enterInto 22 = .ok (.aload_n 0, 1) := by decide +kernel
theorem dX7_enterInto_23 : decode cX7_enterInto 23 = .ok (.iload_n 3, 1) := by decide +kernel
theorem dX7_enterInto_24 : decode cX7_enterInto 24 = .ok (.iconst 2, 1) := by decide +kernel
theorem dX7_enterInto_25 : decode cX7_enterInto 25 = .ok (.iadd, 1) := by decide +kernel
theorem dX7_enterInto_26 : decode cX7_enterInto 26 = .ok (.invokevirtual 23, 3) := by decide +kernel
theorem dX7_enterInto_29 : decode cX7_enterInto 29 = .ok (.bipush 48, 2) := by decide +kernel
theorem dX7_enterInto_31 : decode cX7_enterInto 31 = .ok (.isub, 1) := by decide +kernel
theorem dX7_enterInto_32 : decode cX7_enterInto 32 = .ok (.istore 5, 2) := by decide +kernel
theorem dX7_enterInto_34 : decode cX7_enterInto 34 = .ok (.aload_n 0, 1) := by decide +kernel
theorem dX7_enterInto_35 : decode cX7_enterInto 35 = .ok (.iload_n 3, 1) := by decide +kernel
theorem dX7_enterInto_36 : decode cX7_enterInto 36 = .ok (.iconst 1, 1) := by decide +kernel
theorem dX7_enterInto_37 : decode cX7_enterInto 37 = .ok (.iadd, 1) := by decide +kernel
theorem dX7_enterInto_38 : decode cX7_enterInto 38 = .ok (.invokevirtual 23, 3) := by decide +kernel
theorem dX7_enterInto_41 : decode cX7_enterInto 41 = .ok (.bipush 62, 2) := by decide +kernel
theorem dX7_enterInto_43 : decode cX7_enterInto 43 = .ok (.if_icmp .ne 7, 3) := by decide +kernel
theorem dX7_enterInto_46 : decode cX7_enterInto 46 = .ok (.iconst 1, 1) := by decide +kernel
theorem dX7_enterInto_47 : decode cX7_enterInto 47 = .ok (.goto 4, 3) := by decide +kernel
theorem dX7_enterInto_50 : decode cX7_enterInto 50 = .ok (.iconst 0, 1) := by decide +kernel
theorem dX7_enterInto_51 : decode cX7_enterInto 51 = .ok (.istore 6, 2) := by decide +kernel
theorem dX7_enterInto_53 : decode cX7_enterInto 53 = .ok (.aload_n 1, 1) := by decide +kernel
theorem dX7_enterInto_54 : decode cX7_enterInto 54 = .ok (.iload 6, 2) := by decide +kernel
theorem dX7_enterInto_56 : decode cX7_enterInto 56 = .ok (.ifCond .eq 8, 3) := by decide +kernel
theorem dX7_enterInto_59 : decode cX7_enterInto 59 = .ok (.iload 4, 2) := by decide +kernel
theorem dX7_enterInto_61 : decode cX7_enterInto 61 = .ok (.goto 5, 3) := by decide +kernel
theorem dX7_enterInto_64 : decode cX7_enterInto 64 = .ok (.iload 5, 2) := by decide +kernel
theorem dX7_enterInto_66 : decode cX7_enterInto 66 = .ok (.iload 6, 2) := by decide +kernel
theorem dX7_enterInto_68 : decode cX7_enterInto 68 = .ok (.ifCond .eq 8, 3) := by decide +kernel
theorem dX7_enterInto_71 : decode cX7_enterInto 71 = .ok (.iload 5, 2) := by decide +kernel
theorem dX7_enterInto_73 : decode cX7_enterInto 73 = .ok (.goto 5, 3) := by decide +kernel
theorem dX7_enterInto_76 : decode cX7_enterInto 76 = .ok (.iload 4, 2) := by decide +kernel
theorem dX7_enterInto_78 : decode cX7_enterInto 78 = .ok (.invokevirtual 33, 3) := by decide +kernel
theorem dX7_enterInto_81 : decode cX7_enterInto 81 = .ok (.iinc 2 1, 3) := by decide +kernel
theorem dX7_enterInto_84 : decode cX7_enterInto 84 = .ok (.iinc 3 4, 3) := by decide +kernel
theorem dX7_enterInto_87 : decode cX7_enterInto 87 = .ok (.goto (-83), 3) := by decide +kernel
theorem dX7_enterInto_90 : decode cX7_enterInto 90 = .ok (.iload_n 2, 1) := by decide +kernel
theorem dX7_enterInto_91 : decode cX7_enterInto 91 = .ok (.ireturn, 1) := by decide +kernel
theorem dX8_init_0 : decode cX8_init 0 = .ok (.aload_n 0, 1) := by decide +kernel
theorem dX8_init_1 : decode cX8_init 1 = .ok (.invokespecial 3, 3) := by decide +kernel
theorem dX8_init_4 : decode cX8_init 4 = .ok (.aload_n 0, 1) := by decide +kernel
theorem dX8_init_5 : decode cX8_init 5 = .ok (.bipush 10, 2) := by decide +kernel
theorem dX8_init_7 : decode cX8_init 7 = .ok (.newarray .int, 2) := by decide +kernel
theorem dX8_init_9 : decode cX8_init 9 = .ok (.putfield 9, 3) := by decide +kernel
theorem dX8_init_12 : decode cX8_init 12 = .ok (.return_, 1) := by decide +kernel
theorem dX8_size_0 : decode cX8_size 0 = .ok (.aload_n 0, 1) := by decide +kernel
theorem dX8_size_1 : decode cX8_size 1 = .ok (.getfield 15, 3) := by decide +kernel
theorem dX8_size_4 : decode cX8_size 4 = .ok (.ireturn, 1) := by decide +kernel
theorem dX8_empty_0 : decode cX8_empty 0 = .ok (.aload_n 0, 1) := by decide +kernel
theorem dX8_empty_1 : decode cX8_empty 1 = .ok (.iconst 0, 1) := by decide +kernel
theorem dX8_empty_2 : decode cX8_empty 2 = .ok (.putfield 15, 3) := by decide +kernel
theorem dX8_empty_5 : decode cX8_empty 5 = .ok (.return_, 1) := by decide +kernel
theorem dX8_add_0 : decode cX8_add 0 = .ok (.aload_n 0, 1) := by decide +kernel
theorem dX8_add_1 : decode cX8_add 1 = .ok (.getfield 15, 3) := by decide +kernel
theorem dX8_add_4 : decode cX8_add 4 = .ok (.ifCond .lt 15, 3) := by decide +kernel
theorem dX8_add_7 : decode cX8_add 7 = .ok (.aload_n 0, 1) := by decide +kernel
theorem dX8_add_8 : decode cX8_add 8 = .ok (.getfield 15, 3) := by decide +kernel
theorem dX8_add_11 : decode cX8_add 11 = .ok (.aload_n 0, 1) := by decide +kernel
theorem dX8_add_12 : decode cX8_add 12 = .ok (.getfield 9, 3) := by decide +kernel
theorem dX8_add_15 : decode cX8_add 15 = .ok (.arraylength, 1) := by decide +kernel
theorem dX8_add_16 : decode cX8_add 16 = .ok (.if_icmp .lt 5, 3) := by decide +kernel
theorem dX8_add_19 : decode cX8_add 19 = .ok (.iconst 0, 1) := by decide +kernel
theorem dX8_add_20 : decode cX8_add 20 = .ok (.ireturn, 1) := by decide +kernel
theorem dX8_add_21 : decode cX8_add 21 = .ok (.aload_n 0, 1) := by decide +kernel
theorem dX8_add_22 : decode cX8_add 22 = .ok (.getfield 9, 3) := by decide +kernel
theorem dX8_add_25 : decode cX8_add 25 = .ok (.aload_n 0, 1) := by decide +kernel
theorem dX8_add_26 : decode cX8_add 26 = .ok (.getfield 15, 3) := by decide +kernel
theorem dX8_add_29 : decode cX8_add 29 = .ok (.iload_n 1, 1) := by decide +kernel
theorem dX8_add_30 : decode cX8_add 30 = .ok (.iastore, 1) := by decide +kernel
theorem dX8_add_31 : decode cX8_add 31 = .ok (.aload_n 0, 1) := by decide +kernel
theorem dX8_add_32 : decode cX8_add 32 = .ok (.dup, 1) := by decide +kernel
theorem dX8_add_33 : decode cX8_add 33 = .ok (.getfield 15, 3) := by decide +kernel
theorem dX8_add_36 : decode cX8_add 36 = .ok (.iconst 1, 1) := by decide +kernel
theorem dX8_add_37 : decode cX8_add 37 = .ok (.iadd, 1) := by decide +kernel
theorem dX8_add_38 : decode cX8_add 38 = .ok (.putfield 15, 3) := by decide +kernel
theorem dX8_add_41 : decode cX8_add 41 = .ok (.iconst 1, 1) := by decide +kernel
theorem dX8_add_42 : decode cX8_add 42 = .ok (.ireturn, 1) := by decide +kernel
theorem dX8_numberAt_0 : decode cX8_numberAt 0 = .ok (.iload_n 1, 1) := by decide +kernel
theorem dX8_numberAt_1 : decode cX8_numberAt 1 = .ok (.ifCond .lt 29, 3) := by decide +kernel
theorem dX8_numberAt_4 : decode cX8_numberAt 4 = .ok (.iload_n 1, 1) := by decide +kernel
theorem dX8_numberAt_5 : decode cX8_numberAt 5 = .ok (.aload_n 0, 1) := by decide +kernel
theorem dX8_numberAt_6 : decode cX8_numberAt 6 = .ok (.getfield 15, 3) := by decide +kernel
theorem dX8_numberAt_9 : decode cX8_numberAt 9 = .ok (.if_icmp .ge 21, 3) := by decide +kernel
theorem dX8_numberAt_12 : decode cX8_numberAt 12 = .ok (.iload_n 1, 1) := by decide +kernel
theorem dX8_numberAt_13 : decode cX8_numberAt 13 = .ok (.aload_n 0, 1) := by decide +kernel
theorem dX8_numberAt_14 : decode cX8_numberAt 14 = .ok (.getfield 9, 3) := by decide +kernel
theorem dX8_numberAt_17 : decode cX8_numberAt 17 = .ok (.arraylength, 1) := by decide +kernel
theorem dX8_numberAt_18 : decode cX8_numberAt 18 = .ok (.if_icmp .ge 12, 3) := by decide +kernel
theorem dX8_numberAt_21 : decode cX8_numberAt 21 = .ok (.aload_n 0, 1) := by decide +kernel
theorem dX8_numberAt_22 : decode cX8_numberAt 22 = .ok (.getfield 9, 3) := by decide +kernel
theorem dX8_numberAt_25 : decode cX8_numberAt 25 = .ok (.iload_n 1, 1) := by decide +kernel
theorem dX8_numberAt_26 : decode cX8_numberAt 26 = .ok (.iaload, 1) := by decide +kernel
theorem dX8_numberAt_27 : decode cX8_numberAt 27 = .ok (.goto 4, 3) := by decide +kernel
theorem dX8_numberAt_30 : decode cX8_numberAt 30 = .ok (.iconst 0, 1) := by decide +kernel
theorem dX8_numberAt_31 : decode cX8_numberAt 31 = .ok (.ireturn, 1) := by decide +kernel
theorem dX8_failingCount_0 : decode cX8_failingCount 0 = .ok (.aload_n 0, 1) := by decide +kernel
theorem dX8_failingCount_1 : decode cX8_failingCount 1 = .ok (.getfield 15, 3) := by decide +kernel
theorem dX8_failingCount_4 : decode cX8_failingCount 4 = .ok (.iconst 2, 1) := by decide +kernel
theorem dX8_failingCount_5 : decode cX8_failingCount 5 = .ok (.if_icmp .ge 6, 3) := by decide +kernel
theorem dX8_failingCount_8 : decode cX8_failingCount 8 = .ok (.bipush (-2), 2) := by decide +kernel
theorem dX8_failingCount_10 : decode cX8_failingCount 10 = .ok (.ireturn, 1) := by decide +kernel
theorem dX8_failingCount_11 : decode cX8_failingCount 11 = .ok (.iconst 1, 1) := by decide +kernel
theorem dX8_failingCount_12 : decode cX8_failingCount 12 = .ok (.istore_n 1, 1) := by decide +kernel
theorem dX8_failingCount_13 : decode cX8_failingCount 13 = .ok (.iload_n 1, 1) := by decide +kernel
theorem dX8_failingCount_14 : decode cX8_failingCount 14 = .ok (.aload_n 0, 1) := by decide +kernel
theorem dX8_failingCount_15 : decode cX8_failingCount 15 = .ok (.getfield 15, 3) := by decide +kernel
theorem dX8_failingCount_18 : decode cX8_failingCount 18 = .ok (.if_icmp .gt 43, 3) := by decide +kernel
theorem dX8_failingCount_21 : decode cX8_failingCount 21 = .ok (.aload_n 0, 1) := by decide +kernel
theorem dX8_failingCount_22 : decode cX8_failingCount 22 = .ok (.iload_n 1, 1) := by decide +kernel
theorem dX8_failingCount_23 : decode cX8_failingCount 23 = .ok (.invokevirtual 19, 3) := by decide +kernel
theorem dX8_failingCount_26 : decode cX8_failingCount 26 = .ok (.istore_n 2, 1) := by decide +kernel
theorem dX8_failingCount_27 : decode cX8_failingCount 27 = .ok (.iload_n 1, 1) := by decide +kernel
theorem dX8_failingCount_28 : decode cX8_failingCount 28 = .ok (.iload_n 1, 1) := by decide +kernel
theorem dX8_failingCount_29 : decode cX8_failingCount 29 = .ok (.iconst 1, 1) := by decide +kernel
theorem dX8_failingCount_30 : decode cX8_failingCount 30 = .ok (.isub, 1) := by decide +kernel
theorem dX8_failingCount_31 : decode cX8_failingCount 31 = .ok (.imul, 1) := by decide +kernel
theorem dX8_failingCount_32 : decode cX8_failingCount 32 = .ok (.iconst 2, 1) := by decide +kernel
theorem dX8_failingCount_33 : decode cX8_failingCount 33 = .ok (.idiv, 1) := by decide +kernel
theorem dX8_failingCount_34 : decode cX8_failingCount 34 = .ok (.istore_n 3, 1) := by decide +kernel
theorem dX8_failingCount_35 : decode cX8_failingCount 35 = .ok (.iload_n 2, 1) := by decide +kernel
theorem dX8_failingCount_36 : decode cX8_failingCount 36 = .ok (.iload_n 3, 1) := by decide +kernel
theorem dX8_failingCount_37 : decode cX8_failingCount 37 = .ok (.if_icmp .lt 16, 3) := by decide +kernel
theorem dX8_failingCount_40 : decode cX8_failingCount 40 = .ok (.iload_n 1, 1) := by decide +kernel
theorem dX8_failingCount_41 : decode cX8_failingCount 41 = .ok (.aload_n 0, 1) := by decide +kernel
theorem dX8_failingCount_42 : decode cX8_failingCount 42 = .ok (.getfield 15, 3) := by decide +kernel
theorem dX8_failingCount_45 : decode cX8_failingCount 45 = .ok (.if_icmp .ne 10, 3) := by decide +kernel
theorem dX8_failingCount_48 : decode cX8_failingCount 48 = .ok (.iload_n 2, 1) := by decide +kernel
theorem dX8_failingCount_49 : decode cX8_failingCount 49 = .ok (.iload_n 3, 1) := by decide +kernel
theorem dX8_failingCount_50 : decode cX8_failingCount 50 = .ok (.if_icmp .le 5, 3) := by decide +kernel
theorem dX8_failingCount_53 : decode cX8_failingCount 53 = .ok (.iload_n 1, 1) := by decide +kernel
theorem dX8_failingCount_54 : decode cX8_failingCount 54 = .ok (.ireturn, 1) := by decide +kernel
theorem dX8_failingCount_55 : decode cX8_failingCount 55 = .ok (.iinc 1 1, 3) := by decide +kernel
theorem dX8_failingCount_58 : decode cX8_failingCount 58 = .ok (.goto (-45), 3) := by decide +kernel
theorem dX8_failingCount_61 : decode cX8_failingCount 61 = .ok (.iconst 0, 1) := by decide +kernel
theorem dX8_failingCount_62 : decode cX8_failingCount 62 = .ok (.ireturn, 1) := by decide +kernel
theorem dX8_sumOfSmallest_0 : decode cX8_sumOfSmallest 0 = .ok (.iconst 0, 1) := by decide +kernel
theorem dX8_sumOfSmallest_1 : decode cX8_sumOfSmallest 1 = .ok (.istore_n 2, 1) := by decide +kernel
theorem dX8_sumOfSmallest_2 : decode cX8_sumOfSmallest 2 = .ok (.iload_n 1, 1) := by decide +kernel
theorem dX8_sumOfSmallest_3 : decode cX8_sumOfSmallest 3 = .ok (.istore_n 3, 1) := by decide +kernel
theorem dX8_sumOfSmallest_4 : decode cX8_sumOfSmallest 4 = .ok (.iconst 0, 1) := by decide +kernel
theorem dX8_sumOfSmallest_5 : decode cX8_sumOfSmallest 5 = .ok (.istore 4, 2) := by decide +kernel
theorem dX8_sumOfSmallest_7 : decode cX8_sumOfSmallest 7 = .ok (.iload 4, 2) := by decide +kernel
theorem dX8_sumOfSmallest_9 : decode cX8_sumOfSmallest 9 = .ok (.bipush 9, 2) := by decide +kernel
theorem dX8_sumOfSmallest_11 : decode cX8_sumOfSmallest 11 = .ok (.if_icmp .gt 34, 3) := by decide +kernel
theorem dX8_sumOfSmallest_14 : decode cX8_sumOfSmallest 14 = .ok (.iload_n 3, 1) := by decide +kernel
theorem dX8_sumOfSmallest_15 : decode cX8_sumOfSmallest 15 = .ok (.aload_n 0, 1) := by decide +kernel
theorem dX8_sumOfSmallest_16 : decode cX8_sumOfSmallest 16 = .ok (.iload 4, 2) := by decide +kernel
theorem dX8_sumOfSmallest_18 : decode cX8_sumOfSmallest 18 = .ok (.invokevirtual 23, 3) := by decide +kernel
theorem dX8_sumOfSmallest_21 : decode cX8_sumOfSmallest 21 = .ok (.invokestatic 26, 3) := by decide +kernel
theorem dX8_sumOfSmallest_24 : decode cX8_sumOfSmallest 24 = .ok (.istore 5, 2) := by decide +kernel
theorem dX8_sumOfSmallest_26 : decode cX8_sumOfSmallest 26 = .ok (.iload_n 2, 1) := by decide +kernel
theorem dX8_sumOfSmallest_27 : decode cX8_sumOfSmallest 27 = .ok (.iload 5, 2) := by decide +kernel
theorem dX8_sumOfSmallest_29 : decode cX8_sumOfSmallest 29 = .ok (.iload 4, 2) := by decide +kernel
theorem dX8_sumOfSmallest_31 : decode cX8_sumOfSmallest 31 = .ok (.imul, 1) := by decide +kernel
theorem dX8_sumOfSmallest_32 : decode cX8_sumOfSmallest 32 = .ok (.iadd, 1) := by decide +kernel
theorem dX8_sumOfSmallest_33 : decode cX8_sumOfSmallest 33 = .ok (.istore_n 2, 1) := by decide +kernel
theorem dX8_sumOfSmallest_34 : decode cX8_sumOfSmallest 34 = .ok (.iload_n 3, 1) := by decide +kernel
theorem dX8_sumOfSmallest_35 : decode cX8_sumOfSmallest 35 = .ok (.iload 5, 2) := by decide +kernel
theorem dX8_sumOfSmallest_37 : decode cX8_sumOfSmallest 37 = .ok (.isub, 1) := by decide +kernel
theorem dX8_sumOfSmallest_38 : decode cX8_sumOfSmallest 38 = .ok (.istore_n 3, 1) := by decide +kernel
theorem dX8_sumOfSmallest_39 : decode cX8_sumOfSmallest 39 = .ok (.iinc 4 1, 3) := by decide +kernel
theorem dX8_sumOfSmallest_42 : decode cX8_sumOfSmallest 42 = .ok (.goto (-35), 3) := by decide +kernel
theorem dX8_sumOfSmallest_45 : decode cX8_sumOfSmallest 45 = .ok (.iload_n 2, 1) := by decide +kernel
theorem dX8_sumOfSmallest_46 : decode cX8_sumOfSmallest 46 = .ok (.ireturn, 1) := by decide +kernel
theorem dX8_timesOf_0 : decode cX8_timesOf 0 = .ok (.iconst 0, 1) := by decide +kernel
theorem dX8_timesOf_1 : decode cX8_timesOf 1 = .ok (.istore_n 2, 1) := by decide +kernel
theorem dX8_timesOf_2 : decode cX8_timesOf 2 = .ok (.iconst 0, 1) := by decide +kernel
theorem dX8_timesOf_3 : decode cX8_timesOf 3 = .ok (.istore_n 3, 1) := by decide +kernel
theorem dX8_timesOf_4 : decode cX8_timesOf 4 = .ok (.iload_n 3, 1) := by decide +kernel
theorem dX8_timesOf_5 : decode cX8_timesOf 5 = .ok (.aload_n 0, 1) := by decide +kernel
theorem dX8_timesOf_6 : decode cX8_timesOf 6 = .ok (.getfield 15, 3) := by decide +kernel
theorem dX8_timesOf_9 : decode cX8_timesOf 9 = .ok (.if_icmp .ge 26, 3) := by decide +kernel
theorem dX8_timesOf_12 : decode cX8_timesOf 12 = .ok (.iload_n 2, 1) := by decide +kernel
theorem dX8_timesOf_13 : decode cX8_timesOf 13 = .ok (.aload_n 0, 1) := by decide +kernel
theorem dX8_timesOf_14 : decode cX8_timesOf 14 = .ok (.iload_n 3, 1) := by decide +kernel
theorem dX8_timesOf_15 : decode cX8_timesOf 15 = .ok (.invokevirtual 32, 3) := by decide +kernel
theorem dX8_timesOf_18 : decode cX8_timesOf 18 = .ok (.iload_n 1, 1) := by decide +kernel
theorem dX8_timesOf_19 : decode cX8_timesOf 19 = .ok (.if_icmp .ne 7, 3) := by decide +kernel
theorem dX8_timesOf_22 : decode cX8_timesOf 22 = .ok (.iconst 1, 1) := by decide +kernel
theorem dX8_timesOf_23 : decode cX8_timesOf 23 = .ok (.goto 4, 3) := by decide +kernel
theorem dX8_timesOf_26 : decode cX8_timesOf 26 = .ok (.iconst 0, 1) := by decide +kernel
theorem dX8_timesOf_27 : decode cX8_timesOf 27 = .ok (.iadd, 1) := by decide +kernel
theorem dX8_timesOf_28 : decode cX8_timesOf 28 = .ok (.istore_n 2, 1) := by decide +kernel
theorem dX8_timesOf_29 : decode cX8_timesOf 29 = .ok (.iinc 3 1, 3) := by decide +kernel
theorem dX8_timesOf_32 : decode cX8_timesOf 32 = .ok (.goto (-28), 3) := by decide +kernel
theorem dX8_timesOf_35 : decode cX8_timesOf 35 = .ok (.iload_n 2, 1) := by decide +kernel
theorem dX8_timesOf_36 : decode cX8_timesOf 36 = .ok (.ireturn, 1) := by decide +kernel
theorem dX9_leadersOf_0 : decode cX9_leadersOf 0 = .ok (.iconst (-1), 1) := by decide +kernel
theorem dX9_leadersOf_1 : decode cX9_leadersOf 1 = .ok (.istore_n 2, 1) := by decide +kernel
theorem dX9_leadersOf_2 : decode cX9_leadersOf 2 = .ok (.iconst 0, 1) := by decide +kernel
theorem dX9_leadersOf_3 : decode cX9_leadersOf 3 = .ok (.istore_n 3, 1) := by decide +kernel
theorem dX9_leadersOf_4 : decode cX9_leadersOf 4 = .ok (.iconst 0, 1) := by decide +kernel
theorem dX9_leadersOf_5 : decode cX9_leadersOf 5 = .ok (.istore 4, 2) := by decide +kernel
theorem dX9_leadersOf_7 : decode cX9_leadersOf 7 = .ok (.iload 4, 2) := by decide +kernel
theorem dX9_leadersOf_9 : decode cX9_leadersOf 9 = .ok (.aload_n 0, 1) := by decide +kernel
theorem dX9_leadersOf_10 : decode cX9_leadersOf 10 = .ok (.invokevirtual 9, 3) := by decide +kernel
theorem dX9_leadersOf_13 : decode cX9_leadersOf 13 = .ok (.if_icmp .ge 62, 3) := by decide +kernel
theorem dX9_leadersOf_16 : decode cX9_leadersOf 16 = .ok (.aload_n 0, 1) := by decide +kernel
theorem dX9_leadersOf_17 : decode cX9_leadersOf 17 = .ok (.iload 4, 2) := by decide +kernel
theorem dX9_leadersOf_19 : decode cX9_leadersOf 19 = .ok (.invokevirtual 15, 3) := by decide +kernel
theorem dX9_leadersOf_22 : decode cX9_leadersOf 22 = .ok (.iload_n 1, 1) := by decide +kernel
theorem dX9_leadersOf_23 : decode cX9_leadersOf 23 = .ok (.iand, 1) := by decide +kernel
theorem dX9_leadersOf_24 : decode cX9_leadersOf 24 = .ok (.invokestatic 19, 3) := by decide +kernel
theorem dX9_leadersOf_27 : decode cX9_leadersOf 27 = .ok (.istore 5, 2) := by decide +kernel
theorem dX9_leadersOf_29 : decode cX9_leadersOf 29 = .ok (.iload_n 1, 1) := by decide +kernel
theorem dX9_leadersOf_30 : decode cX9_leadersOf 30 = .ok (.iload 4, 2) := by decide +kernel
theorem dX9_leadersOf_32 : decode cX9_leadersOf 32 = .ok (.invokestatic 24, 3) := by decide +kernel
theorem dX9_leadersOf_35 : decode cX9_leadersOf 35 = .ok (.ifCond .eq 34, 3) := by decide +kernel
theorem dX9_leadersOf_38 : decode cX9_leadersOf 38 = .ok (.iload 5, 2) := by decide +kernel
theorem dX9_leadersOf_40 : decode cX9_leadersOf 40 = .ok (.iload_n 2, 1) := by decide +kernel
theorem dX9_leadersOf_41 : decode cX9_leadersOf 41 = .ok (.if_icmp .lt 28, 3) := by decide +kernel
theorem dX9_leadersOf_44 : decode cX9_leadersOf 44 = .ok (.iload 5, 2) := by decide +kernel
theorem dX9_leadersOf_46 : decode cX9_leadersOf 46 = .ok (.iload_n 2, 1) := by decide +kernel
theorem dX9_leadersOf_47 : decode cX9_leadersOf 47 = .ok (.if_icmp .le 11, 3) := by decide +kernel
theorem dX9_leadersOf_50 : decode cX9_leadersOf 50 = .ok (.iload 4, 2) := by decide +kernel
theorem dX9_leadersOf_52 : decode cX9_leadersOf 52 = .ok (.invokestatic 28, 3) := by decide +kernel
theorem dX9_leadersOf_55 : decode cX9_leadersOf 55 = .ok (.goto 10, 3) := by decide +kernel
theorem dX9_leadersOf_58 : decode cX9_leadersOf 58 = .ok (.iload_n 3, 1) := by decide +kernel
theorem dX9_leadersOf_59 : decode cX9_leadersOf 59 = .ok (.iload 4, 2) := by decide +kernel
theorem dX9_leadersOf_61 : decode cX9_leadersOf 61 = .ok (.invokestatic 28, 3) := by decide +kernel
theorem dX9_leadersOf_64 : decode cX9_leadersOf 64 = .ok (.ior, 1) := by decide +kernel
theorem dX9_leadersOf_65 : decode cX9_leadersOf 65 = .ok (.istore_n 3, 1) := by decide +kernel
theorem dX9_leadersOf_66 : decode cX9_leadersOf 66 = .ok (.iload 5, 2) := by decide +kernel
theorem dX9_leadersOf_68 : decode cX9_leadersOf 68 = .ok (.istore_n 2, 1) := by decide +kernel
theorem dX9_leadersOf_69 : decode cX9_leadersOf 69 = .ok (.iinc 4 1, 3) := by decide +kernel
theorem dX9_leadersOf_72 : decode cX9_leadersOf 72 = .ok (.goto (-65), 3) := by decide +kernel
theorem dX9_leadersOf_75 : decode cX9_leadersOf 75 = .ok (.iload_n 3, 1) := by decide +kernel
theorem dX9_leadersOf_76 : decode cX9_leadersOf 76 = .ok (.ireturn, 1) := by decide +kernel
theorem dX9_topOf_0 : decode cX9_topOf 0 = .ok (.aload_n 0, 1) := by decide +kernel
theorem dX9_topOf_1 : decode cX9_topOf 1 = .ok (.iload_n 1, 1) := by decide +kernel
theorem dX9_topOf_2 : decode cX9_topOf 2 = .ok (.invokestatic 31, 3) := by decide +kernel
theorem dX9_topOf_5 : decode cX9_topOf 5 = .ok (.istore_n 2, 1) := by decide +kernel
theorem dX9_topOf_6 : decode cX9_topOf 6 = .ok (.iconst 0, 1) := by decide +kernel
theorem dX9_topOf_7 : decode cX9_topOf 7 = .ok (.istore_n 3, 1) := by decide +kernel
theorem dX9_topOf_8 : decode cX9_topOf 8 = .ok (.iload_n 3, 1) := by decide +kernel
theorem dX9_topOf_9 : decode cX9_topOf 9 = .ok (.aload_n 0, 1) := by decide +kernel
theorem dX9_topOf_10 : decode cX9_topOf 10 = .ok (.invokevirtual 9, 3) := by decide +kernel
theorem dX9_topOf_13 : decode cX9_topOf 13 = .ok (.if_icmp .ge 55, 3) := by decide +kernel
theorem dX9_topOf_16 : decode cX9_topOf 16 = .ok (.iconst 0, 1) := by decide +kernel
theorem dX9_topOf_17 : decode cX9_topOf 17 = .ok (.istore 4, 2) := by decide +kernel
theorem dX9_topOf_19 : decode cX9_topOf 19 = .ok (.iload 4, 2) := by decide +kernel
theorem dX9_topOf_21 : decode cX9_topOf 21 = .ok (.aload_n 0, 1) := by decide +kernel
theorem dX9_topOf_22 : decode cX9_topOf 22 = .ok (.invokevirtual 9, 3) := by decide +kernel
theorem dX9_topOf_25 : decode cX9_topOf 25 = .ok (.if_icmp .ge 37, 3) := by decide +kernel
theorem dX9_topOf_28 : decode cX9_topOf 28 = .ok (.iload_n 1, 1) := by decide +kernel
theorem dX9_topOf_29 : decode cX9_topOf 29 = .ok (.iload 4, 2) := by decide +kernel
theorem dX9_topOf_31 : decode cX9_topOf 31 = .ok (.invokestatic 24, 3) := by decide +kernel
theorem dX9_topOf_34 : decode cX9_topOf 34 = .ok (.ifCond .eq 22, 3) := by decide +kernel
theorem dX9_topOf_37 : decode cX9_topOf 37 = .ok (.aload_n 0, 1) := by decide +kernel
theorem dX9_topOf_38 : decode cX9_topOf 38 = .ok (.iload 4, 2) := by decide +kernel
theorem dX9_topOf_40 : decode cX9_topOf 40 = .ok (.invokevirtual 15, 3) := by decide +kernel
theorem dX9_topOf_43 : decode cX9_topOf 43 = .ok (.iload_n 2, 1) := by decide +kernel
theorem dX9_topOf_44 : decode cX9_topOf 44 = .ok (.iand, 1) := by decide +kernel
theorem dX9_topOf_45 : decode cX9_topOf 45 = .ok (.ifCond .eq 11, 3) := by decide +kernel
theorem dX9_topOf_48 : decode cX9_topOf 48 = .ok (.iload_n 2, 1) := by decide +kernel
theorem dX9_topOf_49 : decode cX9_topOf 49 = .ok (.iload 4, 2) := by decide +kernel
theorem dX9_topOf_51 : decode cX9_topOf 51 = .ok (.invokestatic 28, 3) := by decide +kernel
theorem dX9_topOf_54 : decode cX9_topOf 54 = .ok (.ior, 1) := by decide +kernel
theorem dX9_topOf_55 : decode cX9_topOf 55 = .ok (.istore_n 2, 1) := by decide +kernel
theorem dX9_topOf_56 : decode cX9_topOf 56 = .ok (.iinc 4 1, 3) := by decide +kernel
theorem dX9_topOf_59 : decode cX9_topOf 59 = .ok (.goto (-40), 3) := by decide +kernel
theorem dX9_topOf_62 : decode cX9_topOf 62 = .ok (.iinc 3 1, 3) := by decide +kernel
theorem dX9_topOf_65 : decode cX9_topOf 65 = .ok (.goto (-57), 3) := by decide +kernel
theorem dX9_topOf_68 : decode cX9_topOf 68 = .ok (.iload_n 2, 1) := by decide +kernel
theorem dX9_topOf_69 : decode cX9_topOf 69 = .ok (.ireturn, 1) := by decide +kernel
theorem dX9_countParts_0 : decode cX9_countParts 0 = .ok (.aload_n 0, 1) := by decide +kernel
theorem dX9_countParts_1 : decode cX9_countParts 1 = .ok (.invokevirtual 37, 3) := by decide +kernel
theorem dX9_countParts_4 : decode cX9_countParts 4 = .ok (.istore_n 1, 1) := by decide +kernel
theorem dX9_countParts_5 : decode cX9_countParts 5 = .ok (.iconst 0, 1) := by decide +kernel
theorem dX9_countParts_6 : decode cX9_countParts 6 = .ok (.istore_n 2, 1) := by decide +kernel
theorem dX9_countParts_7 : decode cX9_countParts 7 = .ok (.iconst 0, 1) := by decide +kernel
theorem dX9_countParts_8 : decode cX9_countParts 8 = .ok (.istore_n 3, 1) := by decide +kernel
theorem dX9_countParts_9 : decode cX9_countParts 9 = .ok (.iload_n 3, 1) := by decide +kernel
theorem dX9_countParts_10 : decode cX9_countParts 10 = .ok (.bipush 10, 2) := by decide +kernel
theorem dX9_countParts_12 : decode cX9_countParts 12 = .ok (.if_icmp .ge 26, 3) := by decide +kernel
theorem dX9_countParts_15 : decode cX9_countParts 15 = .ok (.iload_n 1, 1) := by decide +kernel
theorem dX9_countParts_16 : decode cX9_countParts 16 = .ok (.ifCond .eq 22, 3) := by decide +kernel
theorem dX9_countParts_19 : decode cX9_countParts 19 = .ok (.iload_n 1, 1) := by decide +kernel
theorem dX9_countParts_20 : decode cX9_countParts 20 = .ok (.aload_n 0, 1) := by decide +kernel
theorem dX9_countParts_21 : decode cX9_countParts 21 = .ok (.iload_n 1, 1) := by decide +kernel
theorem dX9_countParts_22 : decode cX9_countParts 22 = .ok (.invokestatic 40, 3) := by decide +kernel
theorem dX9_countParts_25 : decode cX9_countParts 25 = .ok (.iconst (-1), 1) := by decide +kernel
theorem dX9_countParts_26 : decode cX9_countParts 26 = .ok (.ixor, 1) := by decide +kernel
theorem dX9_countParts_27 : decode cX9_countParts 27 = .ok (.iand, 1) := by decide +kernel
theorem dX9_countParts_28 : decode cX9_countParts 28 = .ok (.istore_n 1, 1) := by decide +kernel
theorem dX9_countParts_29 : decode cX9_countParts 29 = .ok (.iinc 2 1, 3) := by decide +kernel
theorem dX9_countParts_32 : decode cX9_countParts 32 = .ok (.iinc 3 1, 3) := by decide +kernel
theorem dX9_countParts_35 : decode cX9_countParts 35 = .ok (.goto (-26), 3) := by decide +kernel
theorem dX9_countParts_38 : decode cX9_countParts 38 = .ok (.iload_n 2, 1) := by decide +kernel
theorem dX9_countParts_39 : decode cX9_countParts 39 = .ok (.ireturn, 1) := by decide +kernel
theorem dX9_partNumber_0 : decode cX9_partNumber 0 = .ok (.aload_n 0, 1) := by decide +kernel
theorem dX9_partNumber_1 : decode cX9_partNumber 1 = .ok (.invokevirtual 37, 3) := by decide +kernel
theorem dX9_partNumber_4 : decode cX9_partNumber 4 = .ok (.aload_n 0, 1) := by decide +kernel
theorem dX9_partNumber_5 : decode cX9_partNumber 5 = .ok (.aload_n 0, 1) := by decide +kernel
theorem dX9_partNumber_6 : decode cX9_partNumber 6 = .ok (.invokevirtual 37, 3) := by decide +kernel
theorem dX9_partNumber_9 : decode cX9_partNumber 9 = .ok (.invokestatic 40, 3) := by decide +kernel
theorem dX9_partNumber_12 : decode cX9_partNumber 12 = .ok (.iconst (-1), 1) := by decide +kernel
theorem dX9_partNumber_13 : decode cX9_partNumber 13 = .ok (.ixor, 1) := by decide +kernel
theorem dX9_partNumber_14 : decode cX9_partNumber 14 = .ok (.iand, 1) := by decide +kernel
theorem dX9_partNumber_15 : decode cX9_partNumber 15 = .ok (.istore_n 2, 1) := by decide +kernel
theorem dX9_partNumber_16 : decode cX9_partNumber 16 = .ok (.iconst 0, 1) := by decide +kernel
theorem dX9_partNumber_17 : decode cX9_partNumber 17 = .ok (.istore_n 3, 1) := by decide +kernel
theorem dX9_partNumber_18 : decode cX9_partNumber 18 = .ok (.iconst 0, 1) := by decide +kernel
theorem dX9_partNumber_19 : decode cX9_partNumber 19 = .ok (.istore 4, 2) := by decide +kernel
theorem dX9_partNumber_21 : decode cX9_partNumber 21 = .ok (.iload 4, 2) := by decide +kernel
theorem dX9_partNumber_23 : decode cX9_partNumber 23 = .ok (.bipush 10, 2) := by decide +kernel
theorem dX9_partNumber_25 : decode cX9_partNumber 25 = .ok (.if_icmp .ge 30, 3) := by decide +kernel
theorem dX9_partNumber_28 : decode cX9_partNumber 28 = .ok (.iload_n 2, 1) := by decide +kernel
theorem dX9_partNumber_29 : decode cX9_partNumber 29 = .ok (.iload_n 1, 1) := by decide +kernel
theorem dX9_partNumber_30 : decode cX9_partNumber 30 = .ok (.invokestatic 24, 3) := by decide +kernel
theorem dX9_partNumber_33 : decode cX9_partNumber 33 = .ok (.ifCond .eq 22, 3) := by decide +kernel
theorem dX9_partNumber_36 : decode cX9_partNumber 36 = .ok (.iload_n 2, 1) := by decide +kernel
theorem dX9_partNumber_37 : decode cX9_partNumber 37 = .ok (.aload_n 0, 1) := by decide +kernel
theorem dX9_partNumber_38 : decode cX9_partNumber 38 = .ok (.iload_n 2, 1) := by decide +kernel
theorem dX9_partNumber_39 : decode cX9_partNumber 39 = .ok (.invokestatic 40, 3) := by decide +kernel
theorem dX9_partNumber_42 : decode cX9_partNumber 42 = .ok (.iconst (-1), 1) := by decide +kernel
theorem dX9_partNumber_43 : decode cX9_partNumber 43 = .ok (.ixor, 1) := by decide +kernel
theorem dX9_partNumber_44 : decode cX9_partNumber 44 = .ok (.iand, 1) := by decide +kernel
theorem dX9_partNumber_45 : decode cX9_partNumber 45 = .ok (.istore_n 2, 1) := by decide +kernel
theorem dX9_partNumber_46 : decode cX9_partNumber 46 = .ok (.iinc 3 1, 3) := by decide +kernel
theorem dX9_partNumber_49 : decode cX9_partNumber 49 = .ok (.iinc 4 1, 3) := by decide +kernel
theorem dX9_partNumber_52 : decode cX9_partNumber 52 = .ok (.goto (-31), 3) := by decide +kernel
theorem dX9_partNumber_55 : decode cX9_partNumber 55 = .ok (.iload_n 3, 1) := by decide +kernel
theorem dX9_partNumber_56 : decode cX9_partNumber 56 = .ok (.ireturn, 1) := by decide +kernel
theorem dX9_partWith_0 : decode cX9_partWith 0 = .ok (.aload_n 0, 1) := by decide +kernel
theorem dX9_partWith_1 : decode cX9_partWith 1 = .ok (.invokevirtual 37, 3) := by decide +kernel
theorem dX9_partWith_4 : decode cX9_partWith 4 = .ok (.istore_n 2, 1) := by decide +kernel
theorem dX9_partWith_5 : decode cX9_partWith 5 = .ok (.aload_n 0, 1) := by decide +kernel
theorem dX9_partWith_6 : decode cX9_partWith 6 = .ok (.iload_n 2, 1) := by decide +kernel
theorem dX9_partWith_7 : decode cX9_partWith 7 = .ok (.invokestatic 40, 3) := by decide +kernel
theorem dX9_partWith_10 : decode cX9_partWith 10 = .ok (.istore_n 3, 1) := by decide +kernel
theorem dX9_partWith_11 : decode cX9_partWith 11 = .ok (.iconst 0, 1) := by decide +kernel
theorem dX9_partWith_12 : decode cX9_partWith 12 = .ok (.istore 4, 2) := by decide +kernel
theorem dX9_partWith_14 : decode cX9_partWith 14 = .ok (.iload 4, 2) := by decide +kernel
theorem dX9_partWith_16 : decode cX9_partWith 16 = .ok (.bipush 10, 2) := by decide +kernel
theorem dX9_partWith_18 : decode cX9_partWith 18 = .ok (.if_icmp .ge 33, 3) := by decide +kernel
theorem dX9_partWith_21 : decode cX9_partWith 21 = .ok (.iload_n 3, 1) := by decide +kernel
theorem dX9_partWith_22 : decode cX9_partWith 22 = .ok (.iload_n 1, 1) := by decide +kernel
theorem dX9_partWith_23 : decode cX9_partWith 23 = .ok (.invokestatic 24, 3) := by decide +kernel
theorem dX9_partWith_26 : decode cX9_partWith 26 = .ok (.ifCond .ne 25, 3) := by decide +kernel
theorem dX9_partWith_29 : decode cX9_partWith 29 = .ok (.iload_n 2, 1) := by decide +kernel
theorem dX9_partWith_30 : decode cX9_partWith 30 = .ok (.ifCond .eq 21, 3) := by decide +kernel
theorem dX9_partWith_33 : decode cX9_partWith 33 = .ok (.iload_n 2, 1) := by decide +kernel
theorem dX9_partWith_34 : decode cX9_partWith 34 = .ok (.iload_n 3, 1) := by decide +kernel
theorem dX9_partWith_35 : decode cX9_partWith 35 = .ok (.iconst (-1), 1) := by decide +kernel
theorem dX9_partWith_36 : decode cX9_partWith 36 = .ok (.ixor, 1) := by decide +kernel
theorem dX9_partWith_37 : decode cX9_partWith 37 = .ok (.iand, 1) := by decide +kernel
theorem dX9_partWith_38 : decode cX9_partWith 38 = .ok (.istore_n 2, 1) := by decide +kernel
theorem dX9_partWith_39 : decode cX9_partWith 39 = .ok (.aload_n 0, 1) := by decide +kernel
theorem dX9_partWith_40 : decode cX9_partWith 40 = .ok (.iload_n 2, 1) := by decide +kernel
theorem dX9_partWith_41 : decode cX9_partWith 41 = .ok (.invokestatic 40, 3) := by decide +kernel
theorem dX9_partWith_44 : decode cX9_partWith 44 = .ok (.istore_n 3, 1) := by decide +kernel
theorem dX9_partWith_45 : decode cX9_partWith 45 = .ok (.iinc 4 1, 3) := by decide +kernel
theorem dX9_partWith_48 : decode cX9_partWith 48 = .ok (.goto (-34), 3) := by decide +kernel
theorem dX9_partWith_51 : decode cX9_partWith 51 = .ok (.iload_n 3, 1) := by decide +kernel
theorem dX9_partWith_52 : decode cX9_partWith 52 = .ok (.ireturn, 1) := by decide +kernel
theorem dX9_kingsOf_0 : decode cX9_kingsOf 0 = .ok (.iconst 0, 1) := by decide +kernel
theorem dX9_kingsOf_1 : decode cX9_kingsOf 1 = .ok (.istore_n 1, 1) := by decide +kernel
theorem dX9_kingsOf_2 : decode cX9_kingsOf 2 = .ok (.iconst 0, 1) := by decide +kernel
theorem dX9_kingsOf_3 : decode cX9_kingsOf 3 = .ok (.istore_n 2, 1) := by decide +kernel
theorem dX9_kingsOf_4 : decode cX9_kingsOf 4 = .ok (.iload_n 2, 1) := by decide +kernel
theorem dX9_kingsOf_5 : decode cX9_kingsOf 5 = .ok (.aload_n 0, 1) := by decide +kernel
theorem dX9_kingsOf_6 : decode cX9_kingsOf 6 = .ok (.invokevirtual 9, 3) := by decide +kernel
theorem dX9_kingsOf_9 : decode cX9_kingsOf 9 = .ok (.if_icmp .ge 24, 3) := by decide +kernel
theorem dX9_kingsOf_12 : decode cX9_kingsOf 12 = .ok (.aload_n 0, 1) := by decide +kernel
theorem dX9_kingsOf_13 : decode cX9_kingsOf 13 = .ok (.iload_n 2, 1) := by decide +kernel
theorem dX9_kingsOf_14 : decode cX9_kingsOf 14 = .ok (.invokestatic 43, 3) := by decide +kernel
theorem dX9_kingsOf_17 : decode cX9_kingsOf 17 = .ok (.ifCond .eq 10, 3) := by decide +kernel
theorem dX9_kingsOf_20 : decode cX9_kingsOf 20 = .ok (.iload_n 1, 1) := by decide +kernel
theorem dX9_kingsOf_21 : decode cX9_kingsOf 21 = .ok (.iload_n 2, 1) := by decide +kernel
theorem dX9_kingsOf_22 : decode cX9_kingsOf 22 = .ok (.invokestatic 28, 3) := by decide +kernel
theorem dX9_kingsOf_25 : decode cX9_kingsOf 25 = .ok (.ior, 1) := by decide +kernel
theorem dX9_kingsOf_26 : decode cX9_kingsOf 26 = .ok (.istore_n 1, 1) := by decide +kernel
theorem dX9_kingsOf_27 : decode cX9_kingsOf 27 = .ok (.iinc 2 1, 3) := by decide +kernel
theorem dX9_kingsOf_30 : decode cX9_kingsOf 30 = .ok (.goto (-26), 3) := by decide +kernel
theorem dX9_kingsOf_33 : decode cX9_kingsOf 33 = .ok (.iload_n 1, 1) := by decide +kernel
theorem dX9_kingsOf_34 : decode cX9_kingsOf 34 = .ok (.ireturn, 1) := by decide +kernel
theorem dX9_isKing_0 : decode cX9_isKing 0 = .ok (.iload_n 1, 1) := by decide +kernel
theorem dX9_isKing_1 : decode cX9_isKing 1 = .ok (.invokestatic 28, 3) := by decide +kernel
theorem dX9_isKing_4 : decode cX9_isKing 4 = .ok (.aload_n 0, 1) := by decide +kernel
theorem dX9_isKing_5 : decode cX9_isKing 5 = .ok (.iload_n 1, 1) := by decide +kernel
theorem dX9_isKing_6 : decode cX9_isKing 6 = .ok (.invokevirtual 15, 3) := by decide +kernel
theorem dX9_isKing_9 : decode cX9_isKing 9 = .ok (.ior, 1) := by decide +kernel
theorem dX9_isKing_10 : decode cX9_isKing 10 = .ok (.istore_n 2, 1) := by decide +kernel
theorem dX9_isKing_11 : decode cX9_isKing 11 = .ok (.iconst 0, 1) := by decide +kernel
theorem dX9_isKing_12 : decode cX9_isKing 12 = .ok (.istore_n 3, 1) := by decide +kernel
theorem dX9_isKing_13 : decode cX9_isKing 13 = .ok (.iload_n 3, 1) := by decide +kernel
theorem dX9_isKing_14 : decode cX9_isKing 14 = .ok (.aload_n 0, 1) := by decide +kernel
theorem dX9_isKing_15 : decode cX9_isKing 15 = .ok (.invokevirtual 9, 3) := by decide +kernel
theorem dX9_isKing_18 : decode cX9_isKing 18 = .ok (.if_icmp .ge 26, 3) := by decide +kernel
theorem dX9_isKing_21 : decode cX9_isKing 21 = .ok (.aload_n 0, 1) := by decide +kernel
theorem dX9_isKing_22 : decode cX9_isKing 22 = .ok (.iload_n 1, 1) := by decide +kernel
theorem dX9_isKing_23 : decode cX9_isKing 23 = .ok (.iload_n 3, 1) := by decide +kernel
theorem dX9_isKing_24 : decode cX9_isKing 24 = .ok (.invokevirtual 47, 3) := by decide +kernel
theorem dX9_isKing_27 : decode cX9_isKing 27 = .ok (.ifCond .eq 11, 3) := by decide +kernel
theorem dX9_isKing_30 : decode cX9_isKing 30 = .ok (.iload_n 2, 1) := by decide +kernel
theorem dX9_isKing_31 : decode cX9_isKing 31 = .ok (.aload_n 0, 1) := by decide +kernel
theorem dX9_isKing_32 : decode cX9_isKing 32 = .ok (.iload_n 3, 1) := by decide +kernel
theorem dX9_isKing_33 : decode cX9_isKing 33 = .ok (.invokevirtual 15, 3) := by decide +kernel
theorem dX9_isKing_36 : decode cX9_isKing 36 = .ok (.ior, 1) := by decide +kernel
theorem dX9_isKing_37 : decode cX9_isKing 37 = .ok (.istore_n 2, 1) := by decide +kernel
theorem dX9_isKing_38 : decode cX9_isKing 38 = .ok (.iinc 3 1, 3) := by decide +kernel
theorem dX9_isKing_41 : decode cX9_isKing 41 = .ok (.goto (-28), 3) := by decide +kernel
theorem dX9_isKing_44 : decode cX9_isKing 44 = .ok (.iload_n 2, 1) := by decide +kernel
theorem dX9_isKing_45 : decode cX9_isKing 45 = .ok (.aload_n 0, 1) := by decide +kernel
theorem dX9_isKing_46 : decode cX9_isKing 46 = .ok (.invokevirtual 37, 3) := by decide +kernel
theorem dX9_isKing_49 : decode cX9_isKing 49 = .ok (.if_icmp .ne 7, 3) := by decide +kernel
theorem dX9_isKing_52 : decode cX9_isKing 52 = .ok (.iconst 1, 1) := by decide +kernel
theorem dX9_isKing_53 : decode cX9_isKing 53 = .ok (.goto 4, 3) := by decide +kernel
theorem dX9_isKing_56 : decode cX9_isKing 56 = .ok (.iconst 0, 1) := by decide +kernel
theorem dX9_isKing_57 : decode cX9_isKing 57 = .ok (.ireturn, 1) := by decide +kernel
theorem dX9_chainTopsOf_0 : decode cX9_chainTopsOf 0 = .ok (.iconst 0, 1) := by decide +kernel
theorem dX9_chainTopsOf_1 : decode cX9_chainTopsOf 1 = .ok (.istore_n 1, 1) := by decide +kernel
theorem dX9_chainTopsOf_2 : decode cX9_chainTopsOf 2 = .ok (.iconst 0, 1) := by decide +kernel
theorem dX9_chainTopsOf_3 : decode cX9_chainTopsOf 3 = .ok (.istore_n 2, 1) := by decide +kernel
theorem dX9_chainTopsOf_4 : decode cX9_chainTopsOf 4 = .ok (.iload_n 2, 1) := by decide +kernel
theorem dX9_chainTopsOf_5 : decode cX9_chainTopsOf 5 = .ok (.aload_n 0, 1) := by decide +kernel
theorem dX9_chainTopsOf_6 : decode cX9_chainTopsOf 6 = .ok (.invokevirtual 9, 3) := by decide +kernel
theorem dX9_chainTopsOf_9 : decode cX9_chainTopsOf 9 = .ok (.if_icmp .ge 23, 3) := by decide +kernel
theorem dX9_chainTopsOf_12 : decode cX9_chainTopsOf 12 = .ok (.iload_n 1, 1) := by decide +kernel
theorem dX9_chainTopsOf_13 : decode cX9_chainTopsOf 13 = .ok (.aload_n 0, 1) := by decide +kernel
theorem dX9_chainTopsOf_14 : decode cX9_chainTopsOf 14 = .ok (.iload_n 2, 1) := by decide +kernel
theorem dX9_chainTopsOf_15 : decode cX9_chainTopsOf 15 = .ok (.aload_n 0, 1) := by decide +kernel
theorem dX9_chainTopsOf_16 : decode cX9_chainTopsOf 16 = .ok (.iload_n 2, 1) := by decide +kernel
theorem dX9_chainTopsOf_17 : decode cX9_chainTopsOf 17 = .ok (.invokevirtual 50, 3) := by decide +kernel
theorem dX9_chainTopsOf_20 : decode cX9_chainTopsOf 20 = .ok (.iconst 1, 1) := by decide +kernel
theorem dX9_chainTopsOf_21 : decode cX9_chainTopsOf 21 = .ok (.invokestatic 53, 3) := by decide +kernel
theorem dX9_chainTopsOf_24 : decode cX9_chainTopsOf 24 = .ok (.ior, 1) := by decide +kernel
theorem dX9_chainTopsOf_25 : decode cX9_chainTopsOf 25 = .ok (.istore_n 1, 1) := by decide +kernel
theorem dX9_chainTopsOf_26 : decode cX9_chainTopsOf 26 = .ok (.iinc 2 1, 3) := by decide +kernel
theorem dX9_chainTopsOf_29 : decode cX9_chainTopsOf 29 = .ok (.goto (-25), 3) := by decide +kernel
theorem dX9_chainTopsOf_32 : decode cX9_chainTopsOf 32 = .ok (.iload_n 1, 1) := by decide +kernel
theorem dX9_chainTopsOf_33 : decode cX9_chainTopsOf 33 = .ok (.ireturn, 1) := by decide +kernel
theorem dX9_topsAbove_0 : decode cX9_topsAbove 0 = .ok (.iload_n 2, 1) := by decide +kernel
theorem dX9_topsAbove_1 : decode cX9_topsAbove 1 = .ok (.ifCond .eq 9, 3) := by decide +kernel
theorem dX9_topsAbove_4 : decode cX9_topsAbove 4 = .ok (.iload_n 3, 1) := by decide +kernel
theorem dX9_topsAbove_5 : decode cX9_topsAbove 5 = .ok (.bipush 10, 2) := by decide +kernel
theorem dX9_topsAbove_7 : decode cX9_topsAbove 7 = .ok (.if_icmp .lt 16, 3) := by decide +kernel
theorem dX9_topsAbove_10 : decode cX9_topsAbove 10 = .ok (.iload_n 2, 1) := by decide +kernel
theorem dX9_topsAbove_11 : decode cX9_topsAbove 11 = .ok (.ifCond .ne 10, 3) := by decide +kernel
theorem dX9_topsAbove_14 : decode cX9_topsAbove 14 = .ok (.iload_n 1, 1) := by decide +kernel
theorem dX9_topsAbove_15 : decode cX9_topsAbove 15 = .ok (.invokestatic 28, 3) := by decide +kernel
theorem dX9_topsAbove_18 : decode cX9_topsAbove 18 = .ok (.goto 4, 3) := by decide +kernel
theorem dX9_topsAbove_21 : decode cX9_topsAbove 21 = .ok (.iconst 0, 1) := by decide +kernel
theorem dX9_topsAbove_22 : decode cX9_topsAbove 22 = .ok (.ireturn, 1) := by decide +kernel
theorem dX9_topsAbove_23 : decode cX9_topsAbove 23 = .ok (.iconst 0, 1) := by decide +kernel
theorem dX9_topsAbove_24 : decode cX9_topsAbove 24 = .ok (.istore 4, 2) := by decide +kernel
theorem dX9_topsAbove_26 : decode cX9_topsAbove 26 = .ok (.iconst 0, 1) := by decide +kernel
theorem dX9_topsAbove_27 : decode cX9_topsAbove 27 = .ok (.istore 5, 2) := by decide +kernel
theorem dX9_topsAbove_29 : decode cX9_topsAbove 29 = .ok (.iload 5, 2) := by decide +kernel
theorem dX9_topsAbove_31 : decode cX9_topsAbove 31 = .ok (.aload_n 0, 1) := by decide +kernel
theorem dX9_topsAbove_32 : decode cX9_topsAbove 32 = .ok (.invokevirtual 9, 3) := by decide +kernel
theorem dX9_topsAbove_35 : decode cX9_topsAbove 35 = .ok (.if_icmp .ge 40, 3) := by decide +kernel
theorem dX9_topsAbove_38 : decode cX9_topsAbove 38 = .ok (.iload_n 2, 1) := by decide +kernel
theorem dX9_topsAbove_39 : decode cX9_topsAbove 39 = .ok (.iload 5, 2) := by decide +kernel
theorem dX9_topsAbove_41 : decode cX9_topsAbove 41 = .ok (.invokestatic 24, 3) := by decide +kernel
theorem dX9_topsAbove_44 : decode cX9_topsAbove 44 = .ok (.ifCond .eq 25, 3) := by decide +kernel
theorem dX9_topsAbove_47 : decode cX9_topsAbove 47 = .ok (.iload 4, 2) := by decide +kernel
theorem dX9_topsAbove_49 : decode cX9_topsAbove 49 = .ok (.aload_n 0, 1) := by decide +kernel
theorem dX9_topsAbove_50 : decode cX9_topsAbove 50 = .ok (.iload 5, 2) := by decide +kernel
theorem dX9_topsAbove_52 : decode cX9_topsAbove 52 = .ok (.iload_n 2, 1) := by decide +kernel
theorem dX9_topsAbove_53 : decode cX9_topsAbove 53 = .ok (.aload_n 0, 1) := by decide +kernel
theorem dX9_topsAbove_54 : decode cX9_topsAbove 54 = .ok (.iload 5, 2) := by decide +kernel
theorem dX9_topsAbove_56 : decode cX9_topsAbove 56 = .ok (.invokevirtual 50, 3) := by decide +kernel
theorem dX9_topsAbove_59 : decode cX9_topsAbove 59 = .ok (.iand, 1) := by decide +kernel
theorem dX9_topsAbove_60 : decode cX9_topsAbove 60 = .ok (.iload_n 3, 1) := by decide +kernel
theorem dX9_topsAbove_61 : decode cX9_topsAbove 61 = .ok (.iconst 1, 1) := by decide +kernel
theorem dX9_topsAbove_62 : decode cX9_topsAbove 62 = .ok (.iadd, 1) := by decide +kernel
theorem dX9_topsAbove_63 : decode cX9_topsAbove 63 = .ok (.invokestatic 53, 3) := by decide +kernel
theorem dX9_topsAbove_66 : decode cX9_topsAbove 66 = .ok (.ior, 1) := by decide +kernel
theorem dX9_topsAbove_67 : decode cX9_topsAbove 67 = .ok (.istore 4, 2) := by decide +kernel
theorem dX9_topsAbove_69 : decode cX9_topsAbove 69 = .ok (.iinc 5 1, 3) := by decide +kernel
theorem dX9_topsAbove_72 : decode cX9_topsAbove 72 = .ok (.goto (-43), 3) := by decide +kernel
theorem dX9_topsAbove_75 : decode cX9_topsAbove 75 = .ok (.iload 4, 2) := by decide +kernel
theorem dX9_topsAbove_77 : decode cX9_topsAbove 77 = .ok (.ireturn, 1) := by decide +kernel
theorem dX10_init_0 : decode cX10_init 0 = .ok (.aload_n 0, 1) := by decide +kernel
theorem dX10_init_1 : decode cX10_init 1 = .ok (.invokespecial 1, 3) := by decide +kernel
theorem dX10_init_4 : decode cX10_init 4 = .ok (.aload_n 0, 1) := by decide +kernel
theorem dX10_init_5 : decode cX10_init 5 = .ok (.new 7, 3) := by decide +kernel
theorem dX10_init_8 : decode cX10_init 8 = .ok (.dup, 1) := by decide +kernel
theorem dX10_init_9 : decode cX10_init 9 = .ok (.invokespecial 9, 3) := by decide +kernel
theorem dX10_init_12 : decode cX10_init 12 = .ok (.putfield 10, 3) := by decide +kernel
theorem dX10_init_15 : decode cX10_init 15 = .ok (.aload_n 0, 1) := by decide +kernel
theorem dX10_init_16 : decode cX10_init 16 = .ok (.new 7, 3) := by decide +kernel
theorem dX10_init_19 : decode cX10_init 19 = .ok (.dup, 1) := by decide +kernel
theorem dX10_init_20 : decode cX10_init 20 = .ok (.invokespecial 9, 3) := by decide +kernel
theorem dX10_init_23 : decode cX10_init 23 = .ok (.putfield 16, 3) := by decide +kernel
theorem dX10_init_26 : decode cX10_init 26 = .ok (.aload_n 0, 1) := by decide +kernel
theorem dX10_init_27 : decode cX10_init 27 = .ok (.new 19, 3) := by decide +kernel
theorem dX10_init_30 : decode cX10_init 30 = .ok (.dup, 1) := by decide +kernel
theorem dX10_init_31 : decode cX10_init 31 = .ok (.invokespecial 21, 3) := by decide +kernel
theorem dX10_init_34 : decode cX10_init 34 = .ok (.putfield 22, 3) := by decide +kernel
theorem dX10_init_37 : decode cX10_init 37 = .ok (.aload_n 0, 1) := by decide +kernel
theorem dX10_init_38 : decode cX10_init 38 = .ok (.new 26, 3) := by decide +kernel
theorem dX10_init_41 : decode cX10_init 41 = .ok (.dup, 1) := by decide +kernel
theorem dX10_init_42 : decode cX10_init 42 = .ok (.invokespecial 28, 3) := by decide +kernel
theorem dX10_init_45 : decode cX10_init 45 = .ok (.putfield 29, 3) := by decide +kernel
theorem dX10_init_48 : decode cX10_init 48 = .ok (.aload_n 0, 1) := by decide +kernel
theorem dX10_init_49 : decode cX10_init 49 = .ok (.new 33, 3) := by decide +kernel
theorem dX10_init_52 : decode cX10_init 52 = .ok (.dup, 1) := by decide +kernel
theorem dX10_init_53 : decode cX10_init 53 = .ok (.invokespecial 35, 3) := by decide +kernel
theorem dX10_init_56 : decode cX10_init 56 = .ok (.putfield 36, 3) := by decide +kernel
theorem dX10_init_59 : decode cX10_init 59 = .ok (.aload_n 0, 1) := by decide +kernel
theorem dX10_init_60 : decode cX10_init 60 = .ok (.new 40, 3) := by decide +kernel
theorem dX10_init_63 : decode cX10_init 63 = .ok (.dup, 1) := by decide +kernel
theorem dX10_init_64 : decode cX10_init 64 = .ok (.invokespecial 42, 3) := by decide +kernel
theorem dX10_init_67 : decode cX10_init 67 = .ok (.putfield 43, 3) := by decide +kernel
theorem dX10_init_70 : decode cX10_init 70 = .ok (.aload_n 0, 1) := by decide +kernel
theorem dX10_init_71 : decode cX10_init 71 = .ok (.new 47, 3) := by decide +kernel
theorem dX10_init_74 : decode cX10_init 74 = .ok (.dup, 1) := by decide +kernel
theorem dX10_init_75 : decode cX10_init 75 = .ok (.invokespecial 49, 3) := by decide +kernel
theorem dX10_init_78 : decode cX10_init 78 = .ok (.putfield 50, 3) := by decide +kernel
theorem dX10_init_81 : decode cX10_init 81 = .ok (.aload_n 0, 1) := by decide +kernel
theorem dX10_init_82 : decode cX10_init 82 = .ok (.new 54, 3) := by decide +kernel
theorem dX10_init_85 : decode cX10_init 85 = .ok (.dup, 1) := by decide +kernel
theorem dX10_init_86 : decode cX10_init 86 = .ok (.invokespecial 56, 3) := by decide +kernel
theorem dX10_init_89 : decode cX10_init 89 = .ok (.putfield 57, 3) := by decide +kernel
theorem dX10_init_92 : decode cX10_init 92 = .ok (.aload_n 0, 1) := by decide +kernel
theorem dX10_init_93 : decode cX10_init 93 = .ok (.new 61, 3) := by decide +kernel
theorem dX10_init_96 : decode cX10_init 96 = .ok (.dup, 1) := by decide +kernel
theorem dX10_init_97 : decode cX10_init 97 = .ok (.invokespecial 63, 3) := by decide +kernel
theorem dX10_init_100 : decode cX10_init 100 = .ok (.putfield 64, 3) := by decide +kernel
theorem dX10_init_103 : decode cX10_init 103 = .ok (.aload_n 0, 1) := by decide +kernel
theorem dX10_init_104 : decode cX10_init 104 = .ok (.new 68, 3) := by decide +kernel
theorem dX10_init_107 : decode cX10_init 107 = .ok (.dup, 1) := by decide +kernel
theorem dX10_init_108 : decode cX10_init 108 = .ok (.invokespecial 70, 3) := by decide +kernel
theorem dX10_init_111 : decode cX10_init 111 = .ok (.putfield 71, 3) := by decide +kernel
theorem dX10_init_114 : decode cX10_init 114 = .ok (.return_, 1) := by decide +kernel
theorem dX10_reset_0 : decode cX10_reset 0 = .ok (.iload_n 1, 1) := by decide +kernel
theorem dX10_reset_1 : decode cX10_reset 1 = .ok (.iconst 2, 1) := by decide +kernel
theorem dX10_reset_2 : decode cX10_reset 2 = .ok (.if_icmp .lt 9, 3) := by decide +kernel
theorem dX10_reset_5 : decode cX10_reset 5 = .ok (.iload_n 1, 1) := by decide +kernel
theorem dX10_reset_6 : decode cX10_reset 6 = .ok (.bipush 10, 2) := by decide +kernel
theorem dX10_reset_8 : decode cX10_reset 8 = .ok (.if_icmp .le 5, 3) := by decide +kernel
theorem dX10_reset_11 : decode cX10_reset 11 = .ok (.iconst (-1), 1) := by decide +kernel
theorem dX10_reset_12 : decode cX10_reset 12 = .ok (.ireturn, 1) := by decide +kernel
theorem dX10_reset_13 : decode cX10_reset 13 = .ok (.aload_n 0, 1) := by decide +kernel
theorem dX10_reset_14 : decode cX10_reset 14 = .ok (.getfield 10, 3) := by decide +kernel
theorem dX10_reset_17 : decode cX10_reset 17 = .ok (.invokevirtual 75, 3) := by decide +kernel
theorem dX10_reset_20 : decode cX10_reset 20 = .ok (.istore_n 2, 1) := by decide +kernel
theorem dX10_reset_21 : decode cX10_reset 21 = .ok (.aload_n 0, 1) := by decide +kernel
theorem dX10_reset_22 : decode cX10_reset 22 = .ok (.getfield 22, 3) := by decide +kernel
theorem dX10_reset_25 : decode cX10_reset 25 = .ok (.aload_n 0, 1) := by decide +kernel
theorem dX10_reset_26 : decode cX10_reset 26 = .ok (.getfield 10, 3) := by decide +kernel
theorem dX10_reset_29 : decode cX10_reset 29 = .ok (.invokevirtual 79, 3) := by decide +kernel
theorem dX10_reset_32 : decode cX10_reset 32 = .ok (.aload_n 0, 1) := by decide +kernel
theorem dX10_reset_33 : decode cX10_reset 33 = .ok (.getfield 10, 3) := by decide +kernel
theorem dX10_reset_36 : decode cX10_reset 36 = .ok (.iload_n 1, 1) := by decide +kernel
theorem dX10_reset_37 : decode cX10_reset 37 = .ok (.invokevirtual 83, 3) := by decide +kernel
theorem dX10_reset_40 : decode cX10_reset 40 = .ok (.iload_n 2, 1) := by decide +kernel
theorem dX10_reset_41 : decode cX10_reset 41 = .ok (.ireturn, 1) := by decide +kernel
theorem dX10_setResult_0 : decode cX10_setResult 0 = .ok (.aload_n 0, 1) := by decide +kernel
theorem dX10_setResult_1 : decode cX10_setResult 1 = .ok (.getfield 10, 3) := by decide +kernel
theorem dX10_setResult_4 : decode cX10_setResult 4 = .ok (.iload_n 1, 1) := by decide +kernel
theorem dX10_setResult_5 : decode cX10_setResult 5 = .ok (.iload_n 2, 1) := by decide +kernel
theorem dX10_setResult_6 : decode cX10_setResult 6 = .ok (.invokevirtual 87, 3) := by decide +kernel
theorem dX10_setResult_9 : decode cX10_setResult 9 = .ok (.ifCond .ne 5, 3) := by decide +kernel
theorem dX10_setResult_12 : decode cX10_setResult 12 = .ok (.iconst (-1), 1) := by decide +kernel
theorem dX10_setResult_13 : decode cX10_setResult 13 = .ok (.ireturn, 1) := by decide +kernel
theorem dX10_setResult_14 : decode cX10_setResult 14 = .ok (.aload_n 0, 1) := by decide +kernel
theorem dX10_setResult_15 : decode cX10_setResult 15 = .ok (.getfield 10, 3) := by decide +kernel
theorem dX10_setResult_18 : decode cX10_setResult 18 = .ok (.iload_n 1, 1) := by decide +kernel
theorem dX10_setResult_19 : decode cX10_setResult 19 = .ok (.iload_n 2, 1) := by decide +kernel
theorem dX10_setResult_20 : decode cX10_setResult 20 = .ok (.invokevirtual 91, 3) := by decide +kernel
theorem dX10_setResult_23 : decode cX10_setResult 23 = .ok (.istore_n 3, 1) := by decide +kernel
theorem dX10_setResult_24 : decode cX10_setResult 24 = .ok (.aload_n 0, 1) := by decide +kernel
theorem dX10_setResult_25 : decode cX10_setResult 25 = .ok (.getfield 22, 3) := by decide +kernel
theorem dX10_setResult_28 : decode cX10_setResult 28 = .ok (.aload_n 0, 1) := by decide +kernel
theorem dX10_setResult_29 : decode cX10_setResult 29 = .ok (.getfield 10, 3) := by decide +kernel
theorem dX10_setResult_32 : decode cX10_setResult 32 = .ok (.invokevirtual 79, 3) := by decide +kernel
theorem dX10_setResult_35 : decode cX10_setResult 35 = .ok (.aload_n 0, 1) := by decide +kernel
theorem dX10_setResult_36 : decode cX10_setResult 36 = .ok (.getfield 10, 3) := by decide +kernel
theorem dX10_setResult_39 : decode cX10_setResult 39 = .ok (.iload_n 1, 1) := by decide +kernel
theorem dX10_setResult_40 : decode cX10_setResult 40 = .ok (.iload_n 2, 1) := by decide +kernel
theorem dX10_setResult_41 : decode cX10_setResult 41 = .ok (.invokevirtual 94, 3) := by decide +kernel
theorem dX10_setResult_44 : decode cX10_setResult 44 = .ok (.iload_n 3, 1) := by decide +kernel
theorem dX10_setResult_45 : decode cX10_setResult 45 = .ok (.ifCond .eq 7, 3) := by decide +kernel
theorem dX10_setResult_48 : decode cX10_setResult 48 = .ok (.iconst 1, 1) := by decide +kernel
theorem dX10_setResult_49 : decode cX10_setResult 49 = .ok (.goto 4, 3) := by decide +kernel
theorem dX10_setResult_52 : decode cX10_setResult 52 = .ok (.iconst 0, 1) := by decide +kernel
theorem dX10_setResult_53 : decode cX10_setResult 53 = .ok (.ireturn, 1) := by decide +kernel
theorem dX10_setWeight_0 : decode cX10_setWeight 0 = .ok (.aload_n 0, 1) := by decide +kernel
theorem dX10_setWeight_1 : decode cX10_setWeight 1 = .ok (.getfield 10, 3) := by decide +kernel
theorem dX10_setWeight_4 : decode cX10_setWeight 4 = .ok (.iload_n 1, 1) := by decide +kernel
theorem dX10_setWeight_5 : decode cX10_setWeight 5 = .ok (.iload_n 2, 1) := by decide +kernel
theorem dX10_setWeight_6 : decode cX10_setWeight 6 = .ok (.invokevirtual 87, 3) := by decide +kernel
theorem dX10_setWeight_9 : decode cX10_setWeight 9 = .ok (.ifCond .eq 14, 3) := by decide +kernel
theorem dX10_setWeight_12 : decode cX10_setWeight 12 = .ok (.iload_n 3, 1) := by decide +kernel
theorem dX10_setWeight_13 : decode cX10_setWeight 13 = .ok (.iconst 1, 1) := by decide +kernel
theorem dX10_setWeight_14 : decode cX10_setWeight 14 = .ok (.if_icmp .lt 9, 3) := by decide +kernel
theorem dX10_setWeight_17 : decode cX10_setWeight 17 = .ok (.iload_n 3, 1) := by decide +kernel
theorem dX10_setWeight_18 : decode cX10_setWeight 18 = .ok (.bipush 100, 2) := by decide +kernel
theorem dX10_setWeight_20 : decode cX10_setWeight 20 = .ok (.if_icmp .le 5, 3) := by decide +kernel
theorem dX10_setWeight_23 : decode cX10_setWeight 23 = .ok (.iconst (-1), 1) := by decide +kernel
theorem dX10_setWeight_24 : decode cX10_setWeight 24 = .ok (.ireturn, 1) := by decide +kernel
theorem dX10_setWeight_25 : decode cX10_setWeight 25 = .ok (.aload_n 0, 1) := by decide +kernel
theorem dX10_setWeight_26 : decode cX10_setWeight 26 = .ok (.getfield 10, 3) := by decide +kernel
theorem dX10_setWeight_29 : decode cX10_setWeight 29 = .ok (.iload_n 1, 1) := by decide +kernel
theorem dX10_setWeight_30 : decode cX10_setWeight 30 = .ok (.iload_n 2, 1) := by decide +kernel
theorem dX10_setWeight_31 : decode cX10_setWeight 31 = .ok (.invokevirtual 98, 3) := by decide +kernel
theorem dX10_setWeight_34 : decode cX10_setWeight 34 = .ok (.istore 4, 2) := by decide +kernel
theorem dX10_setWeight_36 : decode cX10_setWeight 36 = .ok (.aload_n 0, 1) := by decide +kernel
theorem dX10_setWeight_37 : decode cX10_setWeight 37 = .ok (.getfield 22, 3) := by decide +kernel
theorem dX10_setWeight_40 : decode cX10_setWeight 40 = .ok (.aload_n 0, 1) := by decide +kernel
theorem dX10_setWeight_41 : decode cX10_setWeight 41 = .ok (.getfield 10, 3) := by decide +kernel
theorem dX10_setWeight_44 : decode cX10_setWeight 44 = .ok (.invokevirtual 79, 3) := by decide +kernel
theorem dX10_setWeight_47 : decode cX10_setWeight 47 = .ok (.aload_n 0, 1) := by decide +kernel
theorem dX10_setWeight_48 : decode cX10_setWeight 48 = .ok (.getfield 10, 3) := by decide +kernel
theorem dX10_setWeight_51 : decode cX10_setWeight 51 = .ok (.iload_n 1, 1) := by decide +kernel
theorem dX10_setWeight_52 : decode cX10_setWeight 52 = .ok (.iload_n 2, 1) := by decide +kernel
theorem dX10_setWeight_53 : decode cX10_setWeight 53 = .ok (.iload_n 3, 1) := by decide +kernel
theorem dX10_setWeight_54 : decode cX10_setWeight 54 = .ok (.invokevirtual 102, 3) := by decide +kernel
theorem dX10_setWeight_57 : decode cX10_setWeight 57 = .ok (.iload 4, 2) := by decide +kernel
theorem dX10_setWeight_59 : decode cX10_setWeight 59 = .ok (.ireturn, 1) := by decide +kernel
theorem dX10_reverseTriangle_0 : decode cX10_reverseTriangle 0 = .ok (.aload_n 0, 1) := by decide +kernel
theorem dX10_reverseTriangle_1 : decode cX10_reverseTriangle 1 = .ok (.getfield 10, 3) := by decide +kernel
theorem dX10_reverseTriangle_4 : decode cX10_reverseTriangle 4 = .ok (.iload_n 1, 1) := by decide +kernel
theorem dX10_reverseTriangle_5 : decode cX10_reverseTriangle 5 = .ok (.iload_n 2, 1) := by decide +kernel
theorem dX10_reverseTriangle_6 : decode cX10_reverseTriangle 6 = .ok (.invokevirtual 87, 3) := by decide +kernel
theorem dX10_reverseTriangle_9 : decode cX10_reverseTriangle 9 = .ok (.ifCond .eq 27, 3) := by decide +kernel
theorem dX10_reverseTriangle_12 : decode cX10_reverseTriangle 12 = .ok (.aload_n 0, 1) := by decide +kernel
theorem dX10_reverseTriangle_13 : decode cX10_reverseTriangle 13 = .ok (.getfield 10, 3) := by decide +kernel
theorem dX10_reverseTriangle_16 : decode cX10_reverseTriangle 16 = .ok (.iload_n 2, 1) := by decide +kernel
theorem dX10_reverseTriangle_17 : decode cX10_reverseTriangle 17 = .ok (.iload_n 3, 1) := by decide +kernel
theorem dX10_reverseTriangle_18 : decode cX10_reverseTriangle 18 = .ok (.invokevirtual 87, 3) := by decide +kernel
theorem dX10_reverseTriangle_21 : decode cX10_reverseTriangle 21 = .ok (.ifCond .eq 15, 3) := by decide +kernel
theorem dX10_reverseTriangle_24 : decode cX10_reverseTriangle 24 = .ok (.aload_n 0, 1) := by decide +kernel
theorem dX10_reverseTriangle_25 : decode cX10_reverseTriangle 25 = .ok (.getfield 10, 3) := by decide +kernel
theorem dX10_reverseTriangle_28 : decode cX10_reverseTriangle 28 = .ok (.iload_n 1, 1) := by decide +kernel
theorem dX10_reverseTriangle_29 : decode cX10_reverseTriangle 29 = .ok (.iload_n 3, 1) := by decide +kernel
theorem dX10_reverseTriangle_30 : decode cX10_reverseTriangle 30 = .ok (.invokevirtual 87, 3) := by decide +kernel
theorem dX10_reverseTriangle_33 : decode cX10_reverseTriangle 33 = .ok (.ifCond .ne 5, 3) := by decide +kernel
theorem dX10_reverseTriangle_36 : decode cX10_reverseTriangle 36 = .ok (.iconst (-1), 1) := by decide +kernel
theorem dX10_reverseTriangle_37 : decode cX10_reverseTriangle 37 = .ok (.ireturn, 1) := by decide +kernel
theorem dX10_reverseTriangle_38 : decode cX10_reverseTriangle 38 = .ok (.aload_n 0, 1) := by decide +kernel
theorem dX10_reverseTriangle_39 : decode cX10_reverseTriangle 39 = .ok (.getfield 10, 3) := by decide +kernel
theorem dX10_reverseTriangle_42 : decode cX10_reverseTriangle 42 = .ok (.iload_n 1, 1) := by decide +kernel
theorem dX10_reverseTriangle_43 : decode cX10_reverseTriangle 43 = .ok (.iload_n 2, 1) := by decide +kernel
theorem dX10_reverseTriangle_44 : decode cX10_reverseTriangle 44 = .ok (.iload_n 3, 1) := by decide +kernel
theorem dX10_reverseTriangle_45 : decode cX10_reverseTriangle 45 = .ok (.invokevirtual 106, 3) := by decide +kernel
theorem dX10_reverseTriangle_48 : decode cX10_reverseTriangle 48 = .ok (.ifCond .ne 6, 3) := by decide +kernel
theorem dX10_reverseTriangle_51 : decode cX10_reverseTriangle 51 = .ok (.bipush (-2), 2) := by decide +kernel
theorem dX10_reverseTriangle_53 : decode cX10_reverseTriangle 53 = .ok (.ireturn, 1) := by decide +kernel
theorem dX10_reverseTriangle_54 : decode cX10_reverseTriangle 54 = .ok (.aload_n 0, 1) := by decide +kernel
theorem dX10_reverseTriangle_55 : decode cX10_reverseTriangle 55 = .ok (.getfield 22, 3) := by decide +kernel
theorem dX10_reverseTriangle_58 : decode cX10_reverseTriangle 58 = .ok (.aload_n 0, 1) := by decide +kernel
theorem dX10_reverseTriangle_59 : decode cX10_reverseTriangle 59 = .ok (.getfield 10, 3) := by decide +kernel
theorem dX10_reverseTriangle_62 : decode cX10_reverseTriangle 62 = .ok (.invokevirtual 79, 3) := by decide +kernel
theorem dX10_reverseTriangle_65 : decode cX10_reverseTriangle 65 = .ok (.aload_n 0, 1) := by decide +kernel
theorem dX10_reverseTriangle_66 : decode cX10_reverseTriangle 66 = .ok (.getfield 10, 3) := by decide +kernel
theorem dX10_reverseTriangle_69 : decode cX10_reverseTriangle 69 = .ok (.iload_n 1, 1) := by decide +kernel
theorem dX10_reverseTriangle_70 : decode cX10_reverseTriangle 70 = .ok (.iload_n 2, 1) := by decide +kernel
theorem dX10_reverseTriangle_71 : decode cX10_reverseTriangle 71 = .ok (.invokevirtual 110, 3) := by decide +kernel
theorem dX10_reverseTriangle_74 : decode cX10_reverseTriangle 74 = .ok (.aload_n 0, 1) := by decide +kernel
theorem dX10_reverseTriangle_75 : decode cX10_reverseTriangle 75 = .ok (.getfield 10, 3) := by decide +kernel
theorem dX10_reverseTriangle_78 : decode cX10_reverseTriangle 78 = .ok (.iload_n 2, 1) := by decide +kernel
theorem dX10_reverseTriangle_79 : decode cX10_reverseTriangle 79 = .ok (.iload_n 3, 1) := by decide +kernel
theorem dX10_reverseTriangle_80 : decode cX10_reverseTriangle 80 = .ok (.invokevirtual 110, 3) := by decide +kernel
theorem dX10_reverseTriangle_83 : decode cX10_reverseTriangle 83 = .ok (.aload_n 0, 1) := by decide +kernel
theorem dX10_reverseTriangle_84 : decode cX10_reverseTriangle 84 = .ok (.getfield 10, 3) := by decide +kernel
theorem dX10_reverseTriangle_87 : decode cX10_reverseTriangle 87 = .ok (.iload_n 1, 1) := by decide +kernel
theorem dX10_reverseTriangle_88 : decode cX10_reverseTriangle 88 = .ok (.iload_n 3, 1) := by decide +kernel
theorem dX10_reverseTriangle_89 : decode cX10_reverseTriangle 89 = .ok (.invokevirtual 110, 3) := by decide +kernel
theorem dX10_reverseTriangle_92 : decode cX10_reverseTriangle 92 = .ok (.aload_n 0, 1) := by decide +kernel
theorem dX10_reverseTriangle_93 : decode cX10_reverseTriangle 93 = .ok (.getfield 10, 3) := by decide +kernel
theorem dX10_reverseTriangle_96 : decode cX10_reverseTriangle 96 = .ok (.invokevirtual 113, 3) := by decide +kernel
theorem dX10_reverseTriangle_99 : decode cX10_reverseTriangle 99 = .ok (.ireturn, 1) := by decide +kernel
theorem dX10_reversePath_0 : decode cX10_reversePath 0 = .ok (.aload_n 0, 1) := by decide +kernel
theorem dX10_reversePath_1 : decode cX10_reversePath 1 = .ok (.getfield 10, 3) := by decide +kernel
theorem dX10_reversePath_4 : decode cX10_reversePath 4 = .ok (.iload_n 1, 1) := by decide +kernel
theorem dX10_reversePath_5 : decode cX10_reversePath 5 = .ok (.iload_n 2, 1) := by decide +kernel
theorem dX10_reversePath_6 : decode cX10_reversePath 6 = .ok (.invokevirtual 87, 3) := by decide +kernel
theorem dX10_reversePath_9 : decode cX10_reversePath 9 = .ok (.ifCond .ne 5, 3) := by decide +kernel
theorem dX10_reversePath_12 : decode cX10_reversePath 12 = .ok (.iconst (-1), 1) := by decide +kernel
theorem dX10_reversePath_13 : decode cX10_reversePath 13 = .ok (.ireturn, 1) := by decide +kernel
theorem dX10_reversePath_14 : decode cX10_reversePath 14 = .ok (.aload_n 0, 1) := by decide +kernel
theorem dX10_reversePath_15 : decode cX10_reversePath 15 = .ok (.getfield 10, 3) := by decide +kernel
theorem dX10_reversePath_18 : decode cX10_reversePath 18 = .ok (.iload_n 1, 1) := by decide +kernel
theorem dX10_reversePath_19 : decode cX10_reversePath 19 = .ok (.iload_n 2, 1) := by decide +kernel
theorem dX10_reversePath_20 : decode cX10_reversePath 20 = .ok (.invokestatic 116, 3) := by decide +kernel
theorem dX10_reversePath_23 : decode cX10_reversePath 23 = .ok (.istore_n 3, 1) := by decide +kernel
theorem dX10_reversePath_24 : decode cX10_reversePath 24 = .ok (.iload_n 3, 1) := by decide +kernel
theorem dX10_reversePath_25 : decode cX10_reversePath 25 = .ok (.bipush (-4), 2) := by decide +kernel
theorem dX10_reversePath_27 : decode cX10_reversePath 27 = .ok (.if_icmp .ne 6, 3) := by decide +kernel
theorem dX10_reversePath_30 : decode cX10_reversePath 30 = .ok (.bipush (-2), 2) := by decide +kernel
theorem dX10_reversePath_32 : decode cX10_reversePath 32 = .ok (.ireturn, 1) := by decide +kernel
theorem dX10_reversePath_33 : decode cX10_reversePath 33 = .ok (.aload_n 0, 1) := by decide +kernel
theorem dX10_reversePath_34 : decode cX10_reversePath 34 = .ok (.getfield 22, 3) := by decide +kernel
theorem dX10_reversePath_37 : decode cX10_reversePath 37 = .ok (.aload_n 0, 1) := by decide +kernel
theorem dX10_reversePath_38 : decode cX10_reversePath 38 = .ok (.getfield 10, 3) := by decide +kernel
theorem dX10_reversePath_41 : decode cX10_reversePath 41 = .ok (.invokevirtual 79, 3) := by decide +kernel
theorem dX10_reversePath_44 : decode cX10_reversePath 44 = .ok (.aload_n 0, 1) := by decide +kernel
theorem dX10_reversePath_45 : decode cX10_reversePath 45 = .ok (.getfield 50, 3) := by decide +kernel
theorem dX10_reversePath_48 : decode cX10_reversePath 48 = .ok (.aload_n 0, 1) := by decide +kernel
theorem dX10_reversePath_49 : decode cX10_reversePath 49 = .ok (.getfield 10, 3) := by decide +kernel
theorem dX10_reversePath_52 : decode cX10_reversePath 52 = .ok (.iload_n 1, 1) := by decide +kernel
theorem dX10_reversePath_53 : decode cX10_reversePath 53 = .ok (.iload_n 2, 1) := by decide +kernel
theorem dX10_reversePath_54 : decode cX10_reversePath 54 = .ok (.invokevirtual 120, 3) := by decide +kernel
theorem dX10_reversePath_57 : decode cX10_reversePath 57 = .ok (.iconst 0, 1) := by decide +kernel
theorem dX10_reversePath_58 : decode cX10_reversePath 58 = .ok (.istore 4, 2) := by decide +kernel
theorem dX10_reversePath_60 : decode cX10_reversePath 60 = .ok (.iload 4, 2) := by decide +kernel
theorem dX10_reversePath_62 : decode cX10_reversePath 62 = .ok (.iload_n 3, 1) := by decide +kernel
theorem dX10_reversePath_63 : decode cX10_reversePath 63 = .ok (.if_icmp .ge 43, 3) := by decide +kernel
theorem dX10_reversePath_66 : decode cX10_reversePath 66 = .ok (.iload 4, 2) := by decide +kernel
theorem dX10_reversePath_68 : decode cX10_reversePath 68 = .ok (.bipush 10, 2) := by decide +kernel
theorem dX10_reversePath_70 : decode cX10_reversePath 70 = .ok (.if_icmp .ge 36, 3) := by decide +kernel
theorem dX10_reversePath_73 : decode cX10_reversePath 73 = .ok (.aload_n 0, 1) := by decide +kernel
theorem dX10_reversePath_74 : decode cX10_reversePath 74 = .ok (.getfield 10, 3) := by decide +kernel
theorem dX10_reversePath_77 : decode cX10_reversePath 77 = .ok (.aload_n 0, 1) := by decide +kernel
theorem dX10_reversePath_78 : decode cX10_reversePath 78 = .ok (.getfield 50, 3) := by decide +kernel
theorem dX10_reversePath_81 : decode cX10_reversePath 81 = .ok (.iload 4, 2) := by decide +kernel
theorem dX10_reversePath_83 : decode cX10_reversePath 83 = .ok (.invokevirtual 124, 3) := by decide +kernel
theorem dX10_reversePath_86 : decode cX10_reversePath 86 = .ok (.aload_n 0, 1) := by decide +kernel
theorem dX10_reversePath_87 : decode cX10_reversePath 87 = .ok (.getfield 50, 3) := by decide +kernel
theorem dX10_reversePath_90 : decode cX10_reversePath 90 = .ok (.iload 4, 2) := by decide +kernel
theorem dX10_reversePath_92 : decode cX10_reversePath 92 = .ok (.iconst 1, 1) := by decide +kernel
theorem dX10_reversePath_93 : decode cX10_reversePath 93 = .ok (.iadd, 1) := by decide +kernel
theorem dX10_reversePath_94 : decode cX10_reversePath 94 = .ok (.invokevirtual 124, 3) := by decide +kernel
theorem dX10_reversePath_97 : decode cX10_reversePath 97 = .ok (.invokevirtual 110, 3) := by decide +kernel
theorem dX10_reversePath_100 : decode cX10_reversePath 100 = .ok (.iinc 4 1, 3) := by decide +kernel
theorem dX10_reversePath_103 : decode cX10_reversePath 103 = .ok (.goto (-43), 3) := by decide +kernel
theorem dX10_reversePath_106 : decode cX10_reversePath 106 = .ok (.iload_n 3, 1) := by decide +kernel
theorem dX10_reversePath_107 : decode cX10_reversePath 107 = .ok (.ireturn, 1) := by decide +kernel
theorem dX10_reversePlayer_0 : decode cX10_reversePlayer 0 = .ok (.aload_n 0, 1) := by decide +kernel
theorem dX10_reversePlayer_1 : decode cX10_reversePlayer 1 = .ok (.getfield 10, 3) := by decide +kernel
theorem dX10_reversePlayer_4 : decode cX10_reversePlayer 4 = .ok (.iload_n 1, 1) := by decide +kernel
theorem dX10_reversePlayer_5 : decode cX10_reversePlayer 5 = .ok (.invokevirtual 128, 3) := by decide +kernel
theorem dX10_reversePlayer_8 : decode cX10_reversePlayer 8 = .ok (.ifCond .ne 5, 3) := by decide +kernel
theorem dX10_reversePlayer_11 : decode cX10_reversePlayer 11 = .ok (.iconst (-1), 1) := by decide +kernel
theorem dX10_reversePlayer_12 : decode cX10_reversePlayer 12 = .ok (.ireturn, 1) := by decide +kernel
theorem dX10_reversePlayer_13 : decode cX10_reversePlayer 13 = .ok (.aload_n 0, 1) := by decide +kernel
theorem dX10_reversePlayer_14 : decode cX10_reversePlayer 14 = .ok (.getfield 22, 3) := by decide +kernel
theorem dX10_reversePlayer_17 : decode cX10_reversePlayer 17 = .ok (.aload_n 0, 1) := by decide +kernel
theorem dX10_reversePlayer_18 : decode cX10_reversePlayer 18 = .ok (.getfield 10, 3) := by decide +kernel
theorem dX10_reversePlayer_21 : decode cX10_reversePlayer 21 = .ok (.invokevirtual 79, 3) := by decide +kernel
theorem dX10_reversePlayer_24 : decode cX10_reversePlayer 24 = .ok (.iconst 0, 1) := by decide +kernel
theorem dX10_reversePlayer_25 : decode cX10_reversePlayer 25 = .ok (.istore_n 2, 1) := by decide +kernel
theorem dX10_reversePlayer_26 : decode cX10_reversePlayer 26 = .ok (.iload_n 2, 1) := by decide +kernel
theorem dX10_reversePlayer_27 : decode cX10_reversePlayer 27 = .ok (.aload_n 0, 1) := by decide +kernel
theorem dX10_reversePlayer_28 : decode cX10_reversePlayer 28 = .ok (.getfield 10, 3) := by decide +kernel
theorem dX10_reversePlayer_31 : decode cX10_reversePlayer 31 = .ok (.invokevirtual 75, 3) := by decide +kernel
theorem dX10_reversePlayer_34 : decode cX10_reversePlayer 34 = .ok (.if_icmp .ge 18, 3) := by decide +kernel
theorem dX10_reversePlayer_37 : decode cX10_reversePlayer 37 = .ok (.aload_n 0, 1) := by decide +kernel
theorem dX10_reversePlayer_38 : decode cX10_reversePlayer 38 = .ok (.getfield 10, 3) := by decide +kernel
theorem dX10_reversePlayer_41 : decode cX10_reversePlayer 41 = .ok (.iload_n 1, 1) := by decide +kernel
theorem dX10_reversePlayer_42 : decode cX10_reversePlayer 42 = .ok (.iload_n 2, 1) := by decide +kernel
theorem dX10_reversePlayer_43 : decode cX10_reversePlayer 43 = .ok (.invokevirtual 110, 3) := by decide +kernel
theorem dX10_reversePlayer_46 : decode cX10_reversePlayer 46 = .ok (.iinc 2 1, 3) := by decide +kernel
theorem dX10_reversePlayer_49 : decode cX10_reversePlayer 49 = .ok (.goto (-23), 3) := by decide +kernel
theorem dX10_reversePlayer_52 : decode cX10_reversePlayer 52 = .ok (.aload_n 0, 1) := by decide +kernel
theorem dX10_reversePlayer_53 : decode cX10_reversePlayer 53 = .ok (.getfield 10, 3) := by decide +kernel
theorem dX10_reversePlayer_56 : decode cX10_reversePlayer 56 = .ok (.iload_n 1, 1) := by decide +kernel
theorem dX10_reversePlayer_57 : decode cX10_reversePlayer 57 = .ok (.invokevirtual 132, 3) := by decide +kernel
theorem dX10_reversePlayer_60 : decode cX10_reversePlayer 60 = .ok (.ireturn, 1) := by decide +kernel
theorem dX10_exchange_0 : decode cX10_exchange 0 = .ok (.aload_n 0, 1) := by decide +kernel
theorem dX10_exchange_1 : decode cX10_exchange 1 = .ok (.getfield 10, 3) := by decide +kernel
theorem dX10_exchange_4 : decode cX10_exchange 4 = .ok (.iload_n 1, 1) := by decide +kernel
theorem dX10_exchange_5 : decode cX10_exchange 5 = .ok (.invokevirtual 128, 3) := by decide +kernel
theorem dX10_exchange_8 : decode cX10_exchange 8 = .ok (.ifCond .eq 14, 3) := by decide +kernel
theorem dX10_exchange_11 : decode cX10_exchange 11 = .ok (.aload_n 0, 1) := by decide +kernel
theorem dX10_exchange_12 : decode cX10_exchange 12 = .ok (.getfield 10, 3) := by decide +kernel
theorem dX10_exchange_15 : decode cX10_exchange 15 = .ok (.iload_n 2, 1) := by decide +kernel
theorem dX10_exchange_16 : decode cX10_exchange 16 = .ok (.invokevirtual 128, 3) := by decide +kernel
theorem dX10_exchange_19 : decode cX10_exchange 19 = .ok (.ifCond .ne 5, 3) := by decide +kernel
theorem dX10_exchange_22 : decode cX10_exchange 22 = .ok (.iconst (-1), 1) := by decide +kernel
theorem dX10_exchange_23 : decode cX10_exchange 23 = .ok (.ireturn, 1) := by decide +kernel
theorem dX10_exchange_24 : decode cX10_exchange 24 = .ok (.aload_n 0, 1) := by decide +kernel
theorem dX10_exchange_25 : decode cX10_exchange 25 = .ok (.getfield 22, 3) := by decide +kernel
theorem dX10_exchange_28 : decode cX10_exchange 28 = .ok (.aload_n 0, 1) := by decide +kernel
theorem dX10_exchange_29 : decode cX10_exchange 29 = .ok (.getfield 10, 3) := by decide +kernel
theorem dX10_exchange_32 : decode cX10_exchange 32 = .ok (.invokevirtual 79, 3) := by decide +kernel
theorem dX10_exchange_35 : decode cX10_exchange 35 = .ok (.aload_n 0, 1) := by decide +kernel
theorem dX10_exchange_36 : decode cX10_exchange 36 = .ok (.getfield 10, 3) := by decide +kernel
theorem dX10_exchange_39 : decode cX10_exchange 39 = .ok (.iload_n 1, 1) := by decide +kernel
theorem dX10_exchange_40 : decode cX10_exchange 40 = .ok (.iload_n 2, 1) := by decide +kernel
theorem dX10_exchange_41 : decode cX10_exchange 41 = .ok (.invokevirtual 135, 3) := by decide +kernel
theorem dX10_exchange_44 : decode cX10_exchange 44 = .ok (.aload_n 0, 1) := by decide +kernel
theorem dX10_exchange_45 : decode cX10_exchange 45 = .ok (.getfield 10, 3) := by decide +kernel
theorem dX10_exchange_48 : decode cX10_exchange 48 = .ok (.iload_n 1, 1) := by decide +kernel
theorem dX10_exchange_49 : decode cX10_exchange 49 = .ok (.invokevirtual 132, 3) := by decide +kernel
theorem dX10_exchange_52 : decode cX10_exchange 52 = .ok (.ireturn, 1) := by decide +kernel
theorem dX10_construct_0 : decode cX10_construct 0 = .ok (.aload_n 0, 1) := by decide +kernel
theorem dX10_construct_1 : decode cX10_construct 1 = .ok (.getfield 29, 3) := by decide +kernel
theorem dX10_construct_4 : decode cX10_construct 4 = .ok (.invokevirtual 138, 3) := by decide +kernel
theorem dX10_construct_7 : decode cX10_construct 7 = .ok (.ifCond .eq 6, 3) := by decide +kernel
theorem dX10_construct_10 : decode cX10_construct 10 = .ok (.bipush (-2), 2) := by decide +kernel
theorem dX10_construct_12 : decode cX10_construct 12 = .ok (.ireturn, 1) := by decide +kernel
theorem dX10_construct_13 : decode cX10_construct 13 = .ok (.aload_n 0, 1) := by decide +kernel
theorem dX10_construct_14 : decode cX10_construct 14 = .ok (.getfield 22, 3) := by decide +kernel
theorem dX10_construct_17 : decode cX10_construct 17 = .ok (.aload_n 0, 1) := by decide +kernel
theorem dX10_construct_18 : decode cX10_construct 18 = .ok (.getfield 10, 3) := by decide +kernel
theorem dX10_construct_21 : decode cX10_construct 21 = .ok (.invokevirtual 79, 3) := by decide +kernel
theorem dX10_construct_24 : decode cX10_construct 24 = .ok (.aload_n 0, 1) := by decide +kernel
theorem dX10_construct_25 : decode cX10_construct 25 = .ok (.getfield 43, 3) := by decide +kernel
theorem dX10_construct_28 : decode cX10_construct 28 = .ok (.aload_n 0, 1) := by decide +kernel
theorem dX10_construct_29 : decode cX10_construct 29 = .ok (.getfield 29, 3) := by decide +kernel
theorem dX10_construct_32 : decode cX10_construct 32 = .ok (.aload_n 0, 1) := by decide +kernel
theorem dX10_construct_33 : decode cX10_construct 33 = .ok (.getfield 10, 3) := by decide +kernel
theorem dX10_construct_36 : decode cX10_construct 36 = .ok (.invokevirtual 141, 3) := by decide +kernel
theorem dX10_construct_39 : decode cX10_construct 39 = .ok (.aload_n 0, 1) := by decide +kernel
theorem dX10_construct_40 : decode cX10_construct 40 = .ok (.getfield 10, 3) := by decide +kernel
theorem dX10_construct_43 : decode cX10_construct 43 = .ok (.invokevirtual 75, 3) := by decide +kernel
theorem dX10_construct_46 : decode cX10_construct 46 = .ok (.ireturn, 1) := by decide +kernel
theorem dX10_enter_0 : decode cX10_enter 0 = .ok (.aload_n 0, 1) := by decide +kernel
theorem dX10_enter_1 : decode cX10_enter 1 = .ok (.getfield 36, 3) := by decide +kernel
theorem dX10_enter_4 : decode cX10_enter 4 = .ok (.aload_n 0, 1) := by decide +kernel
theorem dX10_enter_5 : decode cX10_enter 5 = .ok (.getfield 10, 3) := by decide +kernel
theorem dX10_enter_8 : decode cX10_enter 8 = .ok (.invokevirtual 145, 3) := by decide +kernel
theorem dX10_enter_11 : decode cX10_enter 11 = .ok (.bipush (-4), 2) := by decide +kernel
theorem dX10_enter_13 : decode cX10_enter 13 = .ok (.if_icmp .eq 6, 3) := by decide +kernel
theorem dX10_enter_16 : decode cX10_enter 16 = .ok (.bipush (-2), 2) := by decide +kernel
theorem dX10_enter_18 : decode cX10_enter 18 = .ok (.ireturn, 1) := by decide +kernel
theorem dX10_enter_19 : decode cX10_enter 19 = .ok (.aload_n 0, 1) := by decide +kernel
theorem dX10_enter_20 : decode cX10_enter 20 = .ok (.getfield 22, 3) := by decide +kernel
theorem dX10_enter_23 : decode cX10_enter 23 = .ok (.aload_n 0, 1) := by decide +kernel
theorem dX10_enter_24 : decode cX10_enter 24 = .ok (.getfield 10, 3) := by decide +kernel
theorem dX10_enter_27 : decode cX10_enter 27 = .ok (.invokevirtual 79, 3) := by decide +kernel
theorem dX10_enter_30 : decode cX10_enter 30 = .ok (.aload_n 0, 1) := by decide +kernel
theorem dX10_enter_31 : decode cX10_enter 31 = .ok (.getfield 36, 3) := by decide +kernel
theorem dX10_enter_34 : decode cX10_enter 34 = .ok (.aload_n 0, 1) := by decide +kernel
theorem dX10_enter_35 : decode cX10_enter 35 = .ok (.getfield 10, 3) := by decide +kernel
theorem dX10_enter_38 : decode cX10_enter 38 = .ok (.invokevirtual 149, 3) := by decide +kernel
theorem dX10_enter_41 : decode cX10_enter 41 = .ok (.ireturn, 1) := by decide +kernel
theorem dX10_recall_0 : decode cX10_recall 0 = .ok (.aload_n 0, 1) := by decide +kernel
theorem dX10_recall_1 : decode cX10_recall 1 = .ok (.getfield 22, 3) := by decide +kernel
theorem dX10_recall_4 : decode cX10_recall 4 = .ok (.aload_n 0, 1) := by decide +kernel
theorem dX10_recall_5 : decode cX10_recall 5 = .ok (.getfield 10, 3) := by decide +kernel
theorem dX10_recall_8 : decode cX10_recall 8 = .ok (.invokevirtual 79, 3) := by decide +kernel
theorem dX10_recall_11 : decode cX10_recall 11 = .ok (.aload_n 0, 1) := by decide +kernel
theorem dX10_recall_12 : decode cX10_recall 12 = .ok (.getfield 10, 3) := by decide +kernel
theorem dX10_recall_15 : decode cX10_recall 15 = .ok (.aload_n 0, 1) := by decide +kernel
theorem dX10_recall_16 : decode cX10_recall 16 = .ok (.getfield 16, 3) := by decide +kernel
theorem dX10_recall_19 : decode cX10_recall 19 = .ok (.invokevirtual 152, 3) := by decide +kernel
theorem dX10_recall_22 : decode cX10_recall 22 = .ok (.aload_n 0, 1) := by decide +kernel
theorem dX10_recall_23 : decode cX10_recall 23 = .ok (.getfield 10, 3) := by decide +kernel
theorem dX10_recall_26 : decode cX10_recall 26 = .ok (.invokevirtual 75, 3) := by decide +kernel
theorem dX10_recall_29 : decode cX10_recall 29 = .ok (.ireturn, 1) := by decide +kernel
theorem dX10_undo_0 : decode cX10_undo 0 = .ok (.aload_n 0, 1) := by decide +kernel
theorem dX10_undo_1 : decode cX10_undo 1 = .ok (.getfield 22, 3) := by decide +kernel
theorem dX10_undo_4 : decode cX10_undo 4 = .ok (.invokevirtual 155, 3) := by decide +kernel
theorem dX10_undo_7 : decode cX10_undo 7 = .ok (.ifCond .eq 6, 3) := by decide +kernel
theorem dX10_undo_10 : decode cX10_undo 10 = .ok (.bipush (-2), 2) := by decide +kernel
theorem dX10_undo_12 : decode cX10_undo 12 = .ok (.ireturn, 1) := by decide +kernel
theorem dX10_undo_13 : decode cX10_undo 13 = .ok (.aload_n 0, 1) := by decide +kernel
theorem dX10_undo_14 : decode cX10_undo 14 = .ok (.getfield 22, 3) := by decide +kernel
theorem dX10_undo_17 : decode cX10_undo 17 = .ok (.aload_n 0, 1) := by decide +kernel
theorem dX10_undo_18 : decode cX10_undo 18 = .ok (.getfield 10, 3) := by decide +kernel
theorem dX10_undo_21 : decode cX10_undo 21 = .ok (.invokevirtual 159, 3) := by decide +kernel
theorem dX10_undo_24 : decode cX10_undo 24 = .ok (.aload_n 0, 1) := by decide +kernel
theorem dX10_undo_25 : decode cX10_undo 25 = .ok (.getfield 22, 3) := by decide +kernel
theorem dX10_undo_28 : decode cX10_undo 28 = .ok (.invokevirtual 162, 3) := by decide +kernel
theorem dX10_undo_31 : decode cX10_undo 31 = .ok (.ireturn, 1) := by decide +kernel
theorem dX10_append_0 : decode cX10_append 0 = .ok (.iload_n 1, 1) := by decide +kernel
theorem dX10_append_1 : decode cX10_append 1 = .ok (.ifCond .lt 9, 3) := by decide +kernel
theorem dX10_append_4 : decode cX10_append 4 = .ok (.iload_n 1, 1) := by decide +kernel
theorem dX10_append_5 : decode cX10_append 5 = .ok (.bipush 9, 2) := by decide +kernel
theorem dX10_append_7 : decode cX10_append 7 = .ok (.if_icmp .le 5, 3) := by decide +kernel
theorem dX10_append_10 : decode cX10_append 10 = .ok (.iconst (-1), 1) := by decide +kernel
theorem dX10_append_11 : decode cX10_append 11 = .ok (.ireturn, 1) := by decide +kernel
theorem dX10_append_12 : decode cX10_append 12 = .ok (.aload_n 0, 1) := by decide +kernel
theorem dX10_append_13 : decode cX10_append 13 = .ok (.getfield 29, 3) := by decide +kernel
theorem dX10_append_16 : decode cX10_append 16 = .ok (.iload_n 1, 1) := by decide +kernel
theorem dX10_append_17 : decode cX10_append 17 = .ok (.invokevirtual 163, 3) := by decide +kernel
theorem dX10_append_20 : decode cX10_append 20 = .ok (.ifCond .eq 13, 3) := by decide +kernel
theorem dX10_append_23 : decode cX10_append 23 = .ok (.aload_n 0, 1) := by decide +kernel
theorem dX10_append_24 : decode cX10_append 24 = .ok (.getfield 29, 3) := by decide +kernel
theorem dX10_append_27 : decode cX10_append 27 = .ok (.invokevirtual 166, 3) := by decide +kernel
theorem dX10_append_30 : decode cX10_append 30 = .ok (.goto 5, 3) := by decide +kernel
theorem dX10_append_33 : decode cX10_append 33 = .ok (.bipush (-3), 2) := by decide +kernel
theorem dX10_append_35 : decode cX10_append 35 = .ok (.ireturn, 1) := by decide +kernel
theorem dX10_clearSequence_0 : decode cX10_clearSequence 0 = .ok (.aload_n 0, 1) := by decide +kernel
theorem dX10_clearSequence_1 : decode cX10_clearSequence 1 = .ok (.getfield 29, 3) := by decide +kernel
theorem dX10_clearSequence_4 : decode cX10_clearSequence 4 = .ok (.invokevirtual 166, 3) := by decide +kernel
theorem dX10_clearSequence_7 : decode cX10_clearSequence 7 = .ok (.istore_n 1, 1) := by decide +kernel
theorem dX10_clearSequence_8 : decode cX10_clearSequence 8 = .ok (.aload_n 0, 1) := by decide +kernel
theorem dX10_clearSequence_9 : decode cX10_clearSequence 9 = .ok (.getfield 29, 3) := by decide +kernel
theorem dX10_clearSequence_12 : decode cX10_clearSequence 12 = .ok (.invokevirtual 167, 3) := by decide +kernel
theorem dX10_clearSequence_15 : decode cX10_clearSequence 15 = .ok (.iload_n 1, 1) := by decide +kernel
theorem dX10_clearSequence_16 : decode cX10_clearSequence 16 = .ok (.ireturn, 1) := by decide +kernel
theorem dX10_checkSequence_0 : decode cX10_checkSequence 0 = .ok (.aload_n 0, 1) := by decide +kernel
theorem dX10_checkSequence_1 : decode cX10_checkSequence 1 = .ok (.getfield 29, 3) := by decide +kernel
theorem dX10_checkSequence_4 : decode cX10_checkSequence 4 = .ok (.invokevirtual 138, 3) := by decide +kernel
theorem dX10_checkSequence_7 : decode cX10_checkSequence 7 = .ok (.ireturn, 1) := by decide +kernel
theorem dX10_type_0 : decode cX10_type 0 = .ok (.iload_n 1, 1) := by decide +kernel
theorem dX10_type_1 : decode cX10_type 1 = .ok (.bipush 32, 2) := by decide +kernel
theorem dX10_type_3 : decode cX10_type 3 = .ok (.if_icmp .lt 9, 3) := by decide +kernel
theorem dX10_type_6 : decode cX10_type 6 = .ok (.iload_n 1, 1) := by decide +kernel
theorem dX10_type_7 : decode cX10_type 7 = .ok (.bipush 126, 2) := by decide +kernel
theorem dX10_type_9 : decode cX10_type 9 = .ok (.if_icmp .le 5, 3) := by decide +kernel
theorem dX10_type_12 : decode cX10_type 12 = .ok (.iconst (-1), 1) := by decide +kernel
theorem dX10_type_13 : decode cX10_type 13 = .ok (.ireturn, 1) := by decide +kernel
theorem dX10_type_14 : decode cX10_type 14 = .ok (.aload_n 0, 1) := by decide +kernel
theorem dX10_type_15 : decode cX10_type 15 = .ok (.getfield 36, 3) := by decide +kernel
theorem dX10_type_18 : decode cX10_type 18 = .ok (.iload_n 1, 1) := by decide +kernel
theorem dX10_type_19 : decode cX10_type 19 = .ok (.i2c, 1) := by decide +kernel
theorem dX10_type_20 : decode cX10_type 20 = .ok (.invokevirtual 170, 3) := by decide +kernel
theorem dX10_type_23 : decode cX10_type 23 = .ok (.ifCond .eq 13, 3) := by decide +kernel
theorem dX10_type_26 : decode cX10_type 26 = .ok (.aload_n 0, 1) := by decide +kernel
theorem dX10_type_27 : decode cX10_type 27 = .ok (.getfield 36, 3) := by decide +kernel
theorem dX10_type_30 : decode cX10_type 30 = .ok (.invokevirtual 173, 3) := by decide +kernel
theorem dX10_type_33 : decode cX10_type 33 = .ok (.goto 5, 3) := by decide +kernel
theorem dX10_type_36 : decode cX10_type 36 = .ok (.bipush (-3), 2) := by decide +kernel
theorem dX10_type_38 : decode cX10_type 38 = .ok (.ireturn, 1) := by decide +kernel
theorem dX10_clearText_0 : decode cX10_clearText 0 = .ok (.aload_n 0, 1) := by decide +kernel
theorem dX10_clearText_1 : decode cX10_clearText 1 = .ok (.getfield 36, 3) := by decide +kernel
theorem dX10_clearText_4 : decode cX10_clearText 4 = .ok (.invokevirtual 173, 3) := by decide +kernel
theorem dX10_clearText_7 : decode cX10_clearText 7 = .ok (.istore_n 1, 1) := by decide +kernel
theorem dX10_clearText_8 : decode cX10_clearText 8 = .ok (.aload_n 0, 1) := by decide +kernel
theorem dX10_clearText_9 : decode cX10_clearText 9 = .ok (.getfield 36, 3) := by decide +kernel
theorem dX10_clearText_12 : decode cX10_clearText 12 = .ok (.invokevirtual 174, 3) := by decide +kernel
theorem dX10_clearText_15 : decode cX10_clearText 15 = .ok (.iload_n 1, 1) := by decide +kernel
theorem dX10_clearText_16 : decode cX10_clearText 16 = .ok (.ireturn, 1) := by decide +kernel
theorem dX10_fault_0 : decode cX10_fault 0 = .ok (.aload_n 0, 1) := by decide +kernel
theorem dX10_fault_1 : decode cX10_fault 1 = .ok (.getfield 36, 3) := by decide +kernel
theorem dX10_fault_4 : decode cX10_fault 4 = .ok (.aload_n 0, 1) := by decide +kernel
theorem dX10_fault_5 : decode cX10_fault 5 = .ok (.getfield 10, 3) := by decide +kernel
theorem dX10_fault_8 : decode cX10_fault 8 = .ok (.invokevirtual 145, 3) := by decide +kernel
theorem dX10_fault_11 : decode cX10_fault 11 = .ok (.ireturn, 1) := by decide +kernel
theorem dX10_players_0 : decode cX10_players 0 = .ok (.aload_n 0, 1) := by decide +kernel
theorem dX10_players_1 : decode cX10_players 1 = .ok (.getfield 10, 3) := by decide +kernel
theorem dX10_players_4 : decode cX10_players 4 = .ok (.invokevirtual 75, 3) := by decide +kernel
theorem dX10_players_7 : decode cX10_players 7 = .ok (.ireturn, 1) := by decide +kernel
theorem dX10_beats_0 : decode cX10_beats 0 = .ok (.aload_n 0, 1) := by decide +kernel
theorem dX10_beats_1 : decode cX10_beats 1 = .ok (.getfield 10, 3) := by decide +kernel
theorem dX10_beats_4 : decode cX10_beats 4 = .ok (.iload_n 1, 1) := by decide +kernel
theorem dX10_beats_5 : decode cX10_beats 5 = .ok (.invokevirtual 128, 3) := by decide +kernel
theorem dX10_beats_8 : decode cX10_beats 8 = .ok (.ifCond .eq 14, 3) := by decide +kernel
theorem dX10_beats_11 : decode cX10_beats 11 = .ok (.aload_n 0, 1) := by decide +kernel
theorem dX10_beats_12 : decode cX10_beats 12 = .ok (.getfield 10, 3) := by decide +kernel
theorem dX10_beats_15 : decode cX10_beats 15 = .ok (.iload_n 2, 1) := by decide +kernel
theorem dX10_beats_16 : decode cX10_beats 16 = .ok (.invokevirtual 128, 3) := by decide +kernel
theorem dX10_beats_19 : decode cX10_beats 19 = .ok (.ifCond .ne 5, 3) := by decide +kernel
theorem dX10_beats_22 : decode cX10_beats 22 = .ok (.iconst (-1), 1) := by decide +kernel
theorem dX10_beats_23 : decode cX10_beats 23 = .ok (.ireturn, 1) := by decide +kernel
theorem dX10_beats_24 : decode cX10_beats 24 = .ok (.aload_n 0, 1) := by decide +kernel
theorem dX10_beats_25 : decode cX10_beats 25 = .ok (.getfield 10, 3) := by decide +kernel
theorem dX10_beats_28 : decode cX10_beats 28 = .ok (.iload_n 1, 1) := by decide +kernel
theorem dX10_beats_29 : decode cX10_beats 29 = .ok (.iload_n 2, 1) := by decide +kernel
theorem dX10_beats_30 : decode cX10_beats 30 = .ok (.invokevirtual 91, 3) := by decide +kernel
theorem dX10_beats_33 : decode cX10_beats 33 = .ok (.ifCond .eq 7, 3) := by decide +kernel
theorem dX10_beats_36 : decode cX10_beats 36 = .ok (.iconst 1, 1) := by decide +kernel
theorem dX10_beats_37 : decode cX10_beats 37 = .ok (.goto 4, 3) := by decide +kernel
theorem dX10_beats_40 : decode cX10_beats 40 = .ok (.iconst 0, 1) := by decide +kernel
theorem dX10_beats_41 : decode cX10_beats 41 = .ok (.ireturn, 1) := by decide +kernel
theorem dX10_weight_0 : decode cX10_weight 0 = .ok (.aload_n 0, 1) := by decide +kernel
theorem dX10_weight_1 : decode cX10_weight 1 = .ok (.getfield 10, 3) := by decide +kernel
theorem dX10_weight_4 : decode cX10_weight 4 = .ok (.iload_n 1, 1) := by decide +kernel
theorem dX10_weight_5 : decode cX10_weight 5 = .ok (.iload_n 2, 1) := by decide +kernel
theorem dX10_weight_6 : decode cX10_weight 6 = .ok (.invokevirtual 87, 3) := by decide +kernel
theorem dX10_weight_9 : decode cX10_weight 9 = .ok (.ifCond .eq 15, 3) := by decide +kernel
theorem dX10_weight_12 : decode cX10_weight 12 = .ok (.aload_n 0, 1) := by decide +kernel
theorem dX10_weight_13 : decode cX10_weight 13 = .ok (.getfield 10, 3) := by decide +kernel
theorem dX10_weight_16 : decode cX10_weight 16 = .ok (.iload_n 1, 1) := by decide +kernel
theorem dX10_weight_17 : decode cX10_weight 17 = .ok (.iload_n 2, 1) := by decide +kernel
theorem dX10_weight_18 : decode cX10_weight 18 = .ok (.invokevirtual 98, 3) := by decide +kernel
theorem dX10_weight_21 : decode cX10_weight 21 = .ok (.goto 4, 3) := by decide +kernel
theorem dX10_weight_24 : decode cX10_weight 24 = .ok (.iconst (-1), 1) := by decide +kernel
theorem dX10_weight_25 : decode cX10_weight 25 = .ok (.ireturn, 1) := by decide +kernel
theorem dX10_score_0 : decode cX10_score 0 = .ok (.aload_n 0, 1) := by decide +kernel
theorem dX10_score_1 : decode cX10_score 1 = .ok (.getfield 10, 3) := by decide +kernel
theorem dX10_score_4 : decode cX10_score 4 = .ok (.iload_n 1, 1) := by decide +kernel
theorem dX10_score_5 : decode cX10_score 5 = .ok (.invokevirtual 128, 3) := by decide +kernel
theorem dX10_score_8 : decode cX10_score 8 = .ok (.ifCond .eq 14, 3) := by decide +kernel
theorem dX10_score_11 : decode cX10_score 11 = .ok (.aload_n 0, 1) := by decide +kernel
theorem dX10_score_12 : decode cX10_score 12 = .ok (.getfield 10, 3) := by decide +kernel
theorem dX10_score_15 : decode cX10_score 15 = .ok (.iload_n 1, 1) := by decide +kernel
theorem dX10_score_16 : decode cX10_score 16 = .ok (.invokevirtual 132, 3) := by decide +kernel
theorem dX10_score_19 : decode cX10_score 19 = .ok (.goto 4, 3) := by decide +kernel
theorem dX10_score_22 : decode cX10_score 22 = .ok (.iconst (-1), 1) := by decide +kernel
theorem dX10_score_23 : decode cX10_score 23 = .ok (.ireturn, 1) := by decide +kernel
theorem dX10_scoreAt_0 : decode cX10_scoreAt 0 = .ok (.aload_n 0, 1) := by decide +kernel
theorem dX10_scoreAt_1 : decode cX10_scoreAt 1 = .ok (.getfield 10, 3) := by decide +kernel
theorem dX10_scoreAt_4 : decode cX10_scoreAt 4 = .ok (.iload_n 1, 1) := by decide +kernel
theorem dX10_scoreAt_5 : decode cX10_scoreAt 5 = .ok (.invokevirtual 128, 3) := by decide +kernel
theorem dX10_scoreAt_8 : decode cX10_scoreAt 8 = .ok (.ifCond .eq 14, 3) := by decide +kernel
theorem dX10_scoreAt_11 : decode cX10_scoreAt 11 = .ok (.aload_n 0, 1) := by decide +kernel
theorem dX10_scoreAt_12 : decode cX10_scoreAt 12 = .ok (.getfield 10, 3) := by decide +kernel
theorem dX10_scoreAt_15 : decode cX10_scoreAt 15 = .ok (.iload_n 1, 1) := by decide +kernel
theorem dX10_scoreAt_16 : decode cX10_scoreAt 16 = .ok (.invokevirtual 175, 3) := by decide +kernel
theorem dX10_scoreAt_19 : decode cX10_scoreAt 19 = .ok (.goto 4, 3) := by decide +kernel
theorem dX10_scoreAt_22 : decode cX10_scoreAt 22 = .ok (.iconst (-1), 1) := by decide +kernel
theorem dX10_scoreAt_23 : decode cX10_scoreAt 23 = .ok (.ireturn, 1) := by decide +kernel
theorem dX10_triangles_0 : decode cX10_triangles 0 = .ok (.aload_n 0, 1) := by decide +kernel
theorem dX10_triangles_1 : decode cX10_triangles 1 = .ok (.getfield 10, 3) := by decide +kernel
theorem dX10_triangles_4 : decode cX10_triangles 4 = .ok (.invokevirtual 113, 3) := by decide +kernel
theorem dX10_triangles_7 : decode cX10_triangles 7 = .ok (.ireturn, 1) := by decide +kernel
theorem dX10_distance_0 : decode cX10_distance 0 = .ok (.aload_n 0, 1) := by decide +kernel
theorem dX10_distance_1 : decode cX10_distance 1 = .ok (.getfield 10, 3) := by decide +kernel
theorem dX10_distance_4 : decode cX10_distance 4 = .ok (.iload_n 1, 1) := by decide +kernel
theorem dX10_distance_5 : decode cX10_distance 5 = .ok (.invokevirtual 128, 3) := by decide +kernel
theorem dX10_distance_8 : decode cX10_distance 8 = .ok (.ifCond .eq 14, 3) := by decide +kernel
theorem dX10_distance_11 : decode cX10_distance 11 = .ok (.aload_n 0, 1) := by decide +kernel
theorem dX10_distance_12 : decode cX10_distance 12 = .ok (.getfield 10, 3) := by decide +kernel
theorem dX10_distance_15 : decode cX10_distance 15 = .ok (.iload_n 2, 1) := by decide +kernel
theorem dX10_distance_16 : decode cX10_distance 16 = .ok (.invokevirtual 128, 3) := by decide +kernel
theorem dX10_distance_19 : decode cX10_distance 19 = .ok (.ifCond .ne 5, 3) := by decide +kernel
theorem dX10_distance_22 : decode cX10_distance 22 = .ok (.iconst (-1), 1) := by decide +kernel
theorem dX10_distance_23 : decode cX10_distance 23 = .ok (.ireturn, 1) := by decide +kernel
theorem dX10_distance_24 : decode cX10_distance 24 = .ok (.aload_n 0, 1) := by decide +kernel
theorem dX10_distance_25 : decode cX10_distance 25 = .ok (.getfield 10, 3) := by decide +kernel
theorem dX10_distance_28 : decode cX10_distance 28 = .ok (.iload_n 1, 1) := by decide +kernel
theorem dX10_distance_29 : decode cX10_distance 29 = .ok (.iload_n 2, 1) := by decide +kernel
theorem dX10_distance_30 : decode cX10_distance 30 = .ok (.invokestatic 116, 3) := by decide +kernel
theorem dX10_distance_33 : decode cX10_distance 33 = .ok (.ireturn, 1) := by decide +kernel
theorem dX10_components_0 : decode cX10_components 0 = .ok (.aload_n 0, 1) := by decide +kernel
theorem dX10_components_1 : decode cX10_components 1 = .ok (.getfield 10, 3) := by decide +kernel
theorem dX10_components_4 : decode cX10_components 4 = .ok (.invokestatic 178, 3) := by decide +kernel
theorem dX10_components_7 : decode cX10_components 7 = .ok (.ireturn, 1) := by decide +kernel
theorem dX10_componentOf_0 : decode cX10_componentOf 0 = .ok (.aload_n 0, 1) := by decide +kernel
theorem dX10_componentOf_1 : decode cX10_componentOf 1 = .ok (.getfield 10, 3) := by decide +kernel
theorem dX10_componentOf_4 : decode cX10_componentOf 4 = .ok (.iload_n 1, 1) := by decide +kernel
theorem dX10_componentOf_5 : decode cX10_componentOf 5 = .ok (.invokevirtual 128, 3) := by decide +kernel
theorem dX10_componentOf_8 : decode cX10_componentOf 8 = .ok (.ifCond .eq 14, 3) := by decide +kernel
theorem dX10_componentOf_11 : decode cX10_componentOf 11 = .ok (.aload_n 0, 1) := by decide +kernel
theorem dX10_componentOf_12 : decode cX10_componentOf 12 = .ok (.getfield 10, 3) := by decide +kernel
theorem dX10_componentOf_15 : decode cX10_componentOf 15 = .ok (.iload_n 1, 1) := by decide +kernel
theorem dX10_componentOf_16 : decode cX10_componentOf 16 = .ok (.invokestatic 183, 3) := by decide +kernel
theorem dX10_componentOf_19 : decode cX10_componentOf 19 = .ok (.goto 4, 3) := by decide +kernel
theorem dX10_componentOf_22 : decode cX10_componentOf 22 = .ok (.iconst (-1), 1) := by decide +kernel
theorem dX10_componentOf_23 : decode cX10_componentOf 23 = .ok (.ireturn, 1) := by decide +kernel
theorem dX10_spanningPaths_0 : decode cX10_spanningPaths 0 = .ok (.aload_n 0, 1) := by decide +kernel
theorem dX10_spanningPaths_1 : decode cX10_spanningPaths 1 = .ok (.getfield 50, 3) := by decide +kernel
theorem dX10_spanningPaths_4 : decode cX10_spanningPaths 4 = .ok (.aload_n 0, 1) := by decide +kernel
theorem dX10_spanningPaths_5 : decode cX10_spanningPaths 5 = .ok (.getfield 10, 3) := by decide +kernel
theorem dX10_spanningPaths_8 : decode cX10_spanningPaths 8 = .ok (.invokevirtual 187, 3) := by decide +kernel
theorem dX10_spanningPaths_11 : decode cX10_spanningPaths 11 = .ok (.ireturn, 1) := by decide +kernel
theorem dX10_pathAt_0 : decode cX10_pathAt 0 = .ok (.aload_n 0, 1) := by decide +kernel
theorem dX10_pathAt_1 : decode cX10_pathAt 1 = .ok (.getfield 10, 3) := by decide +kernel
theorem dX10_pathAt_4 : decode cX10_pathAt 4 = .ok (.iload_n 1, 1) := by decide +kernel
theorem dX10_pathAt_5 : decode cX10_pathAt 5 = .ok (.invokevirtual 128, 3) := by decide +kernel
theorem dX10_pathAt_8 : decode cX10_pathAt 8 = .ok (.ifCond .ne 5, 3) := by decide +kernel
theorem dX10_pathAt_11 : decode cX10_pathAt 11 = .ok (.iconst (-1), 1) := by decide +kernel
theorem dX10_pathAt_12 : decode cX10_pathAt 12 = .ok (.ireturn, 1) := by decide +kernel
theorem dX10_pathAt_13 : decode cX10_pathAt 13 = .ok (.aload_n 0, 1) := by decide +kernel
theorem dX10_pathAt_14 : decode cX10_pathAt 14 = .ok (.getfield 50, 3) := by decide +kernel
theorem dX10_pathAt_17 : decode cX10_pathAt 17 = .ok (.aload_n 0, 1) := by decide +kernel
theorem dX10_pathAt_18 : decode cX10_pathAt 18 = .ok (.getfield 10, 3) := by decide +kernel
theorem dX10_pathAt_21 : decode cX10_pathAt 21 = .ok (.invokevirtual 190, 3) := by decide +kernel
theorem dX10_pathAt_24 : decode cX10_pathAt 24 = .ok (.aload_n 0, 1) := by decide +kernel
theorem dX10_pathAt_25 : decode cX10_pathAt 25 = .ok (.getfield 50, 3) := by decide +kernel
theorem dX10_pathAt_28 : decode cX10_pathAt 28 = .ok (.iload_n 1, 1) := by decide +kernel
theorem dX10_pathAt_29 : decode cX10_pathAt 29 = .ok (.invokevirtual 124, 3) := by decide +kernel
theorem dX10_pathAt_32 : decode cX10_pathAt 32 = .ok (.ireturn, 1) := by decide +kernel
theorem dX10_cycleAt_0 : decode cX10_cycleAt 0 = .ok (.aload_n 0, 1) := by decide +kernel
theorem dX10_cycleAt_1 : decode cX10_cycleAt 1 = .ok (.getfield 10, 3) := by decide +kernel
theorem dX10_cycleAt_4 : decode cX10_cycleAt 4 = .ok (.iload_n 1, 1) := by decide +kernel
theorem dX10_cycleAt_5 : decode cX10_cycleAt 5 = .ok (.invokevirtual 128, 3) := by decide +kernel
theorem dX10_cycleAt_8 : decode cX10_cycleAt 8 = .ok (.ifCond .eq 19, 3) := by decide +kernel
theorem dX10_cycleAt_11 : decode cX10_cycleAt 11 = .ok (.iload_n 2, 1) := by decide +kernel
theorem dX10_cycleAt_12 : decode cX10_cycleAt 12 = .ok (.iconst 3, 1) := by decide +kernel
theorem dX10_cycleAt_13 : decode cX10_cycleAt 13 = .ok (.if_icmp .lt 14, 3) := by decide +kernel
theorem dX10_cycleAt_16 : decode cX10_cycleAt 16 = .ok (.iload_n 2, 1) := by decide +kernel
theorem dX10_cycleAt_17 : decode cX10_cycleAt 17 = .ok (.aload_n 0, 1) := by decide +kernel
theorem dX10_cycleAt_18 : decode cX10_cycleAt 18 = .ok (.getfield 10, 3) := by decide +kernel
theorem dX10_cycleAt_21 : decode cX10_cycleAt 21 = .ok (.invokevirtual 75, 3) := by decide +kernel
theorem dX10_cycleAt_24 : decode cX10_cycleAt 24 = .ok (.if_icmp .le 5, 3) := by decide +kernel
theorem dX10_cycleAt_27 : decode cX10_cycleAt 27 = .ok (.iconst (-1), 1) := by decide +kernel
theorem dX10_cycleAt_28 : decode cX10_cycleAt 28 = .ok (.ireturn, 1) := by decide +kernel
theorem dX10_cycleAt_29 : decode cX10_cycleAt 29 = .ok (.iload_n 3, 1) := by decide +kernel
theorem dX10_cycleAt_30 : decode cX10_cycleAt 30 = .ok (.ifCond .lt 8, 3) := by decide +kernel
theorem dX10_cycleAt_33 : decode cX10_cycleAt 33 = .ok (.iload_n 3, 1) := by decide +kernel
theorem dX10_cycleAt_34 : decode cX10_cycleAt 34 = .ok (.iload_n 2, 1) := by decide +kernel
theorem dX10_cycleAt_35 : decode cX10_cycleAt 35 = .ok (.if_icmp .lt 5, 3) := by decide +kernel
theorem dX10_cycleAt_38 : decode cX10_cycleAt 38 = .ok (.iconst (-1), 1) := by decide +kernel
theorem dX10_cycleAt_39 : decode cX10_cycleAt 39 = .ok (.ireturn, 1) := by decide +kernel
theorem dX10_cycleAt_40 : decode cX10_cycleAt 40 = .ok (.aload_n 0, 1) := by decide +kernel
theorem dX10_cycleAt_41 : decode cX10_cycleAt 41 = .ok (.getfield 57, 3) := by decide +kernel
theorem dX10_cycleAt_44 : decode cX10_cycleAt 44 = .ok (.aload_n 0, 1) := by decide +kernel
theorem dX10_cycleAt_45 : decode cX10_cycleAt 45 = .ok (.getfield 10, 3) := by decide +kernel
theorem dX10_cycleAt_48 : decode cX10_cycleAt 48 = .ok (.iload_n 1, 1) := by decide +kernel
theorem dX10_cycleAt_49 : decode cX10_cycleAt 49 = .ok (.iload_n 2, 1) := by decide +kernel
theorem dX10_cycleAt_50 : decode cX10_cycleAt 50 = .ok (.invokevirtual 193, 3) := by decide +kernel
theorem dX10_cycleAt_53 : decode cX10_cycleAt 53 = .ok (.ifCond .eq 14, 3) := by decide +kernel
theorem dX10_cycleAt_56 : decode cX10_cycleAt 56 = .ok (.aload_n 0, 1) := by decide +kernel
theorem dX10_cycleAt_57 : decode cX10_cycleAt 57 = .ok (.getfield 57, 3) := by decide +kernel
theorem dX10_cycleAt_60 : decode cX10_cycleAt 60 = .ok (.iload_n 3, 1) := by decide +kernel
theorem dX10_cycleAt_61 : decode cX10_cycleAt 61 = .ok (.invokevirtual 197, 3) := by decide +kernel
theorem dX10_cycleAt_64 : decode cX10_cycleAt 64 = .ok (.goto 5, 3) := by decide +kernel
theorem dX10_cycleAt_67 : decode cX10_cycleAt 67 = .ok (.bipush (-4), 2) := by decide +kernel
theorem dX10_cycleAt_69 : decode cX10_cycleAt 69 = .ok (.ireturn, 1) := by decide +kernel
theorem dX10_cycleLengths_0 : decode cX10_cycleLengths 0 = .ok (.aload_n 0, 1) := by decide +kernel
theorem dX10_cycleLengths_1 : decode cX10_cycleLengths 1 = .ok (.getfield 10, 3) := by decide +kernel
theorem dX10_cycleLengths_4 : decode cX10_cycleLengths 4 = .ok (.iload_n 1, 1) := by decide +kernel
theorem dX10_cycleLengths_5 : decode cX10_cycleLengths 5 = .ok (.invokevirtual 128, 3) := by decide +kernel
theorem dX10_cycleLengths_8 : decode cX10_cycleLengths 8 = .ok (.ifCond .eq 14, 3) := by decide +kernel
theorem dX10_cycleLengths_11 : decode cX10_cycleLengths 11 = .ok (.aload_n 0, 1) := by decide +kernel
theorem dX10_cycleLengths_12 : decode cX10_cycleLengths 12 = .ok (.getfield 10, 3) := by decide +kernel
theorem dX10_cycleLengths_15 : decode cX10_cycleLengths 15 = .ok (.iload_n 1, 1) := by decide +kernel
theorem dX10_cycleLengths_16 : decode cX10_cycleLengths 16 = .ok (.invokestatic 198, 3) := by decide +kernel
theorem dX10_cycleLengths_19 : decode cX10_cycleLengths 19 = .ok (.goto 4, 3) := by decide +kernel
theorem dX10_cycleLengths_22 : decode cX10_cycleLengths 22 = .ok (.iconst (-1), 1) := by decide +kernel
theorem dX10_cycleLengths_23 : decode cX10_cycleLengths 23 = .ok (.ireturn, 1) := by decide +kernel
theorem dX10_leastCost_0 : decode cX10_leastCost 0 = .ok (.aload_n 0, 1) := by decide +kernel
theorem dX10_leastCost_1 : decode cX10_leastCost 1 = .ok (.getfield 64, 3) := by decide +kernel
theorem dX10_leastCost_4 : decode cX10_leastCost 4 = .ok (.aload_n 0, 1) := by decide +kernel
theorem dX10_leastCost_5 : decode cX10_leastCost 5 = .ok (.getfield 10, 3) := by decide +kernel
theorem dX10_leastCost_8 : decode cX10_leastCost 8 = .ok (.invokevirtual 201, 3) := by decide +kernel
theorem dX10_leastCost_11 : decode cX10_leastCost 11 = .ok (.ireturn, 1) := by decide +kernel
theorem dX10_orderAt_0 : decode cX10_orderAt 0 = .ok (.aload_n 0, 1) := by decide +kernel
theorem dX10_orderAt_1 : decode cX10_orderAt 1 = .ok (.getfield 10, 3) := by decide +kernel
theorem dX10_orderAt_4 : decode cX10_orderAt 4 = .ok (.iload_n 1, 1) := by decide +kernel
theorem dX10_orderAt_5 : decode cX10_orderAt 5 = .ok (.invokevirtual 128, 3) := by decide +kernel
theorem dX10_orderAt_8 : decode cX10_orderAt 8 = .ok (.ifCond .eq 18, 3) := by decide +kernel
theorem dX10_orderAt_11 : decode cX10_orderAt 11 = .ok (.aload_n 0, 1) := by decide +kernel
theorem dX10_orderAt_12 : decode cX10_orderAt 12 = .ok (.getfield 64, 3) := by decide +kernel
theorem dX10_orderAt_15 : decode cX10_orderAt 15 = .ok (.aload_n 0, 1) := by decide +kernel
theorem dX10_orderAt_16 : decode cX10_orderAt 16 = .ok (.getfield 10, 3) := by decide +kernel
theorem dX10_orderAt_19 : decode cX10_orderAt 19 = .ok (.iload_n 1, 1) := by decide +kernel
theorem dX10_orderAt_20 : decode cX10_orderAt 20 = .ok (.invokevirtual 204, 3) := by decide +kernel
theorem dX10_orderAt_23 : decode cX10_orderAt 23 = .ok (.goto 4, 3) := by decide +kernel
theorem dX10_orderAt_26 : decode cX10_orderAt 26 = .ok (.iconst (-1), 1) := by decide +kernel
theorem dX10_orderAt_27 : decode cX10_orderAt 27 = .ok (.ireturn, 1) := by decide +kernel
theorem dX10_winners_0 : decode cX10_winners 0 = .ok (.iload_n 1, 1) := by decide +kernel
theorem dX10_winners_1 : decode cX10_winners 1 = .ok (.ifCond .lt 8, 3) := by decide +kernel
theorem dX10_winners_4 : decode cX10_winners 4 = .ok (.iload_n 1, 1) := by decide +kernel
theorem dX10_winners_5 : decode cX10_winners 5 = .ok (.iconst 4, 1) := by decide +kernel
theorem dX10_winners_6 : decode cX10_winners 6 = .ok (.if_icmp .le 7, 3) := by decide +kernel
theorem dX10_winners_9 : decode cX10_winners 9 = .ok (.iconst (-1), 1) := by decide +kernel
theorem dX10_winners_10 : decode cX10_winners 10 = .ok (.goto 8, 3) := by decide +kernel
theorem dX10_winners_13 : decode cX10_winners 13 = .ok (.aload_n 0, 1) := by decide +kernel
theorem dX10_winners_14 : decode cX10_winners 14 = .ok (.iload_n 1, 1) := by decide +kernel
theorem dX10_winners_15 : decode cX10_winners 15 = .ok (.invokevirtual 206, 3) := by decide +kernel
theorem dX10_winners_18 : decode cX10_winners 18 = .ok (.ireturn, 1) := by decide +kernel
theorem dX10_undisputed_0 : decode cX10_undisputed 0 = .ok (.aload_n 0, 1) := by decide +kernel
theorem dX10_undisputed_1 : decode cX10_undisputed 1 = .ok (.getfield 10, 3) := by decide +kernel
theorem dX10_undisputed_4 : decode cX10_undisputed 4 = .ok (.invokevirtual 209, 3) := by decide +kernel
theorem dX10_undisputed_7 : decode cX10_undisputed 7 = .ok (.istore_n 1, 1) := by decide +kernel
theorem dX10_undisputed_8 : decode cX10_undisputed 8 = .ok (.iconst 0, 1) := by decide +kernel
theorem dX10_undisputed_9 : decode cX10_undisputed 9 = .ok (.istore_n 2, 1) := by decide +kernel
theorem dX10_undisputed_10 : decode cX10_undisputed 10 = .ok (.iload_n 2, 1) := by decide +kernel
theorem dX10_undisputed_11 : decode cX10_undisputed 11 = .ok (.iconst 4, 1) := by decide +kernel
theorem dX10_undisputed_12 : decode cX10_undisputed 12 = .ok (.if_icmp .gt 17, 3) := by decide +kernel
theorem dX10_undisputed_15 : decode cX10_undisputed 15 = .ok (.iload_n 1, 1) := by decide +kernel
theorem dX10_undisputed_16 : decode cX10_undisputed 16 = .ok (.aload_n 0, 1) := by decide +kernel
theorem dX10_undisputed_17 : decode cX10_undisputed 17 = .ok (.iload_n 2, 1) := by decide +kernel
theorem dX10_undisputed_18 : decode cX10_undisputed 18 = .ok (.invokevirtual 206, 3) := by decide +kernel
theorem dX10_undisputed_21 : decode cX10_undisputed 21 = .ok (.iand, 1) := by decide +kernel
theorem dX10_undisputed_22 : decode cX10_undisputed 22 = .ok (.istore_n 1, 1) := by decide +kernel
theorem dX10_undisputed_23 : decode cX10_undisputed 23 = .ok (.iinc 2 1, 3) := by decide +kernel
theorem dX10_undisputed_26 : decode cX10_undisputed 26 = .ok (.goto (-16), 3) := by decide +kernel
theorem dX10_undisputed_29 : decode cX10_undisputed 29 = .ok (.iload_n 1, 1) := by decide +kernel
theorem dX10_undisputed_30 : decode cX10_undisputed 30 = .ok (.invokestatic 212, 3) := by decide +kernel
theorem dX10_undisputed_33 : decode cX10_undisputed 33 = .ok (.ireturn, 1) := by decide +kernel
theorem dX10_winnersBy_0 : decode cX10_winnersBy 0 = .ok (.iload_n 1, 1) := by decide +kernel
theorem dX10_winnersBy_1 : decode cX10_winnersBy 1 = .ok (.tableswitch 77 0 3 #[31, 46, 54, 69], 31) := by decide +kernel
theorem dX10_winnersBy_32 : decode cX10_winnersBy 32 = .ok (.aload_n 0, 1) := by decide +kernel
theorem dX10_winnersBy_33 : decode cX10_winnersBy 33 = .ok (.getfield 10, 3) := by decide +kernel
theorem dX10_winnersBy_36 : decode cX10_winnersBy 36 = .ok (.aload_n 0, 1) := by decide +kernel
theorem dX10_winnersBy_37 : decode cX10_winnersBy 37 = .ok (.getfield 10, 3) := by decide +kernel
theorem dX10_winnersBy_40 : decode cX10_winnersBy 40 = .ok (.invokevirtual 209, 3) := by decide +kernel
theorem dX10_winnersBy_43 : decode cX10_winnersBy 43 = .ok (.invokestatic 217, 3) := by decide +kernel
theorem dX10_winnersBy_46 : decode cX10_winnersBy 46 = .ok (.ireturn, 1) := by decide +kernel
theorem dX10_winnersBy_47 : decode cX10_winnersBy 47 = .ok (.aload_n 0, 1) := by decide +kernel
theorem dX10_winnersBy_48 : decode cX10_winnersBy 48 = .ok (.getfield 10, 3) := by decide +kernel
theorem dX10_winnersBy_51 : decode cX10_winnersBy 51 = .ok (.invokestatic 220, 3) := by decide +kernel
theorem dX10_winnersBy_54 : decode cX10_winnersBy 54 = .ok (.ireturn, 1) := by decide +kernel
theorem dX10_winnersBy_55 : decode cX10_winnersBy 55 = .ok (.aload_n 0, 1) := by decide +kernel
theorem dX10_winnersBy_56 : decode cX10_winnersBy 56 = .ok (.getfield 10, 3) := by decide +kernel
theorem dX10_winnersBy_59 : decode cX10_winnersBy 59 = .ok (.aload_n 0, 1) := by decide +kernel
theorem dX10_winnersBy_60 : decode cX10_winnersBy 60 = .ok (.getfield 10, 3) := by decide +kernel
theorem dX10_winnersBy_63 : decode cX10_winnersBy 63 = .ok (.invokevirtual 209, 3) := by decide +kernel
theorem dX10_winnersBy_66 : decode cX10_winnersBy 66 = .ok (.invokestatic 223, 3) := by decide +kernel
theorem dX10_winnersBy_69 : decode cX10_winnersBy 69 = .ok (.ireturn, 1) := by decide +kernel
theorem dX10_winnersBy_70 : decode cX10_winnersBy 70 = .ok (.aload_n 0, 1) := by decide +kernel
theorem dX10_winnersBy_71 : decode cX10_winnersBy 71 = .ok (.getfield 10, 3) := by decide +kernel
theorem dX10_winnersBy_74 : decode cX10_winnersBy 74 = .ok (.invokestatic 226, 3) := by decide +kernel
theorem dX10_winnersBy_77 : decode cX10_winnersBy 77 = .ok (.ireturn, 1) := by decide +kernel
theorem dX10_winnersBy_78 : decode cX10_winnersBy 78 = .ok (.aload_n 0, 1) := by decide +kernel
theorem dX10_winnersBy_79 : decode cX10_winnersBy 79 = .ok (.getfield 64, 3) := by decide +kernel
theorem dX10_winnersBy_82 : decode cX10_winnersBy 82 = .ok (.aload_n 0, 1) := by decide +kernel
theorem dX10_winnersBy_83 : decode cX10_winnersBy 83 = .ok (.getfield 10, 3) := by decide +kernel
theorem dX10_winnersBy_86 : decode cX10_winnersBy 86 = .ok (.invokevirtual 229, 3) := by decide +kernel
theorem dX10_winnersBy_89 : decode cX10_winnersBy 89 = .ok (.ireturn, 1) := by decide +kernel
theorem dX10_store_0 : decode cX10_store 0 = .ok (.aload_n 0, 1) := by decide +kernel
theorem dX10_store_1 : decode cX10_store 1 = .ok (.getfield 16, 3) := by decide +kernel
theorem dX10_store_4 : decode cX10_store 4 = .ok (.aload_n 0, 1) := by decide +kernel
theorem dX10_store_5 : decode cX10_store 5 = .ok (.getfield 10, 3) := by decide +kernel
theorem dX10_store_8 : decode cX10_store 8 = .ok (.invokevirtual 152, 3) := by decide +kernel
theorem dX10_store_11 : decode cX10_store 11 = .ok (.aload_n 0, 1) := by decide +kernel
theorem dX10_store_12 : decode cX10_store 12 = .ok (.getfield 16, 3) := by decide +kernel
theorem dX10_store_15 : decode cX10_store 15 = .ok (.invokevirtual 75, 3) := by decide +kernel
theorem dX10_store_18 : decode cX10_store 18 = .ok (.ireturn, 1) := by decide +kernel
theorem dX10_difference_0 : decode cX10_difference 0 = .ok (.aload_n 0, 1) := by decide +kernel
theorem dX10_difference_1 : decode cX10_difference 1 = .ok (.getfield 10, 3) := by decide +kernel
theorem dX10_difference_4 : decode cX10_difference 4 = .ok (.invokevirtual 75, 3) := by decide +kernel
theorem dX10_difference_7 : decode cX10_difference 7 = .ok (.aload_n 0, 1) := by decide +kernel
theorem dX10_difference_8 : decode cX10_difference 8 = .ok (.getfield 16, 3) := by decide +kernel
theorem dX10_difference_11 : decode cX10_difference 11 = .ok (.invokevirtual 75, 3) := by decide +kernel
theorem dX10_difference_14 : decode cX10_difference 14 = .ok (.if_icmp .ne 17, 3) := by decide +kernel
theorem dX10_difference_17 : decode cX10_difference 17 = .ok (.aload_n 0, 1) := by decide +kernel
theorem dX10_difference_18 : decode cX10_difference 18 = .ok (.getfield 10, 3) := by decide +kernel
theorem dX10_difference_21 : decode cX10_difference 21 = .ok (.aload_n 0, 1) := by decide +kernel
theorem dX10_difference_22 : decode cX10_difference 22 = .ok (.getfield 16, 3) := by decide +kernel
theorem dX10_difference_25 : decode cX10_difference 25 = .ok (.invokestatic 232, 3) := by decide +kernel
theorem dX10_difference_28 : decode cX10_difference 28 = .ok (.goto 5, 3) := by decide +kernel
theorem dX10_difference_31 : decode cX10_difference 31 = .ok (.bipush (-2), 2) := by decide +kernel
theorem dX10_difference_33 : decode cX10_difference 33 = .ok (.ireturn, 1) := by decide +kernel
theorem dX10_isLikeStored_0 : decode cX10_isLikeStored 0 = .ok (.aload_n 0, 1) := by decide +kernel
theorem dX10_isLikeStored_1 : decode cX10_isLikeStored 1 = .ok (.getfield 71, 3) := by decide +kernel
theorem dX10_isLikeStored_4 : decode cX10_isLikeStored 4 = .ok (.aload_n 0, 1) := by decide +kernel
theorem dX10_isLikeStored_5 : decode cX10_isLikeStored 5 = .ok (.getfield 10, 3) := by decide +kernel
theorem dX10_isLikeStored_8 : decode cX10_isLikeStored 8 = .ok (.aload_n 0, 1) := by decide +kernel
theorem dX10_isLikeStored_9 : decode cX10_isLikeStored 9 = .ok (.getfield 16, 3) := by decide +kernel
theorem dX10_isLikeStored_12 : decode cX10_isLikeStored 12 = .ok (.invokevirtual 236, 3) := by decide +kernel
theorem dX10_isLikeStored_15 : decode cX10_isLikeStored 15 = .ok (.ifCond .eq 7, 3) := by decide +kernel
theorem dX10_isLikeStored_18 : decode cX10_isLikeStored 18 = .ok (.iconst 1, 1) := by decide +kernel
theorem dX10_isLikeStored_19 : decode cX10_isLikeStored 19 = .ok (.goto 4, 3) := by decide +kernel
theorem dX10_isLikeStored_22 : decode cX10_isLikeStored 22 = .ok (.iconst 0, 1) := by decide +kernel
theorem dX10_isLikeStored_23 : decode cX10_isLikeStored 23 = .ok (.ireturn, 1) := by decide +kernel
theorem dX10_towardsStored_0 : decode cX10_towardsStored 0 = .ok (.aload_n 0, 1) := by decide +kernel
theorem dX10_towardsStored_1 : decode cX10_towardsStored 1 = .ok (.getfield 10, 3) := by decide +kernel
theorem dX10_towardsStored_4 : decode cX10_towardsStored 4 = .ok (.invokevirtual 75, 3) := by decide +kernel
theorem dX10_towardsStored_7 : decode cX10_towardsStored 7 = .ok (.aload_n 0, 1) := by decide +kernel
theorem dX10_towardsStored_8 : decode cX10_towardsStored 8 = .ok (.getfield 16, 3) := by decide +kernel
theorem dX10_towardsStored_11 : decode cX10_towardsStored 11 = .ok (.invokevirtual 75, 3) := by decide +kernel
theorem dX10_towardsStored_14 : decode cX10_towardsStored 14 = .ok (.if_icmp .ne 17, 3) := by decide +kernel
theorem dX10_towardsStored_17 : decode cX10_towardsStored 17 = .ok (.aload_n 0, 1) := by decide +kernel
theorem dX10_towardsStored_18 : decode cX10_towardsStored 18 = .ok (.getfield 10, 3) := by decide +kernel
theorem dX10_towardsStored_21 : decode cX10_towardsStored 21 = .ok (.aload_n 0, 1) := by decide +kernel
theorem dX10_towardsStored_22 : decode cX10_towardsStored 22 = .ok (.getfield 16, 3) := by decide +kernel
theorem dX10_towardsStored_25 : decode cX10_towardsStored 25 = .ok (.invokestatic 240, 3) := by decide +kernel
theorem dX10_towardsStored_28 : decode cX10_towardsStored 28 = .ok (.goto 5, 3) := by decide +kernel
theorem dX10_towardsStored_31 : decode cX10_towardsStored 31 = .ok (.bipush (-2), 2) := by decide +kernel
theorem dX10_towardsStored_33 : decode cX10_towardsStored 33 = .ok (.ireturn, 1) := by decide +kernel
theorem dX10_holds_0 : decode cX10_holds 0 = .ok (.iload_n 1, 1) := by decide +kernel
theorem dX10_holds_1 : decode cX10_holds 1 = .ok (.ifCond .lt 21, 3) := by decide +kernel
theorem dX10_holds_4 : decode cX10_holds 4 = .ok (.iload_n 1, 1) := by decide +kernel
theorem dX10_holds_5 : decode cX10_holds 5 = .ok (.bipush 10, 2) := by decide +kernel
theorem dX10_holds_7 : decode cX10_holds 7 = .ok (.if_icmp .ge 15, 3) := by decide +kernel
theorem dX10_holds_10 : decode cX10_holds 10 = .ok (.iload_n 0, 1) := by decide +kernel
theorem dX10_holds_11 : decode cX10_holds 11 = .ok (.iload_n 1, 1) := by decide +kernel
theorem dX10_holds_12 : decode cX10_holds 12 = .ok (.ishr, 1) := by decide +kernel
theorem dX10_holds_13 : decode cX10_holds 13 = .ok (.iconst 1, 1) := by decide +kernel
theorem dX10_holds_14 : decode cX10_holds 14 = .ok (.iand, 1) := by decide +kernel
theorem dX10_holds_15 : decode cX10_holds 15 = .ok (.ifCond .eq 7, 3) := by decide +kernel
theorem dX10_holds_18 : decode cX10_holds 18 = .ok (.iconst 1, 1) := by decide +kernel
theorem dX10_holds_19 : decode cX10_holds 19 = .ok (.goto 4, 3) := by decide +kernel
theorem dX10_holds_22 : decode cX10_holds 22 = .ok (.iconst 0, 1) := by decide +kernel
theorem dX10_holds_23 : decode cX10_holds 23 = .ok (.ireturn, 1) := by decide +kernel
theorem dX10_only_0 : decode cX10_only 0 = .ok (.iload_n 0, 1) := by decide +kernel
theorem dX10_only_1 : decode cX10_only 1 = .ok (.ifCond .lt 15, 3) := by decide +kernel
theorem dX10_only_4 : decode cX10_only 4 = .ok (.iload_n 0, 1) := by decide +kernel
theorem dX10_only_5 : decode cX10_only 5 = .ok (.bipush 10, 2) := by decide +kernel
theorem dX10_only_7 : decode cX10_only 7 = .ok (.if_icmp .ge 9, 3) := by decide +kernel
theorem dX10_only_10 : decode cX10_only 10 = .ok (.iconst 1, 1) := by decide +kernel
theorem dX10_only_11 : decode cX10_only 11 = .ok (.iload_n 0, 1) := by decide +kernel
theorem dX10_only_12 : decode cX10_only 12 = .ok (.ishl, 1) := by decide +kernel
theorem dX10_only_13 : decode cX10_only 13 = .ok (.goto 4, 3) := by decide +kernel
theorem dX10_only_16 : decode cX10_only 16 = .ok (.iconst 0, 1) := by decide +kernel
theorem dX10_only_17 : decode cX10_only 17 = .ok (.ireturn, 1) := by decide +kernel
theorem dX10_without_0 : decode cX10_without 0 = .ok (.iload_n 0, 1) := by decide +kernel
theorem dX10_without_1 : decode cX10_without 1 = .ok (.iload_n 1, 1) := by decide +kernel
theorem dX10_without_2 : decode cX10_without 2 = .ok (.invokestatic 243, 3) := by decide +kernel
theorem dX10_without_5 : decode cX10_without 5 = .ok (.iconst (-1), 1) := by decide +kernel
theorem dX10_without_6 : decode cX10_without 6 = .ok (.ixor, 1) := by decide +kernel
theorem dX10_without_7 : decode cX10_without 7 = .ok (.iand, 1) := by decide +kernel
theorem dX10_without_8 : decode cX10_without 8 = .ok (.ireturn, 1) := by decide +kernel
theorem dX10_lowestOf_0 : decode cX10_lowestOf 0 = .ok (.iload_n 0, 1) := by decide +kernel
theorem dX10_lowestOf_1 : decode cX10_lowestOf 1 = .ok (.iload_n 0, 1) := by decide +kernel
theorem dX10_lowestOf_2 : decode cX10_lowestOf 2 = .ok (.ineg, 1) := by decide +kernel
theorem dX10_lowestOf_3 : decode cX10_lowestOf 3 = .ok (.iand, 1) := by decide +kernel
theorem dX10_lowestOf_4 : decode cX10_lowestOf 4 = .ok (.iconst 1, 1) := by decide +kernel
theorem dX10_lowestOf_5 : decode cX10_lowestOf 5 = .ok (.isub, 1) := by decide +kernel
theorem dX10_lowestOf_6 : decode cX10_lowestOf 6 = .ok (.invokestatic 212, 3) := by decide +kernel
theorem dX10_lowestOf_9 : decode cX10_lowestOf 9 = .ok (.ireturn, 1) := by decide +kernel
theorem dX11_init_0 : decode cX11_init 0 = .ok (.aload_n 0, 1) := by decide +kernel
theorem dX11_init_1 : decode cX11_init 1 = .ok (.invokespecial 1, 3) := by decide +kernel
theorem dX11_init_4 : decode cX11_init 4 = .ok (.aload_n 0, 1) := by decide +kernel
theorem dX11_init_5 : decode cX11_init 5 = .ok (.bipush 111, 2) := by decide +kernel
theorem dX11_init_7 : decode cX11_init 7 = .ok (.newarray .int, 2) := by decide +kernel
theorem dX11_init_9 : decode cX11_init 9 = .ok (.putfield 7, 3) := by decide +kernel
theorem dX11_init_12 : decode cX11_init 12 = .ok (.aload_n 0, 1) := by decide +kernel
theorem dX11_init_13 : decode cX11_init 13 = .ok (.bipush 111, 2) := by decide +kernel
theorem dX11_init_15 : decode cX11_init 15 = .ok (.newarray .int, 2) := by decide +kernel
theorem dX11_init_17 : decode cX11_init 17 = .ok (.putfield 13, 3) := by decide +kernel
theorem dX11_init_20 : decode cX11_init 20 = .ok (.aload_n 0, 1) := by decide +kernel
theorem dX11_init_21 : decode cX11_init 21 = .ok (.sipush 888, 3) := by decide +kernel
theorem dX11_init_24 : decode cX11_init 24 = .ok (.newarray .int, 2) := by decide +kernel
theorem dX11_init_26 : decode cX11_init 26 = .ok (.putfield 16, 3) := by decide +kernel
theorem dX11_init_29 : decode cX11_init 29 = .ok (.aload_n 0, 1) := by decide +kernel
theorem dX11_init_30 : decode cX11_init 30 = .ok (.bipush 10, 2) := by decide +kernel
theorem dX11_init_32 : decode cX11_init 32 = .ok (.newarray .int, 2) := by decide +kernel
theorem dX11_init_34 : decode cX11_init 34 = .ok (.putfield 19, 3) := by decide +kernel
theorem dX11_init_37 : decode cX11_init 37 = .ok (.aload_n 0, 1) := by decide +kernel
theorem dX11_init_38 : decode cX11_init 38 = .ok (.bipush 120, 2) := by decide +kernel
theorem dX11_init_40 : decode cX11_init 40 = .ok (.newarray .int, 2) := by decide +kernel
theorem dX11_init_42 : decode cX11_init 42 = .ok (.putfield 22, 3) := by decide +kernel
theorem dX11_init_45 : decode cX11_init 45 = .ok (.aload_n 0, 1) := by decide +kernel
theorem dX11_init_46 : decode cX11_init 46 = .ok (.sipush 10240, 3) := by decide +kernel
theorem dX11_init_49 : decode cX11_init 49 = .ok (.newarray .int, 2) := by decide +kernel
theorem dX11_init_51 : decode cX11_init 51 = .ok (.putfield 25, 3) := by decide +kernel
theorem dX11_init_54 : decode cX11_init 54 = .ok (.aload_n 0, 1) := by decide +kernel
theorem dX11_init_55 : decode cX11_init 55 = .ok (.sipush 1024, 3) := by decide +kernel
theorem dX11_init_58 : decode cX11_init 58 = .ok (.newarray .int, 2) := by decide +kernel
theorem dX11_init_60 : decode cX11_init 60 = .ok (.putfield 28, 3) := by decide +kernel
theorem dX11_init_63 : decode cX11_init 63 = .ok (.aload_n 0, 1) := by decide +kernel
theorem dX11_init_64 : decode cX11_init 64 = .ok (.bipush 10, 2) := by decide +kernel
theorem dX11_init_66 : decode cX11_init 66 = .ok (.newarray .int, 2) := by decide +kernel
theorem dX11_init_68 : decode cX11_init 68 = .ok (.putfield 31, 3) := by decide +kernel
theorem dX11_init_71 : decode cX11_init 71 = .ok (.aload_n 0, 1) := by decide +kernel
theorem dX11_init_72 : decode cX11_init 72 = .ok (.bipush 10, 2) := by decide +kernel
theorem dX11_init_74 : decode cX11_init 74 = .ok (.newarray .int, 2) := by decide +kernel
theorem dX11_init_76 : decode cX11_init 76 = .ok (.putfield 34, 3) := by decide +kernel
theorem dX11_init_79 : decode cX11_init 79 = .ok (.aload_n 0, 1) := by decide +kernel
theorem dX11_init_80 : decode cX11_init 80 = .ok (.iconst 4, 1) := by decide +kernel
theorem dX11_init_81 : decode cX11_init 81 = .ok (.invokevirtual 37, 3) := by decide +kernel
theorem dX11_init_84 : decode cX11_init 84 = .ok (.aload_n 0, 1) := by decide +kernel
theorem dX11_init_85 : decode cX11_init 85 = .ok (.getfield 7, 3) := by decide +kernel
theorem dX11_init_88 : decode cX11_init 88 = .ok (.aload_n 0, 1) := by decide +kernel
theorem dX11_init_89 : decode cX11_init 89 = .ok (.getfield 13, 3) := by decide +kernel
theorem dX11_init_92 : decode cX11_init 92 = .ok (.invokestatic 41, 3) := by decide +kernel
theorem dX11_init_95 : decode cX11_init 95 = .ok (.return_, 1) := by decide +kernel
theorem dX11_in_0 : decode cX11_in 0 = .ok (.iload_n 0, 1) := by decide +kernel
theorem dX11_in_1 : decode cX11_in 1 = .ok (.iload_n 1, 1) := by decide +kernel
theorem dX11_in_2 : decode cX11_in 2 = .ok (.if_icmp .lt 12, 3) := by decide +kernel
theorem dX11_in_5 : decode cX11_in 5 = .ok (.iload_n 0, 1) := by decide +kernel
theorem dX11_in_6 : decode cX11_in 6 = .ok (.iload_n 2, 1) := by decide +kernel
theorem dX11_in_7 : decode cX11_in 7 = .ok (.if_icmp .gt 7, 3) := by decide +kernel
theorem dX11_in_10 : decode cX11_in 10 = .ok (.iconst 1, 1) := by decide +kernel
theorem dX11_in_11 : decode cX11_in 11 = .ok (.goto 4, 3) := by decide +kernel
theorem dX11_in_14 : decode cX11_in 14 = .ok (.iconst 0, 1) := by decide +kernel
theorem dX11_in_15 : decode cX11_in 15 = .ok (.ireturn, 1) := by decide +kernel
theorem dX11_has_0 : decode cX11_has 0 = .ok (.iload_n 0, 1) := by decide +kernel
theorem dX11_has_1 : decode cX11_has 1 = .ok (.iload_n 1, 1) := by decide +kernel
theorem dX11_has_2 : decode cX11_has 2 = .ok (.ishr, 1) := by decide +kernel
theorem dX11_has_3 : decode cX11_has 3 = .ok (.iconst 1, 1) := by decide +kernel
theorem dX11_has_4 : decode cX11_has 4 = .ok (.iand, 1) := by decide +kernel
theorem dX11_has_5 : decode cX11_has 5 = .ok (.iconst 1, 1) := by decide +kernel
theorem dX11_has_6 : decode cX11_has 6 = .ok (.if_icmp .ne 7, 3) := by decide +kernel
theorem dX11_has_9 : decode cX11_has 9 = .ok (.iconst 1, 1) := by decide +kernel
theorem dX11_has_10 : decode cX11_has 10 = .ok (.goto 4, 3) := by decide +kernel
theorem dX11_has_13 : decode cX11_has 13 = .ok (.iconst 0, 1) := by decide +kernel
theorem dX11_has_14 : decode cX11_has 14 = .ok (.ireturn, 1) := by decide +kernel
theorem dX11_count_0 : decode cX11_count 0 = .ok (.iconst 0, 1) := by decide +kernel
theorem dX11_count_1 : decode cX11_count 1 = .ok (.istore_n 1, 1) := by decide +kernel
theorem dX11_count_2 : decode cX11_count 2 = .ok (.iload_n 0, 1) := by decide +kernel
theorem dX11_count_3 : decode cX11_count 3 = .ok (.istore_n 2, 1) := by decide +kernel
theorem dX11_count_4 : decode cX11_count 4 = .ok (.iload_n 2, 1) := by decide +kernel
theorem dX11_count_5 : decode cX11_count 5 = .ok (.ifCond .eq 15, 3) := by decide +kernel
theorem dX11_count_8 : decode cX11_count 8 = .ok (.iinc 1 1, 3) := by decide +kernel
theorem dX11_count_11 : decode cX11_count 11 = .ok (.iload_n 2, 1) := by decide +kernel
theorem dX11_count_12 : decode cX11_count 12 = .ok (.iload_n 2, 1) := by decide +kernel
theorem dX11_count_13 : decode cX11_count 13 = .ok (.iconst 1, 1) := by decide +kernel
theorem dX11_count_14 : decode cX11_count 14 = .ok (.isub, 1) := by decide +kernel
theorem dX11_count_15 : decode cX11_count 15 = .ok (.iand, 1) := by decide +kernel
theorem dX11_count_16 : decode cX11_count 16 = .ok (.istore_n 2, 1) := by decide +kernel
theorem dX11_count_17 : decode cX11_count 17 = .ok (.goto (-13), 3) := by decide +kernel
theorem dX11_count_20 : decode cX11_count 20 = .ok (.iload_n 1, 1) := by decide +kernel
theorem dX11_count_21 : decode cX11_count 21 = .ok (.ireturn, 1) := by decide +kernel
theorem dX11_copies_0 : decode cX11_copies 0 = .ok (.iconst 0, 1) := by decide +kernel
theorem dX11_copies_1 : decode cX11_copies 1 = .ok (.istore_n 2, 1) := by decide +kernel
theorem dX11_copies_2 : decode cX11_copies 2 = .ok (.iload_n 2, 1) := by decide +kernel
theorem dX11_copies_3 : decode cX11_copies 3 = .ok (.bipush 111, 2) := by decide +kernel
theorem dX11_copies_5 : decode cX11_copies 5 = .ok (.if_icmp .ge 15, 3) := by decide +kernel
theorem dX11_copies_8 : decode cX11_copies 8 = .ok (.aload_n 1, 1) := by decide +kernel
theorem dX11_copies_9 : decode cX11_copies 9 = .ok (.iload_n 2, 1) := by decide +kernel
theorem dX11_copies_10 : decode cX11_copies 10 = .ok (.aload_n 0, 1) := by decide +kernel
theorem dX11_copies_11 : decode cX11_copies 11 = .ok (.iload_n 2, 1) := by decide +kernel
theorem dX11_copies_12 : decode cX11_copies 12 = .ok (.iaload, 1) := by decide +kernel
theorem dX11_copies_13 : decode cX11_copies 13 = .ok (.iastore, 1) := by decide +kernel
theorem dX11_copies_14 : decode cX11_copies 14 = .ok (.iinc 2 1, 3) := by decide +kernel
theorem dX11_copies_17 : decode cX11_copies 17 = .ok (.goto (-15), 3) := by decide +kernel
theorem dX11_copies_20 : decode cX11_copies 20 = .ok (.return_, 1) := by decide +kernel
theorem dX11_n_0 : decode cX11_n 0 = .ok (.aload_n 0, 1) := by decide +kernel
theorem dX11_n_1 : decode cX11_n 1 = .ok (.getfield 7, 3) := by decide +kernel
theorem dX11_n_4 : decode cX11_n 4 = .ok (.iconst 0, 1) := by decide +kernel
theorem dX11_n_5 : decode cX11_n 5 = .ok (.iaload, 1) := by decide +kernel
theorem dX11_n_6 : decode cX11_n 6 = .ok (.ireturn, 1) := by decide +kernel
theorem dX11_all_0 : decode cX11_all 0 = .ok (.iconst 1, 1) := by decide +kernel
theorem dX11_all_1 : decode cX11_all 1 = .ok (.aload_n 0, 1) := by decide +kernel
theorem dX11_all_2 : decode cX11_all 2 = .ok (.getfield 7, 3) := by decide +kernel
theorem dX11_all_5 : decode cX11_all 5 = .ok (.iconst 0, 1) := by decide +kernel
theorem dX11_all_6 : decode cX11_all 6 = .ok (.iaload, 1) := by decide +kernel
theorem dX11_all_7 : decode cX11_all 7 = .ok (.ishl, 1) := by decide +kernel
theorem dX11_all_8 : decode cX11_all 8 = .ok (.iconst 1, 1) := by decide +kernel
theorem dX11_all_9 : decode cX11_all 9 = .ok (.isub, 1) := by decide +kernel
theorem dX11_all_10 : decode cX11_all 10 = .ok (.ireturn, 1) := by decide +kernel
theorem dX11_beaten_0 : decode cX11_beaten 0 = .ok (.aload_n 0, 1) := by decide +kernel
theorem dX11_beaten_1 : decode cX11_beaten 1 = .ok (.getfield 7, 3) := by decide +kernel
theorem dX11_beaten_4 : decode cX11_beaten 4 = .ok (.iconst 1, 1) := by decide +kernel
theorem dX11_beaten_5 : decode cX11_beaten 5 = .ok (.iload_n 1, 1) := by decide +kernel
theorem dX11_beaten_6 : decode cX11_beaten 6 = .ok (.iadd, 1) := by decide +kernel
theorem dX11_beaten_7 : decode cX11_beaten 7 = .ok (.iaload, 1) := by decide +kernel
theorem dX11_beaten_8 : decode cX11_beaten 8 = .ok (.ireturn, 1) := by decide +kernel
theorem dX11_beats1_0 : decode cX11_beats1 0 = .ok (.aload_n 0, 1) := by decide +kernel
theorem dX11_beats1_1 : decode cX11_beats1 1 = .ok (.iload_n 1, 1) := by decide +kernel
theorem dX11_beats1_2 : decode cX11_beats1 2 = .ok (.invokevirtual 45, 3) := by decide +kernel
theorem dX11_beats1_5 : decode cX11_beats1 5 = .ok (.iload_n 2, 1) := by decide +kernel
theorem dX11_beats1_6 : decode cX11_beats1 6 = .ok (.invokestatic 49, 3) := by decide +kernel
theorem dX11_beats1_9 : decode cX11_beats1 9 = .ok (.ireturn, 1) := by decide +kernel
theorem dX11_isPlayer_0 : decode cX11_isPlayer 0 = .ok (.iload_n 1, 1) := by decide +kernel
theorem dX11_isPlayer_1 : decode cX11_isPlayer 1 = .ok (.iconst 0, 1) := by decide +kernel
theorem dX11_isPlayer_2 : decode cX11_isPlayer 2 = .ok (.aload_n 0, 1) := by decide +kernel
theorem dX11_isPlayer_3 : decode cX11_isPlayer 3 = .ok (.getfield 7, 3) := by decide +kernel
theorem dX11_isPlayer_6 : decode cX11_isPlayer 6 = .ok (.iconst 0, 1) := by decide +kernel
theorem dX11_isPlayer_7 : decode cX11_isPlayer 7 = .ok (.iaload, 1) := by decide +kernel
theorem dX11_isPlayer_8 : decode cX11_isPlayer 8 = .ok (.iconst 1, 1) := by decide +kernel
theorem dX11_isPlayer_9 : decode cX11_isPlayer 9 = .ok (.isub, 1) := by decide +kernel
theorem dX11_isPlayer_10 : decode cX11_isPlayer 10 = .ok (.invokestatic 53, 3) := by decide +kernel
theorem dX11_isPlayer_13 : decode cX11_isPlayer 13 = .ok (.ireturn, 1) := by decide +kernel
theorem dX11_isPair_0 : decode cX11_isPair 0 = .ok (.aload_n 0, 1) := by decide +kernel
theorem dX11_isPair_1 : decode cX11_isPair 1 = .ok (.iload_n 1, 1) := by decide +kernel
theorem dX11_isPair_2 : decode cX11_isPair 2 = .ok (.invokevirtual 57, 3) := by decide +kernel
theorem dX11_isPair_5 : decode cX11_isPair 5 = .ok (.ifCond .eq 20, 3) := by decide +kernel
theorem dX11_isPair_8 : decode cX11_isPair 8 = .ok (.aload_n 0, 1) := by decide +kernel
theorem dX11_isPair_9 : decode cX11_isPair 9 = .ok (.iload_n 2, 1) := by decide +kernel
theorem dX11_isPair_10 : decode cX11_isPair 10 = .ok (.invokevirtual 57, 3) := by decide +kernel
theorem dX11_isPair_13 : decode cX11_isPair 13 = .ok (.ifCond .eq 12, 3) := by decide +kernel
theorem dX11_isPair_16 : decode cX11_isPair 16 = .ok (.iload_n 1, 1) := by decide +kernel
theorem dX11_isPair_17 : decode cX11_isPair 17 = .ok (.iload_n 2, 1) := by decide +kernel
theorem dX11_isPair_18 : decode cX11_isPair 18 = .ok (.if_icmp .eq 7, 3) := by decide +kernel
theorem dX11_isPair_21 : decode cX11_isPair 21 = .ok (.iconst 1, 1) := by decide +kernel
theorem dX11_isPair_22 : decode cX11_isPair 22 = .ok (.goto 4, 3) := by decide +kernel
theorem dX11_isPair_25 : decode cX11_isPair 25 = .ok (.iconst 0, 1) := by decide +kernel
theorem dX11_isPair_26 : decode cX11_isPair 26 = .ok (.ireturn, 1) := by decide +kernel
theorem dX11_at_0 : decode cX11_at 0 = .ok (.bipush 11, 2) := by decide +kernel
theorem dX11_at_2 : decode cX11_at 2 = .ok (.bipush 10, 2) := by decide +kernel
theorem dX11_at_4 : decode cX11_at 4 = .ok (.iload_n 0, 1) := by decide +kernel
theorem dX11_at_5 : decode cX11_at 5 = .ok (.imul, 1) := by decide +kernel
theorem dX11_at_6 : decode cX11_at 6 = .ok (.iadd, 1) := by decide +kernel
theorem dX11_at_7 : decode cX11_at 7 = .ok (.iload_n 1, 1) := by decide +kernel
theorem dX11_at_8 : decode cX11_at 8 = .ok (.iadd, 1) := by decide +kernel
theorem dX11_at_9 : decode cX11_at 9 = .ok (.ireturn, 1) := by decide +kernel
theorem dX11_begins_0 : decode cX11_begins 0 = .ok (.aload_n 0, 1) := by decide +kernel
theorem dX11_begins_1 : decode cX11_begins 1 = .ok (.getfield 7, 3) := by decide +kernel
theorem dX11_begins_4 : decode cX11_begins 4 = .ok (.iconst 0, 1) := by decide +kernel
theorem dX11_begins_5 : decode cX11_begins 5 = .ok (.iload_n 1, 1) := by decide +kernel
theorem dX11_begins_6 : decode cX11_begins 6 = .ok (.iastore, 1) := by decide +kernel
theorem dX11_begins_7 : decode cX11_begins 7 = .ok (.iconst 0, 1) := by decide +kernel
theorem dX11_begins_8 : decode cX11_begins 8 = .ok (.istore_n 2, 1) := by decide +kernel
theorem dX11_begins_9 : decode cX11_begins 9 = .ok (.iload_n 2, 1) := by decide +kernel
theorem dX11_begins_10 : decode cX11_begins 10 = .ok (.bipush 10, 2) := by decide +kernel
theorem dX11_begins_12 : decode cX11_begins 12 = .ok (.if_icmp .ge 55, 3) := by decide +kernel
theorem dX11_begins_15 : decode cX11_begins 15 = .ok (.aload_n 0, 1) := by decide +kernel
theorem dX11_begins_16 : decode cX11_begins 16 = .ok (.getfield 7, 3) := by decide +kernel
theorem dX11_begins_19 : decode cX11_begins 19 = .ok (.iconst 1, 1) := by decide +kernel
theorem dX11_begins_20 : decode cX11_begins 20 = .ok (.iload_n 2, 1) := by decide +kernel
theorem dX11_begins_21 : decode cX11_begins 21 = .ok (.iadd, 1) := by decide +kernel
theorem dX11_begins_22 : decode cX11_begins 22 = .ok (.iconst 1, 1) := by decide +kernel
theorem dX11_begins_23 : decode cX11_begins 23 = .ok (.iload_n 1, 1) := by decide +kernel
theorem dX11_begins_24 : decode cX11_begins 24 = .ok (.ishl, 1) := by decide +kernel
theorem dX11_begins_25 : decode cX11_begins 25 = .ok (.iconst 1, 1) := by decide +kernel
theorem dX11_begins_26 : decode cX11_begins 26 = .ok (.isub, 1) := by decide +kernel
theorem dX11_begins_27 : decode cX11_begins 27 = .ok (.iconst 2, 1) := by decide +kernel
theorem dX11_begins_28 : decode cX11_begins 28 = .ok (.iload_n 2, 1) := by decide +kernel
theorem dX11_begins_29 : decode cX11_begins 29 = .ok (.ishl, 1) := by decide +kernel
theorem dX11_begins_30 : decode cX11_begins 30 = .ok (.iconst 1, 1) := by decide +kernel
theorem dX11_begins_31 : decode cX11_begins 31 = .ok (.isub, 1) := by decide +kernel
theorem dX11_begins_32 : decode cX11_begins 32 = .ok (.iconst (-1), 1) := by decide +kernel
theorem dX11_begins_33 : decode cX11_begins 33 = .ok (.ixor, 1) := by decide +kernel
theorem dX11_begins_34 : decode cX11_begins 34 = .ok (.iand, 1) := by decide +kernel
theorem dX11_begins_35 : decode cX11_begins 35 = .ok (.iastore, 1) := by decide +kernel
theorem dX11_begins_36 : decode cX11_begins 36 = .ok (.iconst 0, 1) := by decide +kernel
theorem dX11_begins_37 : decode cX11_begins 37 = .ok (.istore_n 3, 1) := by decide +kernel
theorem dX11_begins_38 : decode cX11_begins 38 = .ok (.iload_n 3, 1) := by decide +kernel
theorem dX11_begins_39 : decode cX11_begins 39 = .ok (.bipush 10, 2) := by decide +kernel
theorem dX11_begins_41 : decode cX11_begins 41 = .ok (.if_icmp .ge 20, 3) := by decide +kernel
theorem dX11_begins_44 : decode cX11_begins 44 = .ok (.aload_n 0, 1) := by decide +kernel
theorem dX11_begins_45 : decode cX11_begins 45 = .ok (.getfield 7, 3) := by decide +kernel
theorem dX11_begins_48 : decode cX11_begins 48 = .ok (.iload_n 2, 1) := by decide +kernel
theorem dX11_begins_49 : decode cX11_begins 49 = .ok (.iload_n 3, 1) := by decide +kernel
theorem dX11_begins_50 : decode cX11_begins 50 = .ok (.invokestatic 61, 3) := by decide +kernel
theorem dX11_begins_53 : decode cX11_begins 53 = .ok (.iconst 1, 1) := by decide +kernel
theorem dX11_begins_54 : decode cX11_begins 54 = .ok (.iastore, 1) := by decide +kernel
theorem dX11_begins_55 : decode cX11_begins 55 = .ok (.iinc 3 1, 3) := by decide +kernel
theorem dX11_begins_58 : decode cX11_begins 58 = .ok (.goto (-20), 3) := by decide +kernel
theorem dX11_begins_61 : decode cX11_begins 61 = .ok (.iinc 2 1, 3) := by decide +kernel
theorem dX11_begins_64 : decode cX11_begins 64 = .ok (.goto (-55), 3) := by decide +kernel
theorem dX11_begins_67 : decode cX11_begins 67 = .ok (.return_, 1) := by decide +kernel
theorem dX11_keeps_0 : decode cX11_keeps 0 = .ok (.aload_n 0, 1) := by decide +kernel
theorem dX11_keeps_1 : decode cX11_keeps 1 = .ok (.getfield 65, 3) := by decide +kernel
theorem dX11_keeps_4 : decode cX11_keeps 4 = .ok (.bipush 8, 2) := by decide +kernel
theorem dX11_keeps_6 : decode cX11_keeps 6 = .ok (.if_icmp .ne 43, 3) := by decide +kernel
theorem dX11_keeps_9 : decode cX11_keeps 9 = .ok (.iconst 0, 1) := by decide +kernel
theorem dX11_keeps_10 : decode cX11_keeps 10 = .ok (.istore_n 1, 1) := by decide +kernel
theorem dX11_keeps_11 : decode cX11_keeps 11 = .ok (.iload_n 1, 1) := by decide +kernel
theorem dX11_keeps_12 : decode cX11_keeps 12 = .ok (.sipush 777, 3) := by decide +kernel
theorem dX11_keeps_15 : decode cX11_keeps 15 = .ok (.if_icmp .ge 24, 3) := by decide +kernel
theorem dX11_keeps_18 : decode cX11_keeps 18 = .ok (.aload_n 0, 1) := by decide +kernel
theorem dX11_keeps_19 : decode cX11_keeps 19 = .ok (.getfield 16, 3) := by decide +kernel
theorem dX11_keeps_22 : decode cX11_keeps 22 = .ok (.iload_n 1, 1) := by decide +kernel
theorem dX11_keeps_23 : decode cX11_keeps 23 = .ok (.aload_n 0, 1) := by decide +kernel
theorem dX11_keeps_24 : decode cX11_keeps 24 = .ok (.getfield 16, 3) := by decide +kernel
theorem dX11_keeps_27 : decode cX11_keeps 27 = .ok (.bipush 111, 2) := by decide +kernel
theorem dX11_keeps_29 : decode cX11_keeps 29 = .ok (.iload_n 1, 1) := by decide +kernel
theorem dX11_keeps_30 : decode cX11_keeps 30 = .ok (.iadd, 1) := by decide +kernel
theorem dX11_keeps_31 : decode cX11_keeps 31 = .ok (.iaload, 1) := by decide +kernel
theorem dX11_keeps_32 : decode cX11_keeps 32 = .ok (.iastore, 1) := by decide +kernel
theorem dX11_keeps_33 : decode cX11_keeps 33 = .ok (.iinc 1 1, 3) := by decide +kernel
theorem dX11_keeps_36 : decode cX11_keeps 36 = .ok (.goto (-25), 3) := by decide +kernel
theorem dX11_keeps_39 : decode cX11_keeps 39 = .ok (.aload_n 0, 1) := by decide +kernel
theorem dX11_keeps_40 : decode cX11_keeps 40 = .ok (.dup, 1) := by decide +kernel
theorem dX11_keeps_41 : decode cX11_keeps 41 = .ok (.getfield 65, 3) := by decide +kernel
theorem dX11_keeps_44 : decode cX11_keeps 44 = .ok (.iconst 1, 1) := by decide +kernel
theorem dX11_keeps_45 : decode cX11_keeps 45 = .ok (.isub, 1) := by decide +kernel
theorem dX11_keeps_46 : decode cX11_keeps 46 = .ok (.putfield 65, 3) := by decide +kernel
theorem dX11_keeps_49 : decode cX11_keeps 49 = .ok (.iconst 0, 1) := by decide +kernel
theorem dX11_keeps_50 : decode cX11_keeps 50 = .ok (.istore_n 1, 1) := by decide +kernel
theorem dX11_keeps_51 : decode cX11_keeps 51 = .ok (.iload_n 1, 1) := by decide +kernel
theorem dX11_keeps_52 : decode cX11_keeps 52 = .ok (.bipush 111, 2) := by decide +kernel
theorem dX11_keeps_54 : decode cX11_keeps 54 = .ok (.if_icmp .ge 29, 3) := by decide +kernel
theorem dX11_keeps_57 : decode cX11_keeps 57 = .ok (.aload_n 0, 1) := by decide +kernel
theorem dX11_keeps_58 : decode cX11_keeps 58 = .ok (.getfield 16, 3) := by decide +kernel
theorem dX11_keeps_61 : decode cX11_keeps 61 = .ok (.bipush 111, 2) := by decide +kernel
theorem dX11_keeps_63 : decode cX11_keeps 63 = .ok (.aload_n 0, 1) := by decide +kernel
theorem dX11_keeps_64 : decode cX11_keeps 64 = .ok (.getfield 65, 3) := by decide +kernel
theorem dX11_keeps_67 : decode cX11_keeps 67 = .ok (.imul, 1) := by decide +kernel
theorem dX11_keeps_68 : decode cX11_keeps 68 = .ok (.iload_n 1, 1) := by decide +kernel
theorem dX11_keeps_69 : decode cX11_keeps 69 = .ok (.iadd, 1) := by decide +kernel
theorem dX11_keeps_70 : decode cX11_keeps 70 = .ok (.aload_n 0, 1) := by decide +kernel
theorem dX11_keeps_71 : decode cX11_keeps 71 = .ok (.getfield 7, 3) := by decide +kernel
theorem dX11_keeps_74 : decode cX11_keeps 74 = .ok (.iload_n 1, 1) := by decide +kernel
theorem dX11_keeps_75 : decode cX11_keeps 75 = .ok (.iaload, 1) := by decide +kernel
theorem dX11_keeps_76 : decode cX11_keeps 76 = .ok (.iastore, 1) := by decide +kernel
theorem dX11_keeps_77 : decode cX11_keeps 77 = .ok (.iinc 1 1, 3) := by decide +kernel
theorem dX11_keeps_80 : decode cX11_keeps 80 = .ok (.goto (-29), 3) := by decide +kernel
theorem dX11_keeps_83 : decode cX11_keeps 83 = .ok (.aload_n 0, 1) := by decide +kernel
theorem dX11_keeps_84 : decode cX11_keeps 84 = .ok (.dup, 1) := by decide +kernel
theorem dX11_keeps_85 : decode cX11_keeps 85 = .ok (.getfield 65, 3) := by decide +kernel
theorem dX11_keeps_88 : decode cX11_keeps 88 = .ok (.iconst 1, 1) := by decide +kernel
theorem dX11_keeps_89 : decode cX11_keeps 89 = .ok (.iadd, 1) := by decide +kernel
theorem dX11_keeps_90 : decode cX11_keeps 90 = .ok (.putfield 65, 3) := by decide +kernel
theorem dX11_keeps_93 : decode cX11_keeps 93 = .ok (.return_, 1) := by decide +kernel
theorem dX11_wins_0 : decode cX11_wins 0 = .ok (.aload_n 0, 1) := by decide +kernel
theorem dX11_wins_1 : decode cX11_wins 1 = .ok (.getfield 7, 3) := by decide +kernel
theorem dX11_wins_4 : decode cX11_wins 4 = .ok (.iconst 1, 1) := by decide +kernel
end
section
theorem dX11_wins_5 : decode cX11_wins 5 = .ok (.iload_n 1, 1) := by decide +kernel
theorem dX11_wins_6 : decode cX11_wins 6 = .ok (.iadd, 1) := by decide +kernel
theorem dX11_wins_7 : decode cX11_wins 7 = .ok (.dup2, 1) := by decide +kernel
theorem dX11_wins_8 : decode cX11_wins 8 = .ok (.iaload, 1) := by decide +kernel
theorem dX11_wins_9 : decode cX11_wins 9 = .ok (.iconst 1, 1) := by decide +kernel
theorem dX11_wins_10 : decode cX11_wins 10 = .ok (.iload_n 2, 1) := by decide +kernel
theorem dX11_wins_11 : decode cX11_wins 11 = .ok (.ishl, 1) := by decide +kernel
theorem dX11_wins_12 : decode cX11_wins 12 = .ok (.ior, 1) := by decide +kernel
theorem dX11_wins_13 : decode cX11_wins 13 = .ok (.iastore, 1) := by decide +kernel
theorem dX11_wins_14 : decode cX11_wins 14 = .ok (.aload_n 0, 1) := by decide +kernel
theorem dX11_wins_15 : decode cX11_wins 15 = .ok (.getfield 7, 3) := by decide +kernel
theorem dX11_wins_18 : decode cX11_wins 18 = .ok (.iconst 1, 1) := by decide +kernel
theorem dX11_wins_19 : decode cX11_wins 19 = .ok (.iload_n 2, 1) := by decide +kernel
theorem dX11_wins_20 : decode cX11_wins 20 = .ok (.iadd, 1) := by decide +kernel
theorem dX11_wins_21 : decode cX11_wins 21 = .ok (.dup2, 1) := by decide +kernel
theorem dX11_wins_22 : decode cX11_wins 22 = .ok (.iaload, 1) := by decide +kernel
theorem dX11_wins_23 : decode cX11_wins 23 = .ok (.iconst 1, 1) := by decide +kernel
theorem dX11_wins_24 : decode cX11_wins 24 = .ok (.iload_n 1, 1) := by decide +kernel
theorem dX11_wins_25 : decode cX11_wins 25 = .ok (.ishl, 1) := by decide +kernel
theorem dX11_wins_26 : decode cX11_wins 26 = .ok (.iconst (-1), 1) := by decide +kernel
theorem dX11_wins_27 : decode cX11_wins 27 = .ok (.ixor, 1) := by decide +kernel
theorem dX11_wins_28 : decode cX11_wins 28 = .ok (.iand, 1) := by decide +kernel
theorem dX11_wins_29 : decode cX11_wins 29 = .ok (.iastore, 1) := by decide +kernel
theorem dX11_wins_30 : decode cX11_wins 30 = .ok (.return_, 1) := by decide +kernel
theorem dX11_turns_0 : decode cX11_turns 0 = .ok (.aload_n 0, 1) := by decide +kernel
theorem dX11_turns_1 : decode cX11_turns 1 = .ok (.iload_n 1, 1) := by decide +kernel
theorem dX11_turns_2 : decode cX11_turns 2 = .ok (.iload_n 2, 1) := by decide +kernel
theorem dX11_turns_3 : decode cX11_turns 3 = .ok (.invokevirtual 69, 3) := by decide +kernel
theorem dX11_turns_6 : decode cX11_turns 6 = .ok (.ifCond .eq 12, 3) := by decide +kernel
theorem dX11_turns_9 : decode cX11_turns 9 = .ok (.aload_n 0, 1) := by decide +kernel
theorem dX11_turns_10 : decode cX11_turns 10 = .ok (.iload_n 2, 1) := by decide +kernel
theorem dX11_turns_11 : decode cX11_turns 11 = .ok (.iload_n 1, 1) := by decide +kernel
theorem dX11_turns_12 : decode cX11_turns 12 = .ok (.invokevirtual 72, 3) := by decide +kernel
theorem dX11_turns_15 : decode cX11_turns 15 = .ok (.goto 9, 3) := by decide +kernel
theorem dX11_turns_18 : decode cX11_turns 18 = .ok (.aload_n 0, 1) := by decide +kernel
theorem dX11_turns_19 : decode cX11_turns 19 = .ok (.iload_n 1, 1) := by decide +kernel
theorem dX11_turns_20 : decode cX11_turns 20 = .ok (.iload_n 2, 1) := by decide +kernel
theorem dX11_turns_21 : decode cX11_turns 21 = .ok (.invokevirtual 72, 3) := by decide +kernel
theorem dX11_turns_24 : decode cX11_turns 24 = .ok (.return_, 1) := by decide +kernel
theorem dX11_reset_0 : decode cX11_reset 0 = .ok (.iload_n 1, 1) := by decide +kernel
theorem dX11_reset_1 : decode cX11_reset 1 = .ok (.iconst 2, 1) := by decide +kernel
theorem dX11_reset_2 : decode cX11_reset 2 = .ok (.bipush 10, 2) := by decide +kernel
theorem dX11_reset_4 : decode cX11_reset 4 = .ok (.invokestatic 53, 3) := by decide +kernel
theorem dX11_reset_7 : decode cX11_reset 7 = .ok (.ifCond .ne 5, 3) := by decide +kernel
theorem dX11_reset_10 : decode cX11_reset 10 = .ok (.iconst (-1), 1) := by decide +kernel
theorem dX11_reset_11 : decode cX11_reset 11 = .ok (.ireturn, 1) := by decide +kernel
theorem dX11_reset_12 : decode cX11_reset 12 = .ok (.aload_n 0, 1) := by decide +kernel
theorem dX11_reset_13 : decode cX11_reset 13 = .ok (.invokevirtual 76, 3) := by decide +kernel
theorem dX11_reset_16 : decode cX11_reset 16 = .ok (.aload_n 0, 1) := by decide +kernel
theorem dX11_reset_17 : decode cX11_reset 17 = .ok (.getfield 7, 3) := by decide +kernel
theorem dX11_reset_20 : decode cX11_reset 20 = .ok (.iconst 0, 1) := by decide +kernel
theorem dX11_reset_21 : decode cX11_reset 21 = .ok (.iaload, 1) := by decide +kernel
theorem dX11_reset_22 : decode cX11_reset 22 = .ok (.istore_n 2, 1) := by decide +kernel
theorem dX11_reset_23 : decode cX11_reset 23 = .ok (.aload_n 0, 1) := by decide +kernel
theorem dX11_reset_24 : decode cX11_reset 24 = .ok (.iload_n 1, 1) := by decide +kernel
theorem dX11_reset_25 : decode cX11_reset 25 = .ok (.invokevirtual 37, 3) := by decide +kernel
theorem dX11_reset_28 : decode cX11_reset 28 = .ok (.iload_n 2, 1) := by decide +kernel
theorem dX11_reset_29 : decode cX11_reset 29 = .ok (.ireturn, 1) := by decide +kernel
theorem dX11_setResult_0 : decode cX11_setResult 0 = .ok (.aload_n 0, 1) := by decide +kernel
theorem dX11_setResult_1 : decode cX11_setResult 1 = .ok (.iload_n 1, 1) := by decide +kernel
theorem dX11_setResult_2 : decode cX11_setResult 2 = .ok (.iload_n 2, 1) := by decide +kernel
theorem dX11_setResult_3 : decode cX11_setResult 3 = .ok (.invokevirtual 79, 3) := by decide +kernel
theorem dX11_setResult_6 : decode cX11_setResult 6 = .ok (.ifCond .ne 5, 3) := by decide +kernel
theorem dX11_setResult_9 : decode cX11_setResult 9 = .ok (.iconst (-1), 1) := by decide +kernel
theorem dX11_setResult_10 : decode cX11_setResult 10 = .ok (.ireturn, 1) := by decide +kernel
theorem dX11_setResult_11 : decode cX11_setResult 11 = .ok (.aload_n 0, 1) := by decide +kernel
theorem dX11_setResult_12 : decode cX11_setResult 12 = .ok (.invokevirtual 76, 3) := by decide +kernel
theorem dX11_setResult_15 : decode cX11_setResult 15 = .ok (.aload_n 0, 1) := by decide +kernel
theorem dX11_setResult_16 : decode cX11_setResult 16 = .ok (.iload_n 1, 1) := by decide +kernel
theorem dX11_setResult_17 : decode cX11_setResult 17 = .ok (.iload_n 2, 1) := by decide +kernel
theorem dX11_setResult_18 : decode cX11_setResult 18 = .ok (.invokevirtual 69, 3) := by decide +kernel
theorem dX11_setResult_21 : decode cX11_setResult 21 = .ok (.ifCond .eq 7, 3) := by decide +kernel
theorem dX11_setResult_24 : decode cX11_setResult 24 = .ok (.iconst 1, 1) := by decide +kernel
theorem dX11_setResult_25 : decode cX11_setResult 25 = .ok (.goto 4, 3) := by decide +kernel
theorem dX11_setResult_28 : decode cX11_setResult 28 = .ok (.iconst 0, 1) := by decide +kernel
theorem dX11_setResult_29 : decode cX11_setResult 29 = .ok (.istore_n 3, 1) := by decide +kernel
theorem dX11_setResult_30 : decode cX11_setResult 30 = .ok (.aload_n 0, 1) := by decide +kernel
theorem dX11_setResult_31 : decode cX11_setResult 31 = .ok (.iload_n 1, 1) := by decide +kernel
theorem dX11_setResult_32 : decode cX11_setResult 32 = .ok (.iload_n 2, 1) := by decide +kernel
theorem dX11_setResult_33 : decode cX11_setResult 33 = .ok (.invokevirtual 72, 3) := by decide +kernel
theorem dX11_setResult_36 : decode cX11_setResult 36 = .ok (.iload_n 3, 1) := by decide +kernel
theorem dX11_setResult_37 : decode cX11_setResult 37 = .ok (.ireturn, 1) := by decide +kernel
theorem dX11_setWeight_0 : decode cX11_setWeight 0 = .ok (.aload_n 0, 1) := by decide +kernel
theorem dX11_setWeight_1 : decode cX11_setWeight 1 = .ok (.iload_n 1, 1) := by decide +kernel
theorem dX11_setWeight_2 : decode cX11_setWeight 2 = .ok (.iload_n 2, 1) := by decide +kernel
theorem dX11_setWeight_3 : decode cX11_setWeight 3 = .ok (.invokevirtual 79, 3) := by decide +kernel
theorem dX11_setWeight_6 : decode cX11_setWeight 6 = .ok (.ifCond .eq 13, 3) := by decide +kernel
theorem dX11_setWeight_9 : decode cX11_setWeight 9 = .ok (.iload_n 3, 1) := by decide +kernel
theorem dX11_setWeight_10 : decode cX11_setWeight 10 = .ok (.iconst 1, 1) := by decide +kernel
theorem dX11_setWeight_11 : decode cX11_setWeight 11 = .ok (.bipush 100, 2) := by decide +kernel
theorem dX11_setWeight_13 : decode cX11_setWeight 13 = .ok (.invokestatic 53, 3) := by decide +kernel
theorem dX11_setWeight_16 : decode cX11_setWeight 16 = .ok (.ifCond .ne 5, 3) := by decide +kernel
theorem dX11_setWeight_19 : decode cX11_setWeight 19 = .ok (.iconst (-1), 1) := by decide +kernel
theorem dX11_setWeight_20 : decode cX11_setWeight 20 = .ok (.ireturn, 1) := by decide +kernel
theorem dX11_setWeight_21 : decode cX11_setWeight 21 = .ok (.aload_n 0, 1) := by decide +kernel
theorem dX11_setWeight_22 : decode cX11_setWeight 22 = .ok (.invokevirtual 76, 3) := by decide +kernel
theorem dX11_setWeight_25 : decode cX11_setWeight 25 = .ok (.aload_n 0, 1) := by decide +kernel
theorem dX11_setWeight_26 : decode cX11_setWeight 26 = .ok (.getfield 7, 3) := by decide +kernel
theorem dX11_setWeight_29 : decode cX11_setWeight 29 = .ok (.iload_n 1, 1) := by decide +kernel
theorem dX11_setWeight_30 : decode cX11_setWeight 30 = .ok (.iload_n 2, 1) := by decide +kernel
theorem dX11_setWeight_31 : decode cX11_setWeight 31 = .ok (.invokestatic 61, 3) := by decide +kernel
theorem dX11_setWeight_34 : decode cX11_setWeight 34 = .ok (.iaload, 1) := by decide +kernel
theorem dX11_setWeight_35 : decode cX11_setWeight 35 = .ok (.istore 4, 2) := by decide +kernel
theorem dX11_setWeight_37 : decode cX11_setWeight 37 = .ok (.aload_n 0, 1) := by decide +kernel
theorem dX11_setWeight_38 : decode cX11_setWeight 38 = .ok (.getfield 7, 3) := by decide +kernel
theorem dX11_setWeight_41 : decode cX11_setWeight 41 = .ok (.iload_n 1, 1) := by decide +kernel
theorem dX11_setWeight_42 : decode cX11_setWeight 42 = .ok (.iload_n 2, 1) := by decide +kernel
theorem dX11_setWeight_43 : decode cX11_setWeight 43 = .ok (.invokestatic 61, 3) := by decide +kernel
theorem dX11_setWeight_46 : decode cX11_setWeight 46 = .ok (.iload_n 3, 1) := by decide +kernel
theorem dX11_setWeight_47 : decode cX11_setWeight 47 = .ok (.iastore, 1) := by decide +kernel
theorem dX11_setWeight_48 : decode cX11_setWeight 48 = .ok (.aload_n 0, 1) := by decide +kernel
theorem dX11_setWeight_49 : decode cX11_setWeight 49 = .ok (.getfield 7, 3) := by decide +kernel
theorem dX11_setWeight_52 : decode cX11_setWeight 52 = .ok (.iload_n 2, 1) := by decide +kernel
theorem dX11_setWeight_53 : decode cX11_setWeight 53 = .ok (.iload_n 1, 1) := by decide +kernel
theorem dX11_setWeight_54 : decode cX11_setWeight 54 = .ok (.invokestatic 61, 3) := by decide +kernel
theorem dX11_setWeight_57 : decode cX11_setWeight 57 = .ok (.iload_n 3, 1) := by decide +kernel
theorem dX11_setWeight_58 : decode cX11_setWeight 58 = .ok (.iastore, 1) := by decide +kernel
theorem dX11_setWeight_59 : decode cX11_setWeight 59 = .ok (.iload 4, 2) := by decide +kernel
theorem dX11_setWeight_61 : decode cX11_setWeight 61 = .ok (.ireturn, 1) := by decide +kernel
theorem dX11_isCycle_0 : decode cX11_isCycle 0 = .ok (.aload_n 0, 1) := by decide +kernel
theorem dX11_isCycle_1 : decode cX11_isCycle 1 = .ok (.iload_n 1, 1) := by decide +kernel
theorem dX11_isCycle_2 : decode cX11_isCycle 2 = .ok (.iload_n 2, 1) := by decide +kernel
theorem dX11_isCycle_3 : decode cX11_isCycle 3 = .ok (.invokevirtual 69, 3) := by decide +kernel
theorem dX11_isCycle_6 : decode cX11_isCycle 6 = .ok (.ifCond .eq 21, 3) := by decide +kernel
theorem dX11_isCycle_9 : decode cX11_isCycle 9 = .ok (.aload_n 0, 1) := by decide +kernel
theorem dX11_isCycle_10 : decode cX11_isCycle 10 = .ok (.iload_n 2, 1) := by decide +kernel
theorem dX11_isCycle_11 : decode cX11_isCycle 11 = .ok (.iload_n 3, 1) := by decide +kernel
theorem dX11_isCycle_12 : decode cX11_isCycle 12 = .ok (.invokevirtual 69, 3) := by decide +kernel
theorem dX11_isCycle_15 : decode cX11_isCycle 15 = .ok (.ifCond .eq 12, 3) := by decide +kernel
theorem dX11_isCycle_18 : decode cX11_isCycle 18 = .ok (.aload_n 0, 1) := by decide +kernel
theorem dX11_isCycle_19 : decode cX11_isCycle 19 = .ok (.iload_n 3, 1) := by decide +kernel
theorem dX11_isCycle_20 : decode cX11_isCycle 20 = .ok (.iload_n 1, 1) := by decide +kernel
theorem dX11_isCycle_21 : decode cX11_isCycle 21 = .ok (.invokevirtual 69, 3) := by decide +kernel
theorem dX11_isCycle_24 : decode cX11_isCycle 24 = .ok (.ifCond .ne 30, 3) := by decide +kernel
theorem dX11_isCycle_27 : decode cX11_isCycle 27 = .ok (.aload_n 0, 1) := by decide +kernel
theorem dX11_isCycle_28 : decode cX11_isCycle 28 = .ok (.iload_n 2, 1) := by decide +kernel
theorem dX11_isCycle_29 : decode cX11_isCycle 29 = .ok (.iload_n 1, 1) := by decide +kernel
theorem dX11_isCycle_30 : decode cX11_isCycle 30 = .ok (.invokevirtual 69, 3) := by decide +kernel
theorem dX11_isCycle_33 : decode cX11_isCycle 33 = .ok (.ifCond .eq 25, 3) := by decide +kernel
theorem dX11_isCycle_36 : decode cX11_isCycle 36 = .ok (.aload_n 0, 1) := by decide +kernel
theorem dX11_isCycle_37 : decode cX11_isCycle 37 = .ok (.iload_n 3, 1) := by decide +kernel
theorem dX11_isCycle_38 : decode cX11_isCycle 38 = .ok (.iload_n 2, 1) := by decide +kernel
theorem dX11_isCycle_39 : decode cX11_isCycle 39 = .ok (.invokevirtual 69, 3) := by decide +kernel
theorem dX11_isCycle_42 : decode cX11_isCycle 42 = .ok (.ifCond .eq 16, 3) := by decide +kernel
theorem dX11_isCycle_45 : decode cX11_isCycle 45 = .ok (.aload_n 0, 1) := by decide +kernel
theorem dX11_isCycle_46 : decode cX11_isCycle 46 = .ok (.iload_n 1, 1) := by decide +kernel
theorem dX11_isCycle_47 : decode cX11_isCycle 47 = .ok (.iload_n 3, 1) := by decide +kernel
theorem dX11_isCycle_48 : decode cX11_isCycle 48 = .ok (.invokevirtual 69, 3) := by decide +kernel
theorem dX11_isCycle_51 : decode cX11_isCycle 51 = .ok (.ifCond .eq 7, 3) := by decide +kernel
theorem dX11_isCycle_54 : decode cX11_isCycle 54 = .ok (.iconst 1, 1) := by decide +kernel
theorem dX11_isCycle_55 : decode cX11_isCycle 55 = .ok (.goto 4, 3) := by decide +kernel
theorem dX11_isCycle_58 : decode cX11_isCycle 58 = .ok (.iconst 0, 1) := by decide +kernel
theorem dX11_isCycle_59 : decode cX11_isCycle 59 = .ok (.ireturn, 1) := by decide +kernel
theorem dX11_reverseTriangle_0 : decode cX11_reverseTriangle 0 = .ok (.aload_n 0, 1) := by decide +kernel
theorem dX11_reverseTriangle_1 : decode cX11_reverseTriangle 1 = .ok (.iload_n 1, 1) := by decide +kernel
theorem dX11_reverseTriangle_2 : decode cX11_reverseTriangle 2 = .ok (.iload_n 2, 1) := by decide +kernel
theorem dX11_reverseTriangle_3 : decode cX11_reverseTriangle 3 = .ok (.invokevirtual 79, 3) := by decide +kernel
theorem dX11_reverseTriangle_6 : decode cX11_reverseTriangle 6 = .ok (.ifCond .eq 21, 3) := by decide +kernel
theorem dX11_reverseTriangle_9 : decode cX11_reverseTriangle 9 = .ok (.aload_n 0, 1) := by decide +kernel
theorem dX11_reverseTriangle_10 : decode cX11_reverseTriangle 10 = .ok (.iload_n 2, 1) := by decide +kernel
theorem dX11_reverseTriangle_11 : decode cX11_reverseTriangle 11 = .ok (.iload_n 3, 1) := by decide +kernel
theorem dX11_reverseTriangle_12 : decode cX11_reverseTriangle 12 = .ok (.invokevirtual 79, 3) := by decide +kernel
theorem dX11_reverseTriangle_15 : decode cX11_reverseTriangle 15 = .ok (.ifCond .eq 12, 3) := by decide +kernel
theorem dX11_reverseTriangle_18 : decode cX11_reverseTriangle 18 = .ok (.aload_n 0, 1) := by decide +kernel
theorem dX11_reverseTriangle_19 : decode cX11_reverseTriangle 19 = .ok (.iload_n 1, 1) := by decide +kernel
theorem dX11_reverseTriangle_20 : decode cX11_reverseTriangle 20 = .ok (.iload_n 3, 1) := by decide +kernel
theorem dX11_reverseTriangle_21 : decode cX11_reverseTriangle 21 = .ok (.invokevirtual 79, 3) := by decide +kernel
theorem dX11_reverseTriangle_24 : decode cX11_reverseTriangle 24 = .ok (.ifCond .ne 5, 3) := by decide +kernel
theorem dX11_reverseTriangle_27 : decode cX11_reverseTriangle 27 = .ok (.iconst (-1), 1) := by decide +kernel
theorem dX11_reverseTriangle_28 : decode cX11_reverseTriangle 28 = .ok (.ireturn, 1) := by decide +kernel
theorem dX11_reverseTriangle_29 : decode cX11_reverseTriangle 29 = .ok (.aload_n 0, 1) := by decide +kernel
theorem dX11_reverseTriangle_30 : decode cX11_reverseTriangle 30 = .ok (.iload_n 1, 1) := by decide +kernel
theorem dX11_reverseTriangle_31 : decode cX11_reverseTriangle 31 = .ok (.iload_n 2, 1) := by decide +kernel
theorem dX11_reverseTriangle_32 : decode cX11_reverseTriangle 32 = .ok (.iload_n 3, 1) := by decide +kernel
theorem dX11_reverseTriangle_33 : decode cX11_reverseTriangle 33 = .ok (.invokevirtual 82, 3) := by decide +kernel
theorem dX11_reverseTriangle_36 : decode cX11_reverseTriangle 36 = .ok (.ifCond .ne 6, 3) := by decide +kernel
theorem dX11_reverseTriangle_39 : decode cX11_reverseTriangle 39 = .ok (.bipush (-2), 2) := by decide +kernel
theorem dX11_reverseTriangle_41 : decode cX11_reverseTriangle 41 = .ok (.ireturn, 1) := by decide +kernel
theorem dX11_reverseTriangle_42 : decode cX11_reverseTriangle 42 = .ok (.aload_n 0, 1) := by decide +kernel
theorem dX11_reverseTriangle_43 : decode cX11_reverseTriangle 43 = .ok (.invokevirtual 76, 3) := by decide +kernel
theorem dX11_reverseTriangle_46 : decode cX11_reverseTriangle 46 = .ok (.aload_n 0, 1) := by decide +kernel
theorem dX11_reverseTriangle_47 : decode cX11_reverseTriangle 47 = .ok (.iload_n 1, 1) := by decide +kernel
theorem dX11_reverseTriangle_48 : decode cX11_reverseTriangle 48 = .ok (.iload_n 2, 1) := by decide +kernel
theorem dX11_reverseTriangle_49 : decode cX11_reverseTriangle 49 = .ok (.invokevirtual 85, 3) := by decide +kernel
theorem dX11_reverseTriangle_52 : decode cX11_reverseTriangle 52 = .ok (.aload_n 0, 1) := by decide +kernel
theorem dX11_reverseTriangle_53 : decode cX11_reverseTriangle 53 = .ok (.iload_n 2, 1) := by decide +kernel
theorem dX11_reverseTriangle_54 : decode cX11_reverseTriangle 54 = .ok (.iload_n 3, 1) := by decide +kernel
theorem dX11_reverseTriangle_55 : decode cX11_reverseTriangle 55 = .ok (.invokevirtual 85, 3) := by decide +kernel
theorem dX11_reverseTriangle_58 : decode cX11_reverseTriangle 58 = .ok (.aload_n 0, 1) := by decide +kernel
theorem dX11_reverseTriangle_59 : decode cX11_reverseTriangle 59 = .ok (.iload_n 1, 1) := by decide +kernel
theorem dX11_reverseTriangle_60 : decode cX11_reverseTriangle 60 = .ok (.iload_n 3, 1) := by decide +kernel
theorem dX11_reverseTriangle_61 : decode cX11_reverseTriangle 61 = .ok (.invokevirtual 85, 3) := by decide +kernel
theorem dX11_reverseTriangle_64 : decode cX11_reverseTriangle 64 = .ok (.aload_n 0, 1) := by decide +kernel
theorem dX11_reverseTriangle_65 : decode cX11_reverseTriangle 65 = .ok (.invokevirtual 88, 3) := by decide +kernel
theorem dX11_reverseTriangle_68 : decode cX11_reverseTriangle 68 = .ok (.ireturn, 1) := by decide +kernel
theorem dX11_stepsTo_0 : decode cX11_stepsTo 0 = .ok (.iconst 0, 1) := by decide +kernel
theorem dX11_stepsTo_1 : decode cX11_stepsTo 1 = .ok (.istore_n 2, 1) := by decide +kernel
theorem dX11_stepsTo_2 : decode cX11_stepsTo 2 = .ok (.iload_n 2, 1) := by decide +kernel
theorem dX11_stepsTo_3 : decode cX11_stepsTo 3 = .ok (.aload_n 0, 1) := by decide +kernel
theorem dX11_stepsTo_4 : decode cX11_stepsTo 4 = .ok (.invokevirtual 92, 3) := by decide +kernel
theorem dX11_stepsTo_7 : decode cX11_stepsTo 7 = .ok (.if_icmp .ge 26, 3) := by decide +kernel
theorem dX11_stepsTo_10 : decode cX11_stepsTo 10 = .ok (.aload_n 0, 1) := by decide +kernel
theorem dX11_stepsTo_11 : decode cX11_stepsTo 11 = .ok (.getfield 34, 3) := by decide +kernel
theorem dX11_stepsTo_14 : decode cX11_stepsTo 14 = .ok (.iload_n 2, 1) := by decide +kernel
theorem dX11_stepsTo_15 : decode cX11_stepsTo 15 = .ok (.iload_n 2, 1) := by decide +kernel
theorem dX11_stepsTo_16 : decode cX11_stepsTo 16 = .ok (.iload_n 1, 1) := by decide +kernel
theorem dX11_stepsTo_17 : decode cX11_stepsTo 17 = .ok (.if_icmp .ne 7, 3) := by decide +kernel
theorem dX11_stepsTo_20 : decode cX11_stepsTo 20 = .ok (.iconst 0, 1) := by decide +kernel
theorem dX11_stepsTo_21 : decode cX11_stepsTo 21 = .ok (.goto 5, 3) := by decide +kernel
theorem dX11_stepsTo_24 : decode cX11_stepsTo 24 = .ok (.bipush (-4), 2) := by decide +kernel
theorem dX11_stepsTo_26 : decode cX11_stepsTo 26 = .ok (.iastore, 1) := by decide +kernel
theorem dX11_stepsTo_27 : decode cX11_stepsTo 27 = .ok (.iinc 2 1, 3) := by decide +kernel
theorem dX11_stepsTo_30 : decode cX11_stepsTo 30 = .ok (.goto (-28), 3) := by decide +kernel
theorem dX11_stepsTo_33 : decode cX11_stepsTo 33 = .ok (.iconst 1, 1) := by decide +kernel
theorem dX11_stepsTo_34 : decode cX11_stepsTo 34 = .ok (.istore_n 2, 1) := by decide +kernel
theorem dX11_stepsTo_35 : decode cX11_stepsTo 35 = .ok (.iload_n 2, 1) := by decide +kernel
theorem dX11_stepsTo_36 : decode cX11_stepsTo 36 = .ok (.aload_n 0, 1) := by decide +kernel
theorem dX11_stepsTo_37 : decode cX11_stepsTo 37 = .ok (.invokevirtual 92, 3) := by decide +kernel
theorem dX11_stepsTo_40 : decode cX11_stepsTo 40 = .ok (.if_icmp .ge 91, 3) := by decide +kernel
theorem dX11_stepsTo_43 : decode cX11_stepsTo 43 = .ok (.iconst 0, 1) := by decide +kernel
theorem dX11_stepsTo_44 : decode cX11_stepsTo 44 = .ok (.istore_n 3, 1) := by decide +kernel
theorem dX11_stepsTo_45 : decode cX11_stepsTo 45 = .ok (.iload_n 3, 1) := by decide +kernel
theorem dX11_stepsTo_46 : decode cX11_stepsTo 46 = .ok (.aload_n 0, 1) := by decide +kernel
theorem dX11_stepsTo_47 : decode cX11_stepsTo 47 = .ok (.invokevirtual 92, 3) := by decide +kernel
theorem dX11_stepsTo_50 : decode cX11_stepsTo 50 = .ok (.if_icmp .ge 75, 3) := by decide +kernel
theorem dX11_stepsTo_53 : decode cX11_stepsTo 53 = .ok (.iconst 0, 1) := by decide +kernel
theorem dX11_stepsTo_54 : decode cX11_stepsTo 54 = .ok (.istore 4, 2) := by decide +kernel
theorem dX11_stepsTo_56 : decode cX11_stepsTo 56 = .ok (.iload 4, 2) := by decide +kernel
theorem dX11_stepsTo_58 : decode cX11_stepsTo 58 = .ok (.aload_n 0, 1) := by decide +kernel
theorem dX11_stepsTo_59 : decode cX11_stepsTo 59 = .ok (.invokevirtual 92, 3) := by decide +kernel
theorem dX11_stepsTo_62 : decode cX11_stepsTo 62 = .ok (.if_icmp .ge 57, 3) := by decide +kernel
theorem dX11_stepsTo_65 : decode cX11_stepsTo 65 = .ok (.aload_n 0, 1) := by decide +kernel
theorem dX11_stepsTo_66 : decode cX11_stepsTo 66 = .ok (.getfield 34, 3) := by decide +kernel
theorem dX11_stepsTo_69 : decode cX11_stepsTo 69 = .ok (.iload_n 3, 1) := by decide +kernel
theorem dX11_stepsTo_70 : decode cX11_stepsTo 70 = .ok (.iaload, 1) := by decide +kernel
theorem dX11_stepsTo_71 : decode cX11_stepsTo 71 = .ok (.ifCond .ge 48, 3) := by decide +kernel
theorem dX11_stepsTo_74 : decode cX11_stepsTo 74 = .ok (.aload_n 0, 1) := by decide +kernel
theorem dX11_stepsTo_75 : decode cX11_stepsTo 75 = .ok (.getfield 34, 3) := by decide +kernel
theorem dX11_stepsTo_78 : decode cX11_stepsTo 78 = .ok (.iload_n 3, 1) := by decide +kernel
theorem dX11_stepsTo_79 : decode cX11_stepsTo 79 = .ok (.aload_n 0, 1) := by decide +kernel
theorem dX11_stepsTo_80 : decode cX11_stepsTo 80 = .ok (.getfield 34, 3) := by decide +kernel
theorem dX11_stepsTo_83 : decode cX11_stepsTo 83 = .ok (.iload 4, 2) := by decide +kernel
theorem dX11_stepsTo_85 : decode cX11_stepsTo 85 = .ok (.iaload, 1) := by decide +kernel
theorem dX11_stepsTo_86 : decode cX11_stepsTo 86 = .ok (.iload_n 2, 1) := by decide +kernel
theorem dX11_stepsTo_87 : decode cX11_stepsTo 87 = .ok (.iconst 1, 1) := by decide +kernel
theorem dX11_stepsTo_88 : decode cX11_stepsTo 88 = .ok (.isub, 1) := by decide +kernel
theorem dX11_stepsTo_89 : decode cX11_stepsTo 89 = .ok (.if_icmp .ne 17, 3) := by decide +kernel
theorem dX11_stepsTo_92 : decode cX11_stepsTo 92 = .ok (.aload_n 0, 1) := by decide +kernel
theorem dX11_stepsTo_93 : decode cX11_stepsTo 93 = .ok (.iload_n 3, 1) := by decide +kernel
theorem dX11_stepsTo_94 : decode cX11_stepsTo 94 = .ok (.iload 4, 2) := by decide +kernel
theorem dX11_stepsTo_96 : decode cX11_stepsTo 96 = .ok (.invokevirtual 69, 3) := by decide +kernel
theorem dX11_stepsTo_99 : decode cX11_stepsTo 99 = .ok (.ifCond .eq 7, 3) := by decide +kernel
theorem dX11_stepsTo_102 : decode cX11_stepsTo 102 = .ok (.iload_n 2, 1) := by decide +kernel
theorem dX11_stepsTo_103 : decode cX11_stepsTo 103 = .ok (.goto 9, 3) := by decide +kernel
theorem dX11_stepsTo_106 : decode cX11_stepsTo 106 = .ok (.aload_n 0, 1) := by decide +kernel
theorem dX11_stepsTo_107 : decode cX11_stepsTo 107 = .ok (.getfield 34, 3) := by decide +kernel
theorem dX11_stepsTo_110 : decode cX11_stepsTo 110 = .ok (.iload_n 3, 1) := by decide +kernel
theorem dX11_stepsTo_111 : decode cX11_stepsTo 111 = .ok (.iaload, 1) := by decide +kernel
theorem dX11_stepsTo_112 : decode cX11_stepsTo 112 = .ok (.iastore, 1) := by decide +kernel
theorem dX11_stepsTo_113 : decode cX11_stepsTo 113 = .ok (.iinc 4 1, 3) := by decide +kernel
theorem dX11_stepsTo_116 : decode cX11_stepsTo 116 = .ok (.goto (-60), 3) := by decide +kernel
theorem dX11_stepsTo_119 : decode cX11_stepsTo 119 = .ok (.iinc 3 1, 3) := by decide +kernel
theorem dX11_stepsTo_122 : decode cX11_stepsTo 122 = .ok (.goto (-77), 3) := by decide +kernel
theorem dX11_stepsTo_125 : decode cX11_stepsTo 125 = .ok (.iinc 2 1, 3) := by decide +kernel
theorem dX11_stepsTo_128 : decode cX11_stepsTo 128 = .ok (.goto (-93), 3) := by decide +kernel
theorem dX11_stepsTo_131 : decode cX11_stepsTo 131 = .ok (.return_, 1) := by decide +kernel
theorem dX11_reversePath_0 : decode cX11_reversePath 0 = .ok (.aload_n 0, 1) := by decide +kernel
theorem dX11_reversePath_1 : decode cX11_reversePath 1 = .ok (.iload_n 1, 1) := by decide +kernel
theorem dX11_reversePath_2 : decode cX11_reversePath 2 = .ok (.iload_n 2, 1) := by decide +kernel
theorem dX11_reversePath_3 : decode cX11_reversePath 3 = .ok (.invokevirtual 79, 3) := by decide +kernel
theorem dX11_reversePath_6 : decode cX11_reversePath 6 = .ok (.ifCond .ne 5, 3) := by decide +kernel
theorem dX11_reversePath_9 : decode cX11_reversePath 9 = .ok (.iconst (-1), 1) := by decide +kernel
theorem dX11_reversePath_10 : decode cX11_reversePath 10 = .ok (.ireturn, 1) := by decide +kernel
theorem dX11_reversePath_11 : decode cX11_reversePath 11 = .ok (.aload_n 0, 1) := by decide +kernel
theorem dX11_reversePath_12 : decode cX11_reversePath 12 = .ok (.iload_n 2, 1) := by decide +kernel
theorem dX11_reversePath_13 : decode cX11_reversePath 13 = .ok (.invokevirtual 95, 3) := by decide +kernel
theorem dX11_reversePath_16 : decode cX11_reversePath 16 = .ok (.aload_n 0, 1) := by decide +kernel
theorem dX11_reversePath_17 : decode cX11_reversePath 17 = .ok (.getfield 34, 3) := by decide +kernel
theorem dX11_reversePath_20 : decode cX11_reversePath 20 = .ok (.iload_n 1, 1) := by decide +kernel
theorem dX11_reversePath_21 : decode cX11_reversePath 21 = .ok (.iaload, 1) := by decide +kernel
theorem dX11_reversePath_22 : decode cX11_reversePath 22 = .ok (.ifCond .ge 6, 3) := by decide +kernel
theorem dX11_reversePath_25 : decode cX11_reversePath 25 = .ok (.bipush (-2), 2) := by decide +kernel
theorem dX11_reversePath_27 : decode cX11_reversePath 27 = .ok (.ireturn, 1) := by decide +kernel
theorem dX11_reversePath_28 : decode cX11_reversePath 28 = .ok (.aload_n 0, 1) := by decide +kernel
theorem dX11_reversePath_29 : decode cX11_reversePath 29 = .ok (.invokevirtual 76, 3) := by decide +kernel
theorem dX11_reversePath_32 : decode cX11_reversePath 32 = .ok (.aload_n 0, 1) := by decide +kernel
theorem dX11_reversePath_33 : decode cX11_reversePath 33 = .ok (.getfield 34, 3) := by decide +kernel
theorem dX11_reversePath_36 : decode cX11_reversePath 36 = .ok (.iload_n 1, 1) := by decide +kernel
theorem dX11_reversePath_37 : decode cX11_reversePath 37 = .ok (.iaload, 1) := by decide +kernel
theorem dX11_reversePath_38 : decode cX11_reversePath 38 = .ok (.istore_n 3, 1) := by decide +kernel
theorem dX11_reversePath_39 : decode cX11_reversePath 39 = .ok (.iload_n 1, 1) := by decide +kernel
theorem dX11_reversePath_40 : decode cX11_reversePath 40 = .ok (.istore 4, 2) := by decide +kernel
theorem dX11_reversePath_42 : decode cX11_reversePath 42 = .ok (.iload 4, 2) := by decide +kernel
theorem dX11_reversePath_44 : decode cX11_reversePath 44 = .ok (.iload_n 2, 1) := by decide +kernel
theorem dX11_reversePath_45 : decode cX11_reversePath 45 = .ok (.if_icmp .eq 57, 3) := by decide +kernel
theorem dX11_reversePath_48 : decode cX11_reversePath 48 = .ok (.iconst 0, 1) := by decide +kernel
theorem dX11_reversePath_49 : decode cX11_reversePath 49 = .ok (.istore 5, 2) := by decide +kernel
theorem dX11_reversePath_51 : decode cX11_reversePath 51 = .ok (.aload_n 0, 1) := by decide +kernel
theorem dX11_reversePath_52 : decode cX11_reversePath 52 = .ok (.iload 4, 2) := by decide +kernel
theorem dX11_reversePath_54 : decode cX11_reversePath 54 = .ok (.iload 5, 2) := by decide +kernel
theorem dX11_reversePath_56 : decode cX11_reversePath 56 = .ok (.invokevirtual 69, 3) := by decide +kernel
theorem dX11_reversePath_59 : decode cX11_reversePath 59 = .ok (.ifCond .eq 22, 3) := by decide +kernel
theorem dX11_reversePath_62 : decode cX11_reversePath 62 = .ok (.aload_n 0, 1) := by decide +kernel
theorem dX11_reversePath_63 : decode cX11_reversePath 63 = .ok (.getfield 34, 3) := by decide +kernel
theorem dX11_reversePath_66 : decode cX11_reversePath 66 = .ok (.iload 5, 2) := by decide +kernel
theorem dX11_reversePath_68 : decode cX11_reversePath 68 = .ok (.iaload, 1) := by decide +kernel
theorem dX11_reversePath_69 : decode cX11_reversePath 69 = .ok (.aload_n 0, 1) := by decide +kernel
theorem dX11_reversePath_70 : decode cX11_reversePath 70 = .ok (.getfield 34, 3) := by decide +kernel
theorem dX11_reversePath_73 : decode cX11_reversePath 73 = .ok (.iload 4, 2) := by decide +kernel
theorem dX11_reversePath_75 : decode cX11_reversePath 75 = .ok (.iaload, 1) := by decide +kernel
theorem dX11_reversePath_76 : decode cX11_reversePath 76 = .ok (.iconst 1, 1) := by decide +kernel
theorem dX11_reversePath_77 : decode cX11_reversePath 77 = .ok (.isub, 1) := by decide +kernel
theorem dX11_reversePath_78 : decode cX11_reversePath 78 = .ok (.if_icmp .eq 9, 3) := by decide +kernel
theorem dX11_reversePath_81 : decode cX11_reversePath 81 = .ok (.iinc 5 1, 3) := by decide +kernel
theorem dX11_reversePath_84 : decode cX11_reversePath 84 = .ok (.goto (-33), 3) := by decide +kernel
theorem dX11_reversePath_87 : decode cX11_reversePath 87 = .ok (.aload_n 0, 1) := by decide +kernel
theorem dX11_reversePath_88 : decode cX11_reversePath 88 = .ok (.iload 4, 2) := by decide +kernel
theorem dX11_reversePath_90 : decode cX11_reversePath 90 = .ok (.iload 5, 2) := by decide +kernel
theorem dX11_reversePath_92 : decode cX11_reversePath 92 = .ok (.invokevirtual 85, 3) := by decide +kernel
theorem dX11_reversePath_95 : decode cX11_reversePath 95 = .ok (.iload 5, 2) := by decide +kernel
theorem dX11_reversePath_97 : decode cX11_reversePath 97 = .ok (.istore 4, 2) := by decide +kernel
theorem dX11_reversePath_99 : decode cX11_reversePath 99 = .ok (.goto (-57), 3) := by decide +kernel
theorem dX11_reversePath_102 : decode cX11_reversePath 102 = .ok (.iload_n 3, 1) := by decide +kernel
theorem dX11_reversePath_103 : decode cX11_reversePath 103 = .ok (.ireturn, 1) := by decide +kernel
theorem dX11_reversePlayer_0 : decode cX11_reversePlayer 0 = .ok (.aload_n 0, 1) := by decide +kernel
theorem dX11_reversePlayer_1 : decode cX11_reversePlayer 1 = .ok (.iload_n 1, 1) := by decide +kernel
theorem dX11_reversePlayer_2 : decode cX11_reversePlayer 2 = .ok (.invokevirtual 57, 3) := by decide +kernel
theorem dX11_reversePlayer_5 : decode cX11_reversePlayer 5 = .ok (.ifCond .ne 5, 3) := by decide +kernel
theorem dX11_reversePlayer_8 : decode cX11_reversePlayer 8 = .ok (.iconst (-1), 1) := by decide +kernel
theorem dX11_reversePlayer_9 : decode cX11_reversePlayer 9 = .ok (.ireturn, 1) := by decide +kernel
theorem dX11_reversePlayer_10 : decode cX11_reversePlayer 10 = .ok (.aload_n 0, 1) := by decide +kernel
theorem dX11_reversePlayer_11 : decode cX11_reversePlayer 11 = .ok (.invokevirtual 76, 3) := by decide +kernel
theorem dX11_reversePlayer_14 : decode cX11_reversePlayer 14 = .ok (.iconst 0, 1) := by decide +kernel
theorem dX11_reversePlayer_15 : decode cX11_reversePlayer 15 = .ok (.istore_n 2, 1) := by decide +kernel
theorem dX11_reversePlayer_16 : decode cX11_reversePlayer 16 = .ok (.iload_n 2, 1) := by decide +kernel
theorem dX11_reversePlayer_17 : decode cX11_reversePlayer 17 = .ok (.aload_n 0, 1) := by decide +kernel
theorem dX11_reversePlayer_18 : decode cX11_reversePlayer 18 = .ok (.invokevirtual 92, 3) := by decide +kernel
theorem dX11_reversePlayer_21 : decode cX11_reversePlayer 21 = .ok (.if_icmp .ge 20, 3) := by decide +kernel
theorem dX11_reversePlayer_24 : decode cX11_reversePlayer 24 = .ok (.iload_n 2, 1) := by decide +kernel
theorem dX11_reversePlayer_25 : decode cX11_reversePlayer 25 = .ok (.iload_n 1, 1) := by decide +kernel
theorem dX11_reversePlayer_26 : decode cX11_reversePlayer 26 = .ok (.if_icmp .eq 9, 3) := by decide +kernel
theorem dX11_reversePlayer_29 : decode cX11_reversePlayer 29 = .ok (.aload_n 0, 1) := by decide +kernel
theorem dX11_reversePlayer_30 : decode cX11_reversePlayer 30 = .ok (.iload_n 1, 1) := by decide +kernel
theorem dX11_reversePlayer_31 : decode cX11_reversePlayer 31 = .ok (.iload_n 2, 1) := by decide +kernel
theorem dX11_reversePlayer_32 : decode cX11_reversePlayer 32 = .ok (.invokevirtual 85, 3) := by decide +kernel
theorem dX11_reversePlayer_35 : decode cX11_reversePlayer 35 = .ok (.iinc 2 1, 3) := by decide +kernel
theorem dX11_reversePlayer_38 : decode cX11_reversePlayer 38 = .ok (.goto (-22), 3) := by decide +kernel
theorem dX11_reversePlayer_41 : decode cX11_reversePlayer 41 = .ok (.aload_n 0, 1) := by decide +kernel
theorem dX11_reversePlayer_42 : decode cX11_reversePlayer 42 = .ok (.iload_n 1, 1) := by decide +kernel
theorem dX11_reversePlayer_43 : decode cX11_reversePlayer 43 = .ok (.invokevirtual 45, 3) := by decide +kernel
theorem dX11_reversePlayer_46 : decode cX11_reversePlayer 46 = .ok (.invokestatic 98, 3) := by decide +kernel
theorem dX11_reversePlayer_49 : decode cX11_reversePlayer 49 = .ok (.ireturn, 1) := by decide +kernel
theorem dX11_swapped_0 : decode cX11_swapped 0 = .ok (.iload_n 0, 1) := by decide +kernel
theorem dX11_swapped_1 : decode cX11_swapped 1 = .ok (.iconst 1, 1) := by decide +kernel
theorem dX11_swapped_2 : decode cX11_swapped 2 = .ok (.iload_n 1, 1) := by decide +kernel
theorem dX11_swapped_3 : decode cX11_swapped 3 = .ok (.ishl, 1) := by decide +kernel
theorem dX11_swapped_4 : decode cX11_swapped 4 = .ok (.iconst (-1), 1) := by decide +kernel
theorem dX11_swapped_5 : decode cX11_swapped 5 = .ok (.ixor, 1) := by decide +kernel
theorem dX11_swapped_6 : decode cX11_swapped 6 = .ok (.iand, 1) := by decide +kernel
theorem dX11_swapped_7 : decode cX11_swapped 7 = .ok (.iconst 1, 1) := by decide +kernel
theorem dX11_swapped_8 : decode cX11_swapped 8 = .ok (.iload_n 2, 1) := by decide +kernel
theorem dX11_swapped_9 : decode cX11_swapped 9 = .ok (.ishl, 1) := by decide +kernel
theorem dX11_swapped_10 : decode cX11_swapped 10 = .ok (.iconst (-1), 1) := by decide +kernel
theorem dX11_swapped_11 : decode cX11_swapped 11 = .ok (.ixor, 1) := by decide +kernel
theorem dX11_swapped_12 : decode cX11_swapped 12 = .ok (.iand, 1) := by decide +kernel
theorem dX11_swapped_13 : decode cX11_swapped 13 = .ok (.istore_n 3, 1) := by decide +kernel
theorem dX11_swapped_14 : decode cX11_swapped 14 = .ok (.iload_n 3, 1) := by decide +kernel
theorem dX11_swapped_15 : decode cX11_swapped 15 = .ok (.iload_n 0, 1) := by decide +kernel
theorem dX11_swapped_16 : decode cX11_swapped 16 = .ok (.iload_n 1, 1) := by decide +kernel
theorem dX11_swapped_17 : decode cX11_swapped 17 = .ok (.invokestatic 49, 3) := by decide +kernel
theorem dX11_swapped_20 : decode cX11_swapped 20 = .ok (.ifCond .eq 9, 3) := by decide +kernel
theorem dX11_swapped_23 : decode cX11_swapped 23 = .ok (.iconst 1, 1) := by decide +kernel
theorem dX11_swapped_24 : decode cX11_swapped 24 = .ok (.iload_n 2, 1) := by decide +kernel
theorem dX11_swapped_25 : decode cX11_swapped 25 = .ok (.ishl, 1) := by decide +kernel
theorem dX11_swapped_26 : decode cX11_swapped 26 = .ok (.goto 4, 3) := by decide +kernel
theorem dX11_swapped_29 : decode cX11_swapped 29 = .ok (.iconst 0, 1) := by decide +kernel
theorem dX11_swapped_30 : decode cX11_swapped 30 = .ok (.ior, 1) := by decide +kernel
theorem dX11_swapped_31 : decode cX11_swapped 31 = .ok (.iload_n 0, 1) := by decide +kernel
theorem dX11_swapped_32 : decode cX11_swapped 32 = .ok (.iload_n 2, 1) := by decide +kernel
theorem dX11_swapped_33 : decode cX11_swapped 33 = .ok (.invokestatic 49, 3) := by decide +kernel
theorem dX11_swapped_36 : decode cX11_swapped 36 = .ok (.ifCond .eq 9, 3) := by decide +kernel
theorem dX11_swapped_39 : decode cX11_swapped 39 = .ok (.iconst 1, 1) := by decide +kernel
theorem dX11_swapped_40 : decode cX11_swapped 40 = .ok (.iload_n 1, 1) := by decide +kernel
theorem dX11_swapped_41 : decode cX11_swapped 41 = .ok (.ishl, 1) := by decide +kernel
theorem dX11_swapped_42 : decode cX11_swapped 42 = .ok (.goto 4, 3) := by decide +kernel
theorem dX11_swapped_45 : decode cX11_swapped 45 = .ok (.iconst 0, 1) := by decide +kernel
theorem dX11_swapped_46 : decode cX11_swapped 46 = .ok (.ior, 1) := by decide +kernel
theorem dX11_swapped_47 : decode cX11_swapped 47 = .ok (.ireturn, 1) := by decide +kernel
theorem dX11_exchange_0 : decode cX11_exchange 0 = .ok (.aload_n 0, 1) := by decide +kernel
theorem dX11_exchange_1 : decode cX11_exchange 1 = .ok (.iload_n 1, 1) := by decide +kernel
theorem dX11_exchange_2 : decode cX11_exchange 2 = .ok (.invokevirtual 57, 3) := by decide +kernel
theorem dX11_exchange_5 : decode cX11_exchange 5 = .ok (.ifCond .eq 11, 3) := by decide +kernel
theorem dX11_exchange_8 : decode cX11_exchange 8 = .ok (.aload_n 0, 1) := by decide +kernel
theorem dX11_exchange_9 : decode cX11_exchange 9 = .ok (.iload_n 2, 1) := by decide +kernel
theorem dX11_exchange_10 : decode cX11_exchange 10 = .ok (.invokevirtual 57, 3) := by decide +kernel
theorem dX11_exchange_13 : decode cX11_exchange 13 = .ok (.ifCond .ne 5, 3) := by decide +kernel
theorem dX11_exchange_16 : decode cX11_exchange 16 = .ok (.iconst (-1), 1) := by decide +kernel
theorem dX11_exchange_17 : decode cX11_exchange 17 = .ok (.ireturn, 1) := by decide +kernel
theorem dX11_exchange_18 : decode cX11_exchange 18 = .ok (.aload_n 0, 1) := by decide +kernel
theorem dX11_exchange_19 : decode cX11_exchange 19 = .ok (.invokevirtual 76, 3) := by decide +kernel
theorem dX11_exchange_22 : decode cX11_exchange 22 = .ok (.aload_n 0, 1) := by decide +kernel
theorem dX11_exchange_23 : decode cX11_exchange 23 = .ok (.getfield 7, 3) := by decide +kernel
theorem dX11_exchange_26 : decode cX11_exchange 26 = .ok (.iconst 1, 1) := by decide +kernel
theorem dX11_exchange_27 : decode cX11_exchange 27 = .ok (.iload_n 1, 1) := by decide +kernel
theorem dX11_exchange_28 : decode cX11_exchange 28 = .ok (.iadd, 1) := by decide +kernel
theorem dX11_exchange_29 : decode cX11_exchange 29 = .ok (.iaload, 1) := by decide +kernel
theorem dX11_exchange_30 : decode cX11_exchange 30 = .ok (.istore_n 3, 1) := by decide +kernel
theorem dX11_exchange_31 : decode cX11_exchange 31 = .ok (.aload_n 0, 1) := by decide +kernel
theorem dX11_exchange_32 : decode cX11_exchange 32 = .ok (.getfield 7, 3) := by decide +kernel
theorem dX11_exchange_35 : decode cX11_exchange 35 = .ok (.iconst 1, 1) := by decide +kernel
theorem dX11_exchange_36 : decode cX11_exchange 36 = .ok (.iload_n 1, 1) := by decide +kernel
theorem dX11_exchange_37 : decode cX11_exchange 37 = .ok (.iadd, 1) := by decide +kernel
theorem dX11_exchange_38 : decode cX11_exchange 38 = .ok (.aload_n 0, 1) := by decide +kernel
theorem dX11_exchange_39 : decode cX11_exchange 39 = .ok (.getfield 7, 3) := by decide +kernel
theorem dX11_exchange_42 : decode cX11_exchange 42 = .ok (.iconst 1, 1) := by decide +kernel
theorem dX11_exchange_43 : decode cX11_exchange 43 = .ok (.iload_n 2, 1) := by decide +kernel
theorem dX11_exchange_44 : decode cX11_exchange 44 = .ok (.iadd, 1) := by decide +kernel
theorem dX11_exchange_45 : decode cX11_exchange 45 = .ok (.iaload, 1) := by decide +kernel
theorem dX11_exchange_46 : decode cX11_exchange 46 = .ok (.iastore, 1) := by decide +kernel
theorem dX11_exchange_47 : decode cX11_exchange 47 = .ok (.aload_n 0, 1) := by decide +kernel
theorem dX11_exchange_48 : decode cX11_exchange 48 = .ok (.getfield 7, 3) := by decide +kernel
theorem dX11_exchange_51 : decode cX11_exchange 51 = .ok (.iconst 1, 1) := by decide +kernel
theorem dX11_exchange_52 : decode cX11_exchange 52 = .ok (.iload_n 2, 1) := by decide +kernel
theorem dX11_exchange_53 : decode cX11_exchange 53 = .ok (.iadd, 1) := by decide +kernel
theorem dX11_exchange_54 : decode cX11_exchange 54 = .ok (.iload_n 3, 1) := by decide +kernel
theorem dX11_exchange_55 : decode cX11_exchange 55 = .ok (.iastore, 1) := by decide +kernel
theorem dX11_exchange_56 : decode cX11_exchange 56 = .ok (.iconst 0, 1) := by decide +kernel
theorem dX11_exchange_57 : decode cX11_exchange 57 = .ok (.istore 4, 2) := by decide +kernel
theorem dX11_exchange_59 : decode cX11_exchange 59 = .ok (.iload 4, 2) := by decide +kernel
theorem dX11_exchange_61 : decode cX11_exchange 61 = .ok (.aload_n 0, 1) := by decide +kernel
theorem dX11_exchange_62 : decode cX11_exchange 62 = .ok (.invokevirtual 92, 3) := by decide +kernel
theorem dX11_exchange_65 : decode cX11_exchange 65 = .ok (.if_icmp .ge 32, 3) := by decide +kernel
theorem dX11_exchange_68 : decode cX11_exchange 68 = .ok (.aload_n 0, 1) := by decide +kernel
theorem dX11_exchange_69 : decode cX11_exchange 69 = .ok (.getfield 7, 3) := by decide +kernel
theorem dX11_exchange_72 : decode cX11_exchange 72 = .ok (.iconst 1, 1) := by decide +kernel
theorem dX11_exchange_73 : decode cX11_exchange 73 = .ok (.iload 4, 2) := by decide +kernel
theorem dX11_exchange_75 : decode cX11_exchange 75 = .ok (.iadd, 1) := by decide +kernel
theorem dX11_exchange_76 : decode cX11_exchange 76 = .ok (.aload_n 0, 1) := by decide +kernel
theorem dX11_exchange_77 : decode cX11_exchange 77 = .ok (.getfield 7, 3) := by decide +kernel
theorem dX11_exchange_80 : decode cX11_exchange 80 = .ok (.iconst 1, 1) := by decide +kernel
theorem dX11_exchange_81 : decode cX11_exchange 81 = .ok (.iload 4, 2) := by decide +kernel
theorem dX11_exchange_83 : decode cX11_exchange 83 = .ok (.iadd, 1) := by decide +kernel
theorem dX11_exchange_84 : decode cX11_exchange 84 = .ok (.iaload, 1) := by decide +kernel
theorem dX11_exchange_85 : decode cX11_exchange 85 = .ok (.iload_n 1, 1) := by decide +kernel
theorem dX11_exchange_86 : decode cX11_exchange 86 = .ok (.iload_n 2, 1) := by decide +kernel
theorem dX11_exchange_87 : decode cX11_exchange 87 = .ok (.invokestatic 101, 3) := by decide +kernel
theorem dX11_exchange_90 : decode cX11_exchange 90 = .ok (.iastore, 1) := by decide +kernel
theorem dX11_exchange_91 : decode cX11_exchange 91 = .ok (.iinc 4 1, 3) := by decide +kernel
theorem dX11_exchange_94 : decode cX11_exchange 94 = .ok (.goto (-35), 3) := by decide +kernel
theorem dX11_exchange_97 : decode cX11_exchange 97 = .ok (.iconst 0, 1) := by decide +kernel
theorem dX11_exchange_98 : decode cX11_exchange 98 = .ok (.istore 4, 2) := by decide +kernel
theorem dX11_exchange_100 : decode cX11_exchange 100 = .ok (.iload 4, 2) := by decide +kernel
theorem dX11_exchange_102 : decode cX11_exchange 102 = .ok (.aload_n 0, 1) := by decide +kernel
theorem dX11_exchange_103 : decode cX11_exchange 103 = .ok (.invokevirtual 92, 3) := by decide +kernel
theorem dX11_exchange_106 : decode cX11_exchange 106 = .ok (.if_icmp .ge 104, 3) := by decide +kernel
theorem dX11_exchange_109 : decode cX11_exchange 109 = .ok (.iload 4, 2) := by decide +kernel
theorem dX11_exchange_111 : decode cX11_exchange 111 = .ok (.iload_n 1, 1) := by decide +kernel
theorem dX11_exchange_112 : decode cX11_exchange 112 = .ok (.if_icmp .eq 92, 3) := by decide +kernel
theorem dX11_exchange_115 : decode cX11_exchange 115 = .ok (.iload 4, 2) := by decide +kernel
theorem dX11_exchange_117 : decode cX11_exchange 117 = .ok (.iload_n 2, 1) := by decide +kernel
theorem dX11_exchange_118 : decode cX11_exchange 118 = .ok (.if_icmp .eq 86, 3) := by decide +kernel
theorem dX11_exchange_121 : decode cX11_exchange 121 = .ok (.aload_n 0, 1) := by decide +kernel
theorem dX11_exchange_122 : decode cX11_exchange 122 = .ok (.getfield 7, 3) := by decide +kernel
theorem dX11_exchange_125 : decode cX11_exchange 125 = .ok (.iload_n 1, 1) := by decide +kernel
theorem dX11_exchange_126 : decode cX11_exchange 126 = .ok (.iload 4, 2) := by decide +kernel
theorem dX11_exchange_128 : decode cX11_exchange 128 = .ok (.invokestatic 61, 3) := by decide +kernel
theorem dX11_exchange_131 : decode cX11_exchange 131 = .ok (.iaload, 1) := by decide +kernel
theorem dX11_exchange_132 : decode cX11_exchange 132 = .ok (.istore 5, 2) := by decide +kernel
theorem dX11_exchange_134 : decode cX11_exchange 134 = .ok (.aload_n 0, 1) := by decide +kernel
theorem dX11_exchange_135 : decode cX11_exchange 135 = .ok (.getfield 7, 3) := by decide +kernel
theorem dX11_exchange_138 : decode cX11_exchange 138 = .ok (.iload_n 1, 1) := by decide +kernel
theorem dX11_exchange_139 : decode cX11_exchange 139 = .ok (.iload 4, 2) := by decide +kernel
theorem dX11_exchange_141 : decode cX11_exchange 141 = .ok (.invokestatic 61, 3) := by decide +kernel
theorem dX11_exchange_144 : decode cX11_exchange 144 = .ok (.aload_n 0, 1) := by decide +kernel
theorem dX11_exchange_145 : decode cX11_exchange 145 = .ok (.getfield 7, 3) := by decide +kernel
theorem dX11_exchange_148 : decode cX11_exchange 148 = .ok (.iload_n 2, 1) := by decide +kernel
theorem dX11_exchange_149 : decode cX11_exchange 149 = .ok (.iload 4, 2) := by decide +kernel
theorem dX11_exchange_151 : decode cX11_exchange 151 = .ok (.invokestatic 61, 3) := by decide +kernel
theorem dX11_exchange_154 : decode cX11_exchange 154 = .ok (.iaload, 1) := by decide +kernel
theorem dX11_exchange_155 : decode cX11_exchange 155 = .ok (.iastore, 1) := by decide +kernel
theorem dX11_exchange_156 : decode cX11_exchange 156 = .ok (.aload_n 0, 1) := by decide +kernel
theorem dX11_exchange_157 : decode cX11_exchange 157 = .ok (.getfield 7, 3) := by decide +kernel
theorem dX11_exchange_160 : decode cX11_exchange 160 = .ok (.iload 4, 2) := by decide +kernel
theorem dX11_exchange_162 : decode cX11_exchange 162 = .ok (.iload_n 1, 1) := by decide +kernel
theorem dX11_exchange_163 : decode cX11_exchange 163 = .ok (.invokestatic 61, 3) := by decide +kernel
theorem dX11_exchange_166 : decode cX11_exchange 166 = .ok (.aload_n 0, 1) := by decide +kernel
theorem dX11_exchange_167 : decode cX11_exchange 167 = .ok (.getfield 7, 3) := by decide +kernel
theorem dX11_exchange_170 : decode cX11_exchange 170 = .ok (.iload_n 2, 1) := by decide +kernel
theorem dX11_exchange_171 : decode cX11_exchange 171 = .ok (.iload 4, 2) := by decide +kernel
theorem dX11_exchange_173 : decode cX11_exchange 173 = .ok (.invokestatic 61, 3) := by decide +kernel
theorem dX11_exchange_176 : decode cX11_exchange 176 = .ok (.iaload, 1) := by decide +kernel
theorem dX11_exchange_177 : decode cX11_exchange 177 = .ok (.iastore, 1) := by decide +kernel
theorem dX11_exchange_178 : decode cX11_exchange 178 = .ok (.aload_n 0, 1) := by decide +kernel
theorem dX11_exchange_179 : decode cX11_exchange 179 = .ok (.getfield 7, 3) := by decide +kernel
theorem dX11_exchange_182 : decode cX11_exchange 182 = .ok (.iload_n 2, 1) := by decide +kernel
theorem dX11_exchange_183 : decode cX11_exchange 183 = .ok (.iload 4, 2) := by decide +kernel
theorem dX11_exchange_185 : decode cX11_exchange 185 = .ok (.invokestatic 61, 3) := by decide +kernel
theorem dX11_exchange_188 : decode cX11_exchange 188 = .ok (.iload 5, 2) := by decide +kernel
theorem dX11_exchange_190 : decode cX11_exchange 190 = .ok (.iastore, 1) := by decide +kernel
theorem dX11_exchange_191 : decode cX11_exchange 191 = .ok (.aload_n 0, 1) := by decide +kernel
theorem dX11_exchange_192 : decode cX11_exchange 192 = .ok (.getfield 7, 3) := by decide +kernel
theorem dX11_exchange_195 : decode cX11_exchange 195 = .ok (.iload 4, 2) := by decide +kernel
theorem dX11_exchange_197 : decode cX11_exchange 197 = .ok (.iload_n 2, 1) := by decide +kernel
theorem dX11_exchange_198 : decode cX11_exchange 198 = .ok (.invokestatic 61, 3) := by decide +kernel
theorem dX11_exchange_201 : decode cX11_exchange 201 = .ok (.iload 5, 2) := by decide +kernel
theorem dX11_exchange_203 : decode cX11_exchange 203 = .ok (.iastore, 1) := by decide +kernel
theorem dX11_exchange_204 : decode cX11_exchange 204 = .ok (.iinc 4 1, 3) := by decide +kernel
theorem dX11_exchange_207 : decode cX11_exchange 207 = .ok (.goto (-107), 3) := by decide +kernel
theorem dX11_exchange_210 : decode cX11_exchange 210 = .ok (.aload_n 0, 1) := by decide +kernel
theorem dX11_exchange_211 : decode cX11_exchange 211 = .ok (.iload_n 1, 1) := by decide +kernel
theorem dX11_exchange_212 : decode cX11_exchange 212 = .ok (.invokevirtual 45, 3) := by decide +kernel
theorem dX11_exchange_215 : decode cX11_exchange 215 = .ok (.invokestatic 98, 3) := by decide +kernel
theorem dX11_exchange_218 : decode cX11_exchange 218 = .ok (.ireturn, 1) := by decide +kernel
theorem dX11_fails_0 : decode cX11_fails 0 = .ok (.iconst 0, 1) := by decide +kernel
theorem dX11_fails_1 : decode cX11_fails 1 = .ok (.istore_n 1, 1) := by decide +kernel
theorem dX11_fails_2 : decode cX11_fails 2 = .ok (.iconst 0, 1) := by decide +kernel
theorem dX11_fails_3 : decode cX11_fails 3 = .ok (.istore_n 2, 1) := by decide +kernel
theorem dX11_fails_4 : decode cX11_fails 4 = .ok (.iconst 1, 1) := by decide +kernel
theorem dX11_fails_5 : decode cX11_fails 5 = .ok (.istore_n 3, 1) := by decide +kernel
theorem dX11_fails_6 : decode cX11_fails 6 = .ok (.iload_n 3, 1) := by decide +kernel
theorem dX11_fails_7 : decode cX11_fails 7 = .ok (.aload_n 0, 1) := by decide +kernel
theorem dX11_fails_8 : decode cX11_fails 8 = .ok (.getfield 105, 3) := by decide +kernel
theorem dX11_fails_11 : decode cX11_fails 11 = .ok (.if_icmp .gt 130, 3) := by decide +kernel
theorem dX11_fails_14 : decode cX11_fails 14 = .ok (.iconst (-1), 1) := by decide +kernel
theorem dX11_fails_15 : decode cX11_fails 15 = .ok (.istore 4, 2) := by decide +kernel
theorem dX11_fails_17 : decode cX11_fails 17 = .ok (.iconst 0, 1) := by decide +kernel
theorem dX11_fails_18 : decode cX11_fails 18 = .ok (.istore 5, 2) := by decide +kernel
theorem dX11_fails_20 : decode cX11_fails 20 = .ok (.iload 5, 2) := by decide +kernel
theorem dX11_fails_22 : decode cX11_fails 22 = .ok (.aload_n 0, 1) := by decide +kernel
theorem dX11_fails_23 : decode cX11_fails 23 = .ok (.getfield 105, 3) := by decide +kernel
theorem dX11_fails_26 : decode cX11_fails 26 = .ok (.if_icmp .ge 61, 3) := by decide +kernel
theorem dX11_fails_29 : decode cX11_fails 29 = .ok (.iload_n 2, 1) := by decide +kernel
theorem dX11_fails_30 : decode cX11_fails 30 = .ok (.iload 5, 2) := by decide +kernel
theorem dX11_fails_32 : decode cX11_fails 32 = .ok (.invokestatic 49, 3) := by decide +kernel
theorem dX11_fails_35 : decode cX11_fails 35 = .ok (.ifCond .ne 29, 3) := by decide +kernel
theorem dX11_fails_38 : decode cX11_fails 38 = .ok (.iload 4, 2) := by decide +kernel
theorem dX11_fails_40 : decode cX11_fails 40 = .ok (.ifCond .lt 20, 3) := by decide +kernel
theorem dX11_fails_43 : decode cX11_fails 43 = .ok (.aload_n 0, 1) := by decide +kernel
theorem dX11_fails_44 : decode cX11_fails 44 = .ok (.getfield 19, 3) := by decide +kernel
theorem dX11_fails_47 : decode cX11_fails 47 = .ok (.iload 5, 2) := by decide +kernel
theorem dX11_fails_49 : decode cX11_fails 49 = .ok (.iaload, 1) := by decide +kernel
theorem dX11_fails_50 : decode cX11_fails 50 = .ok (.aload_n 0, 1) := by decide +kernel
theorem dX11_fails_51 : decode cX11_fails 51 = .ok (.getfield 19, 3) := by decide +kernel
theorem dX11_fails_54 : decode cX11_fails 54 = .ok (.iload 4, 2) := by decide +kernel
theorem dX11_fails_56 : decode cX11_fails 56 = .ok (.iaload, 1) := by decide +kernel
theorem dX11_fails_57 : decode cX11_fails 57 = .ok (.if_icmp .ge 7, 3) := by decide +kernel
theorem dX11_fails_60 : decode cX11_fails 60 = .ok (.iconst 1, 1) := by decide +kernel
theorem dX11_fails_61 : decode cX11_fails 61 = .ok (.goto 4, 3) := by decide +kernel
theorem dX11_fails_64 : decode cX11_fails 64 = .ok (.iconst 0, 1) := by decide +kernel
theorem dX11_fails_65 : decode cX11_fails 65 = .ok (.istore 6, 2) := by decide +kernel
theorem dX11_fails_67 : decode cX11_fails 67 = .ok (.iload 6, 2) := by decide +kernel
theorem dX11_fails_69 : decode cX11_fails 69 = .ok (.ifCond .eq 8, 3) := by decide +kernel
theorem dX11_fails_72 : decode cX11_fails 72 = .ok (.iload 5, 2) := by decide +kernel
theorem dX11_fails_74 : decode cX11_fails 74 = .ok (.goto 5, 3) := by decide +kernel
theorem dX11_fails_77 : decode cX11_fails 77 = .ok (.iload 4, 2) := by decide +kernel
theorem dX11_fails_79 : decode cX11_fails 79 = .ok (.istore 4, 2) := by decide +kernel
theorem dX11_fails_81 : decode cX11_fails 81 = .ok (.iinc 5 1, 3) := by decide +kernel
theorem dX11_fails_84 : decode cX11_fails 84 = .ok (.goto (-64), 3) := by decide +kernel
theorem dX11_fails_87 : decode cX11_fails 87 = .ok (.iload_n 2, 1) := by decide +kernel
theorem dX11_fails_88 : decode cX11_fails 88 = .ok (.iconst 1, 1) := by decide +kernel
theorem dX11_fails_89 : decode cX11_fails 89 = .ok (.iload 4, 2) := by decide +kernel
theorem dX11_fails_91 : decode cX11_fails 91 = .ok (.ishl, 1) := by decide +kernel
theorem dX11_fails_92 : decode cX11_fails 92 = .ok (.ior, 1) := by decide +kernel
theorem dX11_fails_93 : decode cX11_fails 93 = .ok (.istore_n 2, 1) := by decide +kernel
theorem dX11_fails_94 : decode cX11_fails 94 = .ok (.iload_n 1, 1) := by decide +kernel
theorem dX11_fails_95 : decode cX11_fails 95 = .ok (.aload_n 0, 1) := by decide +kernel
theorem dX11_fails_96 : decode cX11_fails 96 = .ok (.getfield 19, 3) := by decide +kernel
theorem dX11_fails_99 : decode cX11_fails 99 = .ok (.iload 4, 2) := by decide +kernel
theorem dX11_fails_101 : decode cX11_fails 101 = .ok (.iaload, 1) := by decide +kernel
theorem dX11_fails_102 : decode cX11_fails 102 = .ok (.iadd, 1) := by decide +kernel
theorem dX11_fails_103 : decode cX11_fails 103 = .ok (.istore_n 1, 1) := by decide +kernel
theorem dX11_fails_104 : decode cX11_fails 104 = .ok (.iload_n 3, 1) := by decide +kernel
theorem dX11_fails_105 : decode cX11_fails 105 = .ok (.iload_n 3, 1) := by decide +kernel
theorem dX11_fails_106 : decode cX11_fails 106 = .ok (.iconst 1, 1) := by decide +kernel
theorem dX11_fails_107 : decode cX11_fails 107 = .ok (.isub, 1) := by decide +kernel
theorem dX11_fails_108 : decode cX11_fails 108 = .ok (.imul, 1) := by decide +kernel
theorem dX11_fails_109 : decode cX11_fails 109 = .ok (.iconst 2, 1) := by decide +kernel
theorem dX11_fails_110 : decode cX11_fails 110 = .ok (.idiv, 1) := by decide +kernel
theorem dX11_fails_111 : decode cX11_fails 111 = .ok (.istore 5, 2) := by decide +kernel
theorem dX11_fails_113 : decode cX11_fails 113 = .ok (.iload_n 1, 1) := by decide +kernel
theorem dX11_fails_114 : decode cX11_fails 114 = .ok (.iload 5, 2) := by decide +kernel
theorem dX11_fails_116 : decode cX11_fails 116 = .ok (.if_icmp .lt 17, 3) := by decide +kernel
theorem dX11_fails_119 : decode cX11_fails 119 = .ok (.iload_n 3, 1) := by decide +kernel
theorem dX11_fails_120 : decode cX11_fails 120 = .ok (.aload_n 0, 1) := by decide +kernel
theorem dX11_fails_121 : decode cX11_fails 121 = .ok (.getfield 105, 3) := by decide +kernel
theorem dX11_fails_124 : decode cX11_fails 124 = .ok (.if_icmp .ne 11, 3) := by decide +kernel
theorem dX11_fails_127 : decode cX11_fails 127 = .ok (.iload_n 1, 1) := by decide +kernel
theorem dX11_fails_128 : decode cX11_fails 128 = .ok (.iload 5, 2) := by decide +kernel
theorem dX11_fails_130 : decode cX11_fails 130 = .ok (.if_icmp .le 5, 3) := by decide +kernel
theorem dX11_fails_133 : decode cX11_fails 133 = .ok (.iload_n 3, 1) := by decide +kernel
theorem dX11_fails_134 : decode cX11_fails 134 = .ok (.ireturn, 1) := by decide +kernel
theorem dX11_fails_135 : decode cX11_fails 135 = .ok (.iinc 3 1, 3) := by decide +kernel
theorem dX11_fails_138 : decode cX11_fails 138 = .ok (.goto (-132), 3) := by decide +kernel
theorem dX11_fails_141 : decode cX11_fails 141 = .ok (.iconst 0, 1) := by decide +kernel
theorem dX11_fails_142 : decode cX11_fails 142 = .ok (.ireturn, 1) := by decide +kernel
theorem dX11_construct_0 : decode cX11_construct 0 = .ok (.aload_n 0, 1) := by decide +kernel
theorem dX11_construct_1 : decode cX11_construct 1 = .ok (.getfield 105, 3) := by decide +kernel
theorem dX11_construct_4 : decode cX11_construct 4 = .ok (.iconst 2, 1) := by decide +kernel
theorem dX11_construct_5 : decode cX11_construct 5 = .ok (.if_icmp .lt 10, 3) := by decide +kernel
theorem dX11_construct_8 : decode cX11_construct 8 = .ok (.aload_n 0, 1) := by decide +kernel
theorem dX11_construct_9 : decode cX11_construct 9 = .ok (.invokevirtual 108, 3) := by decide +kernel
theorem dX11_construct_12 : decode cX11_construct 12 = .ok (.ifCond .eq 6, 3) := by decide +kernel
theorem dX11_construct_15 : decode cX11_construct 15 = .ok (.bipush (-2), 2) := by decide +kernel
theorem dX11_construct_17 : decode cX11_construct 17 = .ok (.ireturn, 1) := by decide +kernel
theorem dX11_construct_18 : decode cX11_construct 18 = .ok (.aload_n 0, 1) := by decide +kernel
theorem dX11_construct_19 : decode cX11_construct 19 = .ok (.invokevirtual 76, 3) := by decide +kernel
theorem dX11_construct_22 : decode cX11_construct 22 = .ok (.aload_n 0, 1) := by decide +kernel
theorem dX11_construct_23 : decode cX11_construct 23 = .ok (.aload_n 0, 1) := by decide +kernel
theorem dX11_construct_24 : decode cX11_construct 24 = .ok (.getfield 105, 3) := by decide +kernel
theorem dX11_construct_27 : decode cX11_construct 27 = .ok (.invokevirtual 37, 3) := by decide +kernel
theorem dX11_construct_30 : decode cX11_construct 30 = .ok (.aload_n 0, 1) := by decide +kernel
theorem dX11_construct_31 : decode cX11_construct 31 = .ok (.invokevirtual 111, 3) := by decide +kernel
theorem dX11_construct_34 : decode cX11_construct 34 = .ok (.istore_n 1, 1) := by decide +kernel
theorem dX11_construct_35 : decode cX11_construct 35 = .ok (.iconst 0, 1) := by decide +kernel
theorem dX11_construct_36 : decode cX11_construct 36 = .ok (.istore_n 2, 1) := by decide +kernel
theorem dX11_construct_37 : decode cX11_construct 37 = .ok (.iload_n 2, 1) := by decide +kernel
theorem dX11_construct_38 : decode cX11_construct 38 = .ok (.aload_n 0, 1) := by decide +kernel
theorem dX11_construct_39 : decode cX11_construct 39 = .ok (.getfield 105, 3) := by decide +kernel
theorem dX11_construct_42 : decode cX11_construct 42 = .ok (.if_icmp .ge 21, 3) := by decide +kernel
theorem dX11_construct_45 : decode cX11_construct 45 = .ok (.aload_n 0, 1) := by decide +kernel
theorem dX11_construct_46 : decode cX11_construct 46 = .ok (.getfield 34, 3) := by decide +kernel
theorem dX11_construct_49 : decode cX11_construct 49 = .ok (.iload_n 2, 1) := by decide +kernel
theorem dX11_construct_50 : decode cX11_construct 50 = .ok (.aload_n 0, 1) := by decide +kernel
theorem dX11_construct_51 : decode cX11_construct 51 = .ok (.getfield 19, 3) := by decide +kernel
theorem dX11_construct_54 : decode cX11_construct 54 = .ok (.iload_n 2, 1) := by decide +kernel
theorem dX11_construct_55 : decode cX11_construct 55 = .ok (.iaload, 1) := by decide +kernel
theorem dX11_construct_56 : decode cX11_construct 56 = .ok (.iastore, 1) := by decide +kernel
theorem dX11_construct_57 : decode cX11_construct 57 = .ok (.iinc 2 1, 3) := by decide +kernel
theorem dX11_construct_60 : decode cX11_construct 60 = .ok (.goto (-23), 3) := by decide +kernel
theorem dX11_construct_63 : decode cX11_construct 63 = .ok (.iload_n 1, 1) := by decide +kernel
theorem dX11_construct_64 : decode cX11_construct 64 = .ok (.ifCond .eq 209, 3) := by decide +kernel
theorem dX11_construct_67 : decode cX11_construct 67 = .ok (.iconst (-1), 1) := by decide +kernel
theorem dX11_construct_68 : decode cX11_construct 68 = .ok (.istore_n 2, 1) := by decide +kernel
theorem dX11_construct_69 : decode cX11_construct 69 = .ok (.iconst 0, 1) := by decide +kernel
theorem dX11_construct_70 : decode cX11_construct 70 = .ok (.istore_n 3, 1) := by decide +kernel
theorem dX11_construct_71 : decode cX11_construct 71 = .ok (.iload_n 3, 1) := by decide +kernel
theorem dX11_construct_72 : decode cX11_construct 72 = .ok (.aload_n 0, 1) := by decide +kernel
theorem dX11_construct_73 : decode cX11_construct 73 = .ok (.getfield 105, 3) := by decide +kernel
theorem dX11_construct_76 : decode cX11_construct 76 = .ok (.if_icmp .ge 42, 3) := by decide +kernel
theorem dX11_construct_79 : decode cX11_construct 79 = .ok (.iload_n 1, 1) := by decide +kernel
theorem dX11_construct_80 : decode cX11_construct 80 = .ok (.iload_n 3, 1) := by decide +kernel
theorem dX11_construct_81 : decode cX11_construct 81 = .ok (.invokestatic 49, 3) := by decide +kernel
theorem dX11_construct_84 : decode cX11_construct 84 = .ok (.ifCond .eq 26, 3) := by decide +kernel
theorem dX11_construct_87 : decode cX11_construct 87 = .ok (.iload_n 2, 1) := by decide +kernel
theorem dX11_construct_88 : decode cX11_construct 88 = .ok (.ifCond .lt 18, 3) := by decide +kernel
theorem dX11_construct_91 : decode cX11_construct 91 = .ok (.aload_n 0, 1) := by decide +kernel
theorem dX11_construct_92 : decode cX11_construct 92 = .ok (.getfield 34, 3) := by decide +kernel
theorem dX11_construct_95 : decode cX11_construct 95 = .ok (.iload_n 3, 1) := by decide +kernel
theorem dX11_construct_96 : decode cX11_construct 96 = .ok (.iaload, 1) := by decide +kernel
theorem dX11_construct_97 : decode cX11_construct 97 = .ok (.aload_n 0, 1) := by decide +kernel
theorem dX11_construct_98 : decode cX11_construct 98 = .ok (.getfield 34, 3) := by decide +kernel
theorem dX11_construct_101 : decode cX11_construct 101 = .ok (.iload_n 2, 1) := by decide +kernel
theorem dX11_construct_102 : decode cX11_construct 102 = .ok (.iaload, 1) := by decide +kernel
theorem dX11_construct_103 : decode cX11_construct 103 = .ok (.if_icmp .lt 7, 3) := by decide +kernel
theorem dX11_construct_106 : decode cX11_construct 106 = .ok (.iload_n 3, 1) := by decide +kernel
theorem dX11_construct_107 : decode cX11_construct 107 = .ok (.goto 4, 3) := by decide +kernel
theorem dX11_construct_110 : decode cX11_construct 110 = .ok (.iload_n 2, 1) := by decide +kernel
theorem dX11_construct_111 : decode cX11_construct 111 = .ok (.istore_n 2, 1) := by decide +kernel
theorem dX11_construct_112 : decode cX11_construct 112 = .ok (.iinc 3 1, 3) := by decide +kernel
theorem dX11_construct_115 : decode cX11_construct 115 = .ok (.goto (-44), 3) := by decide +kernel
theorem dX11_construct_118 : decode cX11_construct 118 = .ok (.iload_n 1, 1) := by decide +kernel
theorem dX11_construct_119 : decode cX11_construct 119 = .ok (.iconst 1, 1) := by decide +kernel
theorem dX11_construct_120 : decode cX11_construct 120 = .ok (.iload_n 2, 1) := by decide +kernel
theorem dX11_construct_121 : decode cX11_construct 121 = .ok (.ishl, 1) := by decide +kernel
theorem dX11_construct_122 : decode cX11_construct 122 = .ok (.iconst (-1), 1) := by decide +kernel
theorem dX11_construct_123 : decode cX11_construct 123 = .ok (.ixor, 1) := by decide +kernel
theorem dX11_construct_124 : decode cX11_construct 124 = .ok (.iand, 1) := by decide +kernel
theorem dX11_construct_125 : decode cX11_construct 125 = .ok (.istore_n 1, 1) := by decide +kernel
theorem dX11_construct_126 : decode cX11_construct 126 = .ok (.iload_n 1, 1) := by decide +kernel
theorem dX11_construct_127 : decode cX11_construct 127 = .ok (.istore_n 3, 1) := by decide +kernel
theorem dX11_construct_128 : decode cX11_construct 128 = .ok (.iconst 0, 1) := by decide +kernel
theorem dX11_construct_129 : decode cX11_construct 129 = .ok (.istore 4, 2) := by decide +kernel
theorem dX11_construct_131 : decode cX11_construct 131 = .ok (.iload 4, 2) := by decide +kernel
theorem dX11_construct_133 : decode cX11_construct 133 = .ok (.aload_n 0, 1) := by decide +kernel
theorem dX11_construct_134 : decode cX11_construct 134 = .ok (.getfield 34, 3) := by decide +kernel
theorem dX11_construct_137 : decode cX11_construct 137 = .ok (.iload_n 2, 1) := by decide +kernel
theorem dX11_construct_138 : decode cX11_construct 138 = .ok (.iaload, 1) := by decide +kernel
theorem dX11_construct_139 : decode cX11_construct 139 = .ok (.if_icmp .ge 86, 3) := by decide +kernel
theorem dX11_construct_142 : decode cX11_construct 142 = .ok (.iconst (-1), 1) := by decide +kernel
theorem dX11_construct_143 : decode cX11_construct 143 = .ok (.istore 5, 2) := by decide +kernel
theorem dX11_construct_145 : decode cX11_construct 145 = .ok (.iconst 0, 1) := by decide +kernel
theorem dX11_construct_146 : decode cX11_construct 146 = .ok (.istore 6, 2) := by decide +kernel
theorem dX11_construct_148 : decode cX11_construct 148 = .ok (.iload 6, 2) := by decide +kernel
theorem dX11_construct_150 : decode cX11_construct 150 = .ok (.aload_n 0, 1) := by decide +kernel
theorem dX11_construct_151 : decode cX11_construct 151 = .ok (.getfield 105, 3) := by decide +kernel
theorem dX11_construct_154 : decode cX11_construct 154 = .ok (.if_icmp .ge 49, 3) := by decide +kernel
theorem dX11_construct_157 : decode cX11_construct 157 = .ok (.iload_n 3, 1) := by decide +kernel
theorem dX11_construct_158 : decode cX11_construct 158 = .ok (.iload 6, 2) := by decide +kernel
theorem dX11_construct_160 : decode cX11_construct 160 = .ok (.invokestatic 49, 3) := by decide +kernel
theorem dX11_construct_163 : decode cX11_construct 163 = .ok (.ifCond .eq 30, 3) := by decide +kernel
theorem dX11_construct_166 : decode cX11_construct 166 = .ok (.iload 5, 2) := by decide +kernel
theorem dX11_construct_168 : decode cX11_construct 168 = .ok (.ifCond .lt 20, 3) := by decide +kernel
theorem dX11_construct_171 : decode cX11_construct 171 = .ok (.aload_n 0, 1) := by decide +kernel
theorem dX11_construct_172 : decode cX11_construct 172 = .ok (.getfield 34, 3) := by decide +kernel
theorem dX11_construct_175 : decode cX11_construct 175 = .ok (.iload 6, 2) := by decide +kernel
theorem dX11_construct_177 : decode cX11_construct 177 = .ok (.iaload, 1) := by decide +kernel
theorem dX11_construct_178 : decode cX11_construct 178 = .ok (.aload_n 0, 1) := by decide +kernel
theorem dX11_construct_179 : decode cX11_construct 179 = .ok (.getfield 34, 3) := by decide +kernel
theorem dX11_construct_182 : decode cX11_construct 182 = .ok (.iload 5, 2) := by decide +kernel
theorem dX11_construct_184 : decode cX11_construct 184 = .ok (.iaload, 1) := by decide +kernel
theorem dX11_construct_185 : decode cX11_construct 185 = .ok (.if_icmp .ge 8, 3) := by decide +kernel
theorem dX11_construct_188 : decode cX11_construct 188 = .ok (.iload 6, 2) := by decide +kernel
theorem dX11_construct_190 : decode cX11_construct 190 = .ok (.goto 5, 3) := by decide +kernel
theorem dX11_construct_193 : decode cX11_construct 193 = .ok (.iload 5, 2) := by decide +kernel
theorem dX11_construct_195 : decode cX11_construct 195 = .ok (.istore 5, 2) := by decide +kernel
theorem dX11_construct_197 : decode cX11_construct 197 = .ok (.iinc 6 1, 3) := by decide +kernel
theorem dX11_construct_200 : decode cX11_construct 200 = .ok (.goto (-52), 3) := by decide +kernel
theorem dX11_construct_203 : decode cX11_construct 203 = .ok (.iload_n 3, 1) := by decide +kernel
theorem dX11_construct_204 : decode cX11_construct 204 = .ok (.iconst 1, 1) := by decide +kernel
theorem dX11_construct_205 : decode cX11_construct 205 = .ok (.iload 5, 2) := by decide +kernel
theorem dX11_construct_207 : decode cX11_construct 207 = .ok (.ishl, 1) := by decide +kernel
theorem dX11_construct_208 : decode cX11_construct 208 = .ok (.iconst (-1), 1) := by decide +kernel
theorem dX11_construct_209 : decode cX11_construct 209 = .ok (.ixor, 1) := by decide +kernel
theorem dX11_construct_210 : decode cX11_construct 210 = .ok (.iand, 1) := by decide +kernel
theorem dX11_construct_211 : decode cX11_construct 211 = .ok (.istore_n 3, 1) := by decide +kernel
theorem dX11_construct_212 : decode cX11_construct 212 = .ok (.aload_n 0, 1) := by decide +kernel
theorem dX11_construct_213 : decode cX11_construct 213 = .ok (.iload_n 2, 1) := by decide +kernel
theorem dX11_construct_214 : decode cX11_construct 214 = .ok (.iload 5, 2) := by decide +kernel
theorem dX11_construct_216 : decode cX11_construct 216 = .ok (.invokevirtual 72, 3) := by decide +kernel
theorem dX11_construct_219 : decode cX11_construct 219 = .ok (.iinc 4 1, 3) := by decide +kernel
theorem dX11_construct_222 : decode cX11_construct 222 = .ok (.goto (-91), 3) := by decide +kernel
theorem dX11_construct_225 : decode cX11_construct 225 = .ok (.iconst 0, 1) := by decide +kernel
theorem dX11_construct_226 : decode cX11_construct 226 = .ok (.istore 4, 2) := by decide +kernel
theorem dX11_construct_228 : decode cX11_construct 228 = .ok (.iload 4, 2) := by decide +kernel
theorem dX11_construct_230 : decode cX11_construct 230 = .ok (.aload_n 0, 1) := by decide +kernel
theorem dX11_construct_231 : decode cX11_construct 231 = .ok (.getfield 105, 3) := by decide +kernel
theorem dX11_construct_234 : decode cX11_construct 234 = .ok (.if_icmp .ge 36, 3) := by decide +kernel
theorem dX11_construct_237 : decode cX11_construct 237 = .ok (.iload_n 3, 1) := by decide +kernel
theorem dX11_construct_238 : decode cX11_construct 238 = .ok (.iload 4, 2) := by decide +kernel
theorem dX11_construct_240 : decode cX11_construct 240 = .ok (.invokestatic 49, 3) := by decide +kernel
theorem dX11_construct_243 : decode cX11_construct 243 = .ok (.ifCond .eq 21, 3) := by decide +kernel
theorem dX11_construct_246 : decode cX11_construct 246 = .ok (.aload_n 0, 1) := by decide +kernel
theorem dX11_construct_247 : decode cX11_construct 247 = .ok (.iload 4, 2) := by decide +kernel
theorem dX11_construct_249 : decode cX11_construct 249 = .ok (.iload_n 2, 1) := by decide +kernel
theorem dX11_construct_250 : decode cX11_construct 250 = .ok (.invokevirtual 72, 3) := by decide +kernel
theorem dX11_construct_253 : decode cX11_construct 253 = .ok (.aload_n 0, 1) := by decide +kernel
theorem dX11_construct_254 : decode cX11_construct 254 = .ok (.getfield 34, 3) := by decide +kernel
theorem dX11_construct_257 : decode cX11_construct 257 = .ok (.iload 4, 2) := by decide +kernel
theorem dX11_construct_259 : decode cX11_construct 259 = .ok (.dup2, 1) := by decide +kernel
theorem dX11_construct_260 : decode cX11_construct 260 = .ok (.iaload, 1) := by decide +kernel
theorem dX11_construct_261 : decode cX11_construct 261 = .ok (.iconst 1, 1) := by decide +kernel
theorem dX11_construct_262 : decode cX11_construct 262 = .ok (.isub, 1) := by decide +kernel
theorem dX11_construct_263 : decode cX11_construct 263 = .ok (.iastore, 1) := by decide +kernel
theorem dX11_construct_264 : decode cX11_construct 264 = .ok (.iinc 4 1, 3) := by decide +kernel
theorem dX11_construct_267 : decode cX11_construct 267 = .ok (.goto (-39), 3) := by decide +kernel
theorem dX11_construct_270 : decode cX11_construct 270 = .ok (.goto (-207), 3) := by decide +kernel
theorem dX11_construct_273 : decode cX11_construct 273 = .ok (.aload_n 0, 1) := by decide +kernel
theorem dX11_construct_274 : decode cX11_construct 274 = .ok (.getfield 105, 3) := by decide +kernel
theorem dX11_construct_277 : decode cX11_construct 277 = .ok (.ireturn, 1) := by decide +kernel
theorem dX11_faultOf_0 : decode cX11_faultOf 0 = .ok (.iconst 0, 1) := by decide +kernel
theorem dX11_faultOf_1 : decode cX11_faultOf 1 = .ok (.istore_n 1, 1) := by decide +kernel
theorem dX11_faultOf_2 : decode cX11_faultOf 2 = .ok (.iload_n 1, 1) := by decide +kernel
theorem dX11_faultOf_3 : decode cX11_faultOf 3 = .ok (.aload_n 0, 1) := by decide +kernel
theorem dX11_faultOf_4 : decode cX11_faultOf 4 = .ok (.getfield 114, 3) := by decide +kernel
theorem dX11_faultOf_7 : decode cX11_faultOf 7 = .ok (.if_icmp .ge 121, 3) := by decide +kernel
theorem dX11_faultOf_10 : decode cX11_faultOf 10 = .ok (.iload_n 1, 1) := by decide +kernel
theorem dX11_faultOf_11 : decode cX11_faultOf 11 = .ok (.iconst 4, 1) := by decide +kernel
theorem dX11_faultOf_12 : decode cX11_faultOf 12 = .ok (.iadd, 1) := by decide +kernel
theorem dX11_faultOf_13 : decode cX11_faultOf 13 = .ok (.aload_n 0, 1) := by decide +kernel
theorem dX11_faultOf_14 : decode cX11_faultOf 14 = .ok (.getfield 114, 3) := by decide +kernel
theorem dX11_faultOf_17 : decode cX11_faultOf 17 = .ok (.if_icmp .gt 97, 3) := by decide +kernel
theorem dX11_faultOf_20 : decode cX11_faultOf 20 = .ok (.aload_n 0, 1) := by decide +kernel
theorem dX11_faultOf_21 : decode cX11_faultOf 21 = .ok (.aload_n 0, 1) := by decide +kernel
theorem dX11_faultOf_22 : decode cX11_faultOf 22 = .ok (.getfield 22, 3) := by decide +kernel
theorem dX11_faultOf_25 : decode cX11_faultOf 25 = .ok (.iload_n 1, 1) := by decide +kernel
theorem dX11_faultOf_26 : decode cX11_faultOf 26 = .ok (.iaload, 1) := by decide +kernel
theorem dX11_faultOf_27 : decode cX11_faultOf 27 = .ok (.bipush 48, 2) := by decide +kernel
theorem dX11_faultOf_29 : decode cX11_faultOf 29 = .ok (.isub, 1) := by decide +kernel
theorem dX11_faultOf_30 : decode cX11_faultOf 30 = .ok (.invokevirtual 57, 3) := by decide +kernel
theorem dX11_faultOf_33 : decode cX11_faultOf 33 = .ok (.ifCond .eq 81, 3) := by decide +kernel
theorem dX11_faultOf_36 : decode cX11_faultOf 36 = .ok (.aload_n 0, 1) := by decide +kernel
theorem dX11_faultOf_37 : decode cX11_faultOf 37 = .ok (.getfield 22, 3) := by decide +kernel
theorem dX11_faultOf_40 : decode cX11_faultOf 40 = .ok (.iload_n 1, 1) := by decide +kernel
theorem dX11_faultOf_41 : decode cX11_faultOf 41 = .ok (.iconst 1, 1) := by decide +kernel
theorem dX11_faultOf_42 : decode cX11_faultOf 42 = .ok (.iadd, 1) := by decide +kernel
theorem dX11_faultOf_43 : decode cX11_faultOf 43 = .ok (.iaload, 1) := by decide +kernel
theorem dX11_faultOf_44 : decode cX11_faultOf 44 = .ok (.bipush 60, 2) := by decide +kernel
theorem dX11_faultOf_46 : decode cX11_faultOf 46 = .ok (.if_icmp .eq 16, 3) := by decide +kernel
theorem dX11_faultOf_49 : decode cX11_faultOf 49 = .ok (.aload_n 0, 1) := by decide +kernel
theorem dX11_faultOf_50 : decode cX11_faultOf 50 = .ok (.getfield 22, 3) := by decide +kernel
theorem dX11_faultOf_53 : decode cX11_faultOf 53 = .ok (.iload_n 1, 1) := by decide +kernel
theorem dX11_faultOf_54 : decode cX11_faultOf 54 = .ok (.iconst 1, 1) := by decide +kernel
theorem dX11_faultOf_55 : decode cX11_faultOf 55 = .ok (.iadd, 1) := by decide +kernel
theorem dX11_faultOf_56 : decode cX11_faultOf 56 = .ok (.iaload, 1) := by decide +kernel
theorem dX11_faultOf_57 : decode cX11_faultOf 57 = .ok (.bipush 62, 2) := by decide +kernel
theorem dX11_faultOf_59 : decode cX11_faultOf 59 = .ok (.if_icmp .ne 55, 3) := by decide +kernel
theorem dX11_faultOf_62 : decode cX11_faultOf 62 = .ok (.aload_n 0, 1) := by decide +kernel
theorem dX11_faultOf_63 : decode cX11_faultOf 63 = .ok (.aload_n 0, 1) := by decide +kernel
theorem dX11_faultOf_64 : decode cX11_faultOf 64 = .ok (.getfield 22, 3) := by decide +kernel
theorem dX11_faultOf_67 : decode cX11_faultOf 67 = .ok (.iload_n 1, 1) := by decide +kernel
theorem dX11_faultOf_68 : decode cX11_faultOf 68 = .ok (.iconst 2, 1) := by decide +kernel
theorem dX11_faultOf_69 : decode cX11_faultOf 69 = .ok (.iadd, 1) := by decide +kernel
theorem dX11_faultOf_70 : decode cX11_faultOf 70 = .ok (.iaload, 1) := by decide +kernel
theorem dX11_faultOf_71 : decode cX11_faultOf 71 = .ok (.bipush 48, 2) := by decide +kernel
theorem dX11_faultOf_73 : decode cX11_faultOf 73 = .ok (.isub, 1) := by decide +kernel
theorem dX11_faultOf_74 : decode cX11_faultOf 74 = .ok (.invokevirtual 57, 3) := by decide +kernel
theorem dX11_faultOf_77 : decode cX11_faultOf 77 = .ok (.ifCond .eq 37, 3) := by decide +kernel
theorem dX11_faultOf_80 : decode cX11_faultOf 80 = .ok (.aload_n 0, 1) := by decide +kernel
theorem dX11_faultOf_81 : decode cX11_faultOf 81 = .ok (.getfield 22, 3) := by decide +kernel
theorem dX11_faultOf_84 : decode cX11_faultOf 84 = .ok (.iload_n 1, 1) := by decide +kernel
theorem dX11_faultOf_85 : decode cX11_faultOf 85 = .ok (.iaload, 1) := by decide +kernel
theorem dX11_faultOf_86 : decode cX11_faultOf 86 = .ok (.aload_n 0, 1) := by decide +kernel
theorem dX11_faultOf_87 : decode cX11_faultOf 87 = .ok (.getfield 22, 3) := by decide +kernel
theorem dX11_faultOf_90 : decode cX11_faultOf 90 = .ok (.iload_n 1, 1) := by decide +kernel
theorem dX11_faultOf_91 : decode cX11_faultOf 91 = .ok (.iconst 2, 1) := by decide +kernel
theorem dX11_faultOf_92 : decode cX11_faultOf 92 = .ok (.iadd, 1) := by decide +kernel
theorem dX11_faultOf_93 : decode cX11_faultOf 93 = .ok (.iaload, 1) := by decide +kernel
theorem dX11_faultOf_94 : decode cX11_faultOf 94 = .ok (.if_icmp .eq 20, 3) := by decide +kernel
theorem dX11_faultOf_97 : decode cX11_faultOf 97 = .ok (.aload_n 0, 1) := by decide +kernel
theorem dX11_faultOf_98 : decode cX11_faultOf 98 = .ok (.getfield 22, 3) := by decide +kernel
theorem dX11_faultOf_101 : decode cX11_faultOf 101 = .ok (.iload_n 1, 1) := by decide +kernel
theorem dX11_faultOf_102 : decode cX11_faultOf 102 = .ok (.iconst 3, 1) := by decide +kernel
theorem dX11_faultOf_103 : decode cX11_faultOf 103 = .ok (.iadd, 1) := by decide +kernel
theorem dX11_faultOf_104 : decode cX11_faultOf 104 = .ok (.iaload, 1) := by decide +kernel
theorem dX11_faultOf_105 : decode cX11_faultOf 105 = .ok (.bipush 59, 2) := by decide +kernel
theorem dX11_faultOf_107 : decode cX11_faultOf 107 = .ok (.if_icmp .ne 7, 3) := by decide +kernel
theorem dX11_faultOf_110 : decode cX11_faultOf 110 = .ok (.iconst 1, 1) := by decide +kernel
theorem dX11_faultOf_111 : decode cX11_faultOf 111 = .ok (.goto 4, 3) := by decide +kernel
theorem dX11_faultOf_114 : decode cX11_faultOf 114 = .ok (.iconst 0, 1) := by decide +kernel
theorem dX11_faultOf_115 : decode cX11_faultOf 115 = .ok (.istore_n 2, 1) := by decide +kernel
theorem dX11_faultOf_116 : decode cX11_faultOf 116 = .ok (.iload_n 2, 1) := by decide +kernel
theorem dX11_faultOf_117 : decode cX11_faultOf 117 = .ok (.ifCond .ne 5, 3) := by decide +kernel
theorem dX11_faultOf_120 : decode cX11_faultOf 120 = .ok (.iload_n 1, 1) := by decide +kernel
theorem dX11_faultOf_121 : decode cX11_faultOf 121 = .ok (.ireturn, 1) := by decide +kernel
theorem dX11_faultOf_122 : decode cX11_faultOf 122 = .ok (.iinc 1 4, 3) := by decide +kernel
theorem dX11_faultOf_125 : decode cX11_faultOf 125 = .ok (.goto (-123), 3) := by decide +kernel
theorem dX11_faultOf_128 : decode cX11_faultOf 128 = .ok (.bipush (-4), 2) := by decide +kernel
theorem dX11_faultOf_130 : decode cX11_faultOf 130 = .ok (.ireturn, 1) := by decide +kernel
theorem dX11_enter_0 : decode cX11_enter 0 = .ok (.aload_n 0, 1) := by decide +kernel
theorem dX11_enter_1 : decode cX11_enter 1 = .ok (.invokevirtual 117, 3) := by decide +kernel
theorem dX11_enter_4 : decode cX11_enter 4 = .ok (.bipush (-4), 2) := by decide +kernel
theorem dX11_enter_6 : decode cX11_enter 6 = .ok (.if_icmp .eq 6, 3) := by decide +kernel
theorem dX11_enter_9 : decode cX11_enter 9 = .ok (.bipush (-2), 2) := by decide +kernel
theorem dX11_enter_11 : decode cX11_enter 11 = .ok (.ireturn, 1) := by decide +kernel
theorem dX11_enter_12 : decode cX11_enter 12 = .ok (.aload_n 0, 1) := by decide +kernel
theorem dX11_enter_13 : decode cX11_enter 13 = .ok (.invokevirtual 76, 3) := by decide +kernel
theorem dX11_enter_16 : decode cX11_enter 16 = .ok (.iconst 0, 1) := by decide +kernel
theorem dX11_enter_17 : decode cX11_enter 17 = .ok (.istore_n 1, 1) := by decide +kernel
theorem dX11_enter_18 : decode cX11_enter 18 = .ok (.iload_n 1, 1) := by decide +kernel
theorem dX11_enter_19 : decode cX11_enter 19 = .ok (.aload_n 0, 1) := by decide +kernel
theorem dX11_enter_20 : decode cX11_enter 20 = .ok (.getfield 114, 3) := by decide +kernel
theorem dX11_enter_23 : decode cX11_enter 23 = .ok (.if_icmp .ge 70, 3) := by decide +kernel
theorem dX11_enter_26 : decode cX11_enter 26 = .ok (.aload_n 0, 1) := by decide +kernel
theorem dX11_enter_27 : decode cX11_enter 27 = .ok (.getfield 22, 3) := by decide +kernel
theorem dX11_enter_30 : decode cX11_enter 30 = .ok (.iload_n 1, 1) := by decide +kernel
theorem dX11_enter_31 : decode cX11_enter 31 = .ok (.iconst 1, 1) := by decide +kernel
theorem dX11_enter_32 : decode cX11_enter 32 = .ok (.iadd, 1) := by decide +kernel
theorem dX11_enter_33 : decode cX11_enter 33 = .ok (.iaload, 1) := by decide +kernel
theorem dX11_enter_34 : decode cX11_enter 34 = .ok (.bipush 62, 2) := by decide +kernel
theorem dX11_enter_36 : decode cX11_enter 36 = .ok (.if_icmp .ne 7, 3) := by decide +kernel
theorem dX11_enter_39 : decode cX11_enter 39 = .ok (.iconst 1, 1) := by decide +kernel
theorem dX11_enter_40 : decode cX11_enter 40 = .ok (.goto 4, 3) := by decide +kernel
theorem dX11_enter_43 : decode cX11_enter 43 = .ok (.iconst 0, 1) := by decide +kernel
theorem dX11_enter_44 : decode cX11_enter 44 = .ok (.istore_n 2, 1) := by decide +kernel
theorem dX11_enter_45 : decode cX11_enter 45 = .ok (.aload_n 0, 1) := by decide +kernel
theorem dX11_enter_46 : decode cX11_enter 46 = .ok (.aload_n 0, 1) := by decide +kernel
theorem dX11_enter_47 : decode cX11_enter 47 = .ok (.getfield 22, 3) := by decide +kernel
theorem dX11_enter_50 : decode cX11_enter 50 = .ok (.iload_n 2, 1) := by decide +kernel
theorem dX11_enter_51 : decode cX11_enter 51 = .ok (.ifCond .eq 7, 3) := by decide +kernel
theorem dX11_enter_54 : decode cX11_enter 54 = .ok (.iload_n 1, 1) := by decide +kernel
theorem dX11_enter_55 : decode cX11_enter 55 = .ok (.goto 6, 3) := by decide +kernel
theorem dX11_enter_58 : decode cX11_enter 58 = .ok (.iload_n 1, 1) := by decide +kernel
theorem dX11_enter_59 : decode cX11_enter 59 = .ok (.iconst 2, 1) := by decide +kernel
theorem dX11_enter_60 : decode cX11_enter 60 = .ok (.iadd, 1) := by decide +kernel
theorem dX11_enter_61 : decode cX11_enter 61 = .ok (.iaload, 1) := by decide +kernel
theorem dX11_enter_62 : decode cX11_enter 62 = .ok (.bipush 48, 2) := by decide +kernel
theorem dX11_enter_64 : decode cX11_enter 64 = .ok (.isub, 1) := by decide +kernel
theorem dX11_enter_65 : decode cX11_enter 65 = .ok (.aload_n 0, 1) := by decide +kernel
theorem dX11_enter_66 : decode cX11_enter 66 = .ok (.getfield 22, 3) := by decide +kernel
theorem dX11_enter_69 : decode cX11_enter 69 = .ok (.iload_n 2, 1) := by decide +kernel
theorem dX11_enter_70 : decode cX11_enter 70 = .ok (.ifCond .eq 9, 3) := by decide +kernel
theorem dX11_enter_73 : decode cX11_enter 73 = .ok (.iload_n 1, 1) := by decide +kernel
theorem dX11_enter_74 : decode cX11_enter 74 = .ok (.iconst 2, 1) := by decide +kernel
theorem dX11_enter_75 : decode cX11_enter 75 = .ok (.iadd, 1) := by decide +kernel
theorem dX11_enter_76 : decode cX11_enter 76 = .ok (.goto 4, 3) := by decide +kernel
theorem dX11_enter_79 : decode cX11_enter 79 = .ok (.iload_n 1, 1) := by decide +kernel
theorem dX11_enter_80 : decode cX11_enter 80 = .ok (.iaload, 1) := by decide +kernel
theorem dX11_enter_81 : decode cX11_enter 81 = .ok (.bipush 48, 2) := by decide +kernel
theorem dX11_enter_83 : decode cX11_enter 83 = .ok (.isub, 1) := by decide +kernel
theorem dX11_enter_84 : decode cX11_enter 84 = .ok (.invokevirtual 72, 3) := by decide +kernel
theorem dX11_enter_87 : decode cX11_enter 87 = .ok (.iinc 1 4, 3) := by decide +kernel
theorem dX11_enter_90 : decode cX11_enter 90 = .ok (.goto (-72), 3) := by decide +kernel
theorem dX11_enter_93 : decode cX11_enter 93 = .ok (.aload_n 0, 1) := by decide +kernel
theorem dX11_enter_94 : decode cX11_enter 94 = .ok (.getfield 114, 3) := by decide +kernel
theorem dX11_enter_97 : decode cX11_enter 97 = .ok (.iconst 4, 1) := by decide +kernel
theorem dX11_enter_98 : decode cX11_enter 98 = .ok (.idiv, 1) := by decide +kernel
theorem dX11_enter_99 : decode cX11_enter 99 = .ok (.ireturn, 1) := by decide +kernel
theorem dX11_recall_0 : decode cX11_recall 0 = .ok (.aload_n 0, 1) := by decide +kernel
theorem dX11_recall_1 : decode cX11_recall 1 = .ok (.invokevirtual 76, 3) := by decide +kernel
theorem dX11_recall_4 : decode cX11_recall 4 = .ok (.aload_n 0, 1) := by decide +kernel
theorem dX11_recall_5 : decode cX11_recall 5 = .ok (.getfield 13, 3) := by decide +kernel
theorem dX11_recall_8 : decode cX11_recall 8 = .ok (.aload_n 0, 1) := by decide +kernel
theorem dX11_recall_9 : decode cX11_recall 9 = .ok (.getfield 7, 3) := by decide +kernel
theorem dX11_recall_12 : decode cX11_recall 12 = .ok (.invokestatic 41, 3) := by decide +kernel
theorem dX11_recall_15 : decode cX11_recall 15 = .ok (.aload_n 0, 1) := by decide +kernel
theorem dX11_recall_16 : decode cX11_recall 16 = .ok (.invokevirtual 92, 3) := by decide +kernel
theorem dX11_recall_19 : decode cX11_recall 19 = .ok (.ireturn, 1) := by decide +kernel
theorem dX11_undo_0 : decode cX11_undo 0 = .ok (.aload_n 0, 1) := by decide +kernel
theorem dX11_undo_1 : decode cX11_undo 1 = .ok (.getfield 65, 3) := by decide +kernel
theorem dX11_undo_4 : decode cX11_undo 4 = .ok (.ifCond .ne 6, 3) := by decide +kernel
theorem dX11_undo_7 : decode cX11_undo 7 = .ok (.bipush (-2), 2) := by decide +kernel
theorem dX11_undo_9 : decode cX11_undo 9 = .ok (.ireturn, 1) := by decide +kernel
theorem dX11_undo_10 : decode cX11_undo 10 = .ok (.aload_n 0, 1) := by decide +kernel
theorem dX11_undo_11 : decode cX11_undo 11 = .ok (.dup, 1) := by decide +kernel
theorem dX11_undo_12 : decode cX11_undo 12 = .ok (.getfield 65, 3) := by decide +kernel
theorem dX11_undo_15 : decode cX11_undo 15 = .ok (.iconst 1, 1) := by decide +kernel
theorem dX11_undo_16 : decode cX11_undo 16 = .ok (.isub, 1) := by decide +kernel
theorem dX11_undo_17 : decode cX11_undo 17 = .ok (.putfield 65, 3) := by decide +kernel
theorem dX11_undo_20 : decode cX11_undo 20 = .ok (.iconst 0, 1) := by decide +kernel
theorem dX11_undo_21 : decode cX11_undo 21 = .ok (.istore_n 1, 1) := by decide +kernel
theorem dX11_undo_22 : decode cX11_undo 22 = .ok (.iload_n 1, 1) := by decide +kernel
theorem dX11_undo_23 : decode cX11_undo 23 = .ok (.bipush 111, 2) := by decide +kernel
theorem dX11_undo_25 : decode cX11_undo 25 = .ok (.if_icmp .ge 29, 3) := by decide +kernel
theorem dX11_undo_28 : decode cX11_undo 28 = .ok (.aload_n 0, 1) := by decide +kernel
theorem dX11_undo_29 : decode cX11_undo 29 = .ok (.getfield 7, 3) := by decide +kernel
theorem dX11_undo_32 : decode cX11_undo 32 = .ok (.iload_n 1, 1) := by decide +kernel
theorem dX11_undo_33 : decode cX11_undo 33 = .ok (.aload_n 0, 1) := by decide +kernel
theorem dX11_undo_34 : decode cX11_undo 34 = .ok (.getfield 16, 3) := by decide +kernel
theorem dX11_undo_37 : decode cX11_undo 37 = .ok (.bipush 111, 2) := by decide +kernel
theorem dX11_undo_39 : decode cX11_undo 39 = .ok (.aload_n 0, 1) := by decide +kernel
theorem dX11_undo_40 : decode cX11_undo 40 = .ok (.getfield 65, 3) := by decide +kernel
theorem dX11_undo_43 : decode cX11_undo 43 = .ok (.imul, 1) := by decide +kernel
theorem dX11_undo_44 : decode cX11_undo 44 = .ok (.iload_n 1, 1) := by decide +kernel
theorem dX11_undo_45 : decode cX11_undo 45 = .ok (.iadd, 1) := by decide +kernel
theorem dX11_undo_46 : decode cX11_undo 46 = .ok (.iaload, 1) := by decide +kernel
theorem dX11_undo_47 : decode cX11_undo 47 = .ok (.iastore, 1) := by decide +kernel
theorem dX11_undo_48 : decode cX11_undo 48 = .ok (.iinc 1 1, 3) := by decide +kernel
theorem dX11_undo_51 : decode cX11_undo 51 = .ok (.goto (-29), 3) := by decide +kernel
theorem dX11_undo_54 : decode cX11_undo 54 = .ok (.aload_n 0, 1) := by decide +kernel
theorem dX11_undo_55 : decode cX11_undo 55 = .ok (.getfield 65, 3) := by decide +kernel
theorem dX11_undo_58 : decode cX11_undo 58 = .ok (.ireturn, 1) := by decide +kernel
theorem dX11_append_0 : decode cX11_append 0 = .ok (.iload_n 1, 1) := by decide +kernel
theorem dX11_append_1 : decode cX11_append 1 = .ok (.iconst 0, 1) := by decide +kernel
theorem dX11_append_2 : decode cX11_append 2 = .ok (.bipush 9, 2) := by decide +kernel
theorem dX11_append_4 : decode cX11_append 4 = .ok (.invokestatic 53, 3) := by decide +kernel
theorem dX11_append_7 : decode cX11_append 7 = .ok (.ifCond .ne 5, 3) := by decide +kernel
theorem dX11_append_10 : decode cX11_append 10 = .ok (.iconst (-1), 1) := by decide +kernel
theorem dX11_append_11 : decode cX11_append 11 = .ok (.ireturn, 1) := by decide +kernel
theorem dX11_append_12 : decode cX11_append 12 = .ok (.aload_n 0, 1) := by decide +kernel
theorem dX11_append_13 : decode cX11_append 13 = .ok (.getfield 105, 3) := by decide +kernel
theorem dX11_append_16 : decode cX11_append 16 = .ok (.bipush 10, 2) := by decide +kernel
theorem dX11_append_18 : decode cX11_append 18 = .ok (.if_icmp .ne 6, 3) := by decide +kernel
theorem dX11_append_21 : decode cX11_append 21 = .ok (.bipush (-3), 2) := by decide +kernel
theorem dX11_append_23 : decode cX11_append 23 = .ok (.ireturn, 1) := by decide +kernel
theorem dX11_append_24 : decode cX11_append 24 = .ok (.aload_n 0, 1) := by decide +kernel
theorem dX11_append_25 : decode cX11_append 25 = .ok (.getfield 19, 3) := by decide +kernel
theorem dX11_append_28 : decode cX11_append 28 = .ok (.aload_n 0, 1) := by decide +kernel
theorem dX11_append_29 : decode cX11_append 29 = .ok (.getfield 105, 3) := by decide +kernel
theorem dX11_append_32 : decode cX11_append 32 = .ok (.iload_n 1, 1) := by decide +kernel
theorem dX11_append_33 : decode cX11_append 33 = .ok (.iastore, 1) := by decide +kernel
theorem dX11_append_34 : decode cX11_append 34 = .ok (.aload_n 0, 1) := by decide +kernel
theorem dX11_append_35 : decode cX11_append 35 = .ok (.dup, 1) := by decide +kernel
theorem dX11_append_36 : decode cX11_append 36 = .ok (.getfield 105, 3) := by decide +kernel
theorem dX11_append_39 : decode cX11_append 39 = .ok (.iconst 1, 1) := by decide +kernel
theorem dX11_append_40 : decode cX11_append 40 = .ok (.iadd, 1) := by decide +kernel
theorem dX11_append_41 : decode cX11_append 41 = .ok (.putfield 105, 3) := by decide +kernel
theorem dX11_append_44 : decode cX11_append 44 = .ok (.aload_n 0, 1) := by decide +kernel
theorem dX11_append_45 : decode cX11_append 45 = .ok (.getfield 105, 3) := by decide +kernel
theorem dX11_append_48 : decode cX11_append 48 = .ok (.ireturn, 1) := by decide +kernel
theorem dX11_clearSequence_0 : decode cX11_clearSequence 0 = .ok (.aload_n 0, 1) := by decide +kernel
theorem dX11_clearSequence_1 : decode cX11_clearSequence 1 = .ok (.getfield 105, 3) := by decide +kernel
theorem dX11_clearSequence_4 : decode cX11_clearSequence 4 = .ok (.istore_n 1, 1) := by decide +kernel
theorem dX11_clearSequence_5 : decode cX11_clearSequence 5 = .ok (.aload_n 0, 1) := by decide +kernel
theorem dX11_clearSequence_6 : decode cX11_clearSequence 6 = .ok (.iconst 0, 1) := by decide +kernel
theorem dX11_clearSequence_7 : decode cX11_clearSequence 7 = .ok (.putfield 105, 3) := by decide +kernel
theorem dX11_clearSequence_10 : decode cX11_clearSequence 10 = .ok (.iload_n 1, 1) := by decide +kernel
theorem dX11_clearSequence_11 : decode cX11_clearSequence 11 = .ok (.ireturn, 1) := by decide +kernel
theorem dX11_checkSequence_0 : decode cX11_checkSequence 0 = .ok (.aload_n 0, 1) := by decide +kernel
theorem dX11_checkSequence_1 : decode cX11_checkSequence 1 = .ok (.getfield 105, 3) := by decide +kernel
theorem dX11_checkSequence_4 : decode cX11_checkSequence 4 = .ok (.iconst 2, 1) := by decide +kernel
theorem dX11_checkSequence_5 : decode cX11_checkSequence 5 = .ok (.if_icmp .ge 8, 3) := by decide +kernel
theorem dX11_checkSequence_8 : decode cX11_checkSequence 8 = .ok (.bipush (-2), 2) := by decide +kernel
theorem dX11_checkSequence_10 : decode cX11_checkSequence 10 = .ok (.goto 7, 3) := by decide +kernel
theorem dX11_checkSequence_13 : decode cX11_checkSequence 13 = .ok (.aload_n 0, 1) := by decide +kernel
theorem dX11_checkSequence_14 : decode cX11_checkSequence 14 = .ok (.invokevirtual 108, 3) := by decide +kernel
theorem dX11_checkSequence_17 : decode cX11_checkSequence 17 = .ok (.ireturn, 1) := by decide +kernel
theorem dX11_type_0 : decode cX11_type 0 = .ok (.iload_n 1, 1) := by decide +kernel
theorem dX11_type_1 : decode cX11_type 1 = .ok (.bipush 32, 2) := by decide +kernel
theorem dX11_type_3 : decode cX11_type 3 = .ok (.bipush 126, 2) := by decide +kernel
theorem dX11_type_5 : decode cX11_type 5 = .ok (.invokestatic 53, 3) := by decide +kernel
theorem dX11_type_8 : decode cX11_type 8 = .ok (.ifCond .ne 5, 3) := by decide +kernel
theorem dX11_type_11 : decode cX11_type 11 = .ok (.iconst (-1), 1) := by decide +kernel
theorem dX11_type_12 : decode cX11_type 12 = .ok (.ireturn, 1) := by decide +kernel
theorem dX11_type_13 : decode cX11_type 13 = .ok (.aload_n 0, 1) := by decide +kernel
theorem dX11_type_14 : decode cX11_type 14 = .ok (.getfield 114, 3) := by decide +kernel
theorem dX11_type_17 : decode cX11_type 17 = .ok (.bipush 120, 2) := by decide +kernel
theorem dX11_type_19 : decode cX11_type 19 = .ok (.if_icmp .ne 6, 3) := by decide +kernel
theorem dX11_type_22 : decode cX11_type 22 = .ok (.bipush (-3), 2) := by decide +kernel
theorem dX11_type_24 : decode cX11_type 24 = .ok (.ireturn, 1) := by decide +kernel
theorem dX11_type_25 : decode cX11_type 25 = .ok (.aload_n 0, 1) := by decide +kernel
theorem dX11_type_26 : decode cX11_type 26 = .ok (.getfield 22, 3) := by decide +kernel
theorem dX11_type_29 : decode cX11_type 29 = .ok (.aload_n 0, 1) := by decide +kernel
theorem dX11_type_30 : decode cX11_type 30 = .ok (.getfield 114, 3) := by decide +kernel
theorem dX11_type_33 : decode cX11_type 33 = .ok (.iload_n 1, 1) := by decide +kernel
theorem dX11_type_34 : decode cX11_type 34 = .ok (.iastore, 1) := by decide +kernel
theorem dX11_type_35 : decode cX11_type 35 = .ok (.aload_n 0, 1) := by decide +kernel
theorem dX11_type_36 : decode cX11_type 36 = .ok (.dup, 1) := by decide +kernel
theorem dX11_type_37 : decode cX11_type 37 = .ok (.getfield 114, 3) := by decide +kernel
theorem dX11_type_40 : decode cX11_type 40 = .ok (.iconst 1, 1) := by decide +kernel
theorem dX11_type_41 : decode cX11_type 41 = .ok (.iadd, 1) := by decide +kernel
theorem dX11_type_42 : decode cX11_type 42 = .ok (.putfield 114, 3) := by decide +kernel
theorem dX11_type_45 : decode cX11_type 45 = .ok (.aload_n 0, 1) := by decide +kernel
theorem dX11_type_46 : decode cX11_type 46 = .ok (.getfield 114, 3) := by decide +kernel
theorem dX11_type_49 : decode cX11_type 49 = .ok (.ireturn, 1) := by decide +kernel
theorem dX11_clearText_0 : decode cX11_clearText 0 = .ok (.aload_n 0, 1) := by decide +kernel
theorem dX11_clearText_1 : decode cX11_clearText 1 = .ok (.getfield 114, 3) := by decide +kernel
theorem dX11_clearText_4 : decode cX11_clearText 4 = .ok (.istore_n 1, 1) := by decide +kernel
theorem dX11_clearText_5 : decode cX11_clearText 5 = .ok (.aload_n 0, 1) := by decide +kernel
theorem dX11_clearText_6 : decode cX11_clearText 6 = .ok (.iconst 0, 1) := by decide +kernel
theorem dX11_clearText_7 : decode cX11_clearText 7 = .ok (.putfield 114, 3) := by decide +kernel
theorem dX11_clearText_10 : decode cX11_clearText 10 = .ok (.iload_n 1, 1) := by decide +kernel
theorem dX11_clearText_11 : decode cX11_clearText 11 = .ok (.ireturn, 1) := by decide +kernel
theorem dX11_fault_0 : decode cX11_fault 0 = .ok (.aload_n 0, 1) := by decide +kernel
theorem dX11_fault_1 : decode cX11_fault 1 = .ok (.invokevirtual 117, 3) := by decide +kernel
theorem dX11_fault_4 : decode cX11_fault 4 = .ok (.ireturn, 1) := by decide +kernel
theorem dX11_players_0 : decode cX11_players 0 = .ok (.aload_n 0, 1) := by decide +kernel
theorem dX11_players_1 : decode cX11_players 1 = .ok (.invokevirtual 92, 3) := by decide +kernel
theorem dX11_players_4 : decode cX11_players 4 = .ok (.ireturn, 1) := by decide +kernel
theorem dX11_beats_0 : decode cX11_beats 0 = .ok (.aload_n 0, 1) := by decide +kernel
theorem dX11_beats_1 : decode cX11_beats 1 = .ok (.iload_n 1, 1) := by decide +kernel
theorem dX11_beats_2 : decode cX11_beats 2 = .ok (.invokevirtual 57, 3) := by decide +kernel
theorem dX11_beats_5 : decode cX11_beats 5 = .ok (.ifCond .eq 11, 3) := by decide +kernel
theorem dX11_beats_8 : decode cX11_beats 8 = .ok (.aload_n 0, 1) := by decide +kernel
theorem dX11_beats_9 : decode cX11_beats 9 = .ok (.iload_n 2, 1) := by decide +kernel
theorem dX11_beats_10 : decode cX11_beats 10 = .ok (.invokevirtual 57, 3) := by decide +kernel
theorem dX11_beats_13 : decode cX11_beats 13 = .ok (.ifCond .ne 7, 3) := by decide +kernel
theorem dX11_beats_16 : decode cX11_beats 16 = .ok (.iconst (-1), 1) := by decide +kernel
theorem dX11_beats_17 : decode cX11_beats 17 = .ok (.goto 17, 3) := by decide +kernel
theorem dX11_beats_20 : decode cX11_beats 20 = .ok (.aload_n 0, 1) := by decide +kernel
theorem dX11_beats_21 : decode cX11_beats 21 = .ok (.iload_n 1, 1) := by decide +kernel
theorem dX11_beats_22 : decode cX11_beats 22 = .ok (.iload_n 2, 1) := by decide +kernel
theorem dX11_beats_23 : decode cX11_beats 23 = .ok (.invokevirtual 69, 3) := by decide +kernel
theorem dX11_beats_26 : decode cX11_beats 26 = .ok (.ifCond .eq 7, 3) := by decide +kernel
theorem dX11_beats_29 : decode cX11_beats 29 = .ok (.iconst 1, 1) := by decide +kernel
theorem dX11_beats_30 : decode cX11_beats 30 = .ok (.goto 4, 3) := by decide +kernel
theorem dX11_beats_33 : decode cX11_beats 33 = .ok (.iconst 0, 1) := by decide +kernel
theorem dX11_beats_34 : decode cX11_beats 34 = .ok (.ireturn, 1) := by decide +kernel
theorem dX11_weight_0 : decode cX11_weight 0 = .ok (.aload_n 0, 1) := by decide +kernel
theorem dX11_weight_1 : decode cX11_weight 1 = .ok (.iload_n 1, 1) := by decide +kernel
theorem dX11_weight_2 : decode cX11_weight 2 = .ok (.iload_n 2, 1) := by decide +kernel
theorem dX11_weight_3 : decode cX11_weight 3 = .ok (.invokevirtual 79, 3) := by decide +kernel
theorem dX11_weight_6 : decode cX11_weight 6 = .ok (.ifCond .eq 16, 3) := by decide +kernel
theorem dX11_weight_9 : decode cX11_weight 9 = .ok (.aload_n 0, 1) := by decide +kernel
theorem dX11_weight_10 : decode cX11_weight 10 = .ok (.getfield 7, 3) := by decide +kernel
theorem dX11_weight_13 : decode cX11_weight 13 = .ok (.iload_n 1, 1) := by decide +kernel
theorem dX11_weight_14 : decode cX11_weight 14 = .ok (.iload_n 2, 1) := by decide +kernel
theorem dX11_weight_15 : decode cX11_weight 15 = .ok (.invokestatic 61, 3) := by decide +kernel
theorem dX11_weight_18 : decode cX11_weight 18 = .ok (.iaload, 1) := by decide +kernel
theorem dX11_weight_19 : decode cX11_weight 19 = .ok (.goto 4, 3) := by decide +kernel
theorem dX11_weight_22 : decode cX11_weight 22 = .ok (.iconst (-1), 1) := by decide +kernel
theorem dX11_weight_23 : decode cX11_weight 23 = .ok (.ireturn, 1) := by decide +kernel
theorem dX11_score_0 : decode cX11_score 0 = .ok (.aload_n 0, 1) := by decide +kernel
theorem dX11_score_1 : decode cX11_score 1 = .ok (.iload_n 1, 1) := by decide +kernel
theorem dX11_score_2 : decode cX11_score 2 = .ok (.invokevirtual 57, 3) := by decide +kernel
theorem dX11_score_5 : decode cX11_score 5 = .ok (.ifCond .eq 14, 3) := by decide +kernel
theorem dX11_score_8 : decode cX11_score 8 = .ok (.aload_n 0, 1) := by decide +kernel
theorem dX11_score_9 : decode cX11_score 9 = .ok (.iload_n 1, 1) := by decide +kernel
theorem dX11_score_10 : decode cX11_score 10 = .ok (.invokevirtual 45, 3) := by decide +kernel
theorem dX11_score_13 : decode cX11_score 13 = .ok (.invokestatic 98, 3) := by decide +kernel
theorem dX11_score_16 : decode cX11_score 16 = .ok (.goto 4, 3) := by decide +kernel
theorem dX11_score_19 : decode cX11_score 19 = .ok (.iconst (-1), 1) := by decide +kernel
theorem dX11_score_20 : decode cX11_score 20 = .ok (.ireturn, 1) := by decide +kernel
theorem dX11_scoreAt_0 : decode cX11_scoreAt 0 = .ok (.aload_n 0, 1) := by decide +kernel
theorem dX11_scoreAt_1 : decode cX11_scoreAt 1 = .ok (.iload_n 1, 1) := by decide +kernel
theorem dX11_scoreAt_2 : decode cX11_scoreAt 2 = .ok (.invokevirtual 57, 3) := by decide +kernel
theorem dX11_scoreAt_5 : decode cX11_scoreAt 5 = .ok (.ifCond .ne 5, 3) := by decide +kernel
theorem dX11_scoreAt_8 : decode cX11_scoreAt 8 = .ok (.iconst (-1), 1) := by decide +kernel
theorem dX11_scoreAt_9 : decode cX11_scoreAt 9 = .ok (.ireturn, 1) := by decide +kernel
theorem dX11_scoreAt_10 : decode cX11_scoreAt 10 = .ok (.iconst 0, 1) := by decide +kernel
theorem dX11_scoreAt_11 : decode cX11_scoreAt 11 = .ok (.istore_n 2, 1) := by decide +kernel
theorem dX11_scoreAt_12 : decode cX11_scoreAt 12 = .ok (.iconst 0, 1) := by decide +kernel
theorem dX11_scoreAt_13 : decode cX11_scoreAt 13 = .ok (.istore_n 3, 1) := by decide +kernel
theorem dX11_scoreAt_14 : decode cX11_scoreAt 14 = .ok (.iload_n 3, 1) := by decide +kernel
theorem dX11_scoreAt_15 : decode cX11_scoreAt 15 = .ok (.aload_n 0, 1) := by decide +kernel
theorem dX11_scoreAt_16 : decode cX11_scoreAt 16 = .ok (.invokevirtual 92, 3) := by decide +kernel
theorem dX11_scoreAt_19 : decode cX11_scoreAt 19 = .ok (.if_icmp .ge 95, 3) := by decide +kernel
theorem dX11_scoreAt_22 : decode cX11_scoreAt 22 = .ok (.iconst 0, 1) := by decide +kernel
theorem dX11_scoreAt_23 : decode cX11_scoreAt 23 = .ok (.istore 4, 2) := by decide +kernel
theorem dX11_scoreAt_25 : decode cX11_scoreAt 25 = .ok (.iconst 0, 1) := by decide +kernel
theorem dX11_scoreAt_26 : decode cX11_scoreAt 26 = .ok (.istore 5, 2) := by decide +kernel
theorem dX11_scoreAt_28 : decode cX11_scoreAt 28 = .ok (.iload 5, 2) := by decide +kernel
theorem dX11_scoreAt_30 : decode cX11_scoreAt 30 = .ok (.aload_n 0, 1) := by decide +kernel
theorem dX11_scoreAt_31 : decode cX11_scoreAt 31 = .ok (.invokevirtual 92, 3) := by decide +kernel
theorem dX11_scoreAt_34 : decode cX11_scoreAt 34 = .ok (.if_icmp .ge 55, 3) := by decide +kernel
theorem dX11_scoreAt_37 : decode cX11_scoreAt 37 = .ok (.aload_n 0, 1) := by decide +kernel
theorem dX11_scoreAt_38 : decode cX11_scoreAt 38 = .ok (.iload_n 3, 1) := by decide +kernel
theorem dX11_scoreAt_39 : decode cX11_scoreAt 39 = .ok (.invokevirtual 45, 3) := by decide +kernel
theorem dX11_scoreAt_42 : decode cX11_scoreAt 42 = .ok (.invokestatic 98, 3) := by decide +kernel
theorem dX11_scoreAt_45 : decode cX11_scoreAt 45 = .ok (.aload_n 0, 1) := by decide +kernel
theorem dX11_scoreAt_46 : decode cX11_scoreAt 46 = .ok (.iload 5, 2) := by decide +kernel
theorem dX11_scoreAt_48 : decode cX11_scoreAt 48 = .ok (.invokevirtual 45, 3) := by decide +kernel
theorem dX11_scoreAt_51 : decode cX11_scoreAt 51 = .ok (.invokestatic 98, 3) := by decide +kernel
theorem dX11_scoreAt_54 : decode cX11_scoreAt 54 = .ok (.isub, 1) := by decide +kernel
theorem dX11_scoreAt_55 : decode cX11_scoreAt 55 = .ok (.istore 6, 2) := by decide +kernel
theorem dX11_scoreAt_57 : decode cX11_scoreAt 57 = .ok (.iload 4, 2) := by decide +kernel
theorem dX11_scoreAt_59 : decode cX11_scoreAt 59 = .ok (.iload 6, 2) := by decide +kernel
theorem dX11_scoreAt_61 : decode cX11_scoreAt 61 = .ok (.ifCond .gt 14, 3) := by decide +kernel
theorem dX11_scoreAt_64 : decode cX11_scoreAt 64 = .ok (.iload 6, 2) := by decide +kernel
theorem dX11_scoreAt_66 : decode cX11_scoreAt 66 = .ok (.ifCond .ne 13, 3) := by decide +kernel
theorem dX11_scoreAt_69 : decode cX11_scoreAt 69 = .ok (.iload 5, 2) := by decide +kernel
theorem dX11_scoreAt_71 : decode cX11_scoreAt 71 = .ok (.iload_n 3, 1) := by decide +kernel
theorem dX11_scoreAt_72 : decode cX11_scoreAt 72 = .ok (.if_icmp .ge 7, 3) := by decide +kernel
theorem dX11_scoreAt_75 : decode cX11_scoreAt 75 = .ok (.iconst 1, 1) := by decide +kernel
theorem dX11_scoreAt_76 : decode cX11_scoreAt 76 = .ok (.goto 4, 3) := by decide +kernel
theorem dX11_scoreAt_79 : decode cX11_scoreAt 79 = .ok (.iconst 0, 1) := by decide +kernel
theorem dX11_scoreAt_80 : decode cX11_scoreAt 80 = .ok (.iadd, 1) := by decide +kernel
theorem dX11_scoreAt_81 : decode cX11_scoreAt 81 = .ok (.istore 4, 2) := by decide +kernel
theorem dX11_scoreAt_83 : decode cX11_scoreAt 83 = .ok (.iinc 5 1, 3) := by decide +kernel
theorem dX11_scoreAt_86 : decode cX11_scoreAt 86 = .ok (.goto (-58), 3) := by decide +kernel
theorem dX11_scoreAt_89 : decode cX11_scoreAt 89 = .ok (.iload 4, 2) := by decide +kernel
theorem dX11_scoreAt_91 : decode cX11_scoreAt 91 = .ok (.iload_n 1, 1) := by decide +kernel
theorem dX11_scoreAt_92 : decode cX11_scoreAt 92 = .ok (.if_icmp .ne 14, 3) := by decide +kernel
theorem dX11_scoreAt_95 : decode cX11_scoreAt 95 = .ok (.aload_n 0, 1) := by decide +kernel
theorem dX11_scoreAt_96 : decode cX11_scoreAt 96 = .ok (.iload_n 3, 1) := by decide +kernel
theorem dX11_scoreAt_97 : decode cX11_scoreAt 97 = .ok (.invokevirtual 45, 3) := by decide +kernel
theorem dX11_scoreAt_100 : decode cX11_scoreAt 100 = .ok (.invokestatic 98, 3) := by decide +kernel
theorem dX11_scoreAt_103 : decode cX11_scoreAt 103 = .ok (.goto 4, 3) := by decide +kernel
theorem dX11_scoreAt_106 : decode cX11_scoreAt 106 = .ok (.iload_n 2, 1) := by decide +kernel
theorem dX11_scoreAt_107 : decode cX11_scoreAt 107 = .ok (.istore_n 2, 1) := by decide +kernel
theorem dX11_scoreAt_108 : decode cX11_scoreAt 108 = .ok (.iinc 3 1, 3) := by decide +kernel
theorem dX11_scoreAt_111 : decode cX11_scoreAt 111 = .ok (.goto (-97), 3) := by decide +kernel
theorem dX11_scoreAt_114 : decode cX11_scoreAt 114 = .ok (.iload_n 2, 1) := by decide +kernel
theorem dX11_scoreAt_115 : decode cX11_scoreAt 115 = .ok (.ireturn, 1) := by decide +kernel
theorem dX11_triangles_0 : decode cX11_triangles 0 = .ok (.iconst 0, 1) := by decide +kernel
theorem dX11_triangles_1 : decode cX11_triangles 1 = .ok (.istore_n 1, 1) := by decide +kernel
theorem dX11_triangles_2 : decode cX11_triangles 2 = .ok (.iconst 0, 1) := by decide +kernel
theorem dX11_triangles_3 : decode cX11_triangles 3 = .ok (.istore_n 2, 1) := by decide +kernel
theorem dX11_triangles_4 : decode cX11_triangles 4 = .ok (.iload_n 2, 1) := by decide +kernel
theorem dX11_triangles_5 : decode cX11_triangles 5 = .ok (.aload_n 0, 1) := by decide +kernel
theorem dX11_triangles_6 : decode cX11_triangles 6 = .ok (.invokevirtual 92, 3) := by decide +kernel
theorem dX11_triangles_9 : decode cX11_triangles 9 = .ok (.if_icmp .ge 66, 3) := by decide +kernel
theorem dX11_triangles_12 : decode cX11_triangles 12 = .ok (.iload_n 2, 1) := by decide +kernel
theorem dX11_triangles_13 : decode cX11_triangles 13 = .ok (.iconst 1, 1) := by decide +kernel
theorem dX11_triangles_14 : decode cX11_triangles 14 = .ok (.iadd, 1) := by decide +kernel
theorem dX11_triangles_15 : decode cX11_triangles 15 = .ok (.istore_n 3, 1) := by decide +kernel
theorem dX11_triangles_16 : decode cX11_triangles 16 = .ok (.iload_n 3, 1) := by decide +kernel
theorem dX11_triangles_17 : decode cX11_triangles 17 = .ok (.aload_n 0, 1) := by decide +kernel
theorem dX11_triangles_18 : decode cX11_triangles 18 = .ok (.invokevirtual 92, 3) := by decide +kernel
theorem dX11_triangles_21 : decode cX11_triangles 21 = .ok (.if_icmp .ge 48, 3) := by decide +kernel
theorem dX11_triangles_24 : decode cX11_triangles 24 = .ok (.iload_n 3, 1) := by decide +kernel
theorem dX11_triangles_25 : decode cX11_triangles 25 = .ok (.iconst 1, 1) := by decide +kernel
theorem dX11_triangles_26 : decode cX11_triangles 26 = .ok (.iadd, 1) := by decide +kernel
theorem dX11_triangles_27 : decode cX11_triangles 27 = .ok (.istore 4, 2) := by decide +kernel
theorem dX11_triangles_29 : decode cX11_triangles 29 = .ok (.iload 4, 2) := by decide +kernel
theorem dX11_triangles_31 : decode cX11_triangles 31 = .ok (.aload_n 0, 1) := by decide +kernel
theorem dX11_triangles_32 : decode cX11_triangles 32 = .ok (.invokevirtual 92, 3) := by decide +kernel
theorem dX11_triangles_35 : decode cX11_triangles 35 = .ok (.if_icmp .ge 28, 3) := by decide +kernel
theorem dX11_triangles_38 : decode cX11_triangles 38 = .ok (.iload_n 1, 1) := by decide +kernel
theorem dX11_triangles_39 : decode cX11_triangles 39 = .ok (.aload_n 0, 1) := by decide +kernel
theorem dX11_triangles_40 : decode cX11_triangles 40 = .ok (.iload_n 2, 1) := by decide +kernel
theorem dX11_triangles_41 : decode cX11_triangles 41 = .ok (.iload_n 3, 1) := by decide +kernel
theorem dX11_triangles_42 : decode cX11_triangles 42 = .ok (.iload 4, 2) := by decide +kernel
theorem dX11_triangles_44 : decode cX11_triangles 44 = .ok (.invokevirtual 82, 3) := by decide +kernel
theorem dX11_triangles_47 : decode cX11_triangles 47 = .ok (.ifCond .eq 7, 3) := by decide +kernel
theorem dX11_triangles_50 : decode cX11_triangles 50 = .ok (.iconst 1, 1) := by decide +kernel
theorem dX11_triangles_51 : decode cX11_triangles 51 = .ok (.goto 4, 3) := by decide +kernel
theorem dX11_triangles_54 : decode cX11_triangles 54 = .ok (.iconst 0, 1) := by decide +kernel
theorem dX11_triangles_55 : decode cX11_triangles 55 = .ok (.iadd, 1) := by decide +kernel
theorem dX11_triangles_56 : decode cX11_triangles 56 = .ok (.istore_n 1, 1) := by decide +kernel
theorem dX11_triangles_57 : decode cX11_triangles 57 = .ok (.iinc 4 1, 3) := by decide +kernel
theorem dX11_triangles_60 : decode cX11_triangles 60 = .ok (.goto (-31), 3) := by decide +kernel
theorem dX11_triangles_63 : decode cX11_triangles 63 = .ok (.iinc 3 1, 3) := by decide +kernel
theorem dX11_triangles_66 : decode cX11_triangles 66 = .ok (.goto (-50), 3) := by decide +kernel
theorem dX11_triangles_69 : decode cX11_triangles 69 = .ok (.iinc 2 1, 3) := by decide +kernel
theorem dX11_triangles_72 : decode cX11_triangles 72 = .ok (.goto (-68), 3) := by decide +kernel
theorem dX11_triangles_75 : decode cX11_triangles 75 = .ok (.iload_n 1, 1) := by decide +kernel
theorem dX11_triangles_76 : decode cX11_triangles 76 = .ok (.ireturn, 1) := by decide +kernel
theorem dX11_distance_0 : decode cX11_distance 0 = .ok (.aload_n 0, 1) := by decide +kernel
theorem dX11_distance_1 : decode cX11_distance 1 = .ok (.iload_n 1, 1) := by decide +kernel
theorem dX11_distance_2 : decode cX11_distance 2 = .ok (.invokevirtual 57, 3) := by decide +kernel
theorem dX11_distance_5 : decode cX11_distance 5 = .ok (.ifCond .eq 11, 3) := by decide +kernel
theorem dX11_distance_8 : decode cX11_distance 8 = .ok (.aload_n 0, 1) := by decide +kernel
theorem dX11_distance_9 : decode cX11_distance 9 = .ok (.iload_n 2, 1) := by decide +kernel
theorem dX11_distance_10 : decode cX11_distance 10 = .ok (.invokevirtual 57, 3) := by decide +kernel
theorem dX11_distance_13 : decode cX11_distance 13 = .ok (.ifCond .ne 5, 3) := by decide +kernel
theorem dX11_distance_16 : decode cX11_distance 16 = .ok (.iconst (-1), 1) := by decide +kernel
theorem dX11_distance_17 : decode cX11_distance 17 = .ok (.ireturn, 1) := by decide +kernel
theorem dX11_distance_18 : decode cX11_distance 18 = .ok (.aload_n 0, 1) := by decide +kernel
theorem dX11_distance_19 : decode cX11_distance 19 = .ok (.iload_n 2, 1) := by decide +kernel
theorem dX11_distance_20 : decode cX11_distance 20 = .ok (.invokevirtual 95, 3) := by decide +kernel
theorem dX11_distance_23 : decode cX11_distance 23 = .ok (.aload_n 0, 1) := by decide +kernel
theorem dX11_distance_24 : decode cX11_distance 24 = .ok (.getfield 34, 3) := by decide +kernel
theorem dX11_distance_27 : decode cX11_distance 27 = .ok (.iload_n 1, 1) := by decide +kernel
theorem dX11_distance_28 : decode cX11_distance 28 = .ok (.iaload, 1) := by decide +kernel
theorem dX11_distance_29 : decode cX11_distance 29 = .ok (.ireturn, 1) := by decide +kernel
theorem dX11_reaches_0 : decode cX11_reaches 0 = .ok (.iconst 0, 1) := by decide +kernel
theorem dX11_reaches_1 : decode cX11_reaches 1 = .ok (.istore_n 1, 1) := by decide +kernel
theorem dX11_reaches_2 : decode cX11_reaches 2 = .ok (.iload_n 1, 1) := by decide +kernel
theorem dX11_reaches_3 : decode cX11_reaches 3 = .ok (.aload_n 0, 1) := by decide +kernel
theorem dX11_reaches_4 : decode cX11_reaches 4 = .ok (.invokevirtual 92, 3) := by decide +kernel
theorem dX11_reaches_7 : decode cX11_reaches 7 = .ok (.if_icmp .ge 18, 3) := by decide +kernel
theorem dX11_reaches_10 : decode cX11_reaches 10 = .ok (.aload_n 0, 1) := by decide +kernel
theorem dX11_reaches_11 : decode cX11_reaches 11 = .ok (.getfield 31, 3) := by decide +kernel
theorem dX11_reaches_14 : decode cX11_reaches 14 = .ok (.iload_n 1, 1) := by decide +kernel
theorem dX11_reaches_15 : decode cX11_reaches 15 = .ok (.iconst 1, 1) := by decide +kernel
theorem dX11_reaches_16 : decode cX11_reaches 16 = .ok (.iload_n 1, 1) := by decide +kernel
theorem dX11_reaches_17 : decode cX11_reaches 17 = .ok (.ishl, 1) := by decide +kernel
theorem dX11_reaches_18 : decode cX11_reaches 18 = .ok (.iastore, 1) := by decide +kernel
theorem dX11_reaches_19 : decode cX11_reaches 19 = .ok (.iinc 1 1, 3) := by decide +kernel
theorem dX11_reaches_22 : decode cX11_reaches 22 = .ok (.goto (-20), 3) := by decide +kernel
theorem dX11_reaches_25 : decode cX11_reaches 25 = .ok (.iconst 1, 1) := by decide +kernel
theorem dX11_reaches_26 : decode cX11_reaches 26 = .ok (.istore_n 1, 1) := by decide +kernel
theorem dX11_reaches_27 : decode cX11_reaches 27 = .ok (.iload_n 1, 1) := by decide +kernel
theorem dX11_reaches_28 : decode cX11_reaches 28 = .ok (.aload_n 0, 1) := by decide +kernel
theorem dX11_reaches_29 : decode cX11_reaches 29 = .ok (.invokevirtual 92, 3) := by decide +kernel
theorem dX11_reaches_32 : decode cX11_reaches 32 = .ok (.if_icmp .ge 72, 3) := by decide +kernel
theorem dX11_reaches_35 : decode cX11_reaches 35 = .ok (.iconst 0, 1) := by decide +kernel
theorem dX11_reaches_36 : decode cX11_reaches 36 = .ok (.istore_n 2, 1) := by decide +kernel
theorem dX11_reaches_37 : decode cX11_reaches 37 = .ok (.iload_n 2, 1) := by decide +kernel
theorem dX11_reaches_38 : decode cX11_reaches 38 = .ok (.aload_n 0, 1) := by decide +kernel
theorem dX11_reaches_39 : decode cX11_reaches 39 = .ok (.invokevirtual 92, 3) := by decide +kernel
theorem dX11_reaches_42 : decode cX11_reaches 42 = .ok (.if_icmp .ge 56, 3) := by decide +kernel
theorem dX11_reaches_45 : decode cX11_reaches 45 = .ok (.iconst 0, 1) := by decide +kernel
theorem dX11_reaches_46 : decode cX11_reaches 46 = .ok (.istore_n 3, 1) := by decide +kernel
theorem dX11_reaches_47 : decode cX11_reaches 47 = .ok (.iload_n 3, 1) := by decide +kernel
theorem dX11_reaches_48 : decode cX11_reaches 48 = .ok (.aload_n 0, 1) := by decide +kernel
theorem dX11_reaches_49 : decode cX11_reaches 49 = .ok (.invokevirtual 92, 3) := by decide +kernel
theorem dX11_reaches_52 : decode cX11_reaches 52 = .ok (.if_icmp .ge 40, 3) := by decide +kernel
theorem dX11_reaches_55 : decode cX11_reaches 55 = .ok (.aload_n 0, 1) := by decide +kernel
theorem dX11_reaches_56 : decode cX11_reaches 56 = .ok (.getfield 31, 3) := by decide +kernel
theorem dX11_reaches_59 : decode cX11_reaches 59 = .ok (.iload_n 2, 1) := by decide +kernel
theorem dX11_reaches_60 : decode cX11_reaches 60 = .ok (.dup2, 1) := by decide +kernel
theorem dX11_reaches_61 : decode cX11_reaches 61 = .ok (.iaload, 1) := by decide +kernel
theorem dX11_reaches_62 : decode cX11_reaches 62 = .ok (.aload_n 0, 1) := by decide +kernel
theorem dX11_reaches_63 : decode cX11_reaches 63 = .ok (.getfield 31, 3) := by decide +kernel
theorem dX11_reaches_66 : decode cX11_reaches 66 = .ok (.iload_n 2, 1) := by decide +kernel
theorem dX11_reaches_67 : decode cX11_reaches 67 = .ok (.iaload, 1) := by decide +kernel
theorem dX11_reaches_68 : decode cX11_reaches 68 = .ok (.iload_n 3, 1) := by decide +kernel
theorem dX11_reaches_69 : decode cX11_reaches 69 = .ok (.invokestatic 49, 3) := by decide +kernel
theorem dX11_reaches_72 : decode cX11_reaches 72 = .ok (.ifCond .eq 11, 3) := by decide +kernel
theorem dX11_reaches_75 : decode cX11_reaches 75 = .ok (.aload_n 0, 1) := by decide +kernel
theorem dX11_reaches_76 : decode cX11_reaches 76 = .ok (.iload_n 3, 1) := by decide +kernel
theorem dX11_reaches_77 : decode cX11_reaches 77 = .ok (.invokevirtual 45, 3) := by decide +kernel
theorem dX11_reaches_80 : decode cX11_reaches 80 = .ok (.goto 4, 3) := by decide +kernel
theorem dX11_reaches_83 : decode cX11_reaches 83 = .ok (.iconst 0, 1) := by decide +kernel
theorem dX11_reaches_84 : decode cX11_reaches 84 = .ok (.ior, 1) := by decide +kernel
theorem dX11_reaches_85 : decode cX11_reaches 85 = .ok (.iastore, 1) := by decide +kernel
theorem dX11_reaches_86 : decode cX11_reaches 86 = .ok (.iinc 3 1, 3) := by decide +kernel
theorem dX11_reaches_89 : decode cX11_reaches 89 = .ok (.goto (-42), 3) := by decide +kernel
theorem dX11_reaches_92 : decode cX11_reaches 92 = .ok (.iinc 2 1, 3) := by decide +kernel
theorem dX11_reaches_95 : decode cX11_reaches 95 = .ok (.goto (-58), 3) := by decide +kernel
theorem dX11_reaches_98 : decode cX11_reaches 98 = .ok (.iinc 1 1, 3) := by decide +kernel
theorem dX11_reaches_101 : decode cX11_reaches 101 = .ok (.goto (-74), 3) := by decide +kernel
theorem dX11_reaches_104 : decode cX11_reaches 104 = .ok (.return_, 1) := by decide +kernel
theorem dX11_isLowest_0 : decode cX11_isLowest 0 = .ok (.iconst 1, 1) := by decide +kernel
theorem dX11_isLowest_1 : decode cX11_isLowest 1 = .ok (.istore_n 2, 1) := by decide +kernel
theorem dX11_isLowest_2 : decode cX11_isLowest 2 = .ok (.iconst 0, 1) := by decide +kernel
theorem dX11_isLowest_3 : decode cX11_isLowest 3 = .ok (.istore_n 3, 1) := by decide +kernel
theorem dX11_isLowest_4 : decode cX11_isLowest 4 = .ok (.iload_n 3, 1) := by decide +kernel
theorem dX11_isLowest_5 : decode cX11_isLowest 5 = .ok (.iload_n 1, 1) := by decide +kernel
theorem dX11_isLowest_6 : decode cX11_isLowest 6 = .ok (.if_icmp .ge 45, 3) := by decide +kernel
theorem dX11_isLowest_9 : decode cX11_isLowest 9 = .ok (.iload_n 2, 1) := by decide +kernel
theorem dX11_isLowest_10 : decode cX11_isLowest 10 = .ok (.ifCond .eq 33, 3) := by decide +kernel
theorem dX11_isLowest_13 : decode cX11_isLowest 13 = .ok (.aload_n 0, 1) := by decide +kernel
theorem dX11_isLowest_14 : decode cX11_isLowest 14 = .ok (.getfield 31, 3) := by decide +kernel
theorem dX11_isLowest_17 : decode cX11_isLowest 17 = .ok (.iload_n 1, 1) := by decide +kernel
theorem dX11_isLowest_18 : decode cX11_isLowest 18 = .ok (.iaload, 1) := by decide +kernel
theorem dX11_isLowest_19 : decode cX11_isLowest 19 = .ok (.iload_n 3, 1) := by decide +kernel
theorem dX11_isLowest_20 : decode cX11_isLowest 20 = .ok (.invokestatic 49, 3) := by decide +kernel
theorem dX11_isLowest_23 : decode cX11_isLowest 23 = .ok (.ifCond .eq 16, 3) := by decide +kernel
theorem dX11_isLowest_26 : decode cX11_isLowest 26 = .ok (.aload_n 0, 1) := by decide +kernel
theorem dX11_isLowest_27 : decode cX11_isLowest 27 = .ok (.getfield 31, 3) := by decide +kernel
theorem dX11_isLowest_30 : decode cX11_isLowest 30 = .ok (.iload_n 3, 1) := by decide +kernel
theorem dX11_isLowest_31 : decode cX11_isLowest 31 = .ok (.iaload, 1) := by decide +kernel
theorem dX11_isLowest_32 : decode cX11_isLowest 32 = .ok (.iload_n 1, 1) := by decide +kernel
theorem dX11_isLowest_33 : decode cX11_isLowest 33 = .ok (.invokestatic 49, 3) := by decide +kernel
theorem dX11_isLowest_36 : decode cX11_isLowest 36 = .ok (.ifCond .ne 7, 3) := by decide +kernel
theorem dX11_isLowest_39 : decode cX11_isLowest 39 = .ok (.iconst 1, 1) := by decide +kernel
theorem dX11_isLowest_40 : decode cX11_isLowest 40 = .ok (.goto 4, 3) := by decide +kernel
theorem dX11_isLowest_43 : decode cX11_isLowest 43 = .ok (.iconst 0, 1) := by decide +kernel
theorem dX11_isLowest_44 : decode cX11_isLowest 44 = .ok (.istore_n 2, 1) := by decide +kernel
theorem dX11_isLowest_45 : decode cX11_isLowest 45 = .ok (.iinc 3 1, 3) := by decide +kernel
theorem dX11_isLowest_48 : decode cX11_isLowest 48 = .ok (.goto (-44), 3) := by decide +kernel
theorem dX11_isLowest_51 : decode cX11_isLowest 51 = .ok (.iload_n 2, 1) := by decide +kernel
theorem dX11_isLowest_52 : decode cX11_isLowest 52 = .ok (.ireturn, 1) := by decide +kernel
theorem dX11_components_0 : decode cX11_components 0 = .ok (.aload_n 0, 1) := by decide +kernel
theorem dX11_components_1 : decode cX11_components 1 = .ok (.invokevirtual 120, 3) := by decide +kernel
theorem dX11_components_4 : decode cX11_components 4 = .ok (.iconst 0, 1) := by decide +kernel
theorem dX11_components_5 : decode cX11_components 5 = .ok (.istore_n 1, 1) := by decide +kernel
theorem dX11_components_6 : decode cX11_components 6 = .ok (.iconst 0, 1) := by decide +kernel
theorem dX11_components_7 : decode cX11_components 7 = .ok (.istore_n 2, 1) := by decide +kernel
theorem dX11_components_8 : decode cX11_components 8 = .ok (.iload_n 2, 1) := by decide +kernel
theorem dX11_components_9 : decode cX11_components 9 = .ok (.aload_n 0, 1) := by decide +kernel
theorem dX11_components_10 : decode cX11_components 10 = .ok (.invokevirtual 92, 3) := by decide +kernel
theorem dX11_components_13 : decode cX11_components 13 = .ok (.if_icmp .ge 25, 3) := by decide +kernel
theorem dX11_components_16 : decode cX11_components 16 = .ok (.iload_n 1, 1) := by decide +kernel
theorem dX11_components_17 : decode cX11_components 17 = .ok (.aload_n 0, 1) := by decide +kernel
theorem dX11_components_18 : decode cX11_components 18 = .ok (.iload_n 2, 1) := by decide +kernel
theorem dX11_components_19 : decode cX11_components 19 = .ok (.invokevirtual 123, 3) := by decide +kernel
theorem dX11_components_22 : decode cX11_components 22 = .ok (.ifCond .eq 7, 3) := by decide +kernel
theorem dX11_components_25 : decode cX11_components 25 = .ok (.iconst 1, 1) := by decide +kernel
theorem dX11_components_26 : decode cX11_components 26 = .ok (.goto 4, 3) := by decide +kernel
theorem dX11_components_29 : decode cX11_components 29 = .ok (.iconst 0, 1) := by decide +kernel
theorem dX11_components_30 : decode cX11_components 30 = .ok (.iadd, 1) := by decide +kernel
theorem dX11_components_31 : decode cX11_components 31 = .ok (.istore_n 1, 1) := by decide +kernel
theorem dX11_components_32 : decode cX11_components 32 = .ok (.iinc 2 1, 3) := by decide +kernel
theorem dX11_components_35 : decode cX11_components 35 = .ok (.goto (-27), 3) := by decide +kernel
theorem dX11_components_38 : decode cX11_components 38 = .ok (.iload_n 1, 1) := by decide +kernel
theorem dX11_components_39 : decode cX11_components 39 = .ok (.ireturn, 1) := by decide +kernel
theorem dX11_componentAt_0 : decode cX11_componentAt 0 = .ok (.iconst 0, 1) := by decide +kernel
theorem dX11_componentAt_1 : decode cX11_componentAt 1 = .ok (.istore_n 2, 1) := by decide +kernel
theorem dX11_componentAt_2 : decode cX11_componentAt 2 = .ok (.iconst 0, 1) := by decide +kernel
theorem dX11_componentAt_3 : decode cX11_componentAt 3 = .ok (.istore_n 3, 1) := by decide +kernel
theorem dX11_componentAt_4 : decode cX11_componentAt 4 = .ok (.iload_n 3, 1) := by decide +kernel
theorem dX11_componentAt_5 : decode cX11_componentAt 5 = .ok (.aload_n 0, 1) := by decide +kernel
theorem dX11_componentAt_6 : decode cX11_componentAt 6 = .ok (.invokevirtual 92, 3) := by decide +kernel
theorem dX11_componentAt_9 : decode cX11_componentAt 9 = .ok (.if_icmp .ge 51, 3) := by decide +kernel
theorem dX11_componentAt_12 : decode cX11_componentAt 12 = .ok (.iload_n 2, 1) := by decide +kernel
theorem dX11_componentAt_13 : decode cX11_componentAt 13 = .ok (.aload_n 0, 1) := by decide +kernel
theorem dX11_componentAt_14 : decode cX11_componentAt 14 = .ok (.iload_n 3, 1) := by decide +kernel
theorem dX11_componentAt_15 : decode cX11_componentAt 15 = .ok (.invokevirtual 123, 3) := by decide +kernel
theorem dX11_componentAt_18 : decode cX11_componentAt 18 = .ok (.ifCond .eq 33, 3) := by decide +kernel
theorem dX11_componentAt_21 : decode cX11_componentAt 21 = .ok (.aload_n 0, 1) := by decide +kernel
theorem dX11_componentAt_22 : decode cX11_componentAt 22 = .ok (.getfield 31, 3) := by decide +kernel
theorem dX11_componentAt_25 : decode cX11_componentAt 25 = .ok (.iload_n 3, 1) := by decide +kernel
theorem dX11_componentAt_26 : decode cX11_componentAt 26 = .ok (.iaload, 1) := by decide +kernel
theorem dX11_componentAt_27 : decode cX11_componentAt 27 = .ok (.iload_n 1, 1) := by decide +kernel
theorem dX11_componentAt_28 : decode cX11_componentAt 28 = .ok (.invokestatic 49, 3) := by decide +kernel
theorem dX11_componentAt_31 : decode cX11_componentAt 31 = .ok (.ifCond .eq 20, 3) := by decide +kernel
theorem dX11_componentAt_34 : decode cX11_componentAt 34 = .ok (.aload_n 0, 1) := by decide +kernel
theorem dX11_componentAt_35 : decode cX11_componentAt 35 = .ok (.getfield 31, 3) := by decide +kernel
theorem dX11_componentAt_38 : decode cX11_componentAt 38 = .ok (.iload_n 1, 1) := by decide +kernel
theorem dX11_componentAt_39 : decode cX11_componentAt 39 = .ok (.iaload, 1) := by decide +kernel
theorem dX11_componentAt_40 : decode cX11_componentAt 40 = .ok (.iload_n 3, 1) := by decide +kernel
theorem dX11_componentAt_41 : decode cX11_componentAt 41 = .ok (.invokestatic 49, 3) := by decide +kernel
theorem dX11_componentAt_44 : decode cX11_componentAt 44 = .ok (.ifCond .ne 7, 3) := by decide +kernel
theorem dX11_componentAt_47 : decode cX11_componentAt 47 = .ok (.iconst 1, 1) := by decide +kernel
theorem dX11_componentAt_48 : decode cX11_componentAt 48 = .ok (.goto 4, 3) := by decide +kernel
theorem dX11_componentAt_51 : decode cX11_componentAt 51 = .ok (.iconst 0, 1) := by decide +kernel
theorem dX11_componentAt_52 : decode cX11_componentAt 52 = .ok (.iadd, 1) := by decide +kernel
theorem dX11_componentAt_53 : decode cX11_componentAt 53 = .ok (.istore_n 2, 1) := by decide +kernel
theorem dX11_componentAt_54 : decode cX11_componentAt 54 = .ok (.iinc 3 1, 3) := by decide +kernel
theorem dX11_componentAt_57 : decode cX11_componentAt 57 = .ok (.goto (-53), 3) := by decide +kernel
theorem dX11_componentAt_60 : decode cX11_componentAt 60 = .ok (.iload_n 2, 1) := by decide +kernel
theorem dX11_componentAt_61 : decode cX11_componentAt 61 = .ok (.ireturn, 1) := by decide +kernel
theorem dX11_componentOf_0 : decode cX11_componentOf 0 = .ok (.aload_n 0, 1) := by decide +kernel
theorem dX11_componentOf_1 : decode cX11_componentOf 1 = .ok (.iload_n 1, 1) := by decide +kernel
theorem dX11_componentOf_2 : decode cX11_componentOf 2 = .ok (.invokevirtual 57, 3) := by decide +kernel
theorem dX11_componentOf_5 : decode cX11_componentOf 5 = .ok (.ifCond .ne 5, 3) := by decide +kernel
theorem dX11_componentOf_8 : decode cX11_componentOf 8 = .ok (.iconst (-1), 1) := by decide +kernel
theorem dX11_componentOf_9 : decode cX11_componentOf 9 = .ok (.ireturn, 1) := by decide +kernel
theorem dX11_componentOf_10 : decode cX11_componentOf 10 = .ok (.aload_n 0, 1) := by decide +kernel
theorem dX11_componentOf_11 : decode cX11_componentOf 11 = .ok (.invokevirtual 120, 3) := by decide +kernel
theorem dX11_componentOf_14 : decode cX11_componentOf 14 = .ok (.aload_n 0, 1) := by decide +kernel
theorem dX11_componentOf_15 : decode cX11_componentOf 15 = .ok (.iload_n 1, 1) := by decide +kernel
theorem dX11_componentOf_16 : decode cX11_componentOf 16 = .ok (.invokevirtual 126, 3) := by decide +kernel
theorem dX11_componentOf_19 : decode cX11_componentOf 19 = .ok (.ireturn, 1) := by decide +kernel
theorem dX11_countsPaths_0 : decode cX11_countsPaths 0 = .ok (.iconst 1, 1) := by decide +kernel
theorem dX11_countsPaths_1 : decode cX11_countsPaths 1 = .ok (.istore_n 1, 1) := by decide +kernel
theorem dX11_countsPaths_2 : decode cX11_countsPaths 2 = .ok (.iload_n 1, 1) := by decide +kernel
theorem dX11_countsPaths_3 : decode cX11_countsPaths 3 = .ok (.aload_n 0, 1) := by decide +kernel
theorem dX11_countsPaths_4 : decode cX11_countsPaths 4 = .ok (.invokevirtual 111, 3) := by decide +kernel
theorem dX11_countsPaths_7 : decode cX11_countsPaths 7 = .ok (.if_icmp .gt 127, 3) := by decide +kernel
theorem dX11_countsPaths_10 : decode cX11_countsPaths 10 = .ok (.iconst 0, 1) := by decide +kernel
theorem dX11_countsPaths_11 : decode cX11_countsPaths 11 = .ok (.istore_n 2, 1) := by decide +kernel
theorem dX11_countsPaths_12 : decode cX11_countsPaths 12 = .ok (.iload_n 2, 1) := by decide +kernel
theorem dX11_countsPaths_13 : decode cX11_countsPaths 13 = .ok (.aload_n 0, 1) := by decide +kernel
theorem dX11_countsPaths_14 : decode cX11_countsPaths 14 = .ok (.invokevirtual 92, 3) := by decide +kernel
theorem dX11_countsPaths_17 : decode cX11_countsPaths 17 = .ok (.if_icmp .ge 111, 3) := by decide +kernel
theorem dX11_countsPaths_20 : decode cX11_countsPaths 20 = .ok (.iload_n 1, 1) := by decide +kernel
theorem dX11_countsPaths_21 : decode cX11_countsPaths 21 = .ok (.iconst 1, 1) := by decide +kernel
theorem dX11_countsPaths_22 : decode cX11_countsPaths 22 = .ok (.iload_n 2, 1) := by decide +kernel
theorem dX11_countsPaths_23 : decode cX11_countsPaths 23 = .ok (.ishl, 1) := by decide +kernel
theorem dX11_countsPaths_24 : decode cX11_countsPaths 24 = .ok (.iconst (-1), 1) := by decide +kernel
theorem dX11_countsPaths_25 : decode cX11_countsPaths 25 = .ok (.ixor, 1) := by decide +kernel
theorem dX11_countsPaths_26 : decode cX11_countsPaths 26 = .ok (.iand, 1) := by decide +kernel
theorem dX11_countsPaths_27 : decode cX11_countsPaths 27 = .ok (.istore_n 3, 1) := by decide +kernel
theorem dX11_countsPaths_28 : decode cX11_countsPaths 28 = .ok (.iload_n 1, 1) := by decide +kernel
theorem dX11_countsPaths_29 : decode cX11_countsPaths 29 = .ok (.iload_n 2, 1) := by decide +kernel
theorem dX11_countsPaths_30 : decode cX11_countsPaths 30 = .ok (.invokestatic 49, 3) := by decide +kernel
theorem dX11_countsPaths_33 : decode cX11_countsPaths 33 = .ok (.ifCond .eq 11, 3) := by decide +kernel
theorem dX11_countsPaths_36 : decode cX11_countsPaths 36 = .ok (.iload_n 3, 1) := by decide +kernel
theorem dX11_countsPaths_37 : decode cX11_countsPaths 37 = .ok (.ifCond .ne 7, 3) := by decide +kernel
theorem dX11_countsPaths_40 : decode cX11_countsPaths 40 = .ok (.iconst 1, 1) := by decide +kernel
theorem dX11_countsPaths_41 : decode cX11_countsPaths 41 = .ok (.goto 4, 3) := by decide +kernel
theorem dX11_countsPaths_44 : decode cX11_countsPaths 44 = .ok (.iconst 0, 1) := by decide +kernel
theorem dX11_countsPaths_45 : decode cX11_countsPaths 45 = .ok (.istore 4, 2) := by decide +kernel
theorem dX11_countsPaths_47 : decode cX11_countsPaths 47 = .ok (.iconst 0, 1) := by decide +kernel
theorem dX11_countsPaths_48 : decode cX11_countsPaths 48 = .ok (.istore 5, 2) := by decide +kernel
theorem dX11_countsPaths_50 : decode cX11_countsPaths 50 = .ok (.iload 5, 2) := by decide +kernel
theorem dX11_countsPaths_52 : decode cX11_countsPaths 52 = .ok (.aload_n 0, 1) := by decide +kernel
theorem dX11_countsPaths_53 : decode cX11_countsPaths 53 = .ok (.invokevirtual 92, 3) := by decide +kernel
theorem dX11_countsPaths_56 : decode cX11_countsPaths 56 = .ok (.if_icmp .ge 53, 3) := by decide +kernel
theorem dX11_countsPaths_59 : decode cX11_countsPaths 59 = .ok (.iload_n 1, 1) := by decide +kernel
theorem dX11_countsPaths_60 : decode cX11_countsPaths 60 = .ok (.iload_n 2, 1) := by decide +kernel
theorem dX11_countsPaths_61 : decode cX11_countsPaths 61 = .ok (.invokestatic 49, 3) := by decide +kernel
theorem dX11_countsPaths_64 : decode cX11_countsPaths 64 = .ok (.ifCond .eq 45, 3) := by decide +kernel
theorem dX11_countsPaths_67 : decode cX11_countsPaths 67 = .ok (.iload 4, 2) := by decide +kernel
theorem dX11_countsPaths_69 : decode cX11_countsPaths 69 = .ok (.iload_n 3, 1) := by decide +kernel
theorem dX11_countsPaths_70 : decode cX11_countsPaths 70 = .ok (.aload_n 0, 1) := by decide +kernel
theorem dX11_countsPaths_71 : decode cX11_countsPaths 71 = .ok (.iload_n 2, 1) := by decide +kernel
theorem dX11_countsPaths_72 : decode cX11_countsPaths 72 = .ok (.invokevirtual 45, 3) := by decide +kernel
theorem dX11_countsPaths_75 : decode cX11_countsPaths 75 = .ok (.iand, 1) := by decide +kernel
theorem dX11_countsPaths_76 : decode cX11_countsPaths 76 = .ok (.iload 5, 2) := by decide +kernel
theorem dX11_countsPaths_78 : decode cX11_countsPaths 78 = .ok (.invokestatic 49, 3) := by decide +kernel
theorem dX11_countsPaths_81 : decode cX11_countsPaths 81 = .ok (.ifCond .eq 18, 3) := by decide +kernel
theorem dX11_countsPaths_84 : decode cX11_countsPaths 84 = .ok (.aload_n 0, 1) := by decide +kernel
theorem dX11_countsPaths_85 : decode cX11_countsPaths 85 = .ok (.getfield 25, 3) := by decide +kernel
theorem dX11_countsPaths_88 : decode cX11_countsPaths 88 = .ok (.bipush 10, 2) := by decide +kernel
theorem dX11_countsPaths_90 : decode cX11_countsPaths 90 = .ok (.iload_n 3, 1) := by decide +kernel
theorem dX11_countsPaths_91 : decode cX11_countsPaths 91 = .ok (.imul, 1) := by decide +kernel
theorem dX11_countsPaths_92 : decode cX11_countsPaths 92 = .ok (.iload 5, 2) := by decide +kernel
theorem dX11_countsPaths_94 : decode cX11_countsPaths 94 = .ok (.iadd, 1) := by decide +kernel
theorem dX11_countsPaths_95 : decode cX11_countsPaths 95 = .ok (.iaload, 1) := by decide +kernel
theorem dX11_countsPaths_96 : decode cX11_countsPaths 96 = .ok (.goto 4, 3) := by decide +kernel
theorem dX11_countsPaths_99 : decode cX11_countsPaths 99 = .ok (.iconst 0, 1) := by decide +kernel
theorem dX11_countsPaths_100 : decode cX11_countsPaths 100 = .ok (.iadd, 1) := by decide +kernel
theorem dX11_countsPaths_101 : decode cX11_countsPaths 101 = .ok (.istore 4, 2) := by decide +kernel
theorem dX11_countsPaths_103 : decode cX11_countsPaths 103 = .ok (.iinc 5 1, 3) := by decide +kernel
theorem dX11_countsPaths_106 : decode cX11_countsPaths 106 = .ok (.goto (-56), 3) := by decide +kernel
theorem dX11_countsPaths_109 : decode cX11_countsPaths 109 = .ok (.aload_n 0, 1) := by decide +kernel
theorem dX11_countsPaths_110 : decode cX11_countsPaths 110 = .ok (.getfield 25, 3) := by decide +kernel
theorem dX11_countsPaths_113 : decode cX11_countsPaths 113 = .ok (.bipush 10, 2) := by decide +kernel
theorem dX11_countsPaths_115 : decode cX11_countsPaths 115 = .ok (.iload_n 1, 1) := by decide +kernel
theorem dX11_countsPaths_116 : decode cX11_countsPaths 116 = .ok (.imul, 1) := by decide +kernel
theorem dX11_countsPaths_117 : decode cX11_countsPaths 117 = .ok (.iload_n 2, 1) := by decide +kernel
theorem dX11_countsPaths_118 : decode cX11_countsPaths 118 = .ok (.iadd, 1) := by decide +kernel
theorem dX11_countsPaths_119 : decode cX11_countsPaths 119 = .ok (.iload 4, 2) := by decide +kernel
theorem dX11_countsPaths_121 : decode cX11_countsPaths 121 = .ok (.iastore, 1) := by decide +kernel
theorem dX11_countsPaths_122 : decode cX11_countsPaths 122 = .ok (.iinc 2 1, 3) := by decide +kernel
theorem dX11_countsPaths_125 : decode cX11_countsPaths 125 = .ok (.goto (-113), 3) := by decide +kernel
theorem dX11_countsPaths_128 : decode cX11_countsPaths 128 = .ok (.iinc 1 1, 3) := by decide +kernel
theorem dX11_countsPaths_131 : decode cX11_countsPaths 131 = .ok (.goto (-129), 3) := by decide +kernel
theorem dX11_countsPaths_134 : decode cX11_countsPaths 134 = .ok (.return_, 1) := by decide +kernel
theorem dX11_spanningPaths_0 : decode cX11_spanningPaths 0 = .ok (.aload_n 0, 1) := by decide +kernel
theorem dX11_spanningPaths_1 : decode cX11_spanningPaths 1 = .ok (.invokevirtual 129, 3) := by decide +kernel
theorem dX11_spanningPaths_4 : decode cX11_spanningPaths 4 = .ok (.iconst 0, 1) := by decide +kernel
theorem dX11_spanningPaths_5 : decode cX11_spanningPaths 5 = .ok (.istore_n 1, 1) := by decide +kernel
theorem dX11_spanningPaths_6 : decode cX11_spanningPaths 6 = .ok (.iconst 0, 1) := by decide +kernel
theorem dX11_spanningPaths_7 : decode cX11_spanningPaths 7 = .ok (.istore_n 2, 1) := by decide +kernel
theorem dX11_spanningPaths_8 : decode cX11_spanningPaths 8 = .ok (.iload_n 2, 1) := by decide +kernel
theorem dX11_spanningPaths_9 : decode cX11_spanningPaths 9 = .ok (.aload_n 0, 1) := by decide +kernel
theorem dX11_spanningPaths_10 : decode cX11_spanningPaths 10 = .ok (.invokevirtual 92, 3) := by decide +kernel
theorem dX11_spanningPaths_13 : decode cX11_spanningPaths 13 = .ok (.if_icmp .ge 26, 3) := by decide +kernel
theorem dX11_spanningPaths_16 : decode cX11_spanningPaths 16 = .ok (.iload_n 1, 1) := by decide +kernel
theorem dX11_spanningPaths_17 : decode cX11_spanningPaths 17 = .ok (.aload_n 0, 1) := by decide +kernel
theorem dX11_spanningPaths_18 : decode cX11_spanningPaths 18 = .ok (.getfield 25, 3) := by decide +kernel
theorem dX11_spanningPaths_21 : decode cX11_spanningPaths 21 = .ok (.bipush 10, 2) := by decide +kernel
theorem dX11_spanningPaths_23 : decode cX11_spanningPaths 23 = .ok (.aload_n 0, 1) := by decide +kernel
theorem dX11_spanningPaths_24 : decode cX11_spanningPaths 24 = .ok (.invokevirtual 111, 3) := by decide +kernel
theorem dX11_spanningPaths_27 : decode cX11_spanningPaths 27 = .ok (.imul, 1) := by decide +kernel
theorem dX11_spanningPaths_28 : decode cX11_spanningPaths 28 = .ok (.iload_n 2, 1) := by decide +kernel
theorem dX11_spanningPaths_29 : decode cX11_spanningPaths 29 = .ok (.iadd, 1) := by decide +kernel
theorem dX11_spanningPaths_30 : decode cX11_spanningPaths 30 = .ok (.iaload, 1) := by decide +kernel
theorem dX11_spanningPaths_31 : decode cX11_spanningPaths 31 = .ok (.iadd, 1) := by decide +kernel
theorem dX11_spanningPaths_32 : decode cX11_spanningPaths 32 = .ok (.istore_n 1, 1) := by decide +kernel
theorem dX11_spanningPaths_33 : decode cX11_spanningPaths 33 = .ok (.iinc 2 1, 3) := by decide +kernel
theorem dX11_spanningPaths_36 : decode cX11_spanningPaths 36 = .ok (.goto (-28), 3) := by decide +kernel
theorem dX11_spanningPaths_39 : decode cX11_spanningPaths 39 = .ok (.iload_n 1, 1) := by decide +kernel
theorem dX11_spanningPaths_40 : decode cX11_spanningPaths 40 = .ok (.ireturn, 1) := by decide +kernel
theorem dX11_pathAt_0 : decode cX11_pathAt 0 = .ok (.aload_n 0, 1) := by decide +kernel
theorem dX11_pathAt_1 : decode cX11_pathAt 1 = .ok (.iload_n 1, 1) := by decide +kernel
theorem dX11_pathAt_2 : decode cX11_pathAt 2 = .ok (.invokevirtual 57, 3) := by decide +kernel
theorem dX11_pathAt_5 : decode cX11_pathAt 5 = .ok (.ifCond .ne 5, 3) := by decide +kernel
theorem dX11_pathAt_8 : decode cX11_pathAt 8 = .ok (.iconst (-1), 1) := by decide +kernel
theorem dX11_pathAt_9 : decode cX11_pathAt 9 = .ok (.ireturn, 1) := by decide +kernel
theorem dX11_pathAt_10 : decode cX11_pathAt 10 = .ok (.aload_n 0, 1) := by decide +kernel
theorem dX11_pathAt_11 : decode cX11_pathAt 11 = .ok (.invokevirtual 129, 3) := by decide +kernel
theorem dX11_pathAt_14 : decode cX11_pathAt 14 = .ok (.aload_n 0, 1) := by decide +kernel
theorem dX11_pathAt_15 : decode cX11_pathAt 15 = .ok (.invokevirtual 111, 3) := by decide +kernel
theorem dX11_pathAt_18 : decode cX11_pathAt 18 = .ok (.istore_n 2, 1) := by decide +kernel
theorem dX11_pathAt_19 : decode cX11_pathAt 19 = .ok (.aload_n 0, 1) := by decide +kernel
theorem dX11_pathAt_20 : decode cX11_pathAt 20 = .ok (.invokevirtual 111, 3) := by decide +kernel
theorem dX11_pathAt_23 : decode cX11_pathAt 23 = .ok (.istore_n 3, 1) := by decide +kernel
theorem dX11_pathAt_24 : decode cX11_pathAt 24 = .ok (.iconst 0, 1) := by decide +kernel
theorem dX11_pathAt_25 : decode cX11_pathAt 25 = .ok (.istore 4, 2) := by decide +kernel
theorem dX11_pathAt_27 : decode cX11_pathAt 27 = .ok (.iconst 0, 1) := by decide +kernel
theorem dX11_pathAt_28 : decode cX11_pathAt 28 = .ok (.istore 5, 2) := by decide +kernel
theorem dX11_pathAt_30 : decode cX11_pathAt 30 = .ok (.iload 5, 2) := by decide +kernel
theorem dX11_pathAt_32 : decode cX11_pathAt 32 = .ok (.iload_n 1, 1) := by decide +kernel
theorem dX11_pathAt_33 : decode cX11_pathAt 33 = .ok (.if_icmp .gt 60, 3) := by decide +kernel
theorem dX11_pathAt_36 : decode cX11_pathAt 36 = .ok (.iconst 0, 1) := by decide +kernel
theorem dX11_pathAt_37 : decode cX11_pathAt 37 = .ok (.istore 4, 2) := by decide +kernel
theorem dX11_pathAt_39 : decode cX11_pathAt 39 = .ok (.iload_n 3, 1) := by decide +kernel
theorem dX11_pathAt_40 : decode cX11_pathAt 40 = .ok (.iload 4, 2) := by decide +kernel
theorem dX11_pathAt_42 : decode cX11_pathAt 42 = .ok (.invokestatic 49, 3) := by decide +kernel
theorem dX11_pathAt_45 : decode cX11_pathAt 45 = .ok (.ifCond .eq 18, 3) := by decide +kernel
theorem dX11_pathAt_48 : decode cX11_pathAt 48 = .ok (.aload_n 0, 1) := by decide +kernel
theorem dX11_pathAt_49 : decode cX11_pathAt 49 = .ok (.getfield 25, 3) := by decide +kernel
theorem dX11_pathAt_52 : decode cX11_pathAt 52 = .ok (.bipush 10, 2) := by decide +kernel
theorem dX11_pathAt_54 : decode cX11_pathAt 54 = .ok (.iload_n 2, 1) := by decide +kernel
theorem dX11_pathAt_55 : decode cX11_pathAt 55 = .ok (.imul, 1) := by decide +kernel
theorem dX11_pathAt_56 : decode cX11_pathAt 56 = .ok (.iload 4, 2) := by decide +kernel
theorem dX11_pathAt_58 : decode cX11_pathAt 58 = .ok (.iadd, 1) := by decide +kernel
theorem dX11_pathAt_59 : decode cX11_pathAt 59 = .ok (.iaload, 1) := by decide +kernel
theorem dX11_pathAt_60 : decode cX11_pathAt 60 = .ok (.ifCond .ne 9, 3) := by decide +kernel
theorem dX11_pathAt_63 : decode cX11_pathAt 63 = .ok (.iinc 4 1, 3) := by decide +kernel
theorem dX11_pathAt_66 : decode cX11_pathAt 66 = .ok (.goto (-27), 3) := by decide +kernel
theorem dX11_pathAt_69 : decode cX11_pathAt 69 = .ok (.iload_n 2, 1) := by decide +kernel
theorem dX11_pathAt_70 : decode cX11_pathAt 70 = .ok (.iconst 1, 1) := by decide +kernel
theorem dX11_pathAt_71 : decode cX11_pathAt 71 = .ok (.iload 4, 2) := by decide +kernel
theorem dX11_pathAt_73 : decode cX11_pathAt 73 = .ok (.ishl, 1) := by decide +kernel
theorem dX11_pathAt_74 : decode cX11_pathAt 74 = .ok (.iconst (-1), 1) := by decide +kernel
theorem dX11_pathAt_75 : decode cX11_pathAt 75 = .ok (.ixor, 1) := by decide +kernel
theorem dX11_pathAt_76 : decode cX11_pathAt 76 = .ok (.iand, 1) := by decide +kernel
theorem dX11_pathAt_77 : decode cX11_pathAt 77 = .ok (.istore_n 2, 1) := by decide +kernel
theorem dX11_pathAt_78 : decode cX11_pathAt 78 = .ok (.iload_n 2, 1) := by decide +kernel
theorem dX11_pathAt_79 : decode cX11_pathAt 79 = .ok (.aload_n 0, 1) := by decide +kernel
theorem dX11_pathAt_80 : decode cX11_pathAt 80 = .ok (.iload 4, 2) := by decide +kernel
theorem dX11_pathAt_82 : decode cX11_pathAt 82 = .ok (.invokevirtual 45, 3) := by decide +kernel
theorem dX11_pathAt_85 : decode cX11_pathAt 85 = .ok (.iand, 1) := by decide +kernel
theorem dX11_pathAt_86 : decode cX11_pathAt 86 = .ok (.istore_n 3, 1) := by decide +kernel
theorem dX11_pathAt_87 : decode cX11_pathAt 87 = .ok (.iinc 5 1, 3) := by decide +kernel
theorem dX11_pathAt_90 : decode cX11_pathAt 90 = .ok (.goto (-60), 3) := by decide +kernel
theorem dX11_pathAt_93 : decode cX11_pathAt 93 = .ok (.iload 4, 2) := by decide +kernel
theorem dX11_pathAt_95 : decode cX11_pathAt 95 = .ok (.ireturn, 1) := by decide +kernel
theorem dX11_closes_0 : decode cX11_closes 0 = .ok (.aload_n 0, 1) := by decide +kernel
theorem dX11_closes_1 : decode cX11_closes 1 = .ok (.invokevirtual 111, 3) := by decide +kernel
theorem dX11_closes_4 : decode cX11_closes 4 = .ok (.istore_n 3, 1) := by decide +kernel
theorem dX11_closes_5 : decode cX11_closes 5 = .ok (.iload_n 3, 1) := by decide +kernel
theorem dX11_closes_6 : decode cX11_closes 6 = .ok (.ifCond .le 167, 3) := by decide +kernel
theorem dX11_closes_9 : decode cX11_closes 9 = .ok (.iconst 0, 1) := by decide +kernel
theorem dX11_closes_10 : decode cX11_closes 10 = .ok (.istore 4, 2) := by decide +kernel
theorem dX11_closes_12 : decode cX11_closes 12 = .ok (.iload 4, 2) := by decide +kernel
theorem dX11_closes_14 : decode cX11_closes 14 = .ok (.aload_n 0, 1) := by decide +kernel
theorem dX11_closes_15 : decode cX11_closes 15 = .ok (.invokevirtual 92, 3) := by decide +kernel
theorem dX11_closes_18 : decode cX11_closes 18 = .ok (.if_icmp .ge 149, 3) := by decide +kernel
theorem dX11_closes_21 : decode cX11_closes 21 = .ok (.iconst 0, 1) := by decide +kernel
theorem dX11_closes_22 : decode cX11_closes 22 = .ok (.istore 5, 2) := by decide +kernel
theorem dX11_closes_24 : decode cX11_closes 24 = .ok (.iload_n 3, 1) := by decide +kernel
theorem dX11_closes_25 : decode cX11_closes 25 = .ok (.iload 4, 2) := by decide +kernel
theorem dX11_closes_27 : decode cX11_closes 27 = .ok (.invokestatic 49, 3) := by decide +kernel
theorem dX11_closes_30 : decode cX11_closes 30 = .ok (.ifCond .eq 23, 3) := by decide +kernel
theorem dX11_closes_33 : decode cX11_closes 33 = .ok (.iload_n 3, 1) := by decide +kernel
theorem dX11_closes_34 : decode cX11_closes 34 = .ok (.invokestatic 98, 3) := by decide +kernel
theorem dX11_closes_37 : decode cX11_closes 37 = .ok (.iload_n 2, 1) := by decide +kernel
theorem dX11_closes_38 : decode cX11_closes 38 = .ok (.if_icmp .ne 15, 3) := by decide +kernel
theorem dX11_closes_41 : decode cX11_closes 41 = .ok (.aload_n 0, 1) := by decide +kernel
theorem dX11_closes_42 : decode cX11_closes 42 = .ok (.iload 4, 2) := by decide +kernel
theorem dX11_closes_44 : decode cX11_closes 44 = .ok (.iload_n 1, 1) := by decide +kernel
theorem dX11_closes_45 : decode cX11_closes 45 = .ok (.invokevirtual 69, 3) := by decide +kernel
theorem dX11_closes_48 : decode cX11_closes 48 = .ok (.istore 5, 2) := by decide +kernel
theorem dX11_closes_50 : decode cX11_closes 50 = .ok (.goto 89, 3) := by decide +kernel
theorem dX11_closes_53 : decode cX11_closes 53 = .ok (.iload_n 3, 1) := by decide +kernel
theorem dX11_closes_54 : decode cX11_closes 54 = .ok (.iload 4, 2) := by decide +kernel
theorem dX11_closes_56 : decode cX11_closes 56 = .ok (.invokestatic 49, 3) := by decide +kernel
theorem dX11_closes_59 : decode cX11_closes 59 = .ok (.ifCond .eq 80, 3) := by decide +kernel
theorem dX11_closes_62 : decode cX11_closes 62 = .ok (.iload_n 3, 1) := by decide +kernel
theorem dX11_closes_63 : decode cX11_closes 63 = .ok (.invokestatic 98, 3) := by decide +kernel
theorem dX11_closes_66 : decode cX11_closes 66 = .ok (.iload_n 2, 1) := by decide +kernel
theorem dX11_closes_67 : decode cX11_closes 67 = .ok (.if_icmp .ge 72, 3) := by decide +kernel
theorem dX11_closes_70 : decode cX11_closes 70 = .ok (.iconst 0, 1) := by decide +kernel
theorem dX11_closes_71 : decode cX11_closes 71 = .ok (.istore 6, 2) := by decide +kernel
theorem dX11_closes_73 : decode cX11_closes 73 = .ok (.iload 6, 2) := by decide +kernel
theorem dX11_closes_75 : decode cX11_closes 75 = .ok (.aload_n 0, 1) := by decide +kernel
theorem dX11_closes_76 : decode cX11_closes 76 = .ok (.invokevirtual 92, 3) := by decide +kernel
theorem dX11_closes_79 : decode cX11_closes 79 = .ok (.if_icmp .ge 60, 3) := by decide +kernel
theorem dX11_closes_82 : decode cX11_closes 82 = .ok (.iload 5, 2) := by decide +kernel
theorem dX11_closes_84 : decode cX11_closes 84 = .ok (.ifCond .ne 42, 3) := by decide +kernel
theorem dX11_closes_87 : decode cX11_closes 87 = .ok (.aload_n 0, 1) := by decide +kernel
theorem dX11_closes_88 : decode cX11_closes 88 = .ok (.iload 4, 2) := by decide +kernel
theorem dX11_closes_90 : decode cX11_closes 90 = .ok (.invokevirtual 45, 3) := by decide +kernel
theorem dX11_closes_93 : decode cX11_closes 93 = .ok (.iload_n 3, 1) := by decide +kernel
theorem dX11_closes_94 : decode cX11_closes 94 = .ok (.iconst (-1), 1) := by decide +kernel
theorem dX11_closes_95 : decode cX11_closes 95 = .ok (.ixor, 1) := by decide +kernel
theorem dX11_closes_96 : decode cX11_closes 96 = .ok (.iand, 1) := by decide +kernel
theorem dX11_closes_97 : decode cX11_closes 97 = .ok (.iload 6, 2) := by decide +kernel
theorem dX11_closes_99 : decode cX11_closes 99 = .ok (.invokestatic 49, 3) := by decide +kernel
theorem dX11_closes_102 : decode cX11_closes 102 = .ok (.ifCond .eq 28, 3) := by decide +kernel
theorem dX11_closes_105 : decode cX11_closes 105 = .ok (.aload_n 0, 1) := by decide +kernel
theorem dX11_closes_106 : decode cX11_closes 106 = .ok (.getfield 25, 3) := by decide +kernel
theorem dX11_closes_109 : decode cX11_closes 109 = .ok (.bipush 10, 2) := by decide +kernel
theorem dX11_closes_111 : decode cX11_closes 111 = .ok (.iload_n 3, 1) := by decide +kernel
theorem dX11_closes_112 : decode cX11_closes 112 = .ok (.iconst 1, 1) := by decide +kernel
theorem dX11_closes_113 : decode cX11_closes 113 = .ok (.iload 6, 2) := by decide +kernel
theorem dX11_closes_115 : decode cX11_closes 115 = .ok (.ishl, 1) := by decide +kernel
theorem dX11_closes_116 : decode cX11_closes 116 = .ok (.ior, 1) := by decide +kernel
theorem dX11_closes_117 : decode cX11_closes 117 = .ok (.imul, 1) := by decide +kernel
theorem dX11_closes_118 : decode cX11_closes 118 = .ok (.iload 6, 2) := by decide +kernel
theorem dX11_closes_120 : decode cX11_closes 120 = .ok (.iadd, 1) := by decide +kernel
theorem dX11_closes_121 : decode cX11_closes 121 = .ok (.iaload, 1) := by decide +kernel
theorem dX11_closes_122 : decode cX11_closes 122 = .ok (.iconst 1, 1) := by decide +kernel
theorem dX11_closes_123 : decode cX11_closes 123 = .ok (.if_icmp .ne 7, 3) := by decide +kernel
theorem dX11_closes_126 : decode cX11_closes 126 = .ok (.iconst 1, 1) := by decide +kernel
theorem dX11_closes_127 : decode cX11_closes 127 = .ok (.goto 4, 3) := by decide +kernel
theorem dX11_closes_130 : decode cX11_closes 130 = .ok (.iconst 0, 1) := by decide +kernel
theorem dX11_closes_131 : decode cX11_closes 131 = .ok (.istore 5, 2) := by decide +kernel
theorem dX11_closes_133 : decode cX11_closes 133 = .ok (.iinc 6 1, 3) := by decide +kernel
theorem dX11_closes_136 : decode cX11_closes 136 = .ok (.goto (-63), 3) := by decide +kernel
theorem dX11_closes_139 : decode cX11_closes 139 = .ok (.aload_n 0, 1) := by decide +kernel
theorem dX11_closes_140 : decode cX11_closes 140 = .ok (.getfield 25, 3) := by decide +kernel
theorem dX11_closes_143 : decode cX11_closes 143 = .ok (.bipush 10, 2) := by decide +kernel
theorem dX11_closes_145 : decode cX11_closes 145 = .ok (.iload_n 3, 1) := by decide +kernel
theorem dX11_closes_146 : decode cX11_closes 146 = .ok (.imul, 1) := by decide +kernel
theorem dX11_closes_147 : decode cX11_closes 147 = .ok (.iload 4, 2) := by decide +kernel
theorem dX11_closes_149 : decode cX11_closes 149 = .ok (.iadd, 1) := by decide +kernel
theorem dX11_closes_150 : decode cX11_closes 150 = .ok (.iload 5, 2) := by decide +kernel
theorem dX11_closes_152 : decode cX11_closes 152 = .ok (.ifCond .eq 7, 3) := by decide +kernel
theorem dX11_closes_155 : decode cX11_closes 155 = .ok (.iconst 1, 1) := by decide +kernel
theorem dX11_closes_156 : decode cX11_closes 156 = .ok (.goto 4, 3) := by decide +kernel
theorem dX11_closes_159 : decode cX11_closes 159 = .ok (.iconst 0, 1) := by decide +kernel
theorem dX11_closes_160 : decode cX11_closes 160 = .ok (.iastore, 1) := by decide +kernel
theorem dX11_closes_161 : decode cX11_closes 161 = .ok (.iinc 4 1, 3) := by decide +kernel
theorem dX11_closes_164 : decode cX11_closes 164 = .ok (.goto (-152), 3) := by decide +kernel
theorem dX11_closes_167 : decode cX11_closes 167 = .ok (.iinc 3 (-1), 3) := by decide +kernel
theorem dX11_closes_170 : decode cX11_closes 170 = .ok (.goto (-165), 3) := by decide +kernel
theorem dX11_closes_173 : decode cX11_closes 173 = .ok (.return_, 1) := by decide +kernel
theorem dX11_isClosed_0 : decode cX11_isClosed 0 = .ok (.aload_n 0, 1) := by decide +kernel
theorem dX11_isClosed_1 : decode cX11_isClosed 1 = .ok (.getfield 25, 3) := by decide +kernel
theorem dX11_isClosed_4 : decode cX11_isClosed 4 = .ok (.bipush 10, 2) := by decide +kernel
theorem dX11_isClosed_6 : decode cX11_isClosed 6 = .ok (.iconst 1, 1) := by decide +kernel
theorem dX11_isClosed_7 : decode cX11_isClosed 7 = .ok (.iload_n 1, 1) := by decide +kernel
theorem dX11_isClosed_8 : decode cX11_isClosed 8 = .ok (.ishl, 1) := by decide +kernel
theorem dX11_isClosed_9 : decode cX11_isClosed 9 = .ok (.imul, 1) := by decide +kernel
theorem dX11_isClosed_10 : decode cX11_isClosed 10 = .ok (.iload_n 1, 1) := by decide +kernel
theorem dX11_isClosed_11 : decode cX11_isClosed 11 = .ok (.iadd, 1) := by decide +kernel
theorem dX11_isClosed_12 : decode cX11_isClosed 12 = .ok (.iaload, 1) := by decide +kernel
theorem dX11_isClosed_13 : decode cX11_isClosed 13 = .ok (.iconst 1, 1) := by decide +kernel
theorem dX11_isClosed_14 : decode cX11_isClosed 14 = .ok (.if_icmp .ne 7, 3) := by decide +kernel
theorem dX11_isClosed_17 : decode cX11_isClosed 17 = .ok (.iconst 1, 1) := by decide +kernel
theorem dX11_isClosed_18 : decode cX11_isClosed 18 = .ok (.goto 4, 3) := by decide +kernel
theorem dX11_isClosed_21 : decode cX11_isClosed 21 = .ok (.iconst 0, 1) := by decide +kernel
theorem dX11_isClosed_22 : decode cX11_isClosed 22 = .ok (.ireturn, 1) := by decide +kernel
theorem dX11_cycleAt_0 : decode cX11_cycleAt 0 = .ok (.aload_n 0, 1) := by decide +kernel
theorem dX11_cycleAt_1 : decode cX11_cycleAt 1 = .ok (.iload_n 1, 1) := by decide +kernel
theorem dX11_cycleAt_2 : decode cX11_cycleAt 2 = .ok (.invokevirtual 57, 3) := by decide +kernel
theorem dX11_cycleAt_5 : decode cX11_cycleAt 5 = .ok (.ifCond .eq 26, 3) := by decide +kernel
theorem dX11_cycleAt_8 : decode cX11_cycleAt 8 = .ok (.iload_n 2, 1) := by decide +kernel
theorem dX11_cycleAt_9 : decode cX11_cycleAt 9 = .ok (.iconst 3, 1) := by decide +kernel
theorem dX11_cycleAt_10 : decode cX11_cycleAt 10 = .ok (.aload_n 0, 1) := by decide +kernel
theorem dX11_cycleAt_11 : decode cX11_cycleAt 11 = .ok (.invokevirtual 92, 3) := by decide +kernel
theorem dX11_cycleAt_14 : decode cX11_cycleAt 14 = .ok (.invokestatic 53, 3) := by decide +kernel
theorem dX11_cycleAt_17 : decode cX11_cycleAt 17 = .ok (.ifCond .eq 14, 3) := by decide +kernel
theorem dX11_cycleAt_20 : decode cX11_cycleAt 20 = .ok (.iload_n 3, 1) := by decide +kernel
theorem dX11_cycleAt_21 : decode cX11_cycleAt 21 = .ok (.iconst 0, 1) := by decide +kernel
theorem dX11_cycleAt_22 : decode cX11_cycleAt 22 = .ok (.iload_n 2, 1) := by decide +kernel
theorem dX11_cycleAt_23 : decode cX11_cycleAt 23 = .ok (.iconst 1, 1) := by decide +kernel
theorem dX11_cycleAt_24 : decode cX11_cycleAt 24 = .ok (.isub, 1) := by decide +kernel
theorem dX11_cycleAt_25 : decode cX11_cycleAt 25 = .ok (.invokestatic 53, 3) := by decide +kernel
theorem dX11_cycleAt_28 : decode cX11_cycleAt 28 = .ok (.ifCond .ne 5, 3) := by decide +kernel
theorem dX11_cycleAt_31 : decode cX11_cycleAt 31 = .ok (.iconst (-1), 1) := by decide +kernel
theorem dX11_cycleAt_32 : decode cX11_cycleAt 32 = .ok (.ireturn, 1) := by decide +kernel
theorem dX11_cycleAt_33 : decode cX11_cycleAt 33 = .ok (.aload_n 0, 1) := by decide +kernel
theorem dX11_cycleAt_34 : decode cX11_cycleAt 34 = .ok (.iload_n 1, 1) := by decide +kernel
theorem dX11_cycleAt_35 : decode cX11_cycleAt 35 = .ok (.iload_n 2, 1) := by decide +kernel
theorem dX11_cycleAt_36 : decode cX11_cycleAt 36 = .ok (.invokevirtual 132, 3) := by decide +kernel
theorem dX11_cycleAt_39 : decode cX11_cycleAt 39 = .ok (.aload_n 0, 1) := by decide +kernel
theorem dX11_cycleAt_40 : decode cX11_cycleAt 40 = .ok (.iload_n 1, 1) := by decide +kernel
theorem dX11_cycleAt_41 : decode cX11_cycleAt 41 = .ok (.invokevirtual 135, 3) := by decide +kernel
theorem dX11_cycleAt_44 : decode cX11_cycleAt 44 = .ok (.ifCond .ne 6, 3) := by decide +kernel
theorem dX11_cycleAt_47 : decode cX11_cycleAt 47 = .ok (.bipush (-4), 2) := by decide +kernel
theorem dX11_cycleAt_49 : decode cX11_cycleAt 49 = .ok (.ireturn, 1) := by decide +kernel
theorem dX11_cycleAt_50 : decode cX11_cycleAt 50 = .ok (.iload_n 1, 1) := by decide +kernel
theorem dX11_cycleAt_51 : decode cX11_cycleAt 51 = .ok (.istore 4, 2) := by decide +kernel
theorem dX11_cycleAt_53 : decode cX11_cycleAt 53 = .ok (.iconst 1, 1) := by decide +kernel
theorem dX11_cycleAt_54 : decode cX11_cycleAt 54 = .ok (.iload_n 1, 1) := by decide +kernel
theorem dX11_cycleAt_55 : decode cX11_cycleAt 55 = .ok (.ishl, 1) := by decide +kernel
theorem dX11_cycleAt_56 : decode cX11_cycleAt 56 = .ok (.istore 5, 2) := by decide +kernel
theorem dX11_cycleAt_58 : decode cX11_cycleAt 58 = .ok (.iconst 0, 1) := by decide +kernel
theorem dX11_cycleAt_59 : decode cX11_cycleAt 59 = .ok (.istore 6, 2) := by decide +kernel
theorem dX11_cycleAt_61 : decode cX11_cycleAt 61 = .ok (.iload 6, 2) := by decide +kernel
theorem dX11_cycleAt_63 : decode cX11_cycleAt 63 = .ok (.iload_n 3, 1) := by decide +kernel
theorem dX11_cycleAt_64 : decode cX11_cycleAt 64 = .ok (.if_icmp .ge 71, 3) := by decide +kernel
theorem dX11_cycleAt_67 : decode cX11_cycleAt 67 = .ok (.iconst 0, 1) := by decide +kernel
theorem dX11_cycleAt_68 : decode cX11_cycleAt 68 = .ok (.istore 7, 2) := by decide +kernel
theorem dX11_cycleAt_70 : decode cX11_cycleAt 70 = .ok (.aload_n 0, 1) := by decide +kernel
theorem dX11_cycleAt_71 : decode cX11_cycleAt 71 = .ok (.iload 4, 2) := by decide +kernel
theorem dX11_cycleAt_73 : decode cX11_cycleAt 73 = .ok (.invokevirtual 45, 3) := by decide +kernel
theorem dX11_cycleAt_76 : decode cX11_cycleAt 76 = .ok (.iload 5, 2) := by decide +kernel
theorem dX11_cycleAt_78 : decode cX11_cycleAt 78 = .ok (.iconst (-1), 1) := by decide +kernel
theorem dX11_cycleAt_79 : decode cX11_cycleAt 79 = .ok (.ixor, 1) := by decide +kernel
theorem dX11_cycleAt_80 : decode cX11_cycleAt 80 = .ok (.iand, 1) := by decide +kernel
theorem dX11_cycleAt_81 : decode cX11_cycleAt 81 = .ok (.iload 7, 2) := by decide +kernel
theorem dX11_cycleAt_83 : decode cX11_cycleAt 83 = .ok (.invokestatic 49, 3) := by decide +kernel
theorem dX11_cycleAt_86 : decode cX11_cycleAt 86 = .ok (.ifCond .eq 24, 3) := by decide +kernel
theorem dX11_cycleAt_89 : decode cX11_cycleAt 89 = .ok (.aload_n 0, 1) := by decide +kernel
theorem dX11_cycleAt_90 : decode cX11_cycleAt 90 = .ok (.getfield 25, 3) := by decide +kernel
theorem dX11_cycleAt_93 : decode cX11_cycleAt 93 = .ok (.bipush 10, 2) := by decide +kernel
theorem dX11_cycleAt_95 : decode cX11_cycleAt 95 = .ok (.iload 5, 2) := by decide +kernel
theorem dX11_cycleAt_97 : decode cX11_cycleAt 97 = .ok (.iconst 1, 1) := by decide +kernel
theorem dX11_cycleAt_98 : decode cX11_cycleAt 98 = .ok (.iload 7, 2) := by decide +kernel
theorem dX11_cycleAt_100 : decode cX11_cycleAt 100 = .ok (.ishl, 1) := by decide +kernel
theorem dX11_cycleAt_101 : decode cX11_cycleAt 101 = .ok (.ior, 1) := by decide +kernel
theorem dX11_cycleAt_102 : decode cX11_cycleAt 102 = .ok (.imul, 1) := by decide +kernel
theorem dX11_cycleAt_103 : decode cX11_cycleAt 103 = .ok (.iload 7, 2) := by decide +kernel
theorem dX11_cycleAt_105 : decode cX11_cycleAt 105 = .ok (.iadd, 1) := by decide +kernel
theorem dX11_cycleAt_106 : decode cX11_cycleAt 106 = .ok (.iaload, 1) := by decide +kernel
theorem dX11_cycleAt_107 : decode cX11_cycleAt 107 = .ok (.ifCond .ne 9, 3) := by decide +kernel
theorem dX11_cycleAt_110 : decode cX11_cycleAt 110 = .ok (.iinc 7 1, 3) := by decide +kernel
theorem dX11_cycleAt_113 : decode cX11_cycleAt 113 = .ok (.goto (-43), 3) := by decide +kernel
theorem dX11_cycleAt_116 : decode cX11_cycleAt 116 = .ok (.iload 5, 2) := by decide +kernel
theorem dX11_cycleAt_118 : decode cX11_cycleAt 118 = .ok (.iconst 1, 1) := by decide +kernel
theorem dX11_cycleAt_119 : decode cX11_cycleAt 119 = .ok (.iload 7, 2) := by decide +kernel
theorem dX11_cycleAt_121 : decode cX11_cycleAt 121 = .ok (.ishl, 1) := by decide +kernel
theorem dX11_cycleAt_122 : decode cX11_cycleAt 122 = .ok (.ior, 1) := by decide +kernel
theorem dX11_cycleAt_123 : decode cX11_cycleAt 123 = .ok (.istore 5, 2) := by decide +kernel
theorem dX11_cycleAt_125 : decode cX11_cycleAt 125 = .ok (.iload 7, 2) := by decide +kernel
theorem dX11_cycleAt_127 : decode cX11_cycleAt 127 = .ok (.istore 4, 2) := by decide +kernel
theorem dX11_cycleAt_129 : decode cX11_cycleAt 129 = .ok (.iinc 6 1, 3) := by decide +kernel
theorem dX11_cycleAt_132 : decode cX11_cycleAt 132 = .ok (.goto (-71), 3) := by decide +kernel
theorem dX11_cycleAt_135 : decode cX11_cycleAt 135 = .ok (.iload 4, 2) := by decide +kernel
theorem dX11_cycleAt_137 : decode cX11_cycleAt 137 = .ok (.ireturn, 1) := by decide +kernel
theorem dX11_cycleLengths_0 : decode cX11_cycleLengths 0 = .ok (.aload_n 0, 1) := by decide +kernel
theorem dX11_cycleLengths_1 : decode cX11_cycleLengths 1 = .ok (.iload_n 1, 1) := by decide +kernel
theorem dX11_cycleLengths_2 : decode cX11_cycleLengths 2 = .ok (.invokevirtual 57, 3) := by decide +kernel
theorem dX11_cycleLengths_5 : decode cX11_cycleLengths 5 = .ok (.ifCond .ne 5, 3) := by decide +kernel
theorem dX11_cycleLengths_8 : decode cX11_cycleLengths 8 = .ok (.iconst (-1), 1) := by decide +kernel
theorem dX11_cycleLengths_9 : decode cX11_cycleLengths 9 = .ok (.ireturn, 1) := by decide +kernel
theorem dX11_cycleLengths_10 : decode cX11_cycleLengths 10 = .ok (.iconst 0, 1) := by decide +kernel
theorem dX11_cycleLengths_11 : decode cX11_cycleLengths 11 = .ok (.istore_n 2, 1) := by decide +kernel
end
section
theorem dX11_cycleLengths_12 : decode cX11_cycleLengths 12 = .ok (.iconst 3, 1) := by decide +kernel
theorem dX11_cycleLengths_13 : decode cX11_cycleLengths 13 = .ok (.istore_n 3, 1) := by decide +kernel
theorem dX11_cycleLengths_14 : decode cX11_cycleLengths 14 = .ok (.iload_n 3, 1) := by decide +kernel
theorem dX11_cycleLengths_15 : decode cX11_cycleLengths 15 = .ok (.aload_n 0, 1) := by decide +kernel
theorem dX11_cycleLengths_16 : decode cX11_cycleLengths 16 = .ok (.invokevirtual 92, 3) := by decide +kernel
theorem dX11_cycleLengths_19 : decode cX11_cycleLengths 19 = .ok (.if_icmp .gt 31, 3) := by decide +kernel
theorem dX11_cycleLengths_22 : decode cX11_cycleLengths 22 = .ok (.aload_n 0, 1) := by decide +kernel
theorem dX11_cycleLengths_23 : decode cX11_cycleLengths 23 = .ok (.iload_n 1, 1) := by decide +kernel
theorem dX11_cycleLengths_24 : decode cX11_cycleLengths 24 = .ok (.iload_n 3, 1) := by decide +kernel
theorem dX11_cycleLengths_25 : decode cX11_cycleLengths 25 = .ok (.invokevirtual 132, 3) := by decide +kernel
theorem dX11_cycleLengths_28 : decode cX11_cycleLengths 28 = .ok (.iload_n 2, 1) := by decide +kernel
theorem dX11_cycleLengths_29 : decode cX11_cycleLengths 29 = .ok (.aload_n 0, 1) := by decide +kernel
theorem dX11_cycleLengths_30 : decode cX11_cycleLengths 30 = .ok (.iload_n 1, 1) := by decide +kernel
theorem dX11_cycleLengths_31 : decode cX11_cycleLengths 31 = .ok (.invokevirtual 135, 3) := by decide +kernel
theorem dX11_cycleLengths_34 : decode cX11_cycleLengths 34 = .ok (.ifCond .eq 7, 3) := by decide +kernel
theorem dX11_cycleLengths_37 : decode cX11_cycleLengths 37 = .ok (.iconst 1, 1) := by decide +kernel
theorem dX11_cycleLengths_38 : decode cX11_cycleLengths 38 = .ok (.goto 4, 3) := by decide +kernel
theorem dX11_cycleLengths_41 : decode cX11_cycleLengths 41 = .ok (.iconst 0, 1) := by decide +kernel
theorem dX11_cycleLengths_42 : decode cX11_cycleLengths 42 = .ok (.iadd, 1) := by decide +kernel
theorem dX11_cycleLengths_43 : decode cX11_cycleLengths 43 = .ok (.istore_n 2, 1) := by decide +kernel
theorem dX11_cycleLengths_44 : decode cX11_cycleLengths 44 = .ok (.iinc 3 1, 3) := by decide +kernel
theorem dX11_cycleLengths_47 : decode cX11_cycleLengths 47 = .ok (.goto (-33), 3) := by decide +kernel
theorem dX11_cycleLengths_50 : decode cX11_cycleLengths 50 = .ok (.iload_n 2, 1) := by decide +kernel
theorem dX11_cycleLengths_51 : decode cX11_cycleLengths 51 = .ok (.ireturn, 1) := by decide +kernel
theorem dX11_costOf_0 : decode cX11_costOf 0 = .ok (.iconst 0, 1) := by decide +kernel
theorem dX11_costOf_1 : decode cX11_costOf 1 = .ok (.istore_n 3, 1) := by decide +kernel
theorem dX11_costOf_2 : decode cX11_costOf 2 = .ok (.iconst 0, 1) := by decide +kernel
theorem dX11_costOf_3 : decode cX11_costOf 3 = .ok (.istore 4, 2) := by decide +kernel
theorem dX11_costOf_5 : decode cX11_costOf 5 = .ok (.iload 4, 2) := by decide +kernel
theorem dX11_costOf_7 : decode cX11_costOf 7 = .ok (.aload_n 0, 1) := by decide +kernel
theorem dX11_costOf_8 : decode cX11_costOf 8 = .ok (.invokevirtual 92, 3) := by decide +kernel
theorem dX11_costOf_11 : decode cX11_costOf 11 = .ok (.if_icmp .ge 46, 3) := by decide +kernel
theorem dX11_costOf_14 : decode cX11_costOf 14 = .ok (.iload_n 3, 1) := by decide +kernel
theorem dX11_costOf_15 : decode cX11_costOf 15 = .ok (.iload_n 2, 1) := by decide +kernel
theorem dX11_costOf_16 : decode cX11_costOf 16 = .ok (.iload 4, 2) := by decide +kernel
theorem dX11_costOf_18 : decode cX11_costOf 18 = .ok (.invokestatic 49, 3) := by decide +kernel
theorem dX11_costOf_21 : decode cX11_costOf 21 = .ok (.ifCond .eq 27, 3) := by decide +kernel
theorem dX11_costOf_24 : decode cX11_costOf 24 = .ok (.aload_n 0, 1) := by decide +kernel
theorem dX11_costOf_25 : decode cX11_costOf 25 = .ok (.iload 4, 2) := by decide +kernel
theorem dX11_costOf_27 : decode cX11_costOf 27 = .ok (.iload_n 1, 1) := by decide +kernel
theorem dX11_costOf_28 : decode cX11_costOf 28 = .ok (.invokevirtual 69, 3) := by decide +kernel
theorem dX11_costOf_31 : decode cX11_costOf 31 = .ok (.ifCond .eq 17, 3) := by decide +kernel
theorem dX11_costOf_34 : decode cX11_costOf 34 = .ok (.aload_n 0, 1) := by decide +kernel
theorem dX11_costOf_35 : decode cX11_costOf 35 = .ok (.getfield 7, 3) := by decide +kernel
theorem dX11_costOf_38 : decode cX11_costOf 38 = .ok (.iload 4, 2) := by decide +kernel
theorem dX11_costOf_40 : decode cX11_costOf 40 = .ok (.iload_n 1, 1) := by decide +kernel
theorem dX11_costOf_41 : decode cX11_costOf 41 = .ok (.invokestatic 61, 3) := by decide +kernel
theorem dX11_costOf_44 : decode cX11_costOf 44 = .ok (.iaload, 1) := by decide +kernel
theorem dX11_costOf_45 : decode cX11_costOf 45 = .ok (.goto 4, 3) := by decide +kernel
theorem dX11_costOf_48 : decode cX11_costOf 48 = .ok (.iconst 0, 1) := by decide +kernel
theorem dX11_costOf_49 : decode cX11_costOf 49 = .ok (.iadd, 1) := by decide +kernel
theorem dX11_costOf_50 : decode cX11_costOf 50 = .ok (.istore_n 3, 1) := by decide +kernel
theorem dX11_costOf_51 : decode cX11_costOf 51 = .ok (.iinc 4 1, 3) := by decide +kernel
theorem dX11_costOf_54 : decode cX11_costOf 54 = .ok (.goto (-49), 3) := by decide +kernel
theorem dX11_costOf_57 : decode cX11_costOf 57 = .ok (.iload_n 3, 1) := by decide +kernel
theorem dX11_costOf_58 : decode cX11_costOf 58 = .ok (.ireturn, 1) := by decide +kernel
theorem dX11_orders_0 : decode cX11_orders 0 = .ok (.aload_n 0, 1) := by decide +kernel
theorem dX11_orders_1 : decode cX11_orders 1 = .ok (.getfield 28, 3) := by decide +kernel
theorem dX11_orders_4 : decode cX11_orders 4 = .ok (.iconst 0, 1) := by decide +kernel
theorem dX11_orders_5 : decode cX11_orders 5 = .ok (.iconst 0, 1) := by decide +kernel
theorem dX11_orders_6 : decode cX11_orders 6 = .ok (.iastore, 1) := by decide +kernel
theorem dX11_orders_7 : decode cX11_orders 7 = .ok (.iconst 1, 1) := by decide +kernel
theorem dX11_orders_8 : decode cX11_orders 8 = .ok (.istore_n 1, 1) := by decide +kernel
theorem dX11_orders_9 : decode cX11_orders 9 = .ok (.iload_n 1, 1) := by decide +kernel
theorem dX11_orders_10 : decode cX11_orders 10 = .ok (.aload_n 0, 1) := by decide +kernel
theorem dX11_orders_11 : decode cX11_orders 11 = .ok (.invokevirtual 111, 3) := by decide +kernel
theorem dX11_orders_14 : decode cX11_orders 14 = .ok (.if_icmp .gt 94, 3) := by decide +kernel
theorem dX11_orders_17 : decode cX11_orders 17 = .ok (.iconst (-1), 1) := by decide +kernel
theorem dX11_orders_18 : decode cX11_orders 18 = .ok (.istore_n 2, 1) := by decide +kernel
theorem dX11_orders_19 : decode cX11_orders 19 = .ok (.iconst 0, 1) := by decide +kernel
theorem dX11_orders_20 : decode cX11_orders 20 = .ok (.istore_n 3, 1) := by decide +kernel
theorem dX11_orders_21 : decode cX11_orders 21 = .ok (.iload_n 3, 1) := by decide +kernel
theorem dX11_orders_22 : decode cX11_orders 22 = .ok (.aload_n 0, 1) := by decide +kernel
theorem dX11_orders_23 : decode cX11_orders 23 = .ok (.invokevirtual 92, 3) := by decide +kernel
theorem dX11_orders_26 : decode cX11_orders 26 = .ok (.if_icmp .ge 69, 3) := by decide +kernel
theorem dX11_orders_29 : decode cX11_orders 29 = .ok (.iload_n 1, 1) := by decide +kernel
theorem dX11_orders_30 : decode cX11_orders 30 = .ok (.iconst 1, 1) := by decide +kernel
theorem dX11_orders_31 : decode cX11_orders 31 = .ok (.iload_n 3, 1) := by decide +kernel
theorem dX11_orders_32 : decode cX11_orders 32 = .ok (.ishl, 1) := by decide +kernel
theorem dX11_orders_33 : decode cX11_orders 33 = .ok (.iconst (-1), 1) := by decide +kernel
theorem dX11_orders_34 : decode cX11_orders 34 = .ok (.ixor, 1) := by decide +kernel
theorem dX11_orders_35 : decode cX11_orders 35 = .ok (.iand, 1) := by decide +kernel
theorem dX11_orders_36 : decode cX11_orders 36 = .ok (.istore 4, 2) := by decide +kernel
theorem dX11_orders_38 : decode cX11_orders 38 = .ok (.iload_n 1, 1) := by decide +kernel
theorem dX11_orders_39 : decode cX11_orders 39 = .ok (.iload_n 3, 1) := by decide +kernel
theorem dX11_orders_40 : decode cX11_orders 40 = .ok (.invokestatic 49, 3) := by decide +kernel
theorem dX11_orders_43 : decode cX11_orders 43 = .ok (.ifCond .eq 21, 3) := by decide +kernel
theorem dX11_orders_46 : decode cX11_orders 46 = .ok (.aload_n 0, 1) := by decide +kernel
theorem dX11_orders_47 : decode cX11_orders 47 = .ok (.iload_n 3, 1) := by decide +kernel
theorem dX11_orders_48 : decode cX11_orders 48 = .ok (.iload 4, 2) := by decide +kernel
theorem dX11_orders_50 : decode cX11_orders 50 = .ok (.invokevirtual 138, 3) := by decide +kernel
theorem dX11_orders_53 : decode cX11_orders 53 = .ok (.aload_n 0, 1) := by decide +kernel
theorem dX11_orders_54 : decode cX11_orders 54 = .ok (.getfield 28, 3) := by decide +kernel
theorem dX11_orders_57 : decode cX11_orders 57 = .ok (.iload 4, 2) := by decide +kernel
theorem dX11_orders_59 : decode cX11_orders 59 = .ok (.iaload, 1) := by decide +kernel
theorem dX11_orders_60 : decode cX11_orders 60 = .ok (.iadd, 1) := by decide +kernel
theorem dX11_orders_61 : decode cX11_orders 61 = .ok (.goto 4, 3) := by decide +kernel
theorem dX11_orders_64 : decode cX11_orders 64 = .ok (.iconst (-1), 1) := by decide +kernel
theorem dX11_orders_65 : decode cX11_orders 65 = .ok (.istore 5, 2) := by decide +kernel
theorem dX11_orders_67 : decode cX11_orders 67 = .ok (.iload 5, 2) := by decide +kernel
theorem dX11_orders_69 : decode cX11_orders 69 = .ok (.ifCond .lt 18, 3) := by decide +kernel
theorem dX11_orders_72 : decode cX11_orders 72 = .ok (.iload_n 2, 1) := by decide +kernel
theorem dX11_orders_73 : decode cX11_orders 73 = .ok (.ifCond .lt 9, 3) := by decide +kernel
theorem dX11_orders_76 : decode cX11_orders 76 = .ok (.iload 5, 2) := by decide +kernel
theorem dX11_orders_78 : decode cX11_orders 78 = .ok (.iload_n 2, 1) := by decide +kernel
theorem dX11_orders_79 : decode cX11_orders 79 = .ok (.if_icmp .ge 8, 3) := by decide +kernel
theorem dX11_orders_82 : decode cX11_orders 82 = .ok (.iload 5, 2) := by decide +kernel
theorem dX11_orders_84 : decode cX11_orders 84 = .ok (.goto 4, 3) := by decide +kernel
theorem dX11_orders_87 : decode cX11_orders 87 = .ok (.iload_n 2, 1) := by decide +kernel
theorem dX11_orders_88 : decode cX11_orders 88 = .ok (.istore_n 2, 1) := by decide +kernel
theorem dX11_orders_89 : decode cX11_orders 89 = .ok (.iinc 3 1, 3) := by decide +kernel
theorem dX11_orders_92 : decode cX11_orders 92 = .ok (.goto (-71), 3) := by decide +kernel
theorem dX11_orders_95 : decode cX11_orders 95 = .ok (.aload_n 0, 1) := by decide +kernel
theorem dX11_orders_96 : decode cX11_orders 96 = .ok (.getfield 28, 3) := by decide +kernel
theorem dX11_orders_99 : decode cX11_orders 99 = .ok (.iload_n 1, 1) := by decide +kernel
theorem dX11_orders_100 : decode cX11_orders 100 = .ok (.iload_n 2, 1) := by decide +kernel
theorem dX11_orders_101 : decode cX11_orders 101 = .ok (.iastore, 1) := by decide +kernel
theorem dX11_orders_102 : decode cX11_orders 102 = .ok (.iinc 1 1, 3) := by decide +kernel
theorem dX11_orders_105 : decode cX11_orders 105 = .ok (.goto (-96), 3) := by decide +kernel
theorem dX11_orders_108 : decode cX11_orders 108 = .ok (.return_, 1) := by decide +kernel
theorem dX11_isBest_0 : decode cX11_isBest 0 = .ok (.iload_n 2, 1) := by decide +kernel
theorem dX11_isBest_1 : decode cX11_isBest 1 = .ok (.iconst 1, 1) := by decide +kernel
theorem dX11_isBest_2 : decode cX11_isBest 2 = .ok (.iload_n 1, 1) := by decide +kernel
theorem dX11_isBest_3 : decode cX11_isBest 3 = .ok (.ishl, 1) := by decide +kernel
theorem dX11_isBest_4 : decode cX11_isBest 4 = .ok (.iconst (-1), 1) := by decide +kernel
theorem dX11_isBest_5 : decode cX11_isBest 5 = .ok (.ixor, 1) := by decide +kernel
theorem dX11_isBest_6 : decode cX11_isBest 6 = .ok (.iand, 1) := by decide +kernel
theorem dX11_isBest_7 : decode cX11_isBest 7 = .ok (.istore_n 3, 1) := by decide +kernel
theorem dX11_isBest_8 : decode cX11_isBest 8 = .ok (.iload_n 2, 1) := by decide +kernel
theorem dX11_isBest_9 : decode cX11_isBest 9 = .ok (.iload_n 1, 1) := by decide +kernel
theorem dX11_isBest_10 : decode cX11_isBest 10 = .ok (.invokestatic 49, 3) := by decide +kernel
theorem dX11_isBest_13 : decode cX11_isBest 13 = .ok (.ifCond .eq 29, 3) := by decide +kernel
theorem dX11_isBest_16 : decode cX11_isBest 16 = .ok (.aload_n 0, 1) := by decide +kernel
theorem dX11_isBest_17 : decode cX11_isBest 17 = .ok (.iload_n 1, 1) := by decide +kernel
theorem dX11_isBest_18 : decode cX11_isBest 18 = .ok (.iload_n 3, 1) := by decide +kernel
theorem dX11_isBest_19 : decode cX11_isBest 19 = .ok (.invokevirtual 138, 3) := by decide +kernel
theorem dX11_isBest_22 : decode cX11_isBest 22 = .ok (.aload_n 0, 1) := by decide +kernel
theorem dX11_isBest_23 : decode cX11_isBest 23 = .ok (.getfield 28, 3) := by decide +kernel
theorem dX11_isBest_26 : decode cX11_isBest 26 = .ok (.iload_n 3, 1) := by decide +kernel
theorem dX11_isBest_27 : decode cX11_isBest 27 = .ok (.iaload, 1) := by decide +kernel
theorem dX11_isBest_28 : decode cX11_isBest 28 = .ok (.iadd, 1) := by decide +kernel
theorem dX11_isBest_29 : decode cX11_isBest 29 = .ok (.aload_n 0, 1) := by decide +kernel
theorem dX11_isBest_30 : decode cX11_isBest 30 = .ok (.getfield 28, 3) := by decide +kernel
theorem dX11_isBest_33 : decode cX11_isBest 33 = .ok (.iload_n 2, 1) := by decide +kernel
theorem dX11_isBest_34 : decode cX11_isBest 34 = .ok (.iaload, 1) := by decide +kernel
theorem dX11_isBest_35 : decode cX11_isBest 35 = .ok (.if_icmp .ne 7, 3) := by decide +kernel
theorem dX11_isBest_38 : decode cX11_isBest 38 = .ok (.iconst 1, 1) := by decide +kernel
theorem dX11_isBest_39 : decode cX11_isBest 39 = .ok (.goto 4, 3) := by decide +kernel
theorem dX11_isBest_42 : decode cX11_isBest 42 = .ok (.iconst 0, 1) := by decide +kernel
theorem dX11_isBest_43 : decode cX11_isBest 43 = .ok (.ireturn, 1) := by decide +kernel
theorem dX11_leastCost_0 : decode cX11_leastCost 0 = .ok (.aload_n 0, 1) := by decide +kernel
theorem dX11_leastCost_1 : decode cX11_leastCost 1 = .ok (.invokevirtual 141, 3) := by decide +kernel
theorem dX11_leastCost_4 : decode cX11_leastCost 4 = .ok (.aload_n 0, 1) := by decide +kernel
theorem dX11_leastCost_5 : decode cX11_leastCost 5 = .ok (.getfield 28, 3) := by decide +kernel
theorem dX11_leastCost_8 : decode cX11_leastCost 8 = .ok (.aload_n 0, 1) := by decide +kernel
theorem dX11_leastCost_9 : decode cX11_leastCost 9 = .ok (.invokevirtual 111, 3) := by decide +kernel
theorem dX11_leastCost_12 : decode cX11_leastCost 12 = .ok (.iaload, 1) := by decide +kernel
theorem dX11_leastCost_13 : decode cX11_leastCost 13 = .ok (.ireturn, 1) := by decide +kernel
theorem dX11_orderAt_0 : decode cX11_orderAt 0 = .ok (.aload_n 0, 1) := by decide +kernel
theorem dX11_orderAt_1 : decode cX11_orderAt 1 = .ok (.iload_n 1, 1) := by decide +kernel
theorem dX11_orderAt_2 : decode cX11_orderAt 2 = .ok (.invokevirtual 57, 3) := by decide +kernel
theorem dX11_orderAt_5 : decode cX11_orderAt 5 = .ok (.ifCond .ne 5, 3) := by decide +kernel
theorem dX11_orderAt_8 : decode cX11_orderAt 8 = .ok (.iconst (-1), 1) := by decide +kernel
theorem dX11_orderAt_9 : decode cX11_orderAt 9 = .ok (.ireturn, 1) := by decide +kernel
theorem dX11_orderAt_10 : decode cX11_orderAt 10 = .ok (.aload_n 0, 1) := by decide +kernel
theorem dX11_orderAt_11 : decode cX11_orderAt 11 = .ok (.invokevirtual 141, 3) := by decide +kernel
theorem dX11_orderAt_14 : decode cX11_orderAt 14 = .ok (.aload_n 0, 1) := by decide +kernel
theorem dX11_orderAt_15 : decode cX11_orderAt 15 = .ok (.invokevirtual 111, 3) := by decide +kernel
theorem dX11_orderAt_18 : decode cX11_orderAt 18 = .ok (.istore_n 2, 1) := by decide +kernel
theorem dX11_orderAt_19 : decode cX11_orderAt 19 = .ok (.iconst 0, 1) := by decide +kernel
theorem dX11_orderAt_20 : decode cX11_orderAt 20 = .ok (.istore_n 3, 1) := by decide +kernel
theorem dX11_orderAt_21 : decode cX11_orderAt 21 = .ok (.iconst 0, 1) := by decide +kernel
theorem dX11_orderAt_22 : decode cX11_orderAt 22 = .ok (.istore 4, 2) := by decide +kernel
theorem dX11_orderAt_24 : decode cX11_orderAt 24 = .ok (.iload 4, 2) := by decide +kernel
theorem dX11_orderAt_26 : decode cX11_orderAt 26 = .ok (.iload_n 1, 1) := by decide +kernel
theorem dX11_orderAt_27 : decode cX11_orderAt 27 = .ok (.if_icmp .gt 34, 3) := by decide +kernel
theorem dX11_orderAt_30 : decode cX11_orderAt 30 = .ok (.iconst 0, 1) := by decide +kernel
theorem dX11_orderAt_31 : decode cX11_orderAt 31 = .ok (.istore_n 3, 1) := by decide +kernel
theorem dX11_orderAt_32 : decode cX11_orderAt 32 = .ok (.aload_n 0, 1) := by decide +kernel
theorem dX11_orderAt_33 : decode cX11_orderAt 33 = .ok (.iload_n 3, 1) := by decide +kernel
theorem dX11_orderAt_34 : decode cX11_orderAt 34 = .ok (.iload_n 2, 1) := by decide +kernel
theorem dX11_orderAt_35 : decode cX11_orderAt 35 = .ok (.invokevirtual 144, 3) := by decide +kernel
theorem dX11_orderAt_38 : decode cX11_orderAt 38 = .ok (.ifCond .ne 9, 3) := by decide +kernel
theorem dX11_orderAt_41 : decode cX11_orderAt 41 = .ok (.iinc 3 1, 3) := by decide +kernel
theorem dX11_orderAt_44 : decode cX11_orderAt 44 = .ok (.goto (-12), 3) := by decide +kernel
theorem dX11_orderAt_47 : decode cX11_orderAt 47 = .ok (.iload_n 2, 1) := by decide +kernel
theorem dX11_orderAt_48 : decode cX11_orderAt 48 = .ok (.iconst 1, 1) := by decide +kernel
theorem dX11_orderAt_49 : decode cX11_orderAt 49 = .ok (.iload_n 3, 1) := by decide +kernel
theorem dX11_orderAt_50 : decode cX11_orderAt 50 = .ok (.ishl, 1) := by decide +kernel
theorem dX11_orderAt_51 : decode cX11_orderAt 51 = .ok (.iconst (-1), 1) := by decide +kernel
theorem dX11_orderAt_52 : decode cX11_orderAt 52 = .ok (.ixor, 1) := by decide +kernel
theorem dX11_orderAt_53 : decode cX11_orderAt 53 = .ok (.iand, 1) := by decide +kernel
theorem dX11_orderAt_54 : decode cX11_orderAt 54 = .ok (.istore_n 2, 1) := by decide +kernel
theorem dX11_orderAt_55 : decode cX11_orderAt 55 = .ok (.iinc 4 1, 3) := by decide +kernel
theorem dX11_orderAt_58 : decode cX11_orderAt 58 = .ok (.goto (-34), 3) := by decide +kernel
theorem dX11_orderAt_61 : decode cX11_orderAt 61 = .ok (.iload_n 3, 1) := by decide +kernel
theorem dX11_orderAt_62 : decode cX11_orderAt 62 = .ok (.ireturn, 1) := by decide +kernel
theorem dX11_isKing_0 : decode cX11_isKing 0 = .ok (.iconst 1, 1) := by decide +kernel
theorem dX11_isKing_1 : decode cX11_isKing 1 = .ok (.iload_n 1, 1) := by decide +kernel
theorem dX11_isKing_2 : decode cX11_isKing 2 = .ok (.ishl, 1) := by decide +kernel
theorem dX11_isKing_3 : decode cX11_isKing 3 = .ok (.aload_n 0, 1) := by decide +kernel
theorem dX11_isKing_4 : decode cX11_isKing 4 = .ok (.iload_n 1, 1) := by decide +kernel
theorem dX11_isKing_5 : decode cX11_isKing 5 = .ok (.invokevirtual 45, 3) := by decide +kernel
theorem dX11_isKing_8 : decode cX11_isKing 8 = .ok (.ior, 1) := by decide +kernel
theorem dX11_isKing_9 : decode cX11_isKing 9 = .ok (.istore_n 2, 1) := by decide +kernel
theorem dX11_isKing_10 : decode cX11_isKing 10 = .ok (.iconst 0, 1) := by decide +kernel
theorem dX11_isKing_11 : decode cX11_isKing 11 = .ok (.istore_n 3, 1) := by decide +kernel
theorem dX11_isKing_12 : decode cX11_isKing 12 = .ok (.iload_n 3, 1) := by decide +kernel
theorem dX11_isKing_13 : decode cX11_isKing 13 = .ok (.aload_n 0, 1) := by decide +kernel
theorem dX11_isKing_14 : decode cX11_isKing 14 = .ok (.invokevirtual 92, 3) := by decide +kernel
theorem dX11_isKing_17 : decode cX11_isKing 17 = .ok (.if_icmp .ge 30, 3) := by decide +kernel
theorem dX11_isKing_20 : decode cX11_isKing 20 = .ok (.iload_n 2, 1) := by decide +kernel
theorem dX11_isKing_21 : decode cX11_isKing 21 = .ok (.aload_n 0, 1) := by decide +kernel
theorem dX11_isKing_22 : decode cX11_isKing 22 = .ok (.iload_n 1, 1) := by decide +kernel
theorem dX11_isKing_23 : decode cX11_isKing 23 = .ok (.iload_n 3, 1) := by decide +kernel
theorem dX11_isKing_24 : decode cX11_isKing 24 = .ok (.invokevirtual 69, 3) := by decide +kernel
theorem dX11_isKing_27 : decode cX11_isKing 27 = .ok (.ifCond .eq 11, 3) := by decide +kernel
theorem dX11_isKing_30 : decode cX11_isKing 30 = .ok (.aload_n 0, 1) := by decide +kernel
theorem dX11_isKing_31 : decode cX11_isKing 31 = .ok (.iload_n 3, 1) := by decide +kernel
theorem dX11_isKing_32 : decode cX11_isKing 32 = .ok (.invokevirtual 45, 3) := by decide +kernel
theorem dX11_isKing_35 : decode cX11_isKing 35 = .ok (.goto 4, 3) := by decide +kernel
theorem dX11_isKing_38 : decode cX11_isKing 38 = .ok (.iconst 0, 1) := by decide +kernel
theorem dX11_isKing_39 : decode cX11_isKing 39 = .ok (.ior, 1) := by decide +kernel
theorem dX11_isKing_40 : decode cX11_isKing 40 = .ok (.istore_n 2, 1) := by decide +kernel
theorem dX11_isKing_41 : decode cX11_isKing 41 = .ok (.iinc 3 1, 3) := by decide +kernel
theorem dX11_isKing_44 : decode cX11_isKing 44 = .ok (.goto (-32), 3) := by decide +kernel
theorem dX11_isKing_47 : decode cX11_isKing 47 = .ok (.iload_n 2, 1) := by decide +kernel
theorem dX11_isKing_48 : decode cX11_isKing 48 = .ok (.aload_n 0, 1) := by decide +kernel
theorem dX11_isKing_49 : decode cX11_isKing 49 = .ok (.invokevirtual 111, 3) := by decide +kernel
theorem dX11_isKing_52 : decode cX11_isKing 52 = .ok (.if_icmp .ne 7, 3) := by decide +kernel
theorem dX11_isKing_55 : decode cX11_isKing 55 = .ok (.iconst 1, 1) := by decide +kernel
theorem dX11_isKing_56 : decode cX11_isKing 56 = .ok (.goto 4, 3) := by decide +kernel
theorem dX11_isKing_59 : decode cX11_isKing 59 = .ok (.iconst 0, 1) := by decide +kernel
theorem dX11_isKing_60 : decode cX11_isKing 60 = .ok (.ireturn, 1) := by decide +kernel
theorem dX11_isTop_0 : decode cX11_isTop 0 = .ok (.iconst 1, 1) := by decide +kernel
theorem dX11_isTop_1 : decode cX11_isTop 1 = .ok (.istore_n 2, 1) := by decide +kernel
theorem dX11_isTop_2 : decode cX11_isTop 2 = .ok (.iconst 0, 1) := by decide +kernel
theorem dX11_isTop_3 : decode cX11_isTop 3 = .ok (.istore_n 3, 1) := by decide +kernel
theorem dX11_isTop_4 : decode cX11_isTop 4 = .ok (.iload_n 3, 1) := by decide +kernel
theorem dX11_isTop_5 : decode cX11_isTop 5 = .ok (.aload_n 0, 1) := by decide +kernel
theorem dX11_isTop_6 : decode cX11_isTop 6 = .ok (.invokevirtual 92, 3) := by decide +kernel
theorem dX11_isTop_9 : decode cX11_isTop 9 = .ok (.if_icmp .ge 38, 3) := by decide +kernel
theorem dX11_isTop_12 : decode cX11_isTop 12 = .ok (.iload_n 2, 1) := by decide +kernel
theorem dX11_isTop_13 : decode cX11_isTop 13 = .ok (.ifCond .eq 26, 3) := by decide +kernel
theorem dX11_isTop_16 : decode cX11_isTop 16 = .ok (.aload_n 0, 1) := by decide +kernel
theorem dX11_isTop_17 : decode cX11_isTop 17 = .ok (.iload_n 3, 1) := by decide +kernel
theorem dX11_isTop_18 : decode cX11_isTop 18 = .ok (.invokevirtual 45, 3) := by decide +kernel
theorem dX11_isTop_21 : decode cX11_isTop 21 = .ok (.invokestatic 98, 3) := by decide +kernel
theorem dX11_isTop_24 : decode cX11_isTop 24 = .ok (.aload_n 0, 1) := by decide +kernel
theorem dX11_isTop_25 : decode cX11_isTop 25 = .ok (.iload_n 1, 1) := by decide +kernel
theorem dX11_isTop_26 : decode cX11_isTop 26 = .ok (.invokevirtual 45, 3) := by decide +kernel
theorem dX11_isTop_29 : decode cX11_isTop 29 = .ok (.invokestatic 98, 3) := by decide +kernel
theorem dX11_isTop_32 : decode cX11_isTop 32 = .ok (.if_icmp .gt 7, 3) := by decide +kernel
theorem dX11_isTop_35 : decode cX11_isTop 35 = .ok (.iconst 1, 1) := by decide +kernel
theorem dX11_isTop_36 : decode cX11_isTop 36 = .ok (.goto 4, 3) := by decide +kernel
theorem dX11_isTop_39 : decode cX11_isTop 39 = .ok (.iconst 0, 1) := by decide +kernel
theorem dX11_isTop_40 : decode cX11_isTop 40 = .ok (.istore_n 2, 1) := by decide +kernel
theorem dX11_isTop_41 : decode cX11_isTop 41 = .ok (.iinc 3 1, 3) := by decide +kernel
theorem dX11_isTop_44 : decode cX11_isTop 44 = .ok (.goto (-40), 3) := by decide +kernel
theorem dX11_isTop_47 : decode cX11_isTop 47 = .ok (.iload_n 2, 1) := by decide +kernel
theorem dX11_isTop_48 : decode cX11_isTop 48 = .ok (.ireturn, 1) := by decide +kernel
theorem dX11_isChain_0 : decode cX11_isChain 0 = .ok (.iconst 0, 1) := by decide +kernel
theorem dX11_isChain_1 : decode cX11_isChain 1 = .ok (.istore_n 2, 1) := by decide +kernel
theorem dX11_isChain_2 : decode cX11_isChain 2 = .ok (.iconst 0, 1) := by decide +kernel
theorem dX11_isChain_3 : decode cX11_isChain 3 = .ok (.istore_n 3, 1) := by decide +kernel
theorem dX11_isChain_4 : decode cX11_isChain 4 = .ok (.iload_n 3, 1) := by decide +kernel
theorem dX11_isChain_5 : decode cX11_isChain 5 = .ok (.aload_n 0, 1) := by decide +kernel
theorem dX11_isChain_6 : decode cX11_isChain 6 = .ok (.invokevirtual 92, 3) := by decide +kernel
theorem dX11_isChain_9 : decode cX11_isChain 9 = .ok (.if_icmp .ge 36, 3) := by decide +kernel
theorem dX11_isChain_12 : decode cX11_isChain 12 = .ok (.iload_n 2, 1) := by decide +kernel
theorem dX11_isChain_13 : decode cX11_isChain 13 = .ok (.iload_n 1, 1) := by decide +kernel
theorem dX11_isChain_14 : decode cX11_isChain 14 = .ok (.iload_n 3, 1) := by decide +kernel
theorem dX11_isChain_15 : decode cX11_isChain 15 = .ok (.invokestatic 49, 3) := by decide +kernel
theorem dX11_isChain_18 : decode cX11_isChain 18 = .ok (.ifCond .eq 18, 3) := by decide +kernel
theorem dX11_isChain_21 : decode cX11_isChain 21 = .ok (.iconst 1, 1) := by decide +kernel
theorem dX11_isChain_22 : decode cX11_isChain 22 = .ok (.aload_n 0, 1) := by decide +kernel
theorem dX11_isChain_23 : decode cX11_isChain 23 = .ok (.iload_n 3, 1) := by decide +kernel
theorem dX11_isChain_24 : decode cX11_isChain 24 = .ok (.invokevirtual 45, 3) := by decide +kernel
theorem dX11_isChain_27 : decode cX11_isChain 27 = .ok (.iload_n 1, 1) := by decide +kernel
theorem dX11_isChain_28 : decode cX11_isChain 28 = .ok (.iand, 1) := by decide +kernel
theorem dX11_isChain_29 : decode cX11_isChain 29 = .ok (.invokestatic 98, 3) := by decide +kernel
theorem dX11_isChain_32 : decode cX11_isChain 32 = .ok (.ishl, 1) := by decide +kernel
theorem dX11_isChain_33 : decode cX11_isChain 33 = .ok (.goto 4, 3) := by decide +kernel
theorem dX11_isChain_36 : decode cX11_isChain 36 = .ok (.iconst 0, 1) := by decide +kernel
theorem dX11_isChain_37 : decode cX11_isChain 37 = .ok (.ior, 1) := by decide +kernel
theorem dX11_isChain_38 : decode cX11_isChain 38 = .ok (.istore_n 2, 1) := by decide +kernel
theorem dX11_isChain_39 : decode cX11_isChain 39 = .ok (.iinc 3 1, 3) := by decide +kernel
theorem dX11_isChain_42 : decode cX11_isChain 42 = .ok (.goto (-38), 3) := by decide +kernel
theorem dX11_isChain_45 : decode cX11_isChain 45 = .ok (.iload_n 2, 1) := by decide +kernel
theorem dX11_isChain_46 : decode cX11_isChain 46 = .ok (.invokestatic 98, 3) := by decide +kernel
theorem dX11_isChain_49 : decode cX11_isChain 49 = .ok (.iload_n 1, 1) := by decide +kernel
theorem dX11_isChain_50 : decode cX11_isChain 50 = .ok (.invokestatic 98, 3) := by decide +kernel
theorem dX11_isChain_53 : decode cX11_isChain 53 = .ok (.if_icmp .ne 7, 3) := by decide +kernel
theorem dX11_isChain_56 : decode cX11_isChain 56 = .ok (.iconst 1, 1) := by decide +kernel
theorem dX11_isChain_57 : decode cX11_isChain 57 = .ok (.goto 4, 3) := by decide +kernel
theorem dX11_isChain_60 : decode cX11_isChain 60 = .ok (.iconst 0, 1) := by decide +kernel
theorem dX11_isChain_61 : decode cX11_isChain 61 = .ok (.ireturn, 1) := by decide +kernel
theorem dX11_isBeaten_0 : decode cX11_isBeaten 0 = .ok (.iconst 0, 1) := by decide +kernel
theorem dX11_isBeaten_1 : decode cX11_isBeaten 1 = .ok (.istore_n 2, 1) := by decide +kernel
theorem dX11_isBeaten_2 : decode cX11_isBeaten 2 = .ok (.iconst 0, 1) := by decide +kernel
theorem dX11_isBeaten_3 : decode cX11_isBeaten 3 = .ok (.istore_n 3, 1) := by decide +kernel
theorem dX11_isBeaten_4 : decode cX11_isBeaten 4 = .ok (.iload_n 3, 1) := by decide +kernel
theorem dX11_isBeaten_5 : decode cX11_isBeaten 5 = .ok (.aload_n 0, 1) := by decide +kernel
theorem dX11_isBeaten_6 : decode cX11_isBeaten 6 = .ok (.invokevirtual 92, 3) := by decide +kernel
theorem dX11_isBeaten_9 : decode cX11_isBeaten 9 = .ok (.if_icmp .ge 30, 3) := by decide +kernel
theorem dX11_isBeaten_12 : decode cX11_isBeaten 12 = .ok (.iload_n 2, 1) := by decide +kernel
theorem dX11_isBeaten_13 : decode cX11_isBeaten 13 = .ok (.ifCond .ne 14, 3) := by decide +kernel
theorem dX11_isBeaten_16 : decode cX11_isBeaten 16 = .ok (.aload_n 0, 1) := by decide +kernel
theorem dX11_isBeaten_17 : decode cX11_isBeaten 17 = .ok (.iload_n 3, 1) := by decide +kernel
theorem dX11_isBeaten_18 : decode cX11_isBeaten 18 = .ok (.invokevirtual 45, 3) := by decide +kernel
theorem dX11_isBeaten_21 : decode cX11_isBeaten 21 = .ok (.iload_n 1, 1) := by decide +kernel
theorem dX11_isBeaten_22 : decode cX11_isBeaten 22 = .ok (.iand, 1) := by decide +kernel
theorem dX11_isBeaten_23 : decode cX11_isBeaten 23 = .ok (.iload_n 1, 1) := by decide +kernel
theorem dX11_isBeaten_24 : decode cX11_isBeaten 24 = .ok (.if_icmp .ne 7, 3) := by decide +kernel
theorem dX11_isBeaten_27 : decode cX11_isBeaten 27 = .ok (.iconst 1, 1) := by decide +kernel
theorem dX11_isBeaten_28 : decode cX11_isBeaten 28 = .ok (.goto 4, 3) := by decide +kernel
theorem dX11_isBeaten_31 : decode cX11_isBeaten 31 = .ok (.iconst 0, 1) := by decide +kernel
theorem dX11_isBeaten_32 : decode cX11_isBeaten 32 = .ok (.istore_n 2, 1) := by decide +kernel
theorem dX11_isBeaten_33 : decode cX11_isBeaten 33 = .ok (.iinc 3 1, 3) := by decide +kernel
theorem dX11_isBeaten_36 : decode cX11_isBeaten 36 = .ok (.goto (-32), 3) := by decide +kernel
theorem dX11_isBeaten_39 : decode cX11_isBeaten 39 = .ok (.iload_n 2, 1) := by decide +kernel
theorem dX11_isBeaten_40 : decode cX11_isBeaten 40 = .ok (.ireturn, 1) := by decide +kernel
theorem dX11_isFirst_0 : decode cX11_isFirst 0 = .ok (.iconst 0, 1) := by decide +kernel
theorem dX11_isFirst_1 : decode cX11_isFirst 1 = .ok (.istore_n 2, 1) := by decide +kernel
theorem dX11_isFirst_2 : decode cX11_isFirst 2 = .ok (.iconst 0, 1) := by decide +kernel
theorem dX11_isFirst_3 : decode cX11_isFirst 3 = .ok (.istore_n 3, 1) := by decide +kernel
theorem dX11_isFirst_4 : decode cX11_isFirst 4 = .ok (.iload_n 3, 1) := by decide +kernel
theorem dX11_isFirst_5 : decode cX11_isFirst 5 = .ok (.aload_n 0, 1) := by decide +kernel
theorem dX11_isFirst_6 : decode cX11_isFirst 6 = .ok (.invokevirtual 111, 3) := by decide +kernel
theorem dX11_isFirst_9 : decode cX11_isFirst 9 = .ok (.if_icmp .gt 56, 3) := by decide +kernel
theorem dX11_isFirst_12 : decode cX11_isFirst 12 = .ok (.iload_n 2, 1) := by decide +kernel
theorem dX11_isFirst_13 : decode cX11_isFirst 13 = .ok (.ifCond .ne 52, 3) := by decide +kernel
theorem dX11_isFirst_16 : decode cX11_isFirst 16 = .ok (.iload_n 3, 1) := by decide +kernel
theorem dX11_isFirst_17 : decode cX11_isFirst 17 = .ok (.iconst 1, 1) := by decide +kernel
theorem dX11_isFirst_18 : decode cX11_isFirst 18 = .ok (.iload_n 1, 1) := by decide +kernel
theorem dX11_isFirst_19 : decode cX11_isFirst 19 = .ok (.ishl, 1) := by decide +kernel
theorem dX11_isFirst_20 : decode cX11_isFirst 20 = .ok (.ior, 1) := by decide +kernel
theorem dX11_isFirst_21 : decode cX11_isFirst 21 = .ok (.istore 4, 2) := by decide +kernel
theorem dX11_isFirst_23 : decode cX11_isFirst 23 = .ok (.iload_n 3, 1) := by decide +kernel
theorem dX11_isFirst_24 : decode cX11_isFirst 24 = .ok (.aload_n 0, 1) := by decide +kernel
theorem dX11_isFirst_25 : decode cX11_isFirst 25 = .ok (.iload_n 1, 1) := by decide +kernel
theorem dX11_isFirst_26 : decode cX11_isFirst 26 = .ok (.invokevirtual 45, 3) := by decide +kernel
theorem dX11_isFirst_29 : decode cX11_isFirst 29 = .ok (.iconst (-1), 1) := by decide +kernel
theorem dX11_isFirst_30 : decode cX11_isFirst 30 = .ok (.ixor, 1) := by decide +kernel
theorem dX11_isFirst_31 : decode cX11_isFirst 31 = .ok (.iand, 1) := by decide +kernel
theorem dX11_isFirst_32 : decode cX11_isFirst 32 = .ok (.ifCond .ne 25, 3) := by decide +kernel
theorem dX11_isFirst_35 : decode cX11_isFirst 35 = .ok (.aload_n 0, 1) := by decide +kernel
theorem dX11_isFirst_36 : decode cX11_isFirst 36 = .ok (.iload 4, 2) := by decide +kernel
theorem dX11_isFirst_38 : decode cX11_isFirst 38 = .ok (.invokevirtual 147, 3) := by decide +kernel
theorem dX11_isFirst_41 : decode cX11_isFirst 41 = .ok (.ifCond .eq 16, 3) := by decide +kernel
theorem dX11_isFirst_44 : decode cX11_isFirst 44 = .ok (.aload_n 0, 1) := by decide +kernel
theorem dX11_isFirst_45 : decode cX11_isFirst 45 = .ok (.iload 4, 2) := by decide +kernel
theorem dX11_isFirst_47 : decode cX11_isFirst 47 = .ok (.invokevirtual 150, 3) := by decide +kernel
theorem dX11_isFirst_50 : decode cX11_isFirst 50 = .ok (.ifCond .ne 7, 3) := by decide +kernel
theorem dX11_isFirst_53 : decode cX11_isFirst 53 = .ok (.iconst 1, 1) := by decide +kernel
theorem dX11_isFirst_54 : decode cX11_isFirst 54 = .ok (.goto 4, 3) := by decide +kernel
theorem dX11_isFirst_57 : decode cX11_isFirst 57 = .ok (.iconst 0, 1) := by decide +kernel
theorem dX11_isFirst_58 : decode cX11_isFirst 58 = .ok (.istore_n 2, 1) := by decide +kernel
theorem dX11_isFirst_59 : decode cX11_isFirst 59 = .ok (.iinc 3 1, 3) := by decide +kernel
theorem dX11_isFirst_62 : decode cX11_isFirst 62 = .ok (.goto (-58), 3) := by decide +kernel
theorem dX11_isFirst_65 : decode cX11_isFirst 65 = .ok (.iload_n 2, 1) := by decide +kernel
theorem dX11_isFirst_66 : decode cX11_isFirst 66 = .ok (.ireturn, 1) := by decide +kernel
theorem dX11_winnersBy_0 : decode cX11_winnersBy 0 = .ok (.aload_n 0, 1) := by decide +kernel
theorem dX11_winnersBy_1 : decode cX11_winnersBy 1 = .ok (.invokevirtual 120, 3) := by decide +kernel
theorem dX11_winnersBy_4 : decode cX11_winnersBy 4 = .ok (.aload_n 0, 1) := by decide +kernel
theorem dX11_winnersBy_5 : decode cX11_winnersBy 5 = .ok (.invokevirtual 141, 3) := by decide +kernel
theorem dX11_winnersBy_8 : decode cX11_winnersBy 8 = .ok (.iconst 0, 1) := by decide +kernel
theorem dX11_winnersBy_9 : decode cX11_winnersBy 9 = .ok (.istore_n 2, 1) := by decide +kernel
theorem dX11_winnersBy_10 : decode cX11_winnersBy 10 = .ok (.iconst 0, 1) := by decide +kernel
theorem dX11_winnersBy_11 : decode cX11_winnersBy 11 = .ok (.istore_n 3, 1) := by decide +kernel
theorem dX11_winnersBy_12 : decode cX11_winnersBy 12 = .ok (.iload_n 3, 1) := by decide +kernel
theorem dX11_winnersBy_13 : decode cX11_winnersBy 13 = .ok (.aload_n 0, 1) := by decide +kernel
theorem dX11_winnersBy_14 : decode cX11_winnersBy 14 = .ok (.invokevirtual 92, 3) := by decide +kernel
theorem dX11_winnersBy_17 : decode cX11_winnersBy 17 = .ok (.if_icmp .ge 94, 3) := by decide +kernel
theorem dX11_winnersBy_20 : decode cX11_winnersBy 20 = .ok (.iload_n 1, 1) := by decide +kernel
theorem dX11_winnersBy_21 : decode cX11_winnersBy 21 = .ok (.ifCond .ne 19, 3) := by decide +kernel
theorem dX11_winnersBy_24 : decode cX11_winnersBy 24 = .ok (.aload_n 0, 1) := by decide +kernel
theorem dX11_winnersBy_25 : decode cX11_winnersBy 25 = .ok (.iload_n 3, 1) := by decide +kernel
theorem dX11_winnersBy_26 : decode cX11_winnersBy 26 = .ok (.invokevirtual 126, 3) := by decide +kernel
theorem dX11_winnersBy_29 : decode cX11_winnersBy 29 = .ok (.ifCond .ne 7, 3) := by decide +kernel
theorem dX11_winnersBy_32 : decode cX11_winnersBy 32 = .ok (.iconst 1, 1) := by decide +kernel
theorem dX11_winnersBy_33 : decode cX11_winnersBy 33 = .ok (.goto 55, 3) := by decide +kernel
theorem dX11_winnersBy_36 : decode cX11_winnersBy 36 = .ok (.iconst 0, 1) := by decide +kernel
theorem dX11_winnersBy_37 : decode cX11_winnersBy 37 = .ok (.goto 51, 3) := by decide +kernel
theorem dX11_winnersBy_40 : decode cX11_winnersBy 40 = .ok (.iload_n 1, 1) := by decide +kernel
theorem dX11_winnersBy_41 : decode cX11_winnersBy 41 = .ok (.iconst 1, 1) := by decide +kernel
theorem dX11_winnersBy_42 : decode cX11_winnersBy 42 = .ok (.if_icmp .ne 11, 3) := by decide +kernel
theorem dX11_winnersBy_45 : decode cX11_winnersBy 45 = .ok (.aload_n 0, 1) := by decide +kernel
theorem dX11_winnersBy_46 : decode cX11_winnersBy 46 = .ok (.iload_n 3, 1) := by decide +kernel
theorem dX11_winnersBy_47 : decode cX11_winnersBy 47 = .ok (.invokevirtual 153, 3) := by decide +kernel
theorem dX11_winnersBy_50 : decode cX11_winnersBy 50 = .ok (.goto 38, 3) := by decide +kernel
theorem dX11_winnersBy_53 : decode cX11_winnersBy 53 = .ok (.iload_n 1, 1) := by decide +kernel
theorem dX11_winnersBy_54 : decode cX11_winnersBy 54 = .ok (.iconst 2, 1) := by decide +kernel
theorem dX11_winnersBy_55 : decode cX11_winnersBy 55 = .ok (.if_icmp .ne 11, 3) := by decide +kernel
theorem dX11_winnersBy_58 : decode cX11_winnersBy 58 = .ok (.aload_n 0, 1) := by decide +kernel
theorem dX11_winnersBy_59 : decode cX11_winnersBy 59 = .ok (.iload_n 3, 1) := by decide +kernel
theorem dX11_winnersBy_60 : decode cX11_winnersBy 60 = .ok (.invokevirtual 156, 3) := by decide +kernel
theorem dX11_winnersBy_63 : decode cX11_winnersBy 63 = .ok (.goto 25, 3) := by decide +kernel
theorem dX11_winnersBy_66 : decode cX11_winnersBy 66 = .ok (.iload_n 1, 1) := by decide +kernel
theorem dX11_winnersBy_67 : decode cX11_winnersBy 67 = .ok (.iconst 3, 1) := by decide +kernel
theorem dX11_winnersBy_68 : decode cX11_winnersBy 68 = .ok (.if_icmp .ne 11, 3) := by decide +kernel
theorem dX11_winnersBy_71 : decode cX11_winnersBy 71 = .ok (.aload_n 0, 1) := by decide +kernel
theorem dX11_winnersBy_72 : decode cX11_winnersBy 72 = .ok (.iload_n 3, 1) := by decide +kernel
theorem dX11_winnersBy_73 : decode cX11_winnersBy 73 = .ok (.invokevirtual 159, 3) := by decide +kernel
theorem dX11_winnersBy_76 : decode cX11_winnersBy 76 = .ok (.goto 12, 3) := by decide +kernel
theorem dX11_winnersBy_79 : decode cX11_winnersBy 79 = .ok (.aload_n 0, 1) := by decide +kernel
theorem dX11_winnersBy_80 : decode cX11_winnersBy 80 = .ok (.iload_n 3, 1) := by decide +kernel
theorem dX11_winnersBy_81 : decode cX11_winnersBy 81 = .ok (.aload_n 0, 1) := by decide +kernel
theorem dX11_winnersBy_82 : decode cX11_winnersBy 82 = .ok (.invokevirtual 111, 3) := by decide +kernel
theorem dX11_winnersBy_85 : decode cX11_winnersBy 85 = .ok (.invokevirtual 144, 3) := by decide +kernel
theorem dX11_winnersBy_88 : decode cX11_winnersBy 88 = .ok (.istore 4, 2) := by decide +kernel
theorem dX11_winnersBy_90 : decode cX11_winnersBy 90 = .ok (.iload_n 2, 1) := by decide +kernel
theorem dX11_winnersBy_91 : decode cX11_winnersBy 91 = .ok (.iload 4, 2) := by decide +kernel
theorem dX11_winnersBy_93 : decode cX11_winnersBy 93 = .ok (.ifCond .eq 9, 3) := by decide +kernel
theorem dX11_winnersBy_96 : decode cX11_winnersBy 96 = .ok (.iconst 1, 1) := by decide +kernel
theorem dX11_winnersBy_97 : decode cX11_winnersBy 97 = .ok (.iload_n 3, 1) := by decide +kernel
theorem dX11_winnersBy_98 : decode cX11_winnersBy 98 = .ok (.ishl, 1) := by decide +kernel
theorem dX11_winnersBy_99 : decode cX11_winnersBy 99 = .ok (.goto 4, 3) := by decide +kernel
theorem dX11_winnersBy_102 : decode cX11_winnersBy 102 = .ok (.iconst 0, 1) := by decide +kernel
theorem dX11_winnersBy_103 : decode cX11_winnersBy 103 = .ok (.ior, 1) := by decide +kernel
theorem dX11_winnersBy_104 : decode cX11_winnersBy 104 = .ok (.istore_n 2, 1) := by decide +kernel
theorem dX11_winnersBy_105 : decode cX11_winnersBy 105 = .ok (.iinc 3 1, 3) := by decide +kernel
theorem dX11_winnersBy_108 : decode cX11_winnersBy 108 = .ok (.goto (-96), 3) := by decide +kernel
theorem dX11_winnersBy_111 : decode cX11_winnersBy 111 = .ok (.iload_n 2, 1) := by decide +kernel
theorem dX11_winnersBy_112 : decode cX11_winnersBy 112 = .ok (.ireturn, 1) := by decide +kernel
theorem dX11_winners_0 : decode cX11_winners 0 = .ok (.iload_n 1, 1) := by decide +kernel
theorem dX11_winners_1 : decode cX11_winners 1 = .ok (.iconst 0, 1) := by decide +kernel
theorem dX11_winners_2 : decode cX11_winners 2 = .ok (.iconst 4, 1) := by decide +kernel
theorem dX11_winners_3 : decode cX11_winners 3 = .ok (.invokestatic 53, 3) := by decide +kernel
theorem dX11_winners_6 : decode cX11_winners 6 = .ok (.ifCond .eq 11, 3) := by decide +kernel
theorem dX11_winners_9 : decode cX11_winners 9 = .ok (.aload_n 0, 1) := by decide +kernel
theorem dX11_winners_10 : decode cX11_winners 10 = .ok (.iload_n 1, 1) := by decide +kernel
theorem dX11_winners_11 : decode cX11_winners 11 = .ok (.invokevirtual 162, 3) := by decide +kernel
theorem dX11_winners_14 : decode cX11_winners 14 = .ok (.goto 4, 3) := by decide +kernel
theorem dX11_winners_17 : decode cX11_winners 17 = .ok (.iconst (-1), 1) := by decide +kernel
theorem dX11_winners_18 : decode cX11_winners 18 = .ok (.ireturn, 1) := by decide +kernel
theorem dX11_undisputed_0 : decode cX11_undisputed 0 = .ok (.aload_n 0, 1) := by decide +kernel
theorem dX11_undisputed_1 : decode cX11_undisputed 1 = .ok (.invokevirtual 111, 3) := by decide +kernel
theorem dX11_undisputed_4 : decode cX11_undisputed 4 = .ok (.istore_n 1, 1) := by decide +kernel
theorem dX11_undisputed_5 : decode cX11_undisputed 5 = .ok (.iconst 0, 1) := by decide +kernel
theorem dX11_undisputed_6 : decode cX11_undisputed 6 = .ok (.istore_n 2, 1) := by decide +kernel
theorem dX11_undisputed_7 : decode cX11_undisputed 7 = .ok (.iload_n 2, 1) := by decide +kernel
theorem dX11_undisputed_8 : decode cX11_undisputed 8 = .ok (.iconst 5, 1) := by decide +kernel
theorem dX11_undisputed_9 : decode cX11_undisputed 9 = .ok (.if_icmp .ge 17, 3) := by decide +kernel
theorem dX11_undisputed_12 : decode cX11_undisputed 12 = .ok (.iload_n 1, 1) := by decide +kernel
theorem dX11_undisputed_13 : decode cX11_undisputed 13 = .ok (.aload_n 0, 1) := by decide +kernel
theorem dX11_undisputed_14 : decode cX11_undisputed 14 = .ok (.iload_n 2, 1) := by decide +kernel
theorem dX11_undisputed_15 : decode cX11_undisputed 15 = .ok (.invokevirtual 162, 3) := by decide +kernel
theorem dX11_undisputed_18 : decode cX11_undisputed 18 = .ok (.iand, 1) := by decide +kernel
theorem dX11_undisputed_19 : decode cX11_undisputed 19 = .ok (.istore_n 1, 1) := by decide +kernel
theorem dX11_undisputed_20 : decode cX11_undisputed 20 = .ok (.iinc 2 1, 3) := by decide +kernel
theorem dX11_undisputed_23 : decode cX11_undisputed 23 = .ok (.goto (-16), 3) := by decide +kernel
theorem dX11_undisputed_26 : decode cX11_undisputed 26 = .ok (.iload_n 1, 1) := by decide +kernel
theorem dX11_undisputed_27 : decode cX11_undisputed 27 = .ok (.invokestatic 98, 3) := by decide +kernel
theorem dX11_undisputed_30 : decode cX11_undisputed 30 = .ok (.ireturn, 1) := by decide +kernel
theorem dX11_store_0 : decode cX11_store 0 = .ok (.aload_n 0, 1) := by decide +kernel
theorem dX11_store_1 : decode cX11_store 1 = .ok (.getfield 7, 3) := by decide +kernel
theorem dX11_store_4 : decode cX11_store 4 = .ok (.aload_n 0, 1) := by decide +kernel
theorem dX11_store_5 : decode cX11_store 5 = .ok (.getfield 13, 3) := by decide +kernel
theorem dX11_store_8 : decode cX11_store 8 = .ok (.invokestatic 41, 3) := by decide +kernel
theorem dX11_store_11 : decode cX11_store 11 = .ok (.aload_n 0, 1) := by decide +kernel
theorem dX11_store_12 : decode cX11_store 12 = .ok (.invokevirtual 92, 3) := by decide +kernel
theorem dX11_store_15 : decode cX11_store 15 = .ok (.ireturn, 1) := by decide +kernel
theorem dX11_differs_0 : decode cX11_differs 0 = .ok (.aload_n 0, 1) := by decide +kernel
theorem dX11_differs_1 : decode cX11_differs 1 = .ok (.getfield 13, 3) := by decide +kernel
theorem dX11_differs_4 : decode cX11_differs 4 = .ok (.iconst 1, 1) := by decide +kernel
theorem dX11_differs_5 : decode cX11_differs 5 = .ok (.iload_n 1, 1) := by decide +kernel
theorem dX11_differs_6 : decode cX11_differs 6 = .ok (.iadd, 1) := by decide +kernel
theorem dX11_differs_7 : decode cX11_differs 7 = .ok (.iaload, 1) := by decide +kernel
theorem dX11_differs_8 : decode cX11_differs 8 = .ok (.iload_n 2, 1) := by decide +kernel
theorem dX11_differs_9 : decode cX11_differs 9 = .ok (.invokestatic 49, 3) := by decide +kernel
theorem dX11_differs_12 : decode cX11_differs 12 = .ok (.aload_n 0, 1) := by decide +kernel
theorem dX11_differs_13 : decode cX11_differs 13 = .ok (.iload_n 1, 1) := by decide +kernel
theorem dX11_differs_14 : decode cX11_differs 14 = .ok (.iload_n 2, 1) := by decide +kernel
theorem dX11_differs_15 : decode cX11_differs 15 = .ok (.invokevirtual 69, 3) := by decide +kernel
theorem dX11_differs_18 : decode cX11_differs 18 = .ok (.if_icmp .eq 7, 3) := by decide +kernel
theorem dX11_differs_21 : decode cX11_differs 21 = .ok (.iconst 1, 1) := by decide +kernel
theorem dX11_differs_22 : decode cX11_differs 22 = .ok (.goto 4, 3) := by decide +kernel
theorem dX11_differs_25 : decode cX11_differs 25 = .ok (.iconst 0, 1) := by decide +kernel
theorem dX11_differs_26 : decode cX11_differs 26 = .ok (.ireturn, 1) := by decide +kernel
theorem dX11_difference_0 : decode cX11_difference 0 = .ok (.aload_n 0, 1) := by decide +kernel
theorem dX11_difference_1 : decode cX11_difference 1 = .ok (.getfield 13, 3) := by decide +kernel
theorem dX11_difference_4 : decode cX11_difference 4 = .ok (.iconst 0, 1) := by decide +kernel
theorem dX11_difference_5 : decode cX11_difference 5 = .ok (.iaload, 1) := by decide +kernel
theorem dX11_difference_6 : decode cX11_difference 6 = .ok (.aload_n 0, 1) := by decide +kernel
theorem dX11_difference_7 : decode cX11_difference 7 = .ok (.invokevirtual 92, 3) := by decide +kernel
theorem dX11_difference_10 : decode cX11_difference 10 = .ok (.if_icmp .eq 6, 3) := by decide +kernel
theorem dX11_difference_13 : decode cX11_difference 13 = .ok (.bipush (-2), 2) := by decide +kernel
theorem dX11_difference_15 : decode cX11_difference 15 = .ok (.ireturn, 1) := by decide +kernel
theorem dX11_difference_16 : decode cX11_difference 16 = .ok (.iconst 0, 1) := by decide +kernel
theorem dX11_difference_17 : decode cX11_difference 17 = .ok (.istore_n 1, 1) := by decide +kernel
theorem dX11_difference_18 : decode cX11_difference 18 = .ok (.iconst 0, 1) := by decide +kernel
theorem dX11_difference_19 : decode cX11_difference 19 = .ok (.istore_n 2, 1) := by decide +kernel
theorem dX11_difference_20 : decode cX11_difference 20 = .ok (.iload_n 2, 1) := by decide +kernel
theorem dX11_difference_21 : decode cX11_difference 21 = .ok (.aload_n 0, 1) := by decide +kernel
theorem dX11_difference_22 : decode cX11_difference 22 = .ok (.invokevirtual 92, 3) := by decide +kernel
theorem dX11_difference_25 : decode cX11_difference 25 = .ok (.if_icmp .ge 44, 3) := by decide +kernel
theorem dX11_difference_28 : decode cX11_difference 28 = .ok (.iload_n 2, 1) := by decide +kernel
theorem dX11_difference_29 : decode cX11_difference 29 = .ok (.iconst 1, 1) := by decide +kernel
theorem dX11_difference_30 : decode cX11_difference 30 = .ok (.iadd, 1) := by decide +kernel
theorem dX11_difference_31 : decode cX11_difference 31 = .ok (.istore_n 3, 1) := by decide +kernel
theorem dX11_difference_32 : decode cX11_difference 32 = .ok (.iload_n 3, 1) := by decide +kernel
theorem dX11_difference_33 : decode cX11_difference 33 = .ok (.aload_n 0, 1) := by decide +kernel
theorem dX11_difference_34 : decode cX11_difference 34 = .ok (.invokevirtual 92, 3) := by decide +kernel
theorem dX11_difference_37 : decode cX11_difference 37 = .ok (.if_icmp .ge 26, 3) := by decide +kernel
theorem dX11_difference_40 : decode cX11_difference 40 = .ok (.iload_n 1, 1) := by decide +kernel
theorem dX11_difference_41 : decode cX11_difference 41 = .ok (.aload_n 0, 1) := by decide +kernel
theorem dX11_difference_42 : decode cX11_difference 42 = .ok (.iload_n 2, 1) := by decide +kernel
theorem dX11_difference_43 : decode cX11_difference 43 = .ok (.iload_n 3, 1) := by decide +kernel
theorem dX11_difference_44 : decode cX11_difference 44 = .ok (.invokevirtual 165, 3) := by decide +kernel
theorem dX11_difference_47 : decode cX11_difference 47 = .ok (.ifCond .eq 7, 3) := by decide +kernel
theorem dX11_difference_50 : decode cX11_difference 50 = .ok (.iconst 1, 1) := by decide +kernel
theorem dX11_difference_51 : decode cX11_difference 51 = .ok (.goto 4, 3) := by decide +kernel
theorem dX11_difference_54 : decode cX11_difference 54 = .ok (.iconst 0, 1) := by decide +kernel
theorem dX11_difference_55 : decode cX11_difference 55 = .ok (.iadd, 1) := by decide +kernel
theorem dX11_difference_56 : decode cX11_difference 56 = .ok (.istore_n 1, 1) := by decide +kernel
theorem dX11_difference_57 : decode cX11_difference 57 = .ok (.iinc 3 1, 3) := by decide +kernel
theorem dX11_difference_60 : decode cX11_difference 60 = .ok (.goto (-28), 3) := by decide +kernel
theorem dX11_difference_63 : decode cX11_difference 63 = .ok (.iinc 2 1, 3) := by decide +kernel
theorem dX11_difference_66 : decode cX11_difference 66 = .ok (.goto (-46), 3) := by decide +kernel
theorem dX11_difference_69 : decode cX11_difference 69 = .ok (.iload_n 1, 1) := by decide +kernel
theorem dX11_difference_70 : decode cX11_difference 70 = .ok (.ireturn, 1) := by decide +kernel
theorem dX11_fits_0 : decode cX11_fits 0 = .ok (.aload_n 0, 1) := by decide +kernel
theorem dX11_fits_1 : decode cX11_fits 1 = .ok (.iload_n 1, 1) := by decide +kernel
theorem dX11_fits_2 : decode cX11_fits 2 = .ok (.invokevirtual 45, 3) := by decide +kernel
theorem dX11_fits_5 : decode cX11_fits 5 = .ok (.invokestatic 98, 3) := by decide +kernel
theorem dX11_fits_8 : decode cX11_fits 8 = .ok (.aload_n 0, 1) := by decide +kernel
theorem dX11_fits_9 : decode cX11_fits 9 = .ok (.getfield 13, 3) := by decide +kernel
theorem dX11_fits_12 : decode cX11_fits 12 = .ok (.iconst 1, 1) := by decide +kernel
theorem dX11_fits_13 : decode cX11_fits 13 = .ok (.aload_n 0, 1) := by decide +kernel
theorem dX11_fits_14 : decode cX11_fits 14 = .ok (.getfield 34, 3) := by decide +kernel
theorem dX11_fits_17 : decode cX11_fits 17 = .ok (.iload_n 1, 1) := by decide +kernel
theorem dX11_fits_18 : decode cX11_fits 18 = .ok (.iaload, 1) := by decide +kernel
theorem dX11_fits_19 : decode cX11_fits 19 = .ok (.iadd, 1) := by decide +kernel
theorem dX11_fits_20 : decode cX11_fits 20 = .ok (.iaload, 1) := by decide +kernel
theorem dX11_fits_21 : decode cX11_fits 21 = .ok (.invokestatic 98, 3) := by decide +kernel
theorem dX11_fits_24 : decode cX11_fits 24 = .ok (.if_icmp .ne 7, 3) := by decide +kernel
theorem dX11_fits_27 : decode cX11_fits 27 = .ok (.iconst 1, 1) := by decide +kernel
theorem dX11_fits_28 : decode cX11_fits 28 = .ok (.goto 4, 3) := by decide +kernel
theorem dX11_fits_31 : decode cX11_fits 31 = .ok (.iconst 0, 1) := by decide +kernel
theorem dX11_fits_32 : decode cX11_fits 32 = .ok (.istore_n 2, 1) := by decide +kernel
theorem dX11_fits_33 : decode cX11_fits 33 = .ok (.iconst 0, 1) := by decide +kernel
theorem dX11_fits_34 : decode cX11_fits 34 = .ok (.istore_n 3, 1) := by decide +kernel
theorem dX11_fits_35 : decode cX11_fits 35 = .ok (.iload_n 3, 1) := by decide +kernel
theorem dX11_fits_36 : decode cX11_fits 36 = .ok (.iload_n 1, 1) := by decide +kernel
theorem dX11_fits_37 : decode cX11_fits 37 = .ok (.if_icmp .ge 65, 3) := by decide +kernel
theorem dX11_fits_40 : decode cX11_fits 40 = .ok (.iload_n 2, 1) := by decide +kernel
theorem dX11_fits_41 : decode cX11_fits 41 = .ok (.ifCond .eq 61, 3) := by decide +kernel
theorem dX11_fits_44 : decode cX11_fits 44 = .ok (.aload_n 0, 1) := by decide +kernel
theorem dX11_fits_45 : decode cX11_fits 45 = .ok (.getfield 34, 3) := by decide +kernel
theorem dX11_fits_48 : decode cX11_fits 48 = .ok (.iload_n 3, 1) := by decide +kernel
theorem dX11_fits_49 : decode cX11_fits 49 = .ok (.iaload, 1) := by decide +kernel
theorem dX11_fits_50 : decode cX11_fits 50 = .ok (.aload_n 0, 1) := by decide +kernel
theorem dX11_fits_51 : decode cX11_fits 51 = .ok (.getfield 34, 3) := by decide +kernel
theorem dX11_fits_54 : decode cX11_fits 54 = .ok (.iload_n 1, 1) := by decide +kernel
theorem dX11_fits_55 : decode cX11_fits 55 = .ok (.iaload, 1) := by decide +kernel
theorem dX11_fits_56 : decode cX11_fits 56 = .ok (.if_icmp .eq 38, 3) := by decide +kernel
theorem dX11_fits_59 : decode cX11_fits 59 = .ok (.aload_n 0, 1) := by decide +kernel
theorem dX11_fits_60 : decode cX11_fits 60 = .ok (.iload_n 3, 1) := by decide +kernel
theorem dX11_fits_61 : decode cX11_fits 61 = .ok (.iload_n 1, 1) := by decide +kernel
theorem dX11_fits_62 : decode cX11_fits 62 = .ok (.invokevirtual 69, 3) := by decide +kernel
theorem dX11_fits_65 : decode cX11_fits 65 = .ok (.aload_n 0, 1) := by decide +kernel
theorem dX11_fits_66 : decode cX11_fits 66 = .ok (.getfield 13, 3) := by decide +kernel
theorem dX11_fits_69 : decode cX11_fits 69 = .ok (.iconst 1, 1) := by decide +kernel
theorem dX11_fits_70 : decode cX11_fits 70 = .ok (.aload_n 0, 1) := by decide +kernel
theorem dX11_fits_71 : decode cX11_fits 71 = .ok (.getfield 34, 3) := by decide +kernel
theorem dX11_fits_74 : decode cX11_fits 74 = .ok (.iload_n 3, 1) := by decide +kernel
theorem dX11_fits_75 : decode cX11_fits 75 = .ok (.iaload, 1) := by decide +kernel
theorem dX11_fits_76 : decode cX11_fits 76 = .ok (.iadd, 1) := by decide +kernel
theorem dX11_fits_77 : decode cX11_fits 77 = .ok (.iaload, 1) := by decide +kernel
theorem dX11_fits_78 : decode cX11_fits 78 = .ok (.aload_n 0, 1) := by decide +kernel
theorem dX11_fits_79 : decode cX11_fits 79 = .ok (.getfield 34, 3) := by decide +kernel
theorem dX11_fits_82 : decode cX11_fits 82 = .ok (.iload_n 1, 1) := by decide +kernel
theorem dX11_fits_83 : decode cX11_fits 83 = .ok (.iaload, 1) := by decide +kernel
theorem dX11_fits_84 : decode cX11_fits 84 = .ok (.invokestatic 49, 3) := by decide +kernel
theorem dX11_fits_87 : decode cX11_fits 87 = .ok (.if_icmp .ne 7, 3) := by decide +kernel
theorem dX11_fits_90 : decode cX11_fits 90 = .ok (.iconst 1, 1) := by decide +kernel
theorem dX11_fits_91 : decode cX11_fits 91 = .ok (.goto 4, 3) := by decide +kernel
theorem dX11_fits_94 : decode cX11_fits 94 = .ok (.iconst 0, 1) := by decide +kernel
theorem dX11_fits_95 : decode cX11_fits 95 = .ok (.istore_n 2, 1) := by decide +kernel
theorem dX11_fits_96 : decode cX11_fits 96 = .ok (.iinc 3 1, 3) := by decide +kernel
theorem dX11_fits_99 : decode cX11_fits 99 = .ok (.goto (-64), 3) := by decide +kernel
theorem dX11_fits_102 : decode cX11_fits 102 = .ok (.iload_n 2, 1) := by decide +kernel
theorem dX11_fits_103 : decode cX11_fits 103 = .ok (.ireturn, 1) := by decide +kernel
theorem dX11_isLikeStored_0 : decode cX11_isLikeStored 0 = .ok (.aload_n 0, 1) := by decide +kernel
theorem dX11_isLikeStored_1 : decode cX11_isLikeStored 1 = .ok (.getfield 13, 3) := by decide +kernel
theorem dX11_isLikeStored_4 : decode cX11_isLikeStored 4 = .ok (.iconst 0, 1) := by decide +kernel
theorem dX11_isLikeStored_5 : decode cX11_isLikeStored 5 = .ok (.iaload, 1) := by decide +kernel
theorem dX11_isLikeStored_6 : decode cX11_isLikeStored 6 = .ok (.aload_n 0, 1) := by decide +kernel
theorem dX11_isLikeStored_7 : decode cX11_isLikeStored 7 = .ok (.invokevirtual 92, 3) := by decide +kernel
theorem dX11_isLikeStored_10 : decode cX11_isLikeStored 10 = .ok (.if_icmp .eq 5, 3) := by decide +kernel
theorem dX11_isLikeStored_13 : decode cX11_isLikeStored 13 = .ok (.iconst 0, 1) := by decide +kernel
theorem dX11_isLikeStored_14 : decode cX11_isLikeStored 14 = .ok (.ireturn, 1) := by decide +kernel
theorem dX11_isLikeStored_15 : decode cX11_isLikeStored 15 = .ok (.iconst 0, 1) := by decide +kernel
theorem dX11_isLikeStored_16 : decode cX11_isLikeStored 16 = .ok (.istore_n 1, 1) := by decide +kernel
theorem dX11_isLikeStored_17 : decode cX11_isLikeStored 17 = .ok (.aload_n 0, 1) := by decide +kernel
theorem dX11_isLikeStored_18 : decode cX11_isLikeStored 18 = .ok (.getfield 34, 3) := by decide +kernel
theorem dX11_isLikeStored_21 : decode cX11_isLikeStored 21 = .ok (.iconst 0, 1) := by decide +kernel
theorem dX11_isLikeStored_22 : decode cX11_isLikeStored 22 = .ok (.iconst (-1), 1) := by decide +kernel
theorem dX11_isLikeStored_23 : decode cX11_isLikeStored 23 = .ok (.iastore, 1) := by decide +kernel
theorem dX11_isLikeStored_24 : decode cX11_isLikeStored 24 = .ok (.iload_n 1, 1) := by decide +kernel
theorem dX11_isLikeStored_25 : decode cX11_isLikeStored 25 = .ok (.ifCond .lt 69, 3) := by decide +kernel
theorem dX11_isLikeStored_28 : decode cX11_isLikeStored 28 = .ok (.iload_n 1, 1) := by decide +kernel
theorem dX11_isLikeStored_29 : decode cX11_isLikeStored 29 = .ok (.aload_n 0, 1) := by decide +kernel
theorem dX11_isLikeStored_30 : decode cX11_isLikeStored 30 = .ok (.invokevirtual 92, 3) := by decide +kernel
theorem dX11_isLikeStored_33 : decode cX11_isLikeStored 33 = .ok (.if_icmp .ge 61, 3) := by decide +kernel
theorem dX11_isLikeStored_36 : decode cX11_isLikeStored 36 = .ok (.aload_n 0, 1) := by decide +kernel
theorem dX11_isLikeStored_37 : decode cX11_isLikeStored 37 = .ok (.getfield 34, 3) := by decide +kernel
theorem dX11_isLikeStored_40 : decode cX11_isLikeStored 40 = .ok (.iload_n 1, 1) := by decide +kernel
theorem dX11_isLikeStored_41 : decode cX11_isLikeStored 41 = .ok (.dup2, 1) := by decide +kernel
theorem dX11_isLikeStored_42 : decode cX11_isLikeStored 42 = .ok (.iaload, 1) := by decide +kernel
theorem dX11_isLikeStored_43 : decode cX11_isLikeStored 43 = .ok (.iconst 1, 1) := by decide +kernel
theorem dX11_isLikeStored_44 : decode cX11_isLikeStored 44 = .ok (.iadd, 1) := by decide +kernel
theorem dX11_isLikeStored_45 : decode cX11_isLikeStored 45 = .ok (.iastore, 1) := by decide +kernel
theorem dX11_isLikeStored_46 : decode cX11_isLikeStored 46 = .ok (.aload_n 0, 1) := by decide +kernel
theorem dX11_isLikeStored_47 : decode cX11_isLikeStored 47 = .ok (.getfield 34, 3) := by decide +kernel
theorem dX11_isLikeStored_50 : decode cX11_isLikeStored 50 = .ok (.iload_n 1, 1) := by decide +kernel
theorem dX11_isLikeStored_51 : decode cX11_isLikeStored 51 = .ok (.iaload, 1) := by decide +kernel
theorem dX11_isLikeStored_52 : decode cX11_isLikeStored 52 = .ok (.aload_n 0, 1) := by decide +kernel
theorem dX11_isLikeStored_53 : decode cX11_isLikeStored 53 = .ok (.invokevirtual 92, 3) := by decide +kernel
theorem dX11_isLikeStored_56 : decode cX11_isLikeStored 56 = .ok (.if_icmp .ne 9, 3) := by decide +kernel
theorem dX11_isLikeStored_59 : decode cX11_isLikeStored 59 = .ok (.iinc 1 (-1), 3) := by decide +kernel
theorem dX11_isLikeStored_62 : decode cX11_isLikeStored 62 = .ok (.goto (-38), 3) := by decide +kernel
theorem dX11_isLikeStored_65 : decode cX11_isLikeStored 65 = .ok (.aload_n 0, 1) := by decide +kernel
theorem dX11_isLikeStored_66 : decode cX11_isLikeStored 66 = .ok (.iload_n 1, 1) := by decide +kernel
theorem dX11_isLikeStored_67 : decode cX11_isLikeStored 67 = .ok (.invokevirtual 168, 3) := by decide +kernel
theorem dX11_isLikeStored_70 : decode cX11_isLikeStored 70 = .ok (.ifCond .eq (-46), 3) := by decide +kernel
theorem dX11_isLikeStored_73 : decode cX11_isLikeStored 73 = .ok (.iinc 1 1, 3) := by decide +kernel
theorem dX11_isLikeStored_76 : decode cX11_isLikeStored 76 = .ok (.iload_n 1, 1) := by decide +kernel
theorem dX11_isLikeStored_77 : decode cX11_isLikeStored 77 = .ok (.aload_n 0, 1) := by decide +kernel
theorem dX11_isLikeStored_78 : decode cX11_isLikeStored 78 = .ok (.invokevirtual 92, 3) := by decide +kernel
theorem dX11_isLikeStored_81 : decode cX11_isLikeStored 81 = .ok (.if_icmp .ge (-57), 3) := by decide +kernel
theorem dX11_isLikeStored_84 : decode cX11_isLikeStored 84 = .ok (.aload_n 0, 1) := by decide +kernel
theorem dX11_isLikeStored_85 : decode cX11_isLikeStored 85 = .ok (.getfield 34, 3) := by decide +kernel
theorem dX11_isLikeStored_88 : decode cX11_isLikeStored 88 = .ok (.iload_n 1, 1) := by decide +kernel
theorem dX11_isLikeStored_89 : decode cX11_isLikeStored 89 = .ok (.iconst (-1), 1) := by decide +kernel
theorem dX11_isLikeStored_90 : decode cX11_isLikeStored 90 = .ok (.iastore, 1) := by decide +kernel
theorem dX11_isLikeStored_91 : decode cX11_isLikeStored 91 = .ok (.goto (-67), 3) := by decide +kernel
theorem dX11_isLikeStored_94 : decode cX11_isLikeStored 94 = .ok (.iload_n 1, 1) := by decide +kernel
theorem dX11_isLikeStored_95 : decode cX11_isLikeStored 95 = .ok (.aload_n 0, 1) := by decide +kernel
theorem dX11_isLikeStored_96 : decode cX11_isLikeStored 96 = .ok (.invokevirtual 92, 3) := by decide +kernel
theorem dX11_isLikeStored_99 : decode cX11_isLikeStored 99 = .ok (.if_icmp .ne 7, 3) := by decide +kernel
theorem dX11_isLikeStored_102 : decode cX11_isLikeStored 102 = .ok (.iconst 1, 1) := by decide +kernel
theorem dX11_isLikeStored_103 : decode cX11_isLikeStored 103 = .ok (.goto 4, 3) := by decide +kernel
theorem dX11_isLikeStored_106 : decode cX11_isLikeStored 106 = .ok (.iconst 0, 1) := by decide +kernel
theorem dX11_isLikeStored_107 : decode cX11_isLikeStored 107 = .ok (.ireturn, 1) := by decide +kernel
theorem dX11_towardsStored_0 : decode cX11_towardsStored 0 = .ok (.aload_n 0, 1) := by decide +kernel
theorem dX11_towardsStored_1 : decode cX11_towardsStored 1 = .ok (.getfield 13, 3) := by decide +kernel
theorem dX11_towardsStored_4 : decode cX11_towardsStored 4 = .ok (.iconst 0, 1) := by decide +kernel
theorem dX11_towardsStored_5 : decode cX11_towardsStored 5 = .ok (.iaload, 1) := by decide +kernel
theorem dX11_towardsStored_6 : decode cX11_towardsStored 6 = .ok (.aload_n 0, 1) := by decide +kernel
theorem dX11_towardsStored_7 : decode cX11_towardsStored 7 = .ok (.invokevirtual 92, 3) := by decide +kernel
theorem dX11_towardsStored_10 : decode cX11_towardsStored 10 = .ok (.if_icmp .eq 6, 3) := by decide +kernel
theorem dX11_towardsStored_13 : decode cX11_towardsStored 13 = .ok (.bipush (-2), 2) := by decide +kernel
theorem dX11_towardsStored_15 : decode cX11_towardsStored 15 = .ok (.ireturn, 1) := by decide +kernel
theorem dX11_towardsStored_16 : decode cX11_towardsStored 16 = .ok (.iconst 0, 1) := by decide +kernel
theorem dX11_towardsStored_17 : decode cX11_towardsStored 17 = .ok (.istore_n 1, 1) := by decide +kernel
theorem dX11_towardsStored_18 : decode cX11_towardsStored 18 = .ok (.iload_n 1, 1) := by decide +kernel
theorem dX11_towardsStored_19 : decode cX11_towardsStored 19 = .ok (.sipush 1000, 3) := by decide +kernel
theorem dX11_towardsStored_22 : decode cX11_towardsStored 22 = .ok (.if_icmp .ge 123, 3) := by decide +kernel
theorem dX11_towardsStored_25 : decode cX11_towardsStored 25 = .ok (.iload_n 1, 1) := by decide +kernel
theorem dX11_towardsStored_26 : decode cX11_towardsStored 26 = .ok (.bipush 100, 2) := by decide +kernel
theorem dX11_towardsStored_28 : decode cX11_towardsStored 28 = .ok (.idiv, 1) := by decide +kernel
theorem dX11_towardsStored_29 : decode cX11_towardsStored 29 = .ok (.istore_n 2, 1) := by decide +kernel
theorem dX11_towardsStored_30 : decode cX11_towardsStored 30 = .ok (.iload_n 1, 1) := by decide +kernel
theorem dX11_towardsStored_31 : decode cX11_towardsStored 31 = .ok (.bipush 10, 2) := by decide +kernel
theorem dX11_towardsStored_33 : decode cX11_towardsStored 33 = .ok (.idiv, 1) := by decide +kernel
theorem dX11_towardsStored_34 : decode cX11_towardsStored 34 = .ok (.bipush 10, 2) := by decide +kernel
theorem dX11_towardsStored_36 : decode cX11_towardsStored 36 = .ok (.irem, 1) := by decide +kernel
theorem dX11_towardsStored_37 : decode cX11_towardsStored 37 = .ok (.istore_n 3, 1) := by decide +kernel
theorem dX11_towardsStored_38 : decode cX11_towardsStored 38 = .ok (.iload_n 1, 1) := by decide +kernel
theorem dX11_towardsStored_39 : decode cX11_towardsStored 39 = .ok (.bipush 10, 2) := by decide +kernel
theorem dX11_towardsStored_41 : decode cX11_towardsStored 41 = .ok (.irem, 1) := by decide +kernel
theorem dX11_towardsStored_42 : decode cX11_towardsStored 42 = .ok (.istore 4, 2) := by decide +kernel
theorem dX11_towardsStored_44 : decode cX11_towardsStored 44 = .ok (.iload_n 2, 1) := by decide +kernel
theorem dX11_towardsStored_45 : decode cX11_towardsStored 45 = .ok (.iload_n 3, 1) := by decide +kernel
theorem dX11_towardsStored_46 : decode cX11_towardsStored 46 = .ok (.if_icmp .ge 33, 3) := by decide +kernel
theorem dX11_towardsStored_49 : decode cX11_towardsStored 49 = .ok (.iload_n 3, 1) := by decide +kernel
theorem dX11_towardsStored_50 : decode cX11_towardsStored 50 = .ok (.iload 4, 2) := by decide +kernel
theorem dX11_towardsStored_52 : decode cX11_towardsStored 52 = .ok (.if_icmp .ge 27, 3) := by decide +kernel
theorem dX11_towardsStored_55 : decode cX11_towardsStored 55 = .ok (.iload 4, 2) := by decide +kernel
theorem dX11_towardsStored_57 : decode cX11_towardsStored 57 = .ok (.aload_n 0, 1) := by decide +kernel
theorem dX11_towardsStored_58 : decode cX11_towardsStored 58 = .ok (.invokevirtual 92, 3) := by decide +kernel
theorem dX11_towardsStored_61 : decode cX11_towardsStored 61 = .ok (.if_icmp .ge 18, 3) := by decide +kernel
theorem dX11_towardsStored_64 : decode cX11_towardsStored 64 = .ok (.aload_n 0, 1) := by decide +kernel
theorem dX11_towardsStored_65 : decode cX11_towardsStored 65 = .ok (.iload_n 2, 1) := by decide +kernel
theorem dX11_towardsStored_66 : decode cX11_towardsStored 66 = .ok (.iload_n 3, 1) := by decide +kernel
theorem dX11_towardsStored_67 : decode cX11_towardsStored 67 = .ok (.iload 4, 2) := by decide +kernel
theorem dX11_towardsStored_69 : decode cX11_towardsStored 69 = .ok (.invokevirtual 82, 3) := by decide +kernel
theorem dX11_towardsStored_72 : decode cX11_towardsStored 72 = .ok (.ifCond .eq 7, 3) := by decide +kernel
theorem dX11_towardsStored_75 : decode cX11_towardsStored 75 = .ok (.iconst 1, 1) := by decide +kernel
theorem dX11_towardsStored_76 : decode cX11_towardsStored 76 = .ok (.goto 4, 3) := by decide +kernel
theorem dX11_towardsStored_79 : decode cX11_towardsStored 79 = .ok (.iconst 0, 1) := by decide +kernel
theorem dX11_towardsStored_80 : decode cX11_towardsStored 80 = .ok (.istore 5, 2) := by decide +kernel
theorem dX11_towardsStored_82 : decode cX11_towardsStored 82 = .ok (.iload 5, 2) := by decide +kernel
theorem dX11_towardsStored_84 : decode cX11_towardsStored 84 = .ok (.ifCond .eq 55, 3) := by decide +kernel
theorem dX11_towardsStored_87 : decode cX11_towardsStored 87 = .ok (.aload_n 0, 1) := by decide +kernel
theorem dX11_towardsStored_88 : decode cX11_towardsStored 88 = .ok (.iload_n 2, 1) := by decide +kernel
theorem dX11_towardsStored_89 : decode cX11_towardsStored 89 = .ok (.iload_n 3, 1) := by decide +kernel
theorem dX11_towardsStored_90 : decode cX11_towardsStored 90 = .ok (.invokevirtual 165, 3) := by decide +kernel
theorem dX11_towardsStored_93 : decode cX11_towardsStored 93 = .ok (.ifCond .eq 7, 3) := by decide +kernel
theorem dX11_towardsStored_96 : decode cX11_towardsStored 96 = .ok (.iconst 1, 1) := by decide +kernel
theorem dX11_towardsStored_97 : decode cX11_towardsStored 97 = .ok (.goto 4, 3) := by decide +kernel
theorem dX11_towardsStored_100 : decode cX11_towardsStored 100 = .ok (.iconst 0, 1) := by decide +kernel
theorem dX11_towardsStored_101 : decode cX11_towardsStored 101 = .ok (.aload_n 0, 1) := by decide +kernel
theorem dX11_towardsStored_102 : decode cX11_towardsStored 102 = .ok (.iload_n 3, 1) := by decide +kernel
theorem dX11_towardsStored_103 : decode cX11_towardsStored 103 = .ok (.iload 4, 2) := by decide +kernel
theorem dX11_towardsStored_105 : decode cX11_towardsStored 105 = .ok (.invokevirtual 165, 3) := by decide +kernel
theorem dX11_towardsStored_108 : decode cX11_towardsStored 108 = .ok (.ifCond .eq 7, 3) := by decide +kernel
theorem dX11_towardsStored_111 : decode cX11_towardsStored 111 = .ok (.iconst 1, 1) := by decide +kernel
theorem dX11_towardsStored_112 : decode cX11_towardsStored 112 = .ok (.goto 4, 3) := by decide +kernel
theorem dX11_towardsStored_115 : decode cX11_towardsStored 115 = .ok (.iconst 0, 1) := by decide +kernel
theorem dX11_towardsStored_116 : decode cX11_towardsStored 116 = .ok (.iadd, 1) := by decide +kernel
theorem dX11_towardsStored_117 : decode cX11_towardsStored 117 = .ok (.aload_n 0, 1) := by decide +kernel
theorem dX11_towardsStored_118 : decode cX11_towardsStored 118 = .ok (.iload_n 2, 1) := by decide +kernel
theorem dX11_towardsStored_119 : decode cX11_towardsStored 119 = .ok (.iload 4, 2) := by decide +kernel
theorem dX11_towardsStored_121 : decode cX11_towardsStored 121 = .ok (.invokevirtual 165, 3) := by decide +kernel
theorem dX11_towardsStored_124 : decode cX11_towardsStored 124 = .ok (.ifCond .eq 7, 3) := by decide +kernel
theorem dX11_towardsStored_127 : decode cX11_towardsStored 127 = .ok (.iconst 1, 1) := by decide +kernel
theorem dX11_towardsStored_128 : decode cX11_towardsStored 128 = .ok (.goto 4, 3) := by decide +kernel
theorem dX11_towardsStored_131 : decode cX11_towardsStored 131 = .ok (.iconst 0, 1) := by decide +kernel
theorem dX11_towardsStored_132 : decode cX11_towardsStored 132 = .ok (.iadd, 1) := by decide +kernel
theorem dX11_towardsStored_133 : decode cX11_towardsStored 133 = .ok (.iconst 2, 1) := by decide +kernel
theorem dX11_towardsStored_134 : decode cX11_towardsStored 134 = .ok (.if_icmp .lt 5, 3) := by decide +kernel
theorem dX11_towardsStored_137 : decode cX11_towardsStored 137 = .ok (.iload_n 1, 1) := by decide +kernel
theorem dX11_towardsStored_138 : decode cX11_towardsStored 138 = .ok (.ireturn, 1) := by decide +kernel
theorem dX11_towardsStored_139 : decode cX11_towardsStored 139 = .ok (.iinc 1 1, 3) := by decide +kernel
theorem dX11_towardsStored_142 : decode cX11_towardsStored 142 = .ok (.goto (-124), 3) := by decide +kernel
theorem dX11_towardsStored_145 : decode cX11_towardsStored 145 = .ok (.bipush (-4), 2) := by decide +kernel
theorem dX11_towardsStored_147 : decode cX11_towardsStored 147 = .ok (.ireturn, 1) := by decide +kernel
theorem dJ6_bitCount_0f7a4_0 : decode cJ6_bitCount_0f7a4 0 = .ok (.iload_n 0, 1) := by decide +kernel
theorem dJ6_bitCount_0f7a4_1 : decode cJ6_bitCount_0f7a4 1 = .ok (.iload_n 0, 1) := by decide +kernel
theorem dJ6_bitCount_0f7a4_2 : decode cJ6_bitCount_0f7a4 2 = .ok (.iconst 1, 1) := by decide +kernel
theorem dJ6_bitCount_0f7a4_3 : decode cJ6_bitCount_0f7a4 3 = .ok (.iushr, 1) := by decide +kernel
theorem dJ6_bitCount_0f7a4_4 : decode cJ6_bitCount_0f7a4 4 = .ok (.ldc_w 265, 3) := by decide +kernel
theorem dJ6_bitCount_0f7a4_7 : decode cJ6_bitCount_0f7a4 7 = .ok (.iand, 1) := by decide +kernel
theorem dJ6_bitCount_0f7a4_8 : decode cJ6_bitCount_0f7a4 8 = .ok (.isub, 1) := by decide +kernel
theorem dJ6_bitCount_0f7a4_9 : decode cJ6_bitCount_0f7a4 9 = .ok (.istore_n 0, 1) := by decide +kernel
theorem dJ6_bitCount_0f7a4_10 : decode cJ6_bitCount_0f7a4 10 = .ok (.iload_n 0, 1) := by decide +kernel
theorem dJ6_bitCount_0f7a4_11 : decode cJ6_bitCount_0f7a4 11 = .ok (.ldc_w 266, 3) := by decide +kernel
theorem dJ6_bitCount_0f7a4_14 : decode cJ6_bitCount_0f7a4 14 = .ok (.iand, 1) := by decide +kernel
theorem dJ6_bitCount_0f7a4_15 : decode cJ6_bitCount_0f7a4 15 = .ok (.iload_n 0, 1) := by decide +kernel
theorem dJ6_bitCount_0f7a4_16 : decode cJ6_bitCount_0f7a4 16 = .ok (.iconst 2, 1) := by decide +kernel
theorem dJ6_bitCount_0f7a4_17 : decode cJ6_bitCount_0f7a4 17 = .ok (.iushr, 1) := by decide +kernel
theorem dJ6_bitCount_0f7a4_18 : decode cJ6_bitCount_0f7a4 18 = .ok (.ldc_w 266, 3) := by decide +kernel
theorem dJ6_bitCount_0f7a4_21 : decode cJ6_bitCount_0f7a4 21 = .ok (.iand, 1) := by decide +kernel
theorem dJ6_bitCount_0f7a4_22 : decode cJ6_bitCount_0f7a4 22 = .ok (.iadd, 1) := by decide +kernel
theorem dJ6_bitCount_0f7a4_23 : decode cJ6_bitCount_0f7a4 23 = .ok (.istore_n 0, 1) := by decide +kernel
theorem dJ6_bitCount_0f7a4_24 : decode cJ6_bitCount_0f7a4 24 = .ok (.iload_n 0, 1) := by decide +kernel
theorem dJ6_bitCount_0f7a4_25 : decode cJ6_bitCount_0f7a4 25 = .ok (.iload_n 0, 1) := by decide +kernel
theorem dJ6_bitCount_0f7a4_26 : decode cJ6_bitCount_0f7a4 26 = .ok (.iconst 4, 1) := by decide +kernel
theorem dJ6_bitCount_0f7a4_27 : decode cJ6_bitCount_0f7a4 27 = .ok (.iushr, 1) := by decide +kernel
theorem dJ6_bitCount_0f7a4_28 : decode cJ6_bitCount_0f7a4 28 = .ok (.iadd, 1) := by decide +kernel
theorem dJ6_bitCount_0f7a4_29 : decode cJ6_bitCount_0f7a4 29 = .ok (.ldc_w 267, 3) := by decide +kernel
theorem dJ6_bitCount_0f7a4_32 : decode cJ6_bitCount_0f7a4 32 = .ok (.iand, 1) := by decide +kernel
theorem dJ6_bitCount_0f7a4_33 : decode cJ6_bitCount_0f7a4 33 = .ok (.istore_n 0, 1) := by decide +kernel
theorem dJ6_bitCount_0f7a4_34 : decode cJ6_bitCount_0f7a4 34 = .ok (.iload_n 0, 1) := by decide +kernel
theorem dJ6_bitCount_0f7a4_35 : decode cJ6_bitCount_0f7a4 35 = .ok (.iload_n 0, 1) := by decide +kernel
theorem dJ6_bitCount_0f7a4_36 : decode cJ6_bitCount_0f7a4 36 = .ok (.bipush 8, 2) := by decide +kernel
theorem dJ6_bitCount_0f7a4_38 : decode cJ6_bitCount_0f7a4 38 = .ok (.iushr, 1) := by decide +kernel
theorem dJ6_bitCount_0f7a4_39 : decode cJ6_bitCount_0f7a4 39 = .ok (.iadd, 1) := by decide +kernel
theorem dJ6_bitCount_0f7a4_40 : decode cJ6_bitCount_0f7a4 40 = .ok (.istore_n 0, 1) := by decide +kernel
theorem dJ6_bitCount_0f7a4_41 : decode cJ6_bitCount_0f7a4 41 = .ok (.iload_n 0, 1) := by decide +kernel
theorem dJ6_bitCount_0f7a4_42 : decode cJ6_bitCount_0f7a4 42 = .ok (.iload_n 0, 1) := by decide +kernel
theorem dJ6_bitCount_0f7a4_43 : decode cJ6_bitCount_0f7a4 43 = .ok (.bipush 16, 2) := by decide +kernel
theorem dJ6_bitCount_0f7a4_45 : decode cJ6_bitCount_0f7a4 45 = .ok (.iushr, 1) := by decide +kernel
theorem dJ6_bitCount_0f7a4_46 : decode cJ6_bitCount_0f7a4 46 = .ok (.iadd, 1) := by decide +kernel
theorem dJ6_bitCount_0f7a4_47 : decode cJ6_bitCount_0f7a4 47 = .ok (.istore_n 0, 1) := by decide +kernel
theorem dJ6_bitCount_0f7a4_48 : decode cJ6_bitCount_0f7a4 48 = .ok (.iload_n 0, 1) := by decide +kernel
theorem dJ6_bitCount_0f7a4_49 : decode cJ6_bitCount_0f7a4 49 = .ok (.bipush 63, 2) := by decide +kernel
theorem dJ6_bitCount_0f7a4_51 : decode cJ6_bitCount_0f7a4 51 = .ok (.iand, 1) := by decide +kernel
theorem dJ6_bitCount_0f7a4_52 : decode cJ6_bitCount_0f7a4 52 = .ok (.ireturn, 1) := by decide +kernel
theorem dJ9_floorMod_7cf53_0 : decode cJ9_floorMod_7cf53 0 = .ok (.iload_n 0, 1) := by decide +kernel
theorem dJ9_floorMod_7cf53_1 : decode cJ9_floorMod_7cf53 1 = .ok (.iload_n 1, 1) := by decide +kernel
theorem dJ9_floorMod_7cf53_2 : decode cJ9_floorMod_7cf53 2 = .ok (.irem, 1) := by decide +kernel
theorem dJ9_floorMod_7cf53_3 : decode cJ9_floorMod_7cf53 3 = .ok (.istore_n 2, 1) := by decide +kernel
theorem dJ9_floorMod_7cf53_4 : decode cJ9_floorMod_7cf53 4 = .ok (.iload_n 0, 1) := by decide +kernel
theorem dJ9_floorMod_7cf53_5 : decode cJ9_floorMod_7cf53 5 = .ok (.iload_n 1, 1) := by decide +kernel
theorem dJ9_floorMod_7cf53_6 : decode cJ9_floorMod_7cf53 6 = .ok (.ixor, 1) := by decide +kernel
theorem dJ9_floorMod_7cf53_7 : decode cJ9_floorMod_7cf53 7 = .ok (.ifCond .ge 11, 3) := by decide +kernel
theorem dJ9_floorMod_7cf53_10 : decode cJ9_floorMod_7cf53 10 = .ok (.iload_n 2, 1) := by decide +kernel
theorem dJ9_floorMod_7cf53_11 : decode cJ9_floorMod_7cf53 11 = .ok (.ifCond .eq 7, 3) := by decide +kernel
theorem dJ9_floorMod_7cf53_14 : decode cJ9_floorMod_7cf53 14 = .ok (.iload_n 2, 1) := by decide +kernel
theorem dJ9_floorMod_7cf53_15 : decode cJ9_floorMod_7cf53 15 = .ok (.iload_n 1, 1) := by decide +kernel
theorem dJ9_floorMod_7cf53_16 : decode cJ9_floorMod_7cf53 16 = .ok (.iadd, 1) := by decide +kernel
theorem dJ9_floorMod_7cf53_17 : decode cJ9_floorMod_7cf53 17 = .ok (.ireturn, 1) := by decide +kernel
theorem dJ9_floorMod_7cf53_18 : decode cJ9_floorMod_7cf53 18 = .ok (.iload_n 2, 1) := by decide +kernel
theorem dJ9_floorMod_7cf53_19 : decode cJ9_floorMod_7cf53 19 = .ok (.ireturn, 1) := by decide +kernel
theorem dJ9_max_7cf53_0 : decode cJ9_max_7cf53 0 = .ok (.iload_n 0, 1) := by decide +kernel
theorem dJ9_max_7cf53_1 : decode cJ9_max_7cf53 1 = .ok (.iload_n 1, 1) := by decide +kernel
theorem dJ9_max_7cf53_2 : decode cJ9_max_7cf53 2 = .ok (.if_icmp .lt 7, 3) := by decide +kernel
theorem dJ9_max_7cf53_5 : decode cJ9_max_7cf53 5 = .ok (.iload_n 0, 1) := by decide +kernel
theorem dJ9_max_7cf53_6 : decode cJ9_max_7cf53 6 = .ok (.goto 4, 3) := by decide +kernel
theorem dJ9_max_7cf53_9 : decode cJ9_max_7cf53 9 = .ok (.iload_n 1, 1) := by decide +kernel
theorem dJ9_max_7cf53_10 : decode cJ9_max_7cf53 10 = .ok (.ireturn, 1) := by decide +kernel
theorem dJ9_min_7cf53_0 : decode cJ9_min_7cf53 0 = .ok (.iload_n 0, 1) := by decide +kernel
theorem dJ9_min_7cf53_1 : decode cJ9_min_7cf53 1 = .ok (.iload_n 1, 1) := by decide +kernel
theorem dJ9_min_7cf53_2 : decode cJ9_min_7cf53 2 = .ok (.if_icmp .gt 7, 3) := by decide +kernel
theorem dJ9_min_7cf53_5 : decode cJ9_min_7cf53 5 = .ok (.iload_n 0, 1) := by decide +kernel
theorem dJ9_min_7cf53_6 : decode cJ9_min_7cf53 6 = .ok (.goto 4, 3) := by decide +kernel
theorem dJ9_min_7cf53_9 : decode cJ9_min_7cf53 9 = .ok (.iload_n 1, 1) := by decide +kernel
theorem dJ9_min_7cf53_10 : decode cJ9_min_7cf53 10 = .ok (.ireturn, 1) := by decide +kernel
theorem dL_law_0 : decode cL_law 0 = .ok (.new 7, 3) := by decide +kernel
theorem dL_law_3 : decode cL_law 3 = .ok (.dup, 1) := by decide +kernel
theorem dL_law_4 : decode cL_law 4 = .ok (.invokespecial 9, 3) := by decide +kernel
theorem dL_law_7 : decode cL_law 7 = .ok (.astore_n 1, 1) := by decide +kernel
theorem dL_law_8 : decode cL_law 8 = .ok (.new 10, 3) := by decide +kernel
theorem dL_law_11 : decode cL_law 11 = .ok (.dup, 1) := by decide +kernel
theorem dL_law_12 : decode cL_law 12 = .ok (.invokespecial 12, 3) := by decide +kernel
theorem dL_law_15 : decode cL_law 15 = .ok (.astore_n 2, 1) := by decide +kernel
theorem dL_law_16 : decode cL_law 16 = .ok (.iconst 0, 1) := by decide +kernel
theorem dL_law_17 : decode cL_law 17 = .ok (.istore_n 3, 1) := by decide +kernel
theorem dL_law_18 : decode cL_law 18 = .ok (.iload_n 3, 1) := by decide +kernel
theorem dL_law_19 : decode cL_law 19 = .ok (.aload_n 0, 1) := by decide +kernel
theorem dL_law_20 : decode cL_law 20 = .ok (.arraylength, 1) := by decide +kernel
theorem dL_law_21 : decode cL_law 21 = .ok (.iconst 4, 1) := by decide +kernel
theorem dL_law_22 : decode cL_law 22 = .ok (.isub, 1) := by decide +kernel
theorem dL_law_23 : decode cL_law 23 = .ok (.if_icmp .gt 997, 3) := by decide +kernel
theorem dL_law_26 : decode cL_law 26 = .ok (.aload_n 0, 1) := by decide +kernel
theorem dL_law_27 : decode cL_law 27 = .ok (.iload_n 3, 1) := by decide +kernel
theorem dL_law_28 : decode cL_law 28 = .ok (.iaload, 1) := by decide +kernel
theorem dL_law_29 : decode cL_law 29 = .ok (.bipush 63, 2) := by decide +kernel
theorem dL_law_31 : decode cL_law 31 = .ok (.iand, 1) := by decide +kernel
theorem dL_law_32 : decode cL_law 32 = .ok (.tableswitch 982 0 37 #[168, 191, 224, 267, 310, 343, 366, 399, 412, 425, 438, 451, 474, 487, 500, 523, 536, 549, 562, 595, 628, 651, 674, 687, 720, 733, 756, 769, 792, 835, 858, 871, 894, 917, 930, 943, 956, 969], 168) := by decide +kernel
theorem dL_law_200 : decode cL_law 200 = .ok (.aload_n 1, 1) := by decide +kernel
theorem dL_law_201 : decode cL_law 201 = .ok (.aload_n 0, 1) := by decide +kernel
theorem dL_law_202 : decode cL_law 202 = .ok (.iload_n 3, 1) := by decide +kernel
theorem dL_law_203 : decode cL_law 203 = .ok (.iconst 1, 1) := by decide +kernel
theorem dL_law_204 : decode cL_law 204 = .ok (.iadd, 1) := by decide +kernel
theorem dL_law_205 : decode cL_law 205 = .ok (.iaload, 1) := by decide +kernel
theorem dL_law_206 : decode cL_law 206 = .ok (.invokevirtual 13, 3) := by decide +kernel
theorem dL_law_209 : decode cL_law 209 = .ok (.aload_n 2, 1) := by decide +kernel
theorem dL_law_210 : decode cL_law 210 = .ok (.aload_n 0, 1) := by decide +kernel
theorem dL_law_211 : decode cL_law 211 = .ok (.iload_n 3, 1) := by decide +kernel
theorem dL_law_212 : decode cL_law 212 = .ok (.iconst 1, 1) := by decide +kernel
theorem dL_law_213 : decode cL_law 213 = .ok (.iadd, 1) := by decide +kernel
theorem dL_law_214 : decode cL_law 214 = .ok (.iaload, 1) := by decide +kernel
theorem dL_law_215 : decode cL_law 215 = .ok (.invokevirtual 17, 3) := by decide +kernel
theorem dL_law_218 : decode cL_law 218 = .ok (.if_icmp .eq 796, 3) := by decide +kernel
theorem dL_law_221 : decode cL_law 221 = .ok (.iconst 0, 1) := by decide +kernel
theorem dL_law_222 : decode cL_law 222 = .ok (.ireturn, 1) := by decide +kernel
theorem dL_law_223 : decode cL_law 223 = .ok (.aload_n 1, 1) := by decide +kernel
theorem dL_law_224 : decode cL_law 224 = .ok (.aload_n 0, 1) := by decide +kernel
theorem dL_law_225 : decode cL_law 225 = .ok (.iload_n 3, 1) := by decide +kernel
theorem dL_law_226 : decode cL_law 226 = .ok (.iconst 1, 1) := by decide +kernel
theorem dL_law_227 : decode cL_law 227 = .ok (.iadd, 1) := by decide +kernel
theorem dL_law_228 : decode cL_law 228 = .ok (.iaload, 1) := by decide +kernel
theorem dL_law_229 : decode cL_law 229 = .ok (.aload_n 0, 1) := by decide +kernel
theorem dL_law_230 : decode cL_law 230 = .ok (.iload_n 3, 1) := by decide +kernel
theorem dL_law_231 : decode cL_law 231 = .ok (.iconst 2, 1) := by decide +kernel
theorem dL_law_232 : decode cL_law 232 = .ok (.iadd, 1) := by decide +kernel
theorem dL_law_233 : decode cL_law 233 = .ok (.iaload, 1) := by decide +kernel
theorem dL_law_234 : decode cL_law 234 = .ok (.invokevirtual 18, 3) := by decide +kernel
theorem dL_law_237 : decode cL_law 237 = .ok (.aload_n 2, 1) := by decide +kernel
theorem dL_law_238 : decode cL_law 238 = .ok (.aload_n 0, 1) := by decide +kernel
theorem dL_law_239 : decode cL_law 239 = .ok (.iload_n 3, 1) := by decide +kernel
theorem dL_law_240 : decode cL_law 240 = .ok (.iconst 1, 1) := by decide +kernel
theorem dL_law_241 : decode cL_law 241 = .ok (.iadd, 1) := by decide +kernel
theorem dL_law_242 : decode cL_law 242 = .ok (.iaload, 1) := by decide +kernel
theorem dL_law_243 : decode cL_law 243 = .ok (.aload_n 0, 1) := by decide +kernel
theorem dL_law_244 : decode cL_law 244 = .ok (.iload_n 3, 1) := by decide +kernel
theorem dL_law_245 : decode cL_law 245 = .ok (.iconst 2, 1) := by decide +kernel
theorem dL_law_246 : decode cL_law 246 = .ok (.iadd, 1) := by decide +kernel
theorem dL_law_247 : decode cL_law 247 = .ok (.iaload, 1) := by decide +kernel
theorem dL_law_248 : decode cL_law 248 = .ok (.invokevirtual 22, 3) := by decide +kernel
theorem dL_law_251 : decode cL_law 251 = .ok (.if_icmp .eq 763, 3) := by decide +kernel
theorem dL_law_254 : decode cL_law 254 = .ok (.iconst 0, 1) := by decide +kernel
theorem dL_law_255 : decode cL_law 255 = .ok (.ireturn, 1) := by decide +kernel
theorem dL_law_256 : decode cL_law 256 = .ok (.aload_n 1, 1) := by decide +kernel
theorem dL_law_257 : decode cL_law 257 = .ok (.aload_n 0, 1) := by decide +kernel
theorem dL_law_258 : decode cL_law 258 = .ok (.iload_n 3, 1) := by decide +kernel
theorem dL_law_259 : decode cL_law 259 = .ok (.iconst 1, 1) := by decide +kernel
theorem dL_law_260 : decode cL_law 260 = .ok (.iadd, 1) := by decide +kernel
theorem dL_law_261 : decode cL_law 261 = .ok (.iaload, 1) := by decide +kernel
theorem dL_law_262 : decode cL_law 262 = .ok (.aload_n 0, 1) := by decide +kernel
theorem dL_law_263 : decode cL_law 263 = .ok (.iload_n 3, 1) := by decide +kernel
theorem dL_law_264 : decode cL_law 264 = .ok (.iconst 2, 1) := by decide +kernel
theorem dL_law_265 : decode cL_law 265 = .ok (.iadd, 1) := by decide +kernel
theorem dL_law_266 : decode cL_law 266 = .ok (.iaload, 1) := by decide +kernel
theorem dL_law_267 : decode cL_law 267 = .ok (.aload_n 0, 1) := by decide +kernel
theorem dL_law_268 : decode cL_law 268 = .ok (.iload_n 3, 1) := by decide +kernel
theorem dL_law_269 : decode cL_law 269 = .ok (.iconst 3, 1) := by decide +kernel
theorem dL_law_270 : decode cL_law 270 = .ok (.iadd, 1) := by decide +kernel
theorem dL_law_271 : decode cL_law 271 = .ok (.iaload, 1) := by decide +kernel
theorem dL_law_272 : decode cL_law 272 = .ok (.invokevirtual 23, 3) := by decide +kernel
theorem dL_law_275 : decode cL_law 275 = .ok (.aload_n 2, 1) := by decide +kernel
theorem dL_law_276 : decode cL_law 276 = .ok (.aload_n 0, 1) := by decide +kernel
theorem dL_law_277 : decode cL_law 277 = .ok (.iload_n 3, 1) := by decide +kernel
theorem dL_law_278 : decode cL_law 278 = .ok (.iconst 1, 1) := by decide +kernel
theorem dL_law_279 : decode cL_law 279 = .ok (.iadd, 1) := by decide +kernel
theorem dL_law_280 : decode cL_law 280 = .ok (.iaload, 1) := by decide +kernel
theorem dL_law_281 : decode cL_law 281 = .ok (.aload_n 0, 1) := by decide +kernel
theorem dL_law_282 : decode cL_law 282 = .ok (.iload_n 3, 1) := by decide +kernel
theorem dL_law_283 : decode cL_law 283 = .ok (.iconst 2, 1) := by decide +kernel
theorem dL_law_284 : decode cL_law 284 = .ok (.iadd, 1) := by decide +kernel
theorem dL_law_285 : decode cL_law 285 = .ok (.iaload, 1) := by decide +kernel
theorem dL_law_286 : decode cL_law 286 = .ok (.aload_n 0, 1) := by decide +kernel
theorem dL_law_287 : decode cL_law 287 = .ok (.iload_n 3, 1) := by decide +kernel
theorem dL_law_288 : decode cL_law 288 = .ok (.iconst 3, 1) := by decide +kernel
theorem dL_law_289 : decode cL_law 289 = .ok (.iadd, 1) := by decide +kernel
theorem dL_law_290 : decode cL_law 290 = .ok (.iaload, 1) := by decide +kernel
theorem dL_law_291 : decode cL_law 291 = .ok (.invokevirtual 27, 3) := by decide +kernel
theorem dL_law_294 : decode cL_law 294 = .ok (.if_icmp .eq 720, 3) := by decide +kernel
theorem dL_law_297 : decode cL_law 297 = .ok (.iconst 0, 1) := by decide +kernel
theorem dL_law_298 : decode cL_law 298 = .ok (.ireturn, 1) := by decide +kernel
theorem dL_law_299 : decode cL_law 299 = .ok (.aload_n 1, 1) := by decide +kernel
theorem dL_law_300 : decode cL_law 300 = .ok (.aload_n 0, 1) := by decide +kernel
theorem dL_law_301 : decode cL_law 301 = .ok (.iload_n 3, 1) := by decide +kernel
theorem dL_law_302 : decode cL_law 302 = .ok (.iconst 1, 1) := by decide +kernel
theorem dL_law_303 : decode cL_law 303 = .ok (.iadd, 1) := by decide +kernel
theorem dL_law_304 : decode cL_law 304 = .ok (.iaload, 1) := by decide +kernel
theorem dL_law_305 : decode cL_law 305 = .ok (.aload_n 0, 1) := by decide +kernel
theorem dL_law_306 : decode cL_law 306 = .ok (.iload_n 3, 1) := by decide +kernel
theorem dL_law_307 : decode cL_law 307 = .ok (.iconst 2, 1) := by decide +kernel
theorem dL_law_308 : decode cL_law 308 = .ok (.iadd, 1) := by decide +kernel
theorem dL_law_309 : decode cL_law 309 = .ok (.iaload, 1) := by decide +kernel
theorem dL_law_310 : decode cL_law 310 = .ok (.aload_n 0, 1) := by decide +kernel
theorem dL_law_311 : decode cL_law 311 = .ok (.iload_n 3, 1) := by decide +kernel
theorem dL_law_312 : decode cL_law 312 = .ok (.iconst 3, 1) := by decide +kernel
theorem dL_law_313 : decode cL_law 313 = .ok (.iadd, 1) := by decide +kernel
theorem dL_law_314 : decode cL_law 314 = .ok (.iaload, 1) := by decide +kernel
theorem dL_law_315 : decode cL_law 315 = .ok (.invokevirtual 28, 3) := by decide +kernel
theorem dL_law_318 : decode cL_law 318 = .ok (.aload_n 2, 1) := by decide +kernel
theorem dL_law_319 : decode cL_law 319 = .ok (.aload_n 0, 1) := by decide +kernel
theorem dL_law_320 : decode cL_law 320 = .ok (.iload_n 3, 1) := by decide +kernel
theorem dL_law_321 : decode cL_law 321 = .ok (.iconst 1, 1) := by decide +kernel
theorem dL_law_322 : decode cL_law 322 = .ok (.iadd, 1) := by decide +kernel
theorem dL_law_323 : decode cL_law 323 = .ok (.iaload, 1) := by decide +kernel
theorem dL_law_324 : decode cL_law 324 = .ok (.aload_n 0, 1) := by decide +kernel
theorem dL_law_325 : decode cL_law 325 = .ok (.iload_n 3, 1) := by decide +kernel
theorem dL_law_326 : decode cL_law 326 = .ok (.iconst 2, 1) := by decide +kernel
theorem dL_law_327 : decode cL_law 327 = .ok (.iadd, 1) := by decide +kernel
theorem dL_law_328 : decode cL_law 328 = .ok (.iaload, 1) := by decide +kernel
theorem dL_law_329 : decode cL_law 329 = .ok (.aload_n 0, 1) := by decide +kernel
theorem dL_law_330 : decode cL_law 330 = .ok (.iload_n 3, 1) := by decide +kernel
theorem dL_law_331 : decode cL_law 331 = .ok (.iconst 3, 1) := by decide +kernel
theorem dL_law_332 : decode cL_law 332 = .ok (.iadd, 1) := by decide +kernel
theorem dL_law_333 : decode cL_law 333 = .ok (.iaload, 1) := by decide +kernel
theorem dL_law_334 : decode cL_law 334 = .ok (.invokevirtual 31, 3) := by decide +kernel
theorem dL_law_337 : decode cL_law 337 = .ok (.if_icmp .eq 677, 3) := by decide +kernel
theorem dL_law_340 : decode cL_law 340 = .ok (.iconst 0, 1) := by decide +kernel
theorem dL_law_341 : decode cL_law 341 = .ok (.ireturn, 1) := by decide +kernel
theorem dL_law_342 : decode cL_law 342 = .ok (.aload_n 1, 1) := by decide +kernel
theorem dL_law_343 : decode cL_law 343 = .ok (.aload_n 0, 1) := by decide +kernel
theorem dL_law_344 : decode cL_law 344 = .ok (.iload_n 3, 1) := by decide +kernel
theorem dL_law_345 : decode cL_law 345 = .ok (.iconst 1, 1) := by decide +kernel
theorem dL_law_346 : decode cL_law 346 = .ok (.iadd, 1) := by decide +kernel
theorem dL_law_347 : decode cL_law 347 = .ok (.iaload, 1) := by decide +kernel
theorem dL_law_348 : decode cL_law 348 = .ok (.aload_n 0, 1) := by decide +kernel
theorem dL_law_349 : decode cL_law 349 = .ok (.iload_n 3, 1) := by decide +kernel
theorem dL_law_350 : decode cL_law 350 = .ok (.iconst 2, 1) := by decide +kernel
theorem dL_law_351 : decode cL_law 351 = .ok (.iadd, 1) := by decide +kernel
theorem dL_law_352 : decode cL_law 352 = .ok (.iaload, 1) := by decide +kernel
theorem dL_law_353 : decode cL_law 353 = .ok (.invokevirtual 32, 3) := by decide +kernel
theorem dL_law_356 : decode cL_law 356 = .ok (.aload_n 2, 1) := by decide +kernel
theorem dL_law_357 : decode cL_law 357 = .ok (.aload_n 0, 1) := by decide +kernel
theorem dL_law_358 : decode cL_law 358 = .ok (.iload_n 3, 1) := by decide +kernel
theorem dL_law_359 : decode cL_law 359 = .ok (.iconst 1, 1) := by decide +kernel
theorem dL_law_360 : decode cL_law 360 = .ok (.iadd, 1) := by decide +kernel
theorem dL_law_361 : decode cL_law 361 = .ok (.iaload, 1) := by decide +kernel
theorem dL_law_362 : decode cL_law 362 = .ok (.aload_n 0, 1) := by decide +kernel
theorem dL_law_363 : decode cL_law 363 = .ok (.iload_n 3, 1) := by decide +kernel
theorem dL_law_364 : decode cL_law 364 = .ok (.iconst 2, 1) := by decide +kernel
theorem dL_law_365 : decode cL_law 365 = .ok (.iadd, 1) := by decide +kernel
theorem dL_law_366 : decode cL_law 366 = .ok (.iaload, 1) := by decide +kernel
theorem dL_law_367 : decode cL_law 367 = .ok (.invokevirtual 35, 3) := by decide +kernel
theorem dL_law_370 : decode cL_law 370 = .ok (.if_icmp .eq 644, 3) := by decide +kernel
theorem dL_law_373 : decode cL_law 373 = .ok (.iconst 0, 1) := by decide +kernel
theorem dL_law_374 : decode cL_law 374 = .ok (.ireturn, 1) := by decide +kernel
theorem dL_law_375 : decode cL_law 375 = .ok (.aload_n 1, 1) := by decide +kernel
theorem dL_law_376 : decode cL_law 376 = .ok (.aload_n 0, 1) := by decide +kernel
theorem dL_law_377 : decode cL_law 377 = .ok (.iload_n 3, 1) := by decide +kernel
theorem dL_law_378 : decode cL_law 378 = .ok (.iconst 1, 1) := by decide +kernel
theorem dL_law_379 : decode cL_law 379 = .ok (.iadd, 1) := by decide +kernel
theorem dL_law_380 : decode cL_law 380 = .ok (.iaload, 1) := by decide +kernel
theorem dL_law_381 : decode cL_law 381 = .ok (.invokevirtual 36, 3) := by decide +kernel
theorem dL_law_384 : decode cL_law 384 = .ok (.aload_n 2, 1) := by decide +kernel
theorem dL_law_385 : decode cL_law 385 = .ok (.aload_n 0, 1) := by decide +kernel
theorem dL_law_386 : decode cL_law 386 = .ok (.iload_n 3, 1) := by decide +kernel
theorem dL_law_387 : decode cL_law 387 = .ok (.iconst 1, 1) := by decide +kernel
theorem dL_law_388 : decode cL_law 388 = .ok (.iadd, 1) := by decide +kernel
theorem dL_law_389 : decode cL_law 389 = .ok (.iaload, 1) := by decide +kernel
theorem dL_law_390 : decode cL_law 390 = .ok (.invokevirtual 39, 3) := by decide +kernel
theorem dL_law_393 : decode cL_law 393 = .ok (.if_icmp .eq 621, 3) := by decide +kernel
theorem dL_law_396 : decode cL_law 396 = .ok (.iconst 0, 1) := by decide +kernel
theorem dL_law_397 : decode cL_law 397 = .ok (.ireturn, 1) := by decide +kernel
theorem dL_law_398 : decode cL_law 398 = .ok (.aload_n 1, 1) := by decide +kernel
theorem dL_law_399 : decode cL_law 399 = .ok (.aload_n 0, 1) := by decide +kernel
theorem dL_law_400 : decode cL_law 400 = .ok (.iload_n 3, 1) := by decide +kernel
theorem dL_law_401 : decode cL_law 401 = .ok (.iconst 1, 1) := by decide +kernel
theorem dL_law_402 : decode cL_law 402 = .ok (.iadd, 1) := by decide +kernel
theorem dL_law_403 : decode cL_law 403 = .ok (.iaload, 1) := by decide +kernel
theorem dL_law_404 : decode cL_law 404 = .ok (.aload_n 0, 1) := by decide +kernel
theorem dL_law_405 : decode cL_law 405 = .ok (.iload_n 3, 1) := by decide +kernel
theorem dL_law_406 : decode cL_law 406 = .ok (.iconst 2, 1) := by decide +kernel
theorem dL_law_407 : decode cL_law 407 = .ok (.iadd, 1) := by decide +kernel
theorem dL_law_408 : decode cL_law 408 = .ok (.iaload, 1) := by decide +kernel
theorem dL_law_409 : decode cL_law 409 = .ok (.invokevirtual 40, 3) := by decide +kernel
theorem dL_law_412 : decode cL_law 412 = .ok (.aload_n 2, 1) := by decide +kernel
theorem dL_law_413 : decode cL_law 413 = .ok (.aload_n 0, 1) := by decide +kernel
theorem dL_law_414 : decode cL_law 414 = .ok (.iload_n 3, 1) := by decide +kernel
theorem dL_law_415 : decode cL_law 415 = .ok (.iconst 1, 1) := by decide +kernel
theorem dL_law_416 : decode cL_law 416 = .ok (.iadd, 1) := by decide +kernel
theorem dL_law_417 : decode cL_law 417 = .ok (.iaload, 1) := by decide +kernel
theorem dL_law_418 : decode cL_law 418 = .ok (.aload_n 0, 1) := by decide +kernel
theorem dL_law_419 : decode cL_law 419 = .ok (.iload_n 3, 1) := by decide +kernel
theorem dL_law_420 : decode cL_law 420 = .ok (.iconst 2, 1) := by decide +kernel
theorem dL_law_421 : decode cL_law 421 = .ok (.iadd, 1) := by decide +kernel
theorem dL_law_422 : decode cL_law 422 = .ok (.iaload, 1) := by decide +kernel
theorem dL_law_423 : decode cL_law 423 = .ok (.invokevirtual 43, 3) := by decide +kernel
theorem dL_law_426 : decode cL_law 426 = .ok (.if_icmp .eq 588, 3) := by decide +kernel
theorem dL_law_429 : decode cL_law 429 = .ok (.iconst 0, 1) := by decide +kernel
theorem dL_law_430 : decode cL_law 430 = .ok (.ireturn, 1) := by decide +kernel
theorem dL_law_431 : decode cL_law 431 = .ok (.aload_n 1, 1) := by decide +kernel
theorem dL_law_432 : decode cL_law 432 = .ok (.invokevirtual 44, 3) := by decide +kernel
theorem dL_law_435 : decode cL_law 435 = .ok (.aload_n 2, 1) := by decide +kernel
theorem dL_law_436 : decode cL_law 436 = .ok (.invokevirtual 48, 3) := by decide +kernel
theorem dL_law_439 : decode cL_law 439 = .ok (.if_icmp .eq 575, 3) := by decide +kernel
theorem dL_law_442 : decode cL_law 442 = .ok (.iconst 0, 1) := by decide +kernel
theorem dL_law_443 : decode cL_law 443 = .ok (.ireturn, 1) := by decide +kernel
theorem dL_law_444 : decode cL_law 444 = .ok (.aload_n 1, 1) := by decide +kernel
theorem dL_law_445 : decode cL_law 445 = .ok (.invokevirtual 49, 3) := by decide +kernel
theorem dL_law_448 : decode cL_law 448 = .ok (.aload_n 2, 1) := by decide +kernel
theorem dL_law_449 : decode cL_law 449 = .ok (.invokevirtual 52, 3) := by decide +kernel
theorem dL_law_452 : decode cL_law 452 = .ok (.if_icmp .eq 562, 3) := by decide +kernel
theorem dL_law_455 : decode cL_law 455 = .ok (.iconst 0, 1) := by decide +kernel
theorem dL_law_456 : decode cL_law 456 = .ok (.ireturn, 1) := by decide +kernel
theorem dL_law_457 : decode cL_law 457 = .ok (.aload_n 1, 1) := by decide +kernel
theorem dL_law_458 : decode cL_law 458 = .ok (.invokevirtual 53, 3) := by decide +kernel
theorem dL_law_461 : decode cL_law 461 = .ok (.aload_n 2, 1) := by decide +kernel
theorem dL_law_462 : decode cL_law 462 = .ok (.invokevirtual 56, 3) := by decide +kernel
theorem dL_law_465 : decode cL_law 465 = .ok (.if_icmp .eq 549, 3) := by decide +kernel
theorem dL_law_468 : decode cL_law 468 = .ok (.iconst 0, 1) := by decide +kernel
theorem dL_law_469 : decode cL_law 469 = .ok (.ireturn, 1) := by decide +kernel
theorem dL_law_470 : decode cL_law 470 = .ok (.aload_n 1, 1) := by decide +kernel
theorem dL_law_471 : decode cL_law 471 = .ok (.invokevirtual 57, 3) := by decide +kernel
theorem dL_law_474 : decode cL_law 474 = .ok (.aload_n 2, 1) := by decide +kernel
theorem dL_law_475 : decode cL_law 475 = .ok (.invokevirtual 60, 3) := by decide +kernel
theorem dL_law_478 : decode cL_law 478 = .ok (.if_icmp .eq 536, 3) := by decide +kernel
theorem dL_law_481 : decode cL_law 481 = .ok (.iconst 0, 1) := by decide +kernel
theorem dL_law_482 : decode cL_law 482 = .ok (.ireturn, 1) := by decide +kernel
theorem dL_law_483 : decode cL_law 483 = .ok (.aload_n 1, 1) := by decide +kernel
theorem dL_law_484 : decode cL_law 484 = .ok (.aload_n 0, 1) := by decide +kernel
theorem dL_law_485 : decode cL_law 485 = .ok (.iload_n 3, 1) := by decide +kernel
theorem dL_law_486 : decode cL_law 486 = .ok (.iconst 1, 1) := by decide +kernel
theorem dL_law_487 : decode cL_law 487 = .ok (.iadd, 1) := by decide +kernel
theorem dL_law_488 : decode cL_law 488 = .ok (.iaload, 1) := by decide +kernel
theorem dL_law_489 : decode cL_law 489 = .ok (.invokevirtual 61, 3) := by decide +kernel
theorem dL_law_492 : decode cL_law 492 = .ok (.aload_n 2, 1) := by decide +kernel
theorem dL_law_493 : decode cL_law 493 = .ok (.aload_n 0, 1) := by decide +kernel
theorem dL_law_494 : decode cL_law 494 = .ok (.iload_n 3, 1) := by decide +kernel
theorem dL_law_495 : decode cL_law 495 = .ok (.iconst 1, 1) := by decide +kernel
theorem dL_law_496 : decode cL_law 496 = .ok (.iadd, 1) := by decide +kernel
theorem dL_law_497 : decode cL_law 497 = .ok (.iaload, 1) := by decide +kernel
theorem dL_law_498 : decode cL_law 498 = .ok (.invokevirtual 64, 3) := by decide +kernel
theorem dL_law_501 : decode cL_law 501 = .ok (.if_icmp .eq 513, 3) := by decide +kernel
theorem dL_law_504 : decode cL_law 504 = .ok (.iconst 0, 1) := by decide +kernel
theorem dL_law_505 : decode cL_law 505 = .ok (.ireturn, 1) := by decide +kernel
theorem dL_law_506 : decode cL_law 506 = .ok (.aload_n 1, 1) := by decide +kernel
theorem dL_law_507 : decode cL_law 507 = .ok (.invokevirtual 65, 3) := by decide +kernel
theorem dL_law_510 : decode cL_law 510 = .ok (.aload_n 2, 1) := by decide +kernel
theorem dL_law_511 : decode cL_law 511 = .ok (.invokevirtual 68, 3) := by decide +kernel
theorem dL_law_514 : decode cL_law 514 = .ok (.if_icmp .eq 500, 3) := by decide +kernel
theorem dL_law_517 : decode cL_law 517 = .ok (.iconst 0, 1) := by decide +kernel
theorem dL_law_518 : decode cL_law 518 = .ok (.ireturn, 1) := by decide +kernel
theorem dL_law_519 : decode cL_law 519 = .ok (.aload_n 1, 1) := by decide +kernel
theorem dL_law_520 : decode cL_law 520 = .ok (.invokevirtual 69, 3) := by decide +kernel
theorem dL_law_523 : decode cL_law 523 = .ok (.aload_n 2, 1) := by decide +kernel
theorem dL_law_524 : decode cL_law 524 = .ok (.invokevirtual 72, 3) := by decide +kernel
theorem dL_law_527 : decode cL_law 527 = .ok (.if_icmp .eq 487, 3) := by decide +kernel
theorem dL_law_530 : decode cL_law 530 = .ok (.iconst 0, 1) := by decide +kernel
theorem dL_law_531 : decode cL_law 531 = .ok (.ireturn, 1) := by decide +kernel
theorem dL_law_532 : decode cL_law 532 = .ok (.aload_n 1, 1) := by decide +kernel
theorem dL_law_533 : decode cL_law 533 = .ok (.aload_n 0, 1) := by decide +kernel
theorem dL_law_534 : decode cL_law 534 = .ok (.iload_n 3, 1) := by decide +kernel
theorem dL_law_535 : decode cL_law 535 = .ok (.iconst 1, 1) := by decide +kernel
theorem dL_law_536 : decode cL_law 536 = .ok (.iadd, 1) := by decide +kernel
theorem dL_law_537 : decode cL_law 537 = .ok (.iaload, 1) := by decide +kernel
theorem dL_law_538 : decode cL_law 538 = .ok (.invokevirtual 73, 3) := by decide +kernel
theorem dL_law_541 : decode cL_law 541 = .ok (.aload_n 2, 1) := by decide +kernel
theorem dL_law_542 : decode cL_law 542 = .ok (.aload_n 0, 1) := by decide +kernel
theorem dL_law_543 : decode cL_law 543 = .ok (.iload_n 3, 1) := by decide +kernel
theorem dL_law_544 : decode cL_law 544 = .ok (.iconst 1, 1) := by decide +kernel
theorem dL_law_545 : decode cL_law 545 = .ok (.iadd, 1) := by decide +kernel
theorem dL_law_546 : decode cL_law 546 = .ok (.iaload, 1) := by decide +kernel
theorem dL_law_547 : decode cL_law 547 = .ok (.invokevirtual 76, 3) := by decide +kernel
theorem dL_law_550 : decode cL_law 550 = .ok (.if_icmp .eq 464, 3) := by decide +kernel
theorem dL_law_553 : decode cL_law 553 = .ok (.iconst 0, 1) := by decide +kernel
theorem dL_law_554 : decode cL_law 554 = .ok (.ireturn, 1) := by decide +kernel
theorem dL_law_555 : decode cL_law 555 = .ok (.aload_n 1, 1) := by decide +kernel
theorem dL_law_556 : decode cL_law 556 = .ok (.invokevirtual 77, 3) := by decide +kernel
theorem dL_law_559 : decode cL_law 559 = .ok (.aload_n 2, 1) := by decide +kernel
theorem dL_law_560 : decode cL_law 560 = .ok (.invokevirtual 80, 3) := by decide +kernel
theorem dL_law_563 : decode cL_law 563 = .ok (.if_icmp .eq 451, 3) := by decide +kernel
theorem dL_law_566 : decode cL_law 566 = .ok (.iconst 0, 1) := by decide +kernel
theorem dL_law_567 : decode cL_law 567 = .ok (.ireturn, 1) := by decide +kernel
theorem dL_law_568 : decode cL_law 568 = .ok (.aload_n 1, 1) := by decide +kernel
theorem dL_law_569 : decode cL_law 569 = .ok (.invokevirtual 81, 3) := by decide +kernel
theorem dL_law_572 : decode cL_law 572 = .ok (.aload_n 2, 1) := by decide +kernel
theorem dL_law_573 : decode cL_law 573 = .ok (.invokevirtual 84, 3) := by decide +kernel
theorem dL_law_576 : decode cL_law 576 = .ok (.if_icmp .eq 438, 3) := by decide +kernel
theorem dL_law_579 : decode cL_law 579 = .ok (.iconst 0, 1) := by decide +kernel
theorem dL_law_580 : decode cL_law 580 = .ok (.ireturn, 1) := by decide +kernel
theorem dL_law_581 : decode cL_law 581 = .ok (.aload_n 1, 1) := by decide +kernel
theorem dL_law_582 : decode cL_law 582 = .ok (.invokevirtual 85, 3) := by decide +kernel
theorem dL_law_585 : decode cL_law 585 = .ok (.aload_n 2, 1) := by decide +kernel
theorem dL_law_586 : decode cL_law 586 = .ok (.invokevirtual 88, 3) := by decide +kernel
theorem dL_law_589 : decode cL_law 589 = .ok (.if_icmp .eq 425, 3) := by decide +kernel
theorem dL_law_592 : decode cL_law 592 = .ok (.iconst 0, 1) := by decide +kernel
theorem dL_law_593 : decode cL_law 593 = .ok (.ireturn, 1) := by decide +kernel
theorem dL_law_594 : decode cL_law 594 = .ok (.aload_n 1, 1) := by decide +kernel
theorem dL_law_595 : decode cL_law 595 = .ok (.aload_n 0, 1) := by decide +kernel
theorem dL_law_596 : decode cL_law 596 = .ok (.iload_n 3, 1) := by decide +kernel
theorem dL_law_597 : decode cL_law 597 = .ok (.iconst 1, 1) := by decide +kernel
theorem dL_law_598 : decode cL_law 598 = .ok (.iadd, 1) := by decide +kernel
theorem dL_law_599 : decode cL_law 599 = .ok (.iaload, 1) := by decide +kernel
theorem dL_law_600 : decode cL_law 600 = .ok (.aload_n 0, 1) := by decide +kernel
theorem dL_law_601 : decode cL_law 601 = .ok (.iload_n 3, 1) := by decide +kernel
theorem dL_law_602 : decode cL_law 602 = .ok (.iconst 2, 1) := by decide +kernel
theorem dL_law_603 : decode cL_law 603 = .ok (.iadd, 1) := by decide +kernel
theorem dL_law_604 : decode cL_law 604 = .ok (.iaload, 1) := by decide +kernel
theorem dL_law_605 : decode cL_law 605 = .ok (.invokevirtual 89, 3) := by decide +kernel
theorem dL_law_608 : decode cL_law 608 = .ok (.aload_n 2, 1) := by decide +kernel
theorem dL_law_609 : decode cL_law 609 = .ok (.aload_n 0, 1) := by decide +kernel
theorem dL_law_610 : decode cL_law 610 = .ok (.iload_n 3, 1) := by decide +kernel
theorem dL_law_611 : decode cL_law 611 = .ok (.iconst 1, 1) := by decide +kernel
theorem dL_law_612 : decode cL_law 612 = .ok (.iadd, 1) := by decide +kernel
theorem dL_law_613 : decode cL_law 613 = .ok (.iaload, 1) := by decide +kernel
theorem dL_law_614 : decode cL_law 614 = .ok (.aload_n 0, 1) := by decide +kernel
theorem dL_law_615 : decode cL_law 615 = .ok (.iload_n 3, 1) := by decide +kernel
theorem dL_law_616 : decode cL_law 616 = .ok (.iconst 2, 1) := by decide +kernel
theorem dL_law_617 : decode cL_law 617 = .ok (.iadd, 1) := by decide +kernel
theorem dL_law_618 : decode cL_law 618 = .ok (.iaload, 1) := by decide +kernel
theorem dL_law_619 : decode cL_law 619 = .ok (.invokevirtual 92, 3) := by decide +kernel
theorem dL_law_622 : decode cL_law 622 = .ok (.if_icmp .eq 392, 3) := by decide +kernel
theorem dL_law_625 : decode cL_law 625 = .ok (.iconst 0, 1) := by decide +kernel
theorem dL_law_626 : decode cL_law 626 = .ok (.ireturn, 1) := by decide +kernel
theorem dL_law_627 : decode cL_law 627 = .ok (.aload_n 1, 1) := by decide +kernel
theorem dL_law_628 : decode cL_law 628 = .ok (.aload_n 0, 1) := by decide +kernel
theorem dL_law_629 : decode cL_law 629 = .ok (.iload_n 3, 1) := by decide +kernel
theorem dL_law_630 : decode cL_law 630 = .ok (.iconst 1, 1) := by decide +kernel
theorem dL_law_631 : decode cL_law 631 = .ok (.iadd, 1) := by decide +kernel
theorem dL_law_632 : decode cL_law 632 = .ok (.iaload, 1) := by decide +kernel
theorem dL_law_633 : decode cL_law 633 = .ok (.aload_n 0, 1) := by decide +kernel
theorem dL_law_634 : decode cL_law 634 = .ok (.iload_n 3, 1) := by decide +kernel
theorem dL_law_635 : decode cL_law 635 = .ok (.iconst 2, 1) := by decide +kernel
theorem dL_law_636 : decode cL_law 636 = .ok (.iadd, 1) := by decide +kernel
theorem dL_law_637 : decode cL_law 637 = .ok (.iaload, 1) := by decide +kernel
theorem dL_law_638 : decode cL_law 638 = .ok (.invokevirtual 93, 3) := by decide +kernel
theorem dL_law_641 : decode cL_law 641 = .ok (.aload_n 2, 1) := by decide +kernel
theorem dL_law_642 : decode cL_law 642 = .ok (.aload_n 0, 1) := by decide +kernel
theorem dL_law_643 : decode cL_law 643 = .ok (.iload_n 3, 1) := by decide +kernel
theorem dL_law_644 : decode cL_law 644 = .ok (.iconst 1, 1) := by decide +kernel
theorem dL_law_645 : decode cL_law 645 = .ok (.iadd, 1) := by decide +kernel
theorem dL_law_646 : decode cL_law 646 = .ok (.iaload, 1) := by decide +kernel
theorem dL_law_647 : decode cL_law 647 = .ok (.aload_n 0, 1) := by decide +kernel
theorem dL_law_648 : decode cL_law 648 = .ok (.iload_n 3, 1) := by decide +kernel
theorem dL_law_649 : decode cL_law 649 = .ok (.iconst 2, 1) := by decide +kernel
theorem dL_law_650 : decode cL_law 650 = .ok (.iadd, 1) := by decide +kernel
theorem dL_law_651 : decode cL_law 651 = .ok (.iaload, 1) := by decide +kernel
theorem dL_law_652 : decode cL_law 652 = .ok (.invokevirtual 96, 3) := by decide +kernel
theorem dL_law_655 : decode cL_law 655 = .ok (.if_icmp .eq 359, 3) := by decide +kernel
theorem dL_law_658 : decode cL_law 658 = .ok (.iconst 0, 1) := by decide +kernel
theorem dL_law_659 : decode cL_law 659 = .ok (.ireturn, 1) := by decide +kernel
theorem dL_law_660 : decode cL_law 660 = .ok (.aload_n 1, 1) := by decide +kernel
theorem dL_law_661 : decode cL_law 661 = .ok (.aload_n 0, 1) := by decide +kernel
theorem dL_law_662 : decode cL_law 662 = .ok (.iload_n 3, 1) := by decide +kernel
theorem dL_law_663 : decode cL_law 663 = .ok (.iconst 1, 1) := by decide +kernel
theorem dL_law_664 : decode cL_law 664 = .ok (.iadd, 1) := by decide +kernel
theorem dL_law_665 : decode cL_law 665 = .ok (.iaload, 1) := by decide +kernel
theorem dL_law_666 : decode cL_law 666 = .ok (.invokevirtual 97, 3) := by decide +kernel
theorem dL_law_669 : decode cL_law 669 = .ok (.aload_n 2, 1) := by decide +kernel
theorem dL_law_670 : decode cL_law 670 = .ok (.aload_n 0, 1) := by decide +kernel
theorem dL_law_671 : decode cL_law 671 = .ok (.iload_n 3, 1) := by decide +kernel
theorem dL_law_672 : decode cL_law 672 = .ok (.iconst 1, 1) := by decide +kernel
theorem dL_law_673 : decode cL_law 673 = .ok (.iadd, 1) := by decide +kernel
theorem dL_law_674 : decode cL_law 674 = .ok (.iaload, 1) := by decide +kernel
theorem dL_law_675 : decode cL_law 675 = .ok (.invokevirtual 100, 3) := by decide +kernel
theorem dL_law_678 : decode cL_law 678 = .ok (.if_icmp .eq 336, 3) := by decide +kernel
theorem dL_law_681 : decode cL_law 681 = .ok (.iconst 0, 1) := by decide +kernel
theorem dL_law_682 : decode cL_law 682 = .ok (.ireturn, 1) := by decide +kernel
theorem dL_law_683 : decode cL_law 683 = .ok (.aload_n 1, 1) := by decide +kernel
theorem dL_law_684 : decode cL_law 684 = .ok (.aload_n 0, 1) := by decide +kernel
theorem dL_law_685 : decode cL_law 685 = .ok (.iload_n 3, 1) := by decide +kernel
theorem dL_law_686 : decode cL_law 686 = .ok (.iconst 1, 1) := by decide +kernel
theorem dL_law_687 : decode cL_law 687 = .ok (.iadd, 1) := by decide +kernel
theorem dL_law_688 : decode cL_law 688 = .ok (.iaload, 1) := by decide +kernel
theorem dL_law_689 : decode cL_law 689 = .ok (.invokevirtual 101, 3) := by decide +kernel
theorem dL_law_692 : decode cL_law 692 = .ok (.aload_n 2, 1) := by decide +kernel
theorem dL_law_693 : decode cL_law 693 = .ok (.aload_n 0, 1) := by decide +kernel
theorem dL_law_694 : decode cL_law 694 = .ok (.iload_n 3, 1) := by decide +kernel
theorem dL_law_695 : decode cL_law 695 = .ok (.iconst 1, 1) := by decide +kernel
theorem dL_law_696 : decode cL_law 696 = .ok (.iadd, 1) := by decide +kernel
theorem dL_law_697 : decode cL_law 697 = .ok (.iaload, 1) := by decide +kernel
theorem dL_law_698 : decode cL_law 698 = .ok (.invokevirtual 104, 3) := by decide +kernel
theorem dL_law_701 : decode cL_law 701 = .ok (.if_icmp .eq 313, 3) := by decide +kernel
theorem dL_law_704 : decode cL_law 704 = .ok (.iconst 0, 1) := by decide +kernel
theorem dL_law_705 : decode cL_law 705 = .ok (.ireturn, 1) := by decide +kernel
theorem dL_law_706 : decode cL_law 706 = .ok (.aload_n 1, 1) := by decide +kernel
theorem dL_law_707 : decode cL_law 707 = .ok (.invokevirtual 105, 3) := by decide +kernel
theorem dL_law_710 : decode cL_law 710 = .ok (.aload_n 2, 1) := by decide +kernel
theorem dL_law_711 : decode cL_law 711 = .ok (.invokevirtual 108, 3) := by decide +kernel
theorem dL_law_714 : decode cL_law 714 = .ok (.if_icmp .eq 300, 3) := by decide +kernel
theorem dL_law_717 : decode cL_law 717 = .ok (.iconst 0, 1) := by decide +kernel
theorem dL_law_718 : decode cL_law 718 = .ok (.ireturn, 1) := by decide +kernel
theorem dL_law_719 : decode cL_law 719 = .ok (.aload_n 1, 1) := by decide +kernel
theorem dL_law_720 : decode cL_law 720 = .ok (.aload_n 0, 1) := by decide +kernel
theorem dL_law_721 : decode cL_law 721 = .ok (.iload_n 3, 1) := by decide +kernel
theorem dL_law_722 : decode cL_law 722 = .ok (.iconst 1, 1) := by decide +kernel
theorem dL_law_723 : decode cL_law 723 = .ok (.iadd, 1) := by decide +kernel
theorem dL_law_724 : decode cL_law 724 = .ok (.iaload, 1) := by decide +kernel
theorem dL_law_725 : decode cL_law 725 = .ok (.aload_n 0, 1) := by decide +kernel
theorem dL_law_726 : decode cL_law 726 = .ok (.iload_n 3, 1) := by decide +kernel
theorem dL_law_727 : decode cL_law 727 = .ok (.iconst 2, 1) := by decide +kernel
theorem dL_law_728 : decode cL_law 728 = .ok (.iadd, 1) := by decide +kernel
theorem dL_law_729 : decode cL_law 729 = .ok (.iaload, 1) := by decide +kernel
theorem dL_law_730 : decode cL_law 730 = .ok (.invokevirtual 109, 3) := by decide +kernel
theorem dL_law_733 : decode cL_law 733 = .ok (.aload_n 2, 1) := by decide +kernel
theorem dL_law_734 : decode cL_law 734 = .ok (.aload_n 0, 1) := by decide +kernel
theorem dL_law_735 : decode cL_law 735 = .ok (.iload_n 3, 1) := by decide +kernel
theorem dL_law_736 : decode cL_law 736 = .ok (.iconst 1, 1) := by decide +kernel
theorem dL_law_737 : decode cL_law 737 = .ok (.iadd, 1) := by decide +kernel
theorem dL_law_738 : decode cL_law 738 = .ok (.iaload, 1) := by decide +kernel
theorem dL_law_739 : decode cL_law 739 = .ok (.aload_n 0, 1) := by decide +kernel
theorem dL_law_740 : decode cL_law 740 = .ok (.iload_n 3, 1) := by decide +kernel
theorem dL_law_741 : decode cL_law 741 = .ok (.iconst 2, 1) := by decide +kernel
theorem dL_law_742 : decode cL_law 742 = .ok (.iadd, 1) := by decide +kernel
theorem dL_law_743 : decode cL_law 743 = .ok (.iaload, 1) := by decide +kernel
theorem dL_law_744 : decode cL_law 744 = .ok (.invokevirtual 112, 3) := by decide +kernel
theorem dL_law_747 : decode cL_law 747 = .ok (.if_icmp .eq 267, 3) := by decide +kernel
theorem dL_law_750 : decode cL_law 750 = .ok (.iconst 0, 1) := by decide +kernel
theorem dL_law_751 : decode cL_law 751 = .ok (.ireturn, 1) := by decide +kernel
theorem dL_law_752 : decode cL_law 752 = .ok (.aload_n 1, 1) := by decide +kernel
theorem dL_law_753 : decode cL_law 753 = .ok (.invokevirtual 113, 3) := by decide +kernel
theorem dL_law_756 : decode cL_law 756 = .ok (.aload_n 2, 1) := by decide +kernel
theorem dL_law_757 : decode cL_law 757 = .ok (.invokevirtual 116, 3) := by decide +kernel
theorem dL_law_760 : decode cL_law 760 = .ok (.if_icmp .eq 254, 3) := by decide +kernel
theorem dL_law_763 : decode cL_law 763 = .ok (.iconst 0, 1) := by decide +kernel
theorem dL_law_764 : decode cL_law 764 = .ok (.ireturn, 1) := by decide +kernel
theorem dL_law_765 : decode cL_law 765 = .ok (.aload_n 1, 1) := by decide +kernel
theorem dL_law_766 : decode cL_law 766 = .ok (.aload_n 0, 1) := by decide +kernel
theorem dL_law_767 : decode cL_law 767 = .ok (.iload_n 3, 1) := by decide +kernel
theorem dL_law_768 : decode cL_law 768 = .ok (.iconst 1, 1) := by decide +kernel
theorem dL_law_769 : decode cL_law 769 = .ok (.iadd, 1) := by decide +kernel
theorem dL_law_770 : decode cL_law 770 = .ok (.iaload, 1) := by decide +kernel
theorem dL_law_771 : decode cL_law 771 = .ok (.invokevirtual 117, 3) := by decide +kernel
theorem dL_law_774 : decode cL_law 774 = .ok (.aload_n 2, 1) := by decide +kernel
theorem dL_law_775 : decode cL_law 775 = .ok (.aload_n 0, 1) := by decide +kernel
theorem dL_law_776 : decode cL_law 776 = .ok (.iload_n 3, 1) := by decide +kernel
theorem dL_law_777 : decode cL_law 777 = .ok (.iconst 1, 1) := by decide +kernel
theorem dL_law_778 : decode cL_law 778 = .ok (.iadd, 1) := by decide +kernel
theorem dL_law_779 : decode cL_law 779 = .ok (.iaload, 1) := by decide +kernel
theorem dL_law_780 : decode cL_law 780 = .ok (.invokevirtual 120, 3) := by decide +kernel
theorem dL_law_783 : decode cL_law 783 = .ok (.if_icmp .eq 231, 3) := by decide +kernel
theorem dL_law_786 : decode cL_law 786 = .ok (.iconst 0, 1) := by decide +kernel
theorem dL_law_787 : decode cL_law 787 = .ok (.ireturn, 1) := by decide +kernel
theorem dL_law_788 : decode cL_law 788 = .ok (.aload_n 1, 1) := by decide +kernel
theorem dL_law_789 : decode cL_law 789 = .ok (.invokevirtual 121, 3) := by decide +kernel
theorem dL_law_792 : decode cL_law 792 = .ok (.aload_n 2, 1) := by decide +kernel
theorem dL_law_793 : decode cL_law 793 = .ok (.invokevirtual 124, 3) := by decide +kernel
theorem dL_law_796 : decode cL_law 796 = .ok (.if_icmp .eq 218, 3) := by decide +kernel
theorem dL_law_799 : decode cL_law 799 = .ok (.iconst 0, 1) := by decide +kernel
theorem dL_law_800 : decode cL_law 800 = .ok (.ireturn, 1) := by decide +kernel
theorem dL_law_801 : decode cL_law 801 = .ok (.aload_n 1, 1) := by decide +kernel
theorem dL_law_802 : decode cL_law 802 = .ok (.aload_n 0, 1) := by decide +kernel
theorem dL_law_803 : decode cL_law 803 = .ok (.iload_n 3, 1) := by decide +kernel
theorem dL_law_804 : decode cL_law 804 = .ok (.iconst 1, 1) := by decide +kernel
theorem dL_law_805 : decode cL_law 805 = .ok (.iadd, 1) := by decide +kernel
theorem dL_law_806 : decode cL_law 806 = .ok (.iaload, 1) := by decide +kernel
theorem dL_law_807 : decode cL_law 807 = .ok (.invokevirtual 125, 3) := by decide +kernel
theorem dL_law_810 : decode cL_law 810 = .ok (.aload_n 2, 1) := by decide +kernel
theorem dL_law_811 : decode cL_law 811 = .ok (.aload_n 0, 1) := by decide +kernel
theorem dL_law_812 : decode cL_law 812 = .ok (.iload_n 3, 1) := by decide +kernel
theorem dL_law_813 : decode cL_law 813 = .ok (.iconst 1, 1) := by decide +kernel
theorem dL_law_814 : decode cL_law 814 = .ok (.iadd, 1) := by decide +kernel
theorem dL_law_815 : decode cL_law 815 = .ok (.iaload, 1) := by decide +kernel
theorem dL_law_816 : decode cL_law 816 = .ok (.invokevirtual 128, 3) := by decide +kernel
theorem dL_law_819 : decode cL_law 819 = .ok (.if_icmp .eq 195, 3) := by decide +kernel
theorem dL_law_822 : decode cL_law 822 = .ok (.iconst 0, 1) := by decide +kernel
theorem dL_law_823 : decode cL_law 823 = .ok (.ireturn, 1) := by decide +kernel
theorem dL_law_824 : decode cL_law 824 = .ok (.aload_n 1, 1) := by decide +kernel
theorem dL_law_825 : decode cL_law 825 = .ok (.aload_n 0, 1) := by decide +kernel
theorem dL_law_826 : decode cL_law 826 = .ok (.iload_n 3, 1) := by decide +kernel
theorem dL_law_827 : decode cL_law 827 = .ok (.iconst 1, 1) := by decide +kernel
theorem dL_law_828 : decode cL_law 828 = .ok (.iadd, 1) := by decide +kernel
theorem dL_law_829 : decode cL_law 829 = .ok (.iaload, 1) := by decide +kernel
theorem dL_law_830 : decode cL_law 830 = .ok (.aload_n 0, 1) := by decide +kernel
theorem dL_law_831 : decode cL_law 831 = .ok (.iload_n 3, 1) := by decide +kernel
theorem dL_law_832 : decode cL_law 832 = .ok (.iconst 2, 1) := by decide +kernel
theorem dL_law_833 : decode cL_law 833 = .ok (.iadd, 1) := by decide +kernel
theorem dL_law_834 : decode cL_law 834 = .ok (.iaload, 1) := by decide +kernel
theorem dL_law_835 : decode cL_law 835 = .ok (.aload_n 0, 1) := by decide +kernel
theorem dL_law_836 : decode cL_law 836 = .ok (.iload_n 3, 1) := by decide +kernel
theorem dL_law_837 : decode cL_law 837 = .ok (.iconst 3, 1) := by decide +kernel
theorem dL_law_838 : decode cL_law 838 = .ok (.iadd, 1) := by decide +kernel
theorem dL_law_839 : decode cL_law 839 = .ok (.iaload, 1) := by decide +kernel
theorem dL_law_840 : decode cL_law 840 = .ok (.invokevirtual 129, 3) := by decide +kernel
theorem dL_law_843 : decode cL_law 843 = .ok (.aload_n 2, 1) := by decide +kernel
theorem dL_law_844 : decode cL_law 844 = .ok (.aload_n 0, 1) := by decide +kernel
theorem dL_law_845 : decode cL_law 845 = .ok (.iload_n 3, 1) := by decide +kernel
theorem dL_law_846 : decode cL_law 846 = .ok (.iconst 1, 1) := by decide +kernel
theorem dL_law_847 : decode cL_law 847 = .ok (.iadd, 1) := by decide +kernel
theorem dL_law_848 : decode cL_law 848 = .ok (.iaload, 1) := by decide +kernel
theorem dL_law_849 : decode cL_law 849 = .ok (.aload_n 0, 1) := by decide +kernel
theorem dL_law_850 : decode cL_law 850 = .ok (.iload_n 3, 1) := by decide +kernel
theorem dL_law_851 : decode cL_law 851 = .ok (.iconst 2, 1) := by decide +kernel
theorem dL_law_852 : decode cL_law 852 = .ok (.iadd, 1) := by decide +kernel
theorem dL_law_853 : decode cL_law 853 = .ok (.iaload, 1) := by decide +kernel
theorem dL_law_854 : decode cL_law 854 = .ok (.aload_n 0, 1) := by decide +kernel
theorem dL_law_855 : decode cL_law 855 = .ok (.iload_n 3, 1) := by decide +kernel
theorem dL_law_856 : decode cL_law 856 = .ok (.iconst 3, 1) := by decide +kernel
theorem dL_law_857 : decode cL_law 857 = .ok (.iadd, 1) := by decide +kernel
theorem dL_law_858 : decode cL_law 858 = .ok (.iaload, 1) := by decide +kernel
theorem dL_law_859 : decode cL_law 859 = .ok (.invokevirtual 132, 3) := by decide +kernel
theorem dL_law_862 : decode cL_law 862 = .ok (.if_icmp .eq 152, 3) := by decide +kernel
theorem dL_law_865 : decode cL_law 865 = .ok (.iconst 0, 1) := by decide +kernel
theorem dL_law_866 : decode cL_law 866 = .ok (.ireturn, 1) := by decide +kernel
theorem dL_law_867 : decode cL_law 867 = .ok (.aload_n 1, 1) := by decide +kernel
theorem dL_law_868 : decode cL_law 868 = .ok (.aload_n 0, 1) := by decide +kernel
theorem dL_law_869 : decode cL_law 869 = .ok (.iload_n 3, 1) := by decide +kernel
theorem dL_law_870 : decode cL_law 870 = .ok (.iconst 1, 1) := by decide +kernel
theorem dL_law_871 : decode cL_law 871 = .ok (.iadd, 1) := by decide +kernel
theorem dL_law_872 : decode cL_law 872 = .ok (.iaload, 1) := by decide +kernel
theorem dL_law_873 : decode cL_law 873 = .ok (.invokevirtual 133, 3) := by decide +kernel
theorem dL_law_876 : decode cL_law 876 = .ok (.aload_n 2, 1) := by decide +kernel
theorem dL_law_877 : decode cL_law 877 = .ok (.aload_n 0, 1) := by decide +kernel
theorem dL_law_878 : decode cL_law 878 = .ok (.iload_n 3, 1) := by decide +kernel
theorem dL_law_879 : decode cL_law 879 = .ok (.iconst 1, 1) := by decide +kernel
theorem dL_law_880 : decode cL_law 880 = .ok (.iadd, 1) := by decide +kernel
theorem dL_law_881 : decode cL_law 881 = .ok (.iaload, 1) := by decide +kernel
theorem dL_law_882 : decode cL_law 882 = .ok (.invokevirtual 136, 3) := by decide +kernel
theorem dL_law_885 : decode cL_law 885 = .ok (.if_icmp .eq 129, 3) := by decide +kernel
theorem dL_law_888 : decode cL_law 888 = .ok (.iconst 0, 1) := by decide +kernel
theorem dL_law_889 : decode cL_law 889 = .ok (.ireturn, 1) := by decide +kernel
theorem dL_law_890 : decode cL_law 890 = .ok (.aload_n 1, 1) := by decide +kernel
theorem dL_law_891 : decode cL_law 891 = .ok (.invokevirtual 137, 3) := by decide +kernel
theorem dL_law_894 : decode cL_law 894 = .ok (.aload_n 2, 1) := by decide +kernel
theorem dL_law_895 : decode cL_law 895 = .ok (.invokevirtual 140, 3) := by decide +kernel
theorem dL_law_898 : decode cL_law 898 = .ok (.if_icmp .eq 116, 3) := by decide +kernel
theorem dL_law_901 : decode cL_law 901 = .ok (.iconst 0, 1) := by decide +kernel
theorem dL_law_902 : decode cL_law 902 = .ok (.ireturn, 1) := by decide +kernel
theorem dL_law_903 : decode cL_law 903 = .ok (.aload_n 1, 1) := by decide +kernel
theorem dL_law_904 : decode cL_law 904 = .ok (.aload_n 0, 1) := by decide +kernel
theorem dL_law_905 : decode cL_law 905 = .ok (.iload_n 3, 1) := by decide +kernel
theorem dL_law_906 : decode cL_law 906 = .ok (.iconst 1, 1) := by decide +kernel
theorem dL_law_907 : decode cL_law 907 = .ok (.iadd, 1) := by decide +kernel
theorem dL_law_908 : decode cL_law 908 = .ok (.iaload, 1) := by decide +kernel
theorem dL_law_909 : decode cL_law 909 = .ok (.invokevirtual 141, 3) := by decide +kernel
theorem dL_law_912 : decode cL_law 912 = .ok (.aload_n 2, 1) := by decide +kernel
theorem dL_law_913 : decode cL_law 913 = .ok (.aload_n 0, 1) := by decide +kernel
theorem dL_law_914 : decode cL_law 914 = .ok (.iload_n 3, 1) := by decide +kernel
theorem dL_law_915 : decode cL_law 915 = .ok (.iconst 1, 1) := by decide +kernel
theorem dL_law_916 : decode cL_law 916 = .ok (.iadd, 1) := by decide +kernel
theorem dL_law_917 : decode cL_law 917 = .ok (.iaload, 1) := by decide +kernel
theorem dL_law_918 : decode cL_law 918 = .ok (.invokevirtual 144, 3) := by decide +kernel
theorem dL_law_921 : decode cL_law 921 = .ok (.if_icmp .eq 93, 3) := by decide +kernel
theorem dL_law_924 : decode cL_law 924 = .ok (.iconst 0, 1) := by decide +kernel
theorem dL_law_925 : decode cL_law 925 = .ok (.ireturn, 1) := by decide +kernel
theorem dL_law_926 : decode cL_law 926 = .ok (.aload_n 1, 1) := by decide +kernel
theorem dL_law_927 : decode cL_law 927 = .ok (.aload_n 0, 1) := by decide +kernel
theorem dL_law_928 : decode cL_law 928 = .ok (.iload_n 3, 1) := by decide +kernel
theorem dL_law_929 : decode cL_law 929 = .ok (.iconst 1, 1) := by decide +kernel
theorem dL_law_930 : decode cL_law 930 = .ok (.iadd, 1) := by decide +kernel
theorem dL_law_931 : decode cL_law 931 = .ok (.iaload, 1) := by decide +kernel
theorem dL_law_932 : decode cL_law 932 = .ok (.invokevirtual 145, 3) := by decide +kernel
theorem dL_law_935 : decode cL_law 935 = .ok (.aload_n 2, 1) := by decide +kernel
theorem dL_law_936 : decode cL_law 936 = .ok (.aload_n 0, 1) := by decide +kernel
theorem dL_law_937 : decode cL_law 937 = .ok (.iload_n 3, 1) := by decide +kernel
theorem dL_law_938 : decode cL_law 938 = .ok (.iconst 1, 1) := by decide +kernel
theorem dL_law_939 : decode cL_law 939 = .ok (.iadd, 1) := by decide +kernel
theorem dL_law_940 : decode cL_law 940 = .ok (.iaload, 1) := by decide +kernel
theorem dL_law_941 : decode cL_law 941 = .ok (.invokevirtual 148, 3) := by decide +kernel
theorem dL_law_944 : decode cL_law 944 = .ok (.if_icmp .eq 70, 3) := by decide +kernel
theorem dL_law_947 : decode cL_law 947 = .ok (.iconst 0, 1) := by decide +kernel
theorem dL_law_948 : decode cL_law 948 = .ok (.ireturn, 1) := by decide +kernel
theorem dL_law_949 : decode cL_law 949 = .ok (.aload_n 1, 1) := by decide +kernel
theorem dL_law_950 : decode cL_law 950 = .ok (.invokevirtual 149, 3) := by decide +kernel
theorem dL_law_953 : decode cL_law 953 = .ok (.aload_n 2, 1) := by decide +kernel
theorem dL_law_954 : decode cL_law 954 = .ok (.invokevirtual 152, 3) := by decide +kernel
theorem dL_law_957 : decode cL_law 957 = .ok (.if_icmp .eq 57, 3) := by decide +kernel
theorem dL_law_960 : decode cL_law 960 = .ok (.iconst 0, 1) := by decide +kernel
theorem dL_law_961 : decode cL_law 961 = .ok (.ireturn, 1) := by decide +kernel
theorem dL_law_962 : decode cL_law 962 = .ok (.aload_n 1, 1) := by decide +kernel
theorem dL_law_963 : decode cL_law 963 = .ok (.invokevirtual 153, 3) := by decide +kernel
theorem dL_law_966 : decode cL_law 966 = .ok (.aload_n 2, 1) := by decide +kernel
theorem dL_law_967 : decode cL_law 967 = .ok (.invokevirtual 156, 3) := by decide +kernel
theorem dL_law_970 : decode cL_law 970 = .ok (.if_icmp .eq 44, 3) := by decide +kernel
theorem dL_law_973 : decode cL_law 973 = .ok (.iconst 0, 1) := by decide +kernel
theorem dL_law_974 : decode cL_law 974 = .ok (.ireturn, 1) := by decide +kernel
theorem dL_law_975 : decode cL_law 975 = .ok (.aload_n 1, 1) := by decide +kernel
theorem dL_law_976 : decode cL_law 976 = .ok (.invokevirtual 157, 3) := by decide +kernel
theorem dL_law_979 : decode cL_law 979 = .ok (.aload_n 2, 1) := by decide +kernel
theorem dL_law_980 : decode cL_law 980 = .ok (.invokevirtual 160, 3) := by decide +kernel
theorem dL_law_983 : decode cL_law 983 = .ok (.if_icmp .eq 31, 3) := by decide +kernel
theorem dL_law_986 : decode cL_law 986 = .ok (.iconst 0, 1) := by decide +kernel
theorem dL_law_987 : decode cL_law 987 = .ok (.ireturn, 1) := by decide +kernel
theorem dL_law_988 : decode cL_law 988 = .ok (.aload_n 1, 1) := by decide +kernel
theorem dL_law_989 : decode cL_law 989 = .ok (.invokevirtual 161, 3) := by decide +kernel
theorem dL_law_992 : decode cL_law 992 = .ok (.aload_n 2, 1) := by decide +kernel
theorem dL_law_993 : decode cL_law 993 = .ok (.invokevirtual 164, 3) := by decide +kernel
theorem dL_law_996 : decode cL_law 996 = .ok (.if_icmp .eq 18, 3) := by decide +kernel
theorem dL_law_999 : decode cL_law 999 = .ok (.iconst 0, 1) := by decide +kernel
theorem dL_law_1000 : decode cL_law 1000 = .ok (.ireturn, 1) := by decide +kernel
theorem dL_law_1001 : decode cL_law 1001 = .ok (.aload_n 1, 1) := by decide +kernel
theorem dL_law_1002 : decode cL_law 1002 = .ok (.invokevirtual 165, 3) := by decide +kernel
theorem dL_law_1005 : decode cL_law 1005 = .ok (.aload_n 2, 1) := by decide +kernel
theorem dL_law_1006 : decode cL_law 1006 = .ok (.invokevirtual 168, 3) := by decide +kernel
theorem dL_law_1009 : decode cL_law 1009 = .ok (.if_icmp .eq 5, 3) := by decide +kernel
theorem dL_law_1012 : decode cL_law 1012 = .ok (.iconst 0, 1) := by decide +kernel
theorem dL_law_1013 : decode cL_law 1013 = .ok (.ireturn, 1) := by decide +kernel
theorem dL_law_1014 : decode cL_law 1014 = .ok (.iinc 3 4, 3) := by decide +kernel
theorem dL_law_1017 : decode cL_law 1017 = .ok (.goto (-999), 3) := by decide +kernel
theorem dL_law_1020 : decode cL_law 1020 = .ok (.iconst 1, 1) := by decide +kernel
theorem dL_law_1021 : decode cL_law 1021 = .ok (.ireturn, 1) := by decide +kernel
end
section
/-! the abstract judgement: a method's walk over numbered cells (a fixed layout 'lay') that hold Int32s (am_D: cell, place) -/
abbrev am_D : Type := Nat → Nat → Int32
/-- a cell: an object (class, fields: none a number, some j the cell j); an array of ints (false) or chars (true) of a length; an array of cells -/
abbrev am_L : Type := (Nat × List (Option Nat)) ⊕ ((Bool × Nat) ⊕ List Nat)
/-- what a run knows: the classes, the array classes, the cells' addresses -/
abbrev am_X : Type := va_G × (ClassId × ClassId × ClassId) × (Nat → Nat)
/-- a method: name, bytes, locals, what it returns -/
abbrev am_M : Type := MethodName × ByteArray × Nat × Option FieldType
def am_tr (ad : Nat → Nat) : Value → Value
  | .ref k => .ref (ad k)
  | v => v
def am_fv (X : am_X) (D : am_D) (k i : Nat) (f : Option Nat) : Value := match f with
  | some j => .ref (X.2.2 j)
  | none => .int (D k i)
def am_cell (X : am_X) (D : am_D) (k : Nat) (c : am_L) : va_E := match c with
  | .inl q => .inr (q.1, q.2.mapIdx fun i f => am_fv X D k i f)
  | .inr (.inl (false, n)) => .inl (X.2.1.1, n, .inl (D k))
  | .inr (.inl (true, n)) => .inl (X.2.1.2.1, n, .inl (D k))
  | .inr (.inr rs) => .inl (X.2.1.2.2, rs.length, .inr (.inr (.inr (.inr fun i => (rs[i]?).map X.2.2))))
def am_W (X : am_X) (lay : List am_L) (D : am_D) : va_W := lay.mapIdx fun k c => (X.2.2 k, am_cell X D k c)
abbrev am_tys (X : am_X) : List (ClassId × FieldType) := [(X.2.1.1, .int), (X.2.1.2.1, .char), (X.2.1.2.2, .object RX0)]
def am_good : List Cond := lw_tbl.filter goodWord
def am_isNest : Cond → Bool
  | .methodLinkNest .. => true
  | _ => false
def am_nest : List Cond := lw_tbl.filter am_isNest
def am_N (U : State) : Prop := ∀ w ∈ am_nest, va_Nw w U
theorem am_N.warm {s U : State} (hW : s.WarmedH U.vm) (h : am_N s) : am_N U := by
  intro w hw
  have h1 := h w hw
  have h2 : am_isNest w = true := (List.mem_filter.mp hw).2
  cases w <;> first | (exact va_Nw.warmM hW h1) | (simp [am_isNest] at h2; done)
theorem am_N.same {u U : State} (e : u.vm = U.vm) (h : am_N u) : am_N U := by
  intro w hw
  have h1 := h w hw
  have h2 : am_isNest w = true := (List.mem_filter.mp hw).2
  cases w <;> first | (exact va_Nw.same rfl e h1) | (simp [am_isNest] at h2; done)
def am_ws (M : am_M) : List Cond := .code M.1 M.2.1 M.2.2.1 M.2.2.2 :: am_good
def am_rm (d : Nat) : Room := { frames := d, cells := 0, slots := 0, locals := 64 * d }
def am_B (X : am_X) (lay : List am_L) (D : am_D) (U : State) : Prop := va_P X.1 vwCl (am_W X lay D) U.heap ∧ va_K X.1 vwCl (am_tys X) U ∧ am_N U
def am_Pc (X : am_X) (lay : List am_L) (av : List Value) (D : am_D) : Array Value → State → Prop := va_Pc (av.map (am_tr X.2.2)) (am_B X lay D)
def am_Qc (X : am_X) (lay : List am_L) (A : Nat → Prop) (Q : Option Value → am_D → Prop) : Array Value → State → Outcome → State → Prop := fun _ st oc t => ∃ (r : Option Value) (D1 : am_D), Q r D1 ∧ oc = .returned (r.map (am_tr X.2.2)) ∧ am_B X lay D1 t ∧ va_F A st t
/-- M called at depth d on av over D comes back, and Q holds of its answer and of what the cells hold then -/
def am_Met (lay : List am_L) (d : Nat) (M : am_M) (av : List Value) (D : am_D) (Q : Option Value → am_D → Prop) : Prop :=
  ∀ (l : Launch) (X : am_X) (A : Nat → Prop), (∀ D, va_D A (am_W X lay D)) → Met l M.1 (am_ws M) (am_rm d) (am_Pc X lay av D) (am_Qc X lay A Q) 0 0 A
def am_nn : Value → Bool
  | .int _ => true
  | .ref _ => true
  | _ => false
/-- the locals that are told: ints and cells (.null tells nothing) -/
def am_ll (ad : Nat → Nat) (L : List Value) : List (Nat × Value) := (L.zipIdx.filter fun q => am_nn q.1).map fun q => (q.2, am_tr ad q.1)
theorem am_ll_mem {ad : Nat → Nat} {L : List Value} {q : Nat × Value} : q ∈ am_ll ad L ↔ ∃ v, L[q.1]? = some v ∧ am_nn v = true ∧ q.2 = am_tr ad v := by
  obtain ⟨i, z⟩ := q
  simp only [am_ll, List.mem_map, List.mem_filter, Prod.mk.injEq]
  constructor
  · rintro ⟨⟨v, j⟩, ⟨h1, h2⟩, h3, h4⟩
    have h5 := List.mem_zipIdx_iff_getElem?.mp h1
    exact ⟨v, by rw [← h3]; exact h5, h2, h4.symm⟩
  · rintro ⟨v, h1, h2, h3⟩
    exact ⟨(v, i), ⟨List.mem_zipIdx_iff_getElem?.mpr h1, h2⟩, rfl, h3.symm⟩
theorem am_lget {ls : Array Slot} {nL i : Nat} {ad : Nat → Nat} {L : List Value} {v : Value} (h : lv_has ls nL (am_ll ad L)) (hL : L[i]? = some v) (hn : am_nn v = true) : ls[i]? = some (.val (am_tr ad v)) :=
  h.2.2 (i, am_tr ad v) (am_ll_mem.mpr ⟨v, hL, hn, rfl⟩)
theorem am_nn_cat {ad : Nat → Nat} {v : Value} (h : am_nn v = true) : (am_tr ad v).category = 1 := by
  cases v <;> first | rfl | (simp [am_nn] at h; done)
theorem am_lset {ls : Array Slot} {nL i : Nat} {ad : Nat → Nat} {L : List Value} {v : Value} (h : lv_has ls nL ((i, am_tr ad v) :: (am_ll ad L).filter (fun q => !(q.1 == i) && !(q.1 + 1 == i && q.2.category == 2)))) : lv_has ls nL (am_ll ad (L.set i v)) := by
  refine ⟨h.1, h.2.1, fun q hq => h.2.2 q ?_⟩
  obtain ⟨z, h1, h2, h3⟩ := am_ll_mem.mp hq
  by_cases e : q.1 = i
  · have hz : z = v := by
      rw [e] at h1
      by_cases hl : i < L.length
      · rw [List.getElem?_set_self hl] at h1
        exact (Option.some.inj h1).symm
      · rw [List.getElem?_eq_none (by rw [List.length_set]; omega)] at h1
        cases h1
    refine List.mem_cons.mpr (Or.inl ?_)
    obtain ⟨a, b⟩ := q
    simp only at e h3
    rw [e, h3, hz]
  · rw [List.getElem?_set_ne (Ne.symm e)] at h1
    refine List.mem_cons.mpr (Or.inr (List.mem_filter.mpr ⟨am_ll_mem.mpr ⟨z, h1, h2, h3⟩, ?_⟩))
    have hc : q.2.category = 1 := by rw [h3]; exact am_nn_cat h2
    rw [hc]
    simp [e]
def am_At (p : Program) (s : State) (m : MethodId) (args : Array Value) (meth : Method) (c : Code) (M : am_M) : Prop :=
  p.tables.exec = Jvm.exec ∧ c.code = M.2.1 ∧ c.maxLocals = M.2.2.1 ∧ meth.sig.returnType = M.2.2.2 ∧ meth.locks = false ∧ s.vm.findClass M.1.cls = some m.cls ∧ ∀ w ∈ am_ws M, w.before args s = true
def am_In (lay : List am_L) (M : am_M) (D : am_D) (X : am_X) (A : Nat → Prop) (p : Program) (s : State) (m : MethodId) (args : Array Value) (meth : Method) (c : Code) (H : Heap) (locs : List Loc) : Prop :=
  am_At p s m args meth c M ∧ (∀ D, va_D A (am_W X lay D)) ∧ va_P X.1 vwCl (am_W X lay D) H ∧ va_K X.1 vwCl (am_tys X) s ∧ am_N s ∧ va_S A s.heap H locs
/-- the walk of M at depth d from pc, with locals L, operands st, over D, comes to an end with Q -/
def am_AW (lay : List am_L) (d : Nat) (M : am_M) (pc : Nat) (L st : List Value) (D : am_D) (Q : Option Value → am_D → Prop) : Prop :=
  ∀ (l : Launch) (X : am_X) (A : Nat → Prop) (p : Program) (e : Env) (s : State) (m : MethodId) (args : Array Value) (below : List Frame) (meth : Method) (c : Code) (H : Heap) (locs : List Loc) (ls : Array Slot),
    am_In lay M D X A p s m args meth c H locs → lv_has ls M.2.2.1 (am_ll X.2.2 L) → W p l e (am_rm d) s m args below meth c H locs 0 0 (MQ below (am_Qc X lay A Q) args s 0 0 A) (F0 m pc ls (st.map (am_tr X.2.2)))
def am_up (D : am_D) (q k : Nat) (x : Int32) : am_D := fun q1 k1 => if q1 = q ∧ k1 = k then x else D q1 k1
theorem am_W_get {X : am_X} {lay : List am_L} {D : am_D} {k : Nat} {c : am_L} (h : lay[k]? = some c) : (am_W X lay D)[k]? = some (X.2.2 k, am_cell X D k c) := by
  simp [am_W, List.getElem?_mapIdx, h]
theorem am_W_put {X : am_X} {lay : List am_L} {D D1 : am_D} {q : Nat} {c : am_L} {v : va_E} (h : lay[q]? = some c) (hv : am_cell X D1 q c = v) (ho : ∀ k, k ≠ q → D1 k = D k) : (am_W X lay D).set q (X.2.2 q, v) = am_W X lay D1 := by
  apply List.ext_getElem?
  intro k
  by_cases e : k = q
  · subst e
    have hl : k < (am_W X lay D).length := by
      have := (List.getElem?_eq_some_iff.mp h).1
      simpa [am_W] using this
    rw [List.getElem?_set_self hl, am_W_get h, hv]
  · rw [List.getElem?_set_ne (Ne.symm e)]
    simp only [am_W, List.getElem?_mapIdx]
    cases hk : lay[k]? with
    | none => rfl
    | some c1 =>
      simp only [Option.map_some, Option.some.injEq, Prod.mk.injEq, true_and]
      unfold am_cell am_fv
      rw [ho k e]
theorem am_up_ne {D : am_D} {q k : Nat} {x : Int32} (k1 : Nat) (h : k1 ≠ q) : am_up D q k x k1 = D k1 := by
  funext j
  simp [am_up, h]
theorem am_up_row {D : am_D} {q k : Nat} {x : Int32} : am_up D q k x q = upd (D q) k x := by
  funext j
  by_cases h : j = k <;> simp [am_up, upd, h]
theorem am_cat (ad : Nat → Nat) (v : Value) : (am_tr ad v).category = v.category := by cases v <;> rfl
theorem am_cats (ad : Nat → Nat) (st : List Value) : ((st.map (am_tr ad)).map fun v => v.category) = st.map fun v => v.category := by
  rw [List.map_map]
  exact List.map_congr_left fun v _ => am_cat ad v
section AMR
variable {lay : List am_L} {d : Nat} {M : am_M} {pc : Nat} {L st : List Value} {D : am_D} {Q : Option Value → am_D → Prop}
/-- Q may be weakened -/
theorem am_AW.mono {Q1 : Option Value → am_D → Prop} (h : am_AW lay d M pc L st D Q1) (hq : ∀ r D1, Q1 r D1 → Q r D1) : am_AW lay d M pc L st D Q := by
  intro l X A p e s m args below meth c H locs ls I hl T hT S
  obtain ⟨t, h1, o, h2, h3, h4, h5⟩ := h l X A p e s m args below meth c H locs ls I hl T hT S
  obtain ⟨r, D1, q1, q2⟩ := h4
  exact ⟨t, h1, o, h2, h3, ⟨r, D1, hq r D1 q1, q2⟩, h5⟩
theorem am_Met.mono {av : List Value} {Q1 : Option Value → am_D → Prop} (h : am_Met lay d M av D Q1) (hq : ∀ r D1, Q1 r D1 → Q r D1) : am_Met lay d M av D Q := by
  intro l X A hA p e h1 h2 h3 s m args below h4 h5 h6 h7
  obtain ⟨t, o, k1, k2, k3, k4, k5⟩ := h l X A hA p e h1 h2 h3 s m args below h4 h5 h6 h7
  obtain ⟨r, D1, q1, q2⟩ := k4
  exact ⟨t, o, k1, k2, k3, ⟨r, D1, hq r D1 q1, q2⟩, k5⟩
theorem am_iconst {n : Int} {v : Int32} (hd : decode M.2.1 pc = .ok (.iconst n, 1)) (hv : Int32.ofInt n = v) (k : am_AW lay d M (pc + 1) L (.int v :: st) D Q) : am_AW lay d M pc L (st) D Q := by
  intro l X A p e s m args below meth c H locs ls I hl
  exact lv_iconst I.1.1 I.1.2.1 hd hv (k l X A p e s m args below meth c H locs ls I hl)
theorem am_bipush {n : Int} {v : Int32} (hd : decode M.2.1 pc = .ok (.bipush n, 2)) (hv : (Int8.ofInt n).toInt32 = v) (k : am_AW lay d M (pc + 2) L (.int v :: st) D Q) : am_AW lay d M pc L (st) D Q := by
  intro l X A p e s m args below meth c H locs ls I hl
  exact lv_bipush I.1.1 I.1.2.1 hd hv (k l X A p e s m args below meth c H locs ls I hl)
theorem am_sipush {n : Int} {v : Int32} (hd : decode M.2.1 pc = .ok (.sipush n, 3)) (hv : (Int16.ofInt n).toInt32 = v) (k : am_AW lay d M (pc + 3) L (.int v :: st) D Q) : am_AW lay d M pc L (st) D Q := by
  intro l X A p e s m args below meth c H locs ls I hl
  exact lv_sipush I.1.1 I.1.2.1 hd hv (k l X A p e s m args below meth c H locs ls I hl)
theorem am_iload_n {i : Fin 4} {x : Int32} (hd : decode M.2.1 pc = .ok (.iload_n i, 1)) (hL : L[(i : Nat)]? = some (.int x)) (k : am_AW lay d M (pc + 1) L (.int x :: st) D Q) : am_AW lay d M pc L (st) D Q := by
  intro l X A p e s m args below meth c H locs ls I hl
  exact lv_iload_n I.1.1 I.1.2.1 hd rfl (am_lget hl hL rfl) (k l X A p e s m args below meth c H locs ls I hl)
theorem am_iload {i : Nat} {x : Int32} (hd : decode M.2.1 pc = .ok (.iload i, 2)) (hL : L[i]? = some (.int x)) (k : am_AW lay d M (pc + 2) L (.int x :: st) D Q) : am_AW lay d M pc L (st) D Q := by
  intro l X A p e s m args below meth c H locs ls I hl
  exact lv_iload I.1.1 I.1.2.1 hd (am_lget hl hL rfl) (k l X A p e s m args below meth c H locs ls I hl)
theorem am_aload_n {i : Fin 4} {x : Nat} (hd : decode M.2.1 pc = .ok (.aload_n i, 1)) (hL : L[(i : Nat)]? = some (.ref x)) (k : am_AW lay d M (pc + 1) L (.ref x :: st) D Q) : am_AW lay d M pc L (st) D Q := by
  intro l X A p e s m args below meth c H locs ls I hl
  exact lv_aload_n I.1.1 I.1.2.1 hd rfl (am_lget hl hL rfl) (k l X A p e s m args below meth c H locs ls I hl)
theorem am_aload {i x : Nat} (hd : decode M.2.1 pc = .ok (.aload i, 2)) (hL : L[i]? = some (.ref x)) (k : am_AW lay d M (pc + 2) L (.ref x :: st) D Q) : am_AW lay d M pc L (st) D Q := by
  intro l X A p e s m args below meth c H locs ls I hl
  exact lv_aload I.1.1 I.1.2.1 hd (am_lget hl hL rfl) (k l X A p e s m args below meth c H locs ls I hl)
theorem am_iadd {x y : Int32} (hd : decode M.2.1 pc = .ok (.iadd, 1)) (k : am_AW lay d M (pc + 1) L (.int (x + y) :: st) D Q) : am_AW lay d M pc L (.int y :: .int x :: st) D Q := by
  intro l X A p e s m args below meth c H locs ls I hl
  exact lv_iadd I.1.1 I.1.2.1 hd (k l X A p e s m args below meth c H locs ls I hl)
theorem am_isub {x y : Int32} (hd : decode M.2.1 pc = .ok (.isub, 1)) (k : am_AW lay d M (pc + 1) L (.int (x - y) :: st) D Q) : am_AW lay d M pc L (.int y :: .int x :: st) D Q := by
  intro l X A p e s m args below meth c H locs ls I hl
  exact lv_isub I.1.1 I.1.2.1 hd (k l X A p e s m args below meth c H locs ls I hl)
theorem am_imul {x y : Int32} (hd : decode M.2.1 pc = .ok (.imul, 1)) (k : am_AW lay d M (pc + 1) L (.int (x * y) :: st) D Q) : am_AW lay d M pc L (.int y :: .int x :: st) D Q := by
  intro l X A p e s m args below meth c H locs ls I hl
  exact lv_imul I.1.1 I.1.2.1 hd (k l X A p e s m args below meth c H locs ls I hl)
theorem am_iand {x y : Int32} (hd : decode M.2.1 pc = .ok (.iand, 1)) (k : am_AW lay d M (pc + 1) L (.int (x &&& y) :: st) D Q) : am_AW lay d M pc L (.int y :: .int x :: st) D Q := by
  intro l X A p e s m args below meth c H locs ls I hl
  exact lv_iand I.1.1 I.1.2.1 hd (k l X A p e s m args below meth c H locs ls I hl)
theorem am_ior {x y : Int32} (hd : decode M.2.1 pc = .ok (.ior, 1)) (k : am_AW lay d M (pc + 1) L (.int (x ||| y) :: st) D Q) : am_AW lay d M pc L (.int y :: .int x :: st) D Q := by
  intro l X A p e s m args below meth c H locs ls I hl
  exact lv_ior I.1.1 I.1.2.1 hd (k l X A p e s m args below meth c H locs ls I hl)
theorem am_ixor {x y : Int32} (hd : decode M.2.1 pc = .ok (.ixor, 1)) (k : am_AW lay d M (pc + 1) L (.int (x ^^^ y) :: st) D Q) : am_AW lay d M pc L (.int y :: .int x :: st) D Q := by
  intro l X A p e s m args below meth c H locs ls I hl
  exact lv_ixor I.1.1 I.1.2.1 hd (k l X A p e s m args below meth c H locs ls I hl)
theorem am_ishl {x y : Int32} (hd : decode M.2.1 pc = .ok (.ishl, 1)) (k : am_AW lay d M (pc + 1) L (.int (x <<< (y &&& 31)) :: st) D Q) : am_AW lay d M pc L (.int y :: .int x :: st) D Q := by
  intro l X A p e s m args below meth c H locs ls I hl
  exact lv_ishl I.1.1 I.1.2.1 hd (k l X A p e s m args below meth c H locs ls I hl)
theorem am_ishr {x y : Int32} (hd : decode M.2.1 pc = .ok (.ishr, 1)) (k : am_AW lay d M (pc + 1) L (.int (x >>> (y &&& 31)) :: st) D Q) : am_AW lay d M pc L (.int y :: .int x :: st) D Q := by
  intro l X A p e s m args below meth c H locs ls I hl
  exact lv_ishr I.1.1 I.1.2.1 hd (k l X A p e s m args below meth c H locs ls I hl)
theorem am_idiv {x y : Int32} (hd : decode M.2.1 pc = .ok (.idiv, 1)) (hne : ¬ y = 0) (k : am_AW lay d M (pc + 1) L (.int (x / y) :: st) D Q) : am_AW lay d M pc L (.int y :: .int x :: st) D Q := by
  intro l X A p e s m args below meth c H locs ls I hl
  exact lv_idiv I.1.1 I.1.2.1 hd hne (k l X A p e s m args below meth c H locs ls I hl)
theorem am_irem {x y : Int32} (hd : decode M.2.1 pc = .ok (.irem, 1)) (hne : ¬ y = 0) (k : am_AW lay d M (pc + 1) L (.int (x - x / y * y) :: st) D Q) : am_AW lay d M pc L (.int y :: .int x :: st) D Q := by
  intro l X A p e s m args below meth c H locs ls I hl
  exact lv_irem I.1.1 I.1.2.1 hd hne (k l X A p e s m args below meth c H locs ls I hl)
theorem am_iushr {x y : Int32} (hd : decode M.2.1 pc = .ok (.iushr, 1)) (k : am_AW lay d M (pc + 1) L (.int ((x.toUInt32 >>> (y.toUInt32 &&& Int32.toUInt32 31)).toInt32) :: st) D Q) : am_AW lay d M pc L (.int y :: .int x :: st) D Q := by
  intro l X A p e s m args below meth c H locs ls I hl
  exact lv_iushr I.1.1 I.1.2.1 hd rfl (k l X A p e s m args below meth c H locs ls I hl)
theorem am_ineg {x : Int32} (hd : decode M.2.1 pc = .ok (.ineg, 1)) (k : am_AW lay d M (pc + 1) L (.int (-x) :: st) D Q) : am_AW lay d M pc L (.int x :: st) D Q := by
  intro l X A p e s m args below meth c H locs ls I hl
  exact lv_ineg I.1.1 I.1.2.1 hd (k l X A p e s m args below meth c H locs ls I hl)
theorem am_i2c {x : Int32} (hd : decode M.2.1 pc = .ok (.i2c, 1)) (k : am_AW lay d M (pc + 1) L (.int ((x.toUInt32 % 65536).toInt32) :: st) D Q) : am_AW lay d M pc L (.int x :: st) D Q := by
  intro l X A p e s m args below meth c H locs ls I hl
  exact lv_i2c I.1.1 I.1.2.1 hd rfl (k l X A p e s m args below meth c H locs ls I hl)
theorem am_dup {v : Value} (hd : decode M.2.1 pc = .ok (.dup, 1)) (hn : am_nn v = true) (k : am_AW lay d M (pc + 1) L (v :: v :: st) D Q) : am_AW lay d M pc L (v :: st) D Q := by
  intro l X A p e s m args below meth c H locs ls I hl
  exact lv_dup I.1.1 I.1.2.1 hd (am_nn_cat hn) (k l X A p e s m args below meth c H locs ls I hl)
theorem am_dup2 {v w : Value} (hd : decode M.2.1 pc = .ok (.dup2, 1)) (hn : am_nn v = true) (hm : am_nn w = true) (k : am_AW lay d M (pc + 1) L (v :: w :: v :: w :: st) D Q) : am_AW lay d M pc L (v :: w :: st) D Q := by
  intro l X A p e s m args below meth c H locs ls I hl
  exact lv_dup2_11 I.1.1 I.1.2.1 hd (am_nn_cat hn) (am_nn_cat hm) (k l X A p e s m args below meth c H locs ls I hl)
theorem am_istore_n {i : Fin 4} {x : Int32} (hd : decode M.2.1 pc = .ok (.istore_n i, 1)) (hn : (i : Nat) < M.2.2.1) (k : am_AW lay d M (pc + 1) (L.set (i : Nat) (.int x)) st D Q) : am_AW lay d M pc L (.int x :: st) D Q := by
  intro l X A p e s m args below meth c H locs ls I hl
  exact lv_istore_n I.1.1 I.1.2.1 hd rfl hl hn rfl (fun ls1 h1 => k l X A p e s m args below meth c H locs ls1 I (am_lset (v := .int x) h1))
theorem am_istore {i : Nat} {x : Int32} (hd : decode M.2.1 pc = .ok (.istore i, 2)) (hn : i < M.2.2.1) (k : am_AW lay d M (pc + 2) (L.set i (.int x)) st D Q) : am_AW lay d M pc L (.int x :: st) D Q := by
  intro l X A p e s m args below meth c H locs ls I hl
  exact lv_istore I.1.1 I.1.2.1 hd hl hn rfl (fun ls1 h1 => k l X A p e s m args below meth c H locs ls1 I (am_lset (v := .int x) h1))
theorem am_astore_n {i : Fin 4} {x : Nat} (hd : decode M.2.1 pc = .ok (.astore_n i, 1)) (hn : (i : Nat) < M.2.2.1) (k : am_AW lay d M (pc + 1) (L.set (i : Nat) (.ref x)) st D Q) : am_AW lay d M pc L (.ref x :: st) D Q := by
  intro l X A p e s m args below meth c H locs ls I hl
  exact lv_astore_n I.1.1 I.1.2.1 hd rfl hl hn rfl (fun ls1 h1 => k l X A p e s m args below meth c H locs ls1 I (am_lset (v := .ref x) h1))
theorem am_astore {i : Nat} {x : Nat} (hd : decode M.2.1 pc = .ok (.astore i, 2)) (hn : i < M.2.2.1) (k : am_AW lay d M (pc + 2) (L.set i (.ref x)) st D Q) : am_AW lay d M pc L (.ref x :: st) D Q := by
  intro l X A p e s m args below meth c H locs ls I hl
  exact lv_astore I.1.1 I.1.2.1 hd hl hn rfl (fun ls1 h1 => k l X A p e s m args below meth c H locs ls1 I (am_lset (v := .ref x) h1))
theorem am_iinc {i : Nat} {n : Int} {x c0 : Int32} (hd : decode M.2.1 pc = .ok (.iinc i n, 3)) (hc : Int32.ofInt n = c0) (hL : L[i]? = some (.int x)) (hn : i < M.2.2.1) (k : am_AW lay d M (pc + 3) (L.set i (.int (x + c0))) st D Q) : am_AW lay d M pc L st D Q := by
  subst hc
  intro l X A p e s m args below meth c H locs ls I hl
  have hm : (i, am_tr X.2.2 (.int x)) ∈ am_ll X.2.2 L := am_ll_mem.mpr ⟨.int x, hL, rfl, rfl⟩
  obtain ⟨j, hj⟩ := List.getElem?_of_mem hm
  exact lv_iinc I.1.1 I.1.2.1 hd hl hj rfl hn rfl (fun ls1 h1 => k l X A p e s m args below meth c H locs ls1 I (am_lset (v := .int (x + Int32.ofInt n)) h1))
theorem am_goto {off : Int} {tgt : Nat} (hd : decode M.2.1 pc = .ok (.goto off, 3)) (ht : (pc : Int) + off = (tgt : Int)) (k : am_AW lay d M tgt L st D Q) : am_AW lay d M pc L st D Q := by
  intro l X A p e s m args below meth c H locs ls I hl
  exact lv_goto I.1.1 I.1.2.1 hd ht (k l X A p e s m args below meth c H locs ls I hl)
theorem am_ifnull {x : Nat} {off : Int} (hd : decode M.2.1 pc = .ok (.ifnull off, 3)) (k : am_AW lay d M (pc + 3) L st D Q) : am_AW lay d M pc L (.ref x :: st) D Q := by
  intro l X A p e s m args below meth c H locs ls I hl
  exact lv_ifnull I.1.1 I.1.2.1 hd (k l X A p e s m args below meth c H locs ls I hl)
theorem am_if_eq {x : Int32} {off : Int} {tgt : Nat} (hd : decode M.2.1 pc = .ok (.ifCond .eq off, 3)) (ht : (pc : Int) + off = (tgt : Int)) (kt : x = 0 → am_AW lay d M tgt L st D Q) (kf : ¬ (x = 0) → am_AW lay d M (pc + 3) L st D Q) : am_AW lay d M pc L (.int x :: st) D Q := by
  intro l X A p e s m args below meth c H locs ls I hl
  exact lv_if_eq I.1.1 I.1.2.1 hd ht (fun h => kt (by first | exact h | simpa using h) l X A p e s m args below meth c H locs ls I hl) (fun h => kf (by first | exact h | simpa using h) l X A p e s m args below meth c H locs ls I hl)
theorem am_icmp_eq {x y : Int32} {off : Int} {tgt : Nat} (hd : decode M.2.1 pc = .ok (.if_icmp .eq off, 3)) (ht : (pc : Int) + off = (tgt : Int)) (kt : x = y → am_AW lay d M tgt L st D Q) (kf : ¬ (x = y) → am_AW lay d M (pc + 3) L st D Q) : am_AW lay d M pc L (.int y :: .int x :: st) D Q := by
  intro l X A p e s m args below meth c H locs ls I hl
  exact lv_icmp_eq I.1.1 I.1.2.1 hd ht (fun h => kt (by first | exact h | simpa using h) l X A p e s m args below meth c H locs ls I hl) (fun h => kf (by first | exact h | simpa using h) l X A p e s m args below meth c H locs ls I hl)
theorem am_if_ne {x : Int32} {off : Int} {tgt : Nat} (hd : decode M.2.1 pc = .ok (.ifCond .ne off, 3)) (ht : (pc : Int) + off = (tgt : Int)) (kt : ¬ x = 0 → am_AW lay d M tgt L st D Q) (kf : ¬ (¬ x = 0) → am_AW lay d M (pc + 3) L st D Q) : am_AW lay d M pc L (.int x :: st) D Q := by
  intro l X A p e s m args below meth c H locs ls I hl
  exact lv_if_ne I.1.1 I.1.2.1 hd ht (fun h => kt (by first | exact h | simpa using h) l X A p e s m args below meth c H locs ls I hl) (fun h => kf (by first | exact h | simpa using h) l X A p e s m args below meth c H locs ls I hl)
theorem am_icmp_ne {x y : Int32} {off : Int} {tgt : Nat} (hd : decode M.2.1 pc = .ok (.if_icmp .ne off, 3)) (ht : (pc : Int) + off = (tgt : Int)) (kt : ¬ x = y → am_AW lay d M tgt L st D Q) (kf : ¬ (¬ x = y) → am_AW lay d M (pc + 3) L st D Q) : am_AW lay d M pc L (.int y :: .int x :: st) D Q := by
  intro l X A p e s m args below meth c H locs ls I hl
  exact lv_icmp_ne I.1.1 I.1.2.1 hd ht (fun h => kt (by first | exact h | simpa using h) l X A p e s m args below meth c H locs ls I hl) (fun h => kf (by first | exact h | simpa using h) l X A p e s m args below meth c H locs ls I hl)
theorem am_if_lt {x : Int32} {off : Int} {tgt : Nat} (hd : decode M.2.1 pc = .ok (.ifCond .lt off, 3)) (ht : (pc : Int) + off = (tgt : Int)) (kt : x < 0 → am_AW lay d M tgt L st D Q) (kf : ¬ (x < 0) → am_AW lay d M (pc + 3) L st D Q) : am_AW lay d M pc L (.int x :: st) D Q := by
  intro l X A p e s m args below meth c H locs ls I hl
  exact lv_if_lt I.1.1 I.1.2.1 hd ht (fun h => kt (by first | exact h | simpa using h) l X A p e s m args below meth c H locs ls I hl) (fun h => kf (by first | exact h | simpa using h) l X A p e s m args below meth c H locs ls I hl)
theorem am_icmp_lt {x y : Int32} {off : Int} {tgt : Nat} (hd : decode M.2.1 pc = .ok (.if_icmp .lt off, 3)) (ht : (pc : Int) + off = (tgt : Int)) (kt : x < y → am_AW lay d M tgt L st D Q) (kf : ¬ (x < y) → am_AW lay d M (pc + 3) L st D Q) : am_AW lay d M pc L (.int y :: .int x :: st) D Q := by
  intro l X A p e s m args below meth c H locs ls I hl
  exact lv_icmp_lt I.1.1 I.1.2.1 hd ht (fun h => kt (by first | exact h | simpa using h) l X A p e s m args below meth c H locs ls I hl) (fun h => kf (by first | exact h | simpa using h) l X A p e s m args below meth c H locs ls I hl)
theorem am_if_ge {x : Int32} {off : Int} {tgt : Nat} (hd : decode M.2.1 pc = .ok (.ifCond .ge off, 3)) (ht : (pc : Int) + off = (tgt : Int)) (kt : 0 ≤ x → am_AW lay d M tgt L st D Q) (kf : ¬ (0 ≤ x) → am_AW lay d M (pc + 3) L st D Q) : am_AW lay d M pc L (.int x :: st) D Q := by
  intro l X A p e s m args below meth c H locs ls I hl
  exact lv_if_ge I.1.1 I.1.2.1 hd ht (fun h => kt (by first | exact h | simpa using h) l X A p e s m args below meth c H locs ls I hl) (fun h => kf (by first | exact h | simpa using h) l X A p e s m args below meth c H locs ls I hl)
theorem am_icmp_ge {x y : Int32} {off : Int} {tgt : Nat} (hd : decode M.2.1 pc = .ok (.if_icmp .ge off, 3)) (ht : (pc : Int) + off = (tgt : Int)) (kt : y ≤ x → am_AW lay d M tgt L st D Q) (kf : ¬ (y ≤ x) → am_AW lay d M (pc + 3) L st D Q) : am_AW lay d M pc L (.int y :: .int x :: st) D Q := by
  intro l X A p e s m args below meth c H locs ls I hl
  exact lv_icmp_ge I.1.1 I.1.2.1 hd ht (fun h => kt (by first | exact h | simpa using h) l X A p e s m args below meth c H locs ls I hl) (fun h => kf (by first | exact h | simpa using h) l X A p e s m args below meth c H locs ls I hl)
theorem am_if_gt {x : Int32} {off : Int} {tgt : Nat} (hd : decode M.2.1 pc = .ok (.ifCond .gt off, 3)) (ht : (pc : Int) + off = (tgt : Int)) (kt : 0 < x → am_AW lay d M tgt L st D Q) (kf : ¬ (0 < x) → am_AW lay d M (pc + 3) L st D Q) : am_AW lay d M pc L (.int x :: st) D Q := by
  intro l X A p e s m args below meth c H locs ls I hl
  exact lv_if_gt I.1.1 I.1.2.1 hd ht (fun h => kt (by first | exact h | simpa using h) l X A p e s m args below meth c H locs ls I hl) (fun h => kf (by first | exact h | simpa using h) l X A p e s m args below meth c H locs ls I hl)
theorem am_icmp_gt {x y : Int32} {off : Int} {tgt : Nat} (hd : decode M.2.1 pc = .ok (.if_icmp .gt off, 3)) (ht : (pc : Int) + off = (tgt : Int)) (kt : y < x → am_AW lay d M tgt L st D Q) (kf : ¬ (y < x) → am_AW lay d M (pc + 3) L st D Q) : am_AW lay d M pc L (.int y :: .int x :: st) D Q := by
  intro l X A p e s m args below meth c H locs ls I hl
  exact lv_icmp_gt I.1.1 I.1.2.1 hd ht (fun h => kt (by first | exact h | simpa using h) l X A p e s m args below meth c H locs ls I hl) (fun h => kf (by first | exact h | simpa using h) l X A p e s m args below meth c H locs ls I hl)
theorem am_if_le {x : Int32} {off : Int} {tgt : Nat} (hd : decode M.2.1 pc = .ok (.ifCond .le off, 3)) (ht : (pc : Int) + off = (tgt : Int)) (kt : x ≤ 0 → am_AW lay d M tgt L st D Q) (kf : ¬ (x ≤ 0) → am_AW lay d M (pc + 3) L st D Q) : am_AW lay d M pc L (.int x :: st) D Q := by
  intro l X A p e s m args below meth c H locs ls I hl
  exact lv_if_le I.1.1 I.1.2.1 hd ht (fun h => kt (by first | exact h | simpa using h) l X A p e s m args below meth c H locs ls I hl) (fun h => kf (by first | exact h | simpa using h) l X A p e s m args below meth c H locs ls I hl)
theorem am_icmp_le {x y : Int32} {off : Int} {tgt : Nat} (hd : decode M.2.1 pc = .ok (.if_icmp .le off, 3)) (ht : (pc : Int) + off = (tgt : Int)) (kt : x ≤ y → am_AW lay d M tgt L st D Q) (kf : ¬ (x ≤ y) → am_AW lay d M (pc + 3) L st D Q) : am_AW lay d M pc L (.int y :: .int x :: st) D Q := by
  intro l X A p e s m args below meth c H locs ls I hl
  exact lv_icmp_le I.1.1 I.1.2.1 hd ht (fun h => kt (by first | exact h | simpa using h) l X A p e s m args below meth c H locs ls I hl) (fun h => kf (by first | exact h | simpa using h) l X A p e s m args below meth c H locs ls I hl)
theorem am_tableIn {dflt lo hi : Int} {offs : Array Int} {len : Nat} {x : Int32} {off : Int} {tgt : Nat} (hd : decode M.2.1 pc = .ok (.tableswitch dflt lo hi offs, len)) (h1 : ¬ x.toInt < lo) (h2 : ¬ hi < x.toInt) (ho : offs[(x.toInt - lo).toNat]? = some off) (ht : (pc : Int) + off = (tgt : Int)) (k : am_AW lay d M tgt L st D Q) : am_AW lay d M pc L (.int x :: st) D Q := by
  intro l X A p e s m args below meth c H locs ls I hl
  exact lv_tableIn I.1.1 I.1.2.1 hd h1 h2 ho ht (k l X A p e s m args below meth c H locs ls I hl)
theorem am_tableOut {dflt lo hi : Int} {offs : Array Int} {len : Nat} {x : Int32} {tgt : Nat} (hd : decode M.2.1 pc = .ok (.tableswitch dflt lo hi offs, len)) (h1 : x.toInt < lo ∨ hi < x.toInt) (ht : (pc : Int) + dflt = (tgt : Int)) (k : am_AW lay d M tgt L st D Q) : am_AW lay d M pc L (.int x :: st) D Q := by
  intro l X A p e s m args below meth c H locs ls I hl
  exact lv_tableOut I.1.1 I.1.2.1 hd h1 ht (k l X A p e s m args below meth c H locs ls I hl)
theorem am_word {w : Cond} {p : Program} {s : State} {m : MethodId} {args : Array Value} {meth : Method} {c : Code} (h : am_At p s m args meth c M) (hw : w ∈ am_good) : w.before args s = true := h.2.2.2.2.2.2 w (List.mem_cons_of_mem _ hw)
theorem am_ldc {index : Nat} {v : Int32} (hd : decode M.2.1 pc = .ok (.ldc index, 2)) (hw : Cond.constant M.1.cls index v ∈ am_good) (k : am_AW lay d M (pc + 2) L (.int v :: st) D Q) : am_AW lay d M pc L st D Q := by
  intro l X A p e s m args below meth c H locs ls I hl
  exact lv_ldc I.1.1 I.1.2.1 I.1.2.2.2.2.2.1 (am_word I.1 hw) hd (k l X A p e s m args below meth c H locs ls I hl)
theorem am_ldcw {index : Nat} {v : Int32} (hd : decode M.2.1 pc = .ok (.ldc_w index, 3)) (hw : Cond.constant M.1.cls index v ∈ am_good) (k : am_AW lay d M (pc + 3) L (.int v :: st) D Q) : am_AW lay d M pc L st D Q := by
  intro l X A p e s m args below meth c H locs ls I hl
  exact lv_ldcw I.1.1 I.1.2.1 I.1.2.2.2.2.2.1 (am_word I.1 hw) hd (k l X A p e s m args below meth c H locs ls I hl)
/-- what the tables say of a field that class 'own' names by its pool's entry: the class (a place in vwCl) and the field's place -/
def am_FW (own : String) (index ci k : Nat) (C : String) (T : u_T) (N : Nat) : Prop := vwCl[ci]? = some (C, T, N) ∧ k < N ∧ (∀ w ∈ u_ws C T N, w ∈ am_good) ∧ Cond.fieldLink own index (T k).1 (T k).2.1 (T k).2.2.1 ∈ am_good
theorem am_fs {X : am_X} {q i ci : Nat} {fs : List (Option Nat)} {f : Option Nat} (hf : fs[i]? = some f) : (fs.mapIdx fun i f => am_fv X D q i f)[i]? = some (am_fv X D q i f) := by
  simp [List.getElem?_mapIdx, hf]
theorem am_getI {index q ci i N : Nat} {C : String} {T : u_T} {fs : List (Option Nat)} (hd : decode M.2.1 pc = .ok (.getfield index, 3)) (hw : am_FW M.1.cls index ci i C T N) (hl0 : lay[q]? = some (.inl (ci, fs))) (hf : fs[i]? = some none) (k : am_AW lay d M (pc + 3) L (.int (D q i) :: st) D Q) : am_AW lay d M pc L (.ref q :: st) D Q := by
  intro l X A p e s m args below meth c H locs ls I hl
  exact va_get I.1.1 I.1.2.1 I.1.2.2.2.2.2.2 (fun w h => List.mem_cons_of_mem _ (hw.2.2.1 w h)) I.1.2.2.2.2.2.1 I.2.2.2.1 I.2.2.1 q (am_W_get hl0) hw.1 i hw.2.1 (am_word I.1 hw.2.2.2) (fun _ h => h) (am_fs (ci := ci) hf) hd (k l X A p e s m args below meth c H locs ls I hl)
theorem am_getR {index q ci i j N : Nat} {C : String} {T : u_T} {fs : List (Option Nat)} (hd : decode M.2.1 pc = .ok (.getfield index, 3)) (hw : am_FW M.1.cls index ci i C T N) (hl0 : lay[q]? = some (.inl (ci, fs))) (hf : fs[i]? = some (some j)) (k : am_AW lay d M (pc + 3) L (.ref j :: st) D Q) : am_AW lay d M pc L (.ref q :: st) D Q := by
  intro l X A p e s m args below meth c H locs ls I hl
  exact va_get I.1.1 I.1.2.1 I.1.2.2.2.2.2.2 (fun w h => List.mem_cons_of_mem _ (hw.2.2.1 w h)) I.1.2.2.2.2.2.1 I.2.2.2.1 I.2.2.1 q (am_W_get hl0) hw.1 i hw.2.1 (am_word I.1 hw.2.2.2) (fun _ h => h) (am_fs (ci := ci) hf) hd (k l X A p e s m args below meth c H locs ls I hl)
/-- .. and of a field that may be written -/
def am_FP (T : u_T) (N i : Nat) : Prop := (∃ ty0 : Nat → FieldType, ∀ k, k < N → parseFieldDescriptor (T k).2.2.1 = some (ty0 k)) ∧ (∀ a, a < N → ∀ b, b < N → a ≠ b → (T a).2.1 ≠ (T b).2.1) ∧ (T i).2.2.2 = false ∧ parseFieldDescriptor (T i).2.2.1 = some .int
theorem am_putI {index q ci i N : Nat} {x : Int32} {C : String} {T : u_T} {fs : List (Option Nat)} (hd : decode M.2.1 pc = .ok (.putfield index, 3)) (hw : am_FW M.1.cls index ci i C T N) (hp : am_FP T N i) (hl0 : lay[q]? = some (.inl (ci, fs))) (hf : fs[i]? = some none) (k : am_AW lay d M (pc + 3) L st (am_up D q i x) Q) : am_AW lay d M pc L (.int x :: .ref q :: st) D Q := by
  intro l X A p e s m args below meth c H locs ls I hl
  obtain ⟨ty0, hty⟩ := hp.1
  have hlt : i < fs.length := (List.getElem?_eq_some_iff.mp hf).1
  have hc : am_cell X (am_up D q i x) q (.inl (ci, fs)) = .inr (ci, (fs.mapIdx fun i f => am_fv X D q i f).set i (.int x)) := by
    show Sum.inr _ = Sum.inr _
    congr 2
    apply List.ext_getElem?
    intro j
    by_cases e : j = i
    · subst e
      rw [List.getElem?_set_self (by simpa using hlt)]
      simp [List.getElem?_mapIdx, hf, am_fv, am_up]
    · rw [List.getElem?_set_ne (Ne.symm e)]
      simp only [List.getElem?_mapIdx]
      cases fs[j]? with
      | none => rfl
      | some f => cases f <;> simp [am_fv, am_up, e]
  refine va_put I.1.1 I.1.2.1 I.1.2.2.2.2.2.2 (fun w h => List.mem_cons_of_mem _ (hw.2.2.1 w h)) ty0 hty hp.2.1 I.1.2.2.2.2.2.1 I.2.2.2.1 I.2.2.1 (I.2.1 D) I.2.2.2.2.2 q (am_W_get hl0) hw.1 i hw.2.1 (am_word I.1 hw.2.2.2) (fun _ h => h) hp.2.2.1 (v := .int x) hp.2.2.2 rfl rfl (by simpa using hlt) hd (fun H1 locs1 P1 D1 S1 => ?_)
  rw [am_W_put hl0 hc (fun k h => am_up_ne k h)] at P1
  exact k l X A p e s m args below meth c H1 locs1 ls ⟨I.1, I.2.1, P1, I.2.2.2.1, I.2.2.2.2.1, S1⟩ hl
theorem am_iald {q n : Nat} {i : Int32} (hd : decode M.2.1 pc = .ok (.iaload, 1)) (hl0 : lay[q]? = some (.inr (.inl (false, n)))) (hin : vp_in i n) (k : am_AW lay d M (pc + 1) L (.int (D q i.toNatClampNeg) :: st) D Q) : am_AW lay d M pc L (.int i :: .ref q :: st) D Q := by
  intro l X A p e s m args below meth c H locs ls I hl
  exact va_iald I.1.1 I.1.2.1 I.2.2.2.1 I.2.2.1 q 0 (am_W_get hl0) rfl hin hd (k l X A p e s m args below meth c H locs ls I hl)
theorem am_cald {q n : Nat} {i : Int32} (hd : decode M.2.1 pc = .ok (.caload, 1)) (hl0 : lay[q]? = some (.inr (.inl (true, n)))) (hin : vp_in i n) (k : am_AW lay d M (pc + 1) L (.int (D q i.toNatClampNeg) :: st) D Q) : am_AW lay d M pc L (.int i :: .ref q :: st) D Q := by
  intro l X A p e s m args below meth c H locs ls I hl
  exact va_cald I.1.1 I.1.2.1 I.2.2.2.1 I.2.2.1 q 1 (am_W_get hl0) rfl hin hd (k l X A p e s m args below meth c H locs ls I hl)
theorem am_aald {q j : Nat} {rs : List Nat} {i : Int32} (hd : decode M.2.1 pc = .ok (.aaload, 1)) (hl0 : lay[q]? = some (.inr (.inr rs))) (hin : vp_in i rs.length) (hj : rs[i.toNatClampNeg]? = some j) (k : am_AW lay d M (pc + 1) L (.ref j :: st) D Q) : am_AW lay d M pc L (.int i :: .ref q :: st) D Q := by
  intro l X A p e s m args below meth c H locs ls I hl
  have hk := k l X A p e s m args below meth c H locs ls I hl
  refine va_aldq I.1.1 I.1.2.1 I.2.2.2.1 I.2.2.1 q 2 (am_W_get hl0) rfl hin hd ?_
  rw [hj]
  exact hk
theorem am_iast {q n : Nat} {i x : Int32} (hd : decode M.2.1 pc = .ok (.iastore, 1)) (hl0 : lay[q]? = some (.inr (.inl (false, n)))) (hin : vp_in i n) (k : am_AW lay d M (pc + 1) L st (am_up D q i.toNatClampNeg x) Q) : am_AW lay d M pc L (.int x :: .int i :: .ref q :: st) D Q := by
  intro l X A p e s m args below meth c H locs ls I hl
  refine va_iast I.1.1 I.1.2.1 I.2.2.2.1 I.2.2.1 (I.2.1 D) I.2.2.2.2.2 q 0 (am_W_get hl0) rfl hin hd (fun H1 locs1 P1 D1 S1 => ?_)
  rw [am_W_put (D1 := am_up D q i.toNatClampNeg x) hl0 (by show Sum.inl _ = Sum.inl _; rw [am_up_row]) (fun k h => am_up_ne k h)] at P1
  exact k l X A p e s m args below meth c H1 locs1 ls ⟨I.1, I.2.1, P1, I.2.2.2.1, I.2.2.2.2.1, S1⟩ hl
theorem am_cast {q n : Nat} {i x : Int32} (hd : decode M.2.1 pc = .ok (.castore, 1)) (hl0 : lay[q]? = some (.inr (.inl (true, n)))) (hin : vp_in i n) (k : am_AW lay d M (pc + 1) L st (am_up D q i.toNatClampNeg (vp_nar .char x)) Q) : am_AW lay d M pc L (.int x :: .int i :: .ref q :: st) D Q := by
  intro l X A p e s m args below meth c H locs ls I hl
  refine va_cast I.1.1 I.1.2.1 I.2.2.2.1 I.2.2.1 (I.2.1 D) I.2.2.2.2.2 q 1 (am_W_get hl0) rfl hin hd (fun H1 locs1 P1 D1 S1 => ?_)
  rw [am_W_put (D1 := am_up D q i.toNatClampNeg (vp_nar .char x)) hl0 (by show Sum.inl _ = Sum.inl _; rw [am_up_row]) (fun k h => am_up_ne k h)] at P1
  exact k l X A p e s m args below meth c H1 locs1 ls ⟨I.1, I.2.1, P1, I.2.2.2.1, I.2.2.2.2.1, S1⟩ hl
def am_len : am_L → Option (Nat × Nat)
  | .inl _ => none
  | .inr (.inl (false, n)) => some (n, 0)
  | .inr (.inl (true, n)) => some (n, 1)
  | .inr (.inr rs) => some (rs.length, 2)
theorem am_alen {q n j : Nat} {c0 : am_L} {v : Int32} (hd : decode M.2.1 pc = .ok (.arraylength, 1)) (hl0 : lay[q]? = some c0) (hc0 : am_len c0 = some (n, j)) (hv : Int32.ofNat n = v) (k : am_AW lay d M (pc + 1) L (.int v :: st) D Q) : am_AW lay d M pc L (.ref q :: st) D Q := by
  intro l X A p e s m args below meth c H locs ls I hl
  have hk := k l X A p e s m args below meth c H locs ls I hl
  rcases c0 with c0 | ⟨_ | _, n0⟩ | rs
  · cases hc0
  · cases hc0; exact va_alen I.1.1 I.1.2.1 I.2.2.2.1 I.2.2.1 q 0 (am_W_get hl0) rfl hv hd hk
  · cases hc0; exact va_alen I.1.1 I.1.2.1 I.2.2.2.1 I.2.2.1 q 1 (am_W_get hl0) rfl hv hd hk
  · cases hc0; exact va_alen I.1.1 I.1.2.1 I.2.2.2.1 I.2.2.1 q 2 (am_W_get hl0) rfl hv hd hk
/-! returns -/
theorem am_ireturn {v : Int32} {ty : FieldType} (hd : decode M.2.1 pc = .ok (.ireturn, 1)) (hr : M.2.2.2 = some ty) (hn : narrow ty (.int v) = .int v) (hq : Q (some (.int v)) D) : am_AW lay d M pc L [.int v] D Q := by
  intro l X A p e s m args below meth c H locs ls I hl
  exact W.zret I.1.1 I.1.2.1 (I.1.2.2.2.1.trans hr) hn (fun t ht hW => ⟨some (.int v), D, hq, rfl, ⟨by rw [ht]; exact I.2.2.1, va_K.moved hW.alike I.2.2.2.1, I.2.2.2.2.1.warm hW⟩, I.2.2.2.2.2.F ht⟩) I.2.2.2.2.2.2.2 hd I.1.2.2.2.2.1
theorem am_areturn {v : Nat} {ty : FieldType} (hd : decode M.2.1 pc = .ok (.areturn, 1)) (hr : M.2.2.2 = some ty) (hn : (∃ n, ty = .object n) ∨ ∃ t, ty = .array t) (hq : Q (some (.ref v)) D) : am_AW lay d M pc L [.ref v] D Q := by
  intro l X A p e s m args below meth c H locs ls I hl
  exact W.aret I.1.1 I.1.2.1 (I.1.2.2.2.1.trans hr) hn (Or.inr ⟨_, rfl⟩) (fun t ht hW => ⟨some (.ref v), D, hq, rfl, ⟨by rw [ht]; exact I.2.2.1, va_K.moved hW.alike I.2.2.2.1, I.2.2.2.2.1.warm hW⟩, I.2.2.2.2.2.F ht⟩) I.2.2.2.2.2.2.2 hd I.1.2.2.2.2.1
theorem am_return (hd : decode M.2.1 pc = .ok (.return_, 1)) (hr : M.2.2.2 = none) (hq : Q none D) : am_AW lay d M pc L [] D Q := by
  intro l X A p e s m args below meth c H locs ls I hl
  exact W.vret I.1.1 I.1.2.1 (I.1.2.2.2.1.trans hr) (fun t ht hW => ⟨none, D, hq, rfl, ⟨by rw [ht]; exact I.2.2.1, va_K.moved hW.alike I.2.2.2.1, I.2.2.2.2.1.warm hW⟩, I.2.2.2.2.2.F ht⟩) I.2.2.2.2.2.2.2 hd I.1.2.2.2.2.1
/-! a method's entry -/
theorem am_args_mem {ad : Nat → Nat} : ∀ (av : List Value) (i0 : Nat), (∀ v ∈ av, am_nn v = true) → ∀ (i : Nat) (v : Value), av[i]? = some v → (i0 + i, am_tr ad v) ∈ lv_args i0 (av.map (am_tr ad)) := by
  intro av
  induction av with
  | nil => intro i0 _ i v h; simp at h
  | cons a r ih =>
    intro i0 hn i v h
    have ha : (am_tr ad a).category = 1 := am_nn_cat (hn a List.mem_cons_self)
    show (i0 + i, am_tr ad v) ∈ (i0, am_tr ad a) :: lv_args (if (am_tr ad a).category = 2 then i0 + 2 else i0 + 1) (r.map (am_tr ad))
    rw [ha, if_neg (by decide)]
    cases i with
    | zero =>
      simp only [List.getElem?_cons_zero, Option.some.injEq] at h
      subst h
      exact List.mem_cons_self
    | succ i =>
      simp only [List.getElem?_cons_succ] at h
      have := ih (i0 + 1) (fun v hv => hn v (List.mem_cons_of_mem _ hv)) i v h
      rw [show i0 + (i + 1) = i0 + 1 + i by omega]
      exact List.mem_cons_of_mem _ this
theorem am_sl_len {ad : Nat → Nat} : ∀ (av : List Value), (∀ v ∈ av, am_nn v = true) → (lg_sl (av.map (am_tr ad))).length = av.length := by
  intro av
  induction av with
  | nil => intro _; rfl
  | cons a r ih =>
    intro hn
    have ha : (am_tr ad a).category = 1 := am_nn_cat (hn a List.mem_cons_self)
    have hr := ih (fun v hv => hn v (List.mem_cons_of_mem _ hv))
    simp only [lg_sl, List.map_cons, List.flatMap_cons, ha] at hr ⊢
    rw [if_neg (by decide), List.length_append, hr]
    simp [Nat.add_comm]
theorem am_enter {av : List Value} (hy : plainName M.1.cls = true) (hn : av.all am_nn = true) (hlen : av.length ≤ M.2.2.1) (k : am_AW lay d M 0 (av ++ List.replicate (M.2.2.1 - av.length) .null) [] D Q) : am_Met lay d M av D Q := by
  intro l X A hA
  have hn : ∀ v ∈ av, am_nn v = true := List.all_eq_true.mp hn
  refine Met.ofW (cc := M.2.1) (maxL := M.2.2.1) (ret := M.2.2.2) hy rfl ?_
  intro p e s m args below meth c s₁ B hml hv
  obtain ⟨rfl, hP, hK, hN⟩ := hv
  have hz := am_sl_len (ad := X.2.2) av hn
  have hl := lv_entry (av.map (am_tr X.2.2)) (n := M.2.2.1) (by rw [hz]; exact hlen)
  rw [lg_entry_eq]
  refine k l X A p e s m _ below meth c s.heap [] _ ⟨⟨B.exec, B.bytes, hml, B.returns, B.notSynchronized, findClass_of_methodNamed B.named, atoms_spec (ws := am_ws M) B.pre⟩, hA, hP, hK, hN, va_S.rf⟩ ⟨hl.1, hl.2.1, fun q hq => hl.2.2 q ?_⟩
  obtain ⟨z, h1, h2, h3⟩ := am_ll_mem.mp hq
  obtain ⟨i, u⟩ := q
  simp only at h1 h3
  subst h3
  by_cases hi : i < av.length
  · rw [List.getElem?_append_left hi] at h1
    have := am_args_mem (ad := X.2.2) av 0 hn i z h1
    rwa [Nat.zero_add] at this
  · rw [List.getElem?_append_right (by omega), List.getElem?_replicate] at h1
    split at h1
    · cases h1; cases h2
    · cases h1
/-! calls -/
/-- what the tables say of a callee -/
def am_CW (M' : am_M) (n : Nat) : Prop := (M'.1.cls ≠ "java/lang/invoke/MethodHandle" ∧ M'.1.cls ≠ "java/lang/invoke/VarHandle") ∧ (parseMethodDescriptor M'.1.desc).map (fun d => d.parameters.length) = some n ∧ Cond.initialized M'.1.cls ∈ am_good ∧ Cond.code M'.1 M'.2.1 M'.2.2.1 M'.2.2.2 ∈ am_good ∧ M'.2.2.1 ≤ 45
theorem am_goodIn {M' : am_M} {n : Nat} (h : am_CW M' n) : GoodIn (am_ws M) (am_ws M') := by
  have hg : ∀ w ∈ am_good, w ∈ am_ws M ∧ ((w.onTables && w.keeps) = true ∨ ∃ ty, w = .arrayClass ty) := fun w hw => ⟨List.mem_cons_of_mem _ hw, good_of_word (List.mem_filter.mp hw).2⟩
  intro w hw
  rcases List.mem_cons.mp hw with rfl | hw
  · exact hg _ h.2.2.2.1
  · exact hg w hw
theorem am_callB {M' : am_M} {n index : Nat} {p : Program} {s : State} {m : MethodId} {args : Array Value} {meth : Method} {c : Code} (h : am_CW M' n) (C : am_At p s m args meth c M) (hl : Cond.methodLink M.1.cls index M'.1 ∈ am_good) : CallB (am_rm (d + 1)) s args M.1.cls index M'.1 M'.2.1 M'.2.2.1 M'.2.2.2 (am_ws M') (am_rm d) 0 0 n := by
  refine ⟨rfl, rfl, Nat.le_refl _, ?_, pay_in C.2.2.2.2.2.2 (am_goodIn h), List.mem_cons_self, am_word C h.2.2.2.1, am_word C h.2.2.1, h.1, fun sig hs => ?_, am_word C hl⟩
  · have := h.2.2.2.2
    show 8 + (M'.2.2.1 + 11) + 64 * d ≤ 64 * (d + 1)
    omega
  · have h2 := h.2.1
    rw [hs] at h2
    exact (Option.some.inj h2).symm
theorem am_callN {M' : am_M} {n index : Nat} {host : String} {p : Program} {s : State} {m : MethodId} {args : Array Value} {meth : Method} {c : Code} (h : am_CW M' n) (C : am_At p s m args meth c M) (hN : am_N s) (hl : Cond.methodLinkNest M.1.cls index M'.1 host ∈ am_nest) : va_CN (am_rm (d + 1)) s args M.1.cls index M'.1 host M'.2.1 M'.2.2.1 M'.2.2.2 (am_ws M') (am_rm d) 0 0 n := by
  refine ⟨⟨rfl, rfl, Nat.le_refl _, ?_, pay_in C.2.2.2.2.2.2 (am_goodIn h), List.mem_cons_self⟩, am_word C h.2.2.2.1, am_word C h.2.2.1, h.1, fun sig hs => ?_, va_Nw.use rfl (hN _ hl)⟩
  · have := h.2.2.2.2
    show 8 + (M'.2.2.1 + 11) + 64 * d ≤ 64 * (d + 1)
    omega
  · have h2 := h.2.1
    rw [hs] at h2
    exact (Option.some.inj h2).symm
theorem am_blind {X : am_X} {av : List Value} : FrameBlind (am_Pc X lay av D) := fun a U g mk q => ⟨q.1, q.2.1, va_K.moved (u := U) (U := U.calling g mk a) (Vm.Alike.refl U.vm) q.2.2.1, am_N.same (u := U) (U := U.calling g mk a) rfl q.2.2.2⟩
theorem am_pre {X : am_X} {av : List Value} {s U : State} {H : Heap} (hP : va_P X.1 vwCl (am_W X lay D) H) (hK : va_K X.1 vwCl (am_tys X) s) (hN : am_N s) (hU : U.heap = H) (hW : s.WarmedH U.vm) : am_Pc X lay av D (av.map (am_tr X.2.2)).toArray U := ⟨rfl, by rw [hU]; exact hP, va_K.moved hW.alike hK, hN.warm hW⟩
/-- behind a call -/
theorem am_after {K : Option Value → am_D → Prop} {l : Launch} {X : am_X} {A : Nat → Prop} {p : Program} {e : Env} {s : State} {m : MethodId} {args : Array Value} {below : List Frame} {meth : Method} {c : Code} {H : Heap} {locs : List Loc} {ls : Array Slot} {g : JFrame} {as : Array Value}
    (I : am_In lay M D X A p s m args meth c H locs) (hl : lv_has ls M.2.2.1 (am_ll X.2.2 L)) (hg : g = F0 m pc ls g.stack)
    (hr : va_Run p l e (am_rm d) s m args below meth c H locs 0 0 0 0 g (st.map (am_tr X.2.2)) (am_Qc X lay A K as) A)
    (k : ∀ r D1, K r D1 → am_AW lay d M (pc + 3) L (r.toList ++ st) D1 Q) : W p l e (am_rm d) s m args below meth c H locs 0 0 (MQ below (am_Qc X lay A Q) args s 0 0 A) g := by
  intro T hT S
  obtain ⟨v, st₀, t, T', Lc, h0, X', hL, e1, e2, ⟨r, D1, hK1, hv, ⟨hP1, hKt, hNt⟩, hF⟩, stp⟩ := hr T hT S
  obtain rfl := Outcome.returned.inj hv
  rw [hg] at stp
  have hS : va_S A s.heap T'.heap (locs ++ Lc) := by
    rw [e1]
    obtain ⟨f1, f2⟩ := hF
    rw [h0] at f1 f2
    refine ⟨Nat.le_trans I.2.2.2.2.2.1 f1, fun q h1 h2 => by rw [f2 q (Nat.lt_of_lt_of_le h1 I.2.2.2.2.2.1) h2]; exact I.2.2.2.2.2.2.1 q h1 h2, fun q hq => ?_⟩
    rcases List.mem_append.mp hq with h | h
    · exact I.2.2.2.2.2.2.2 q h
    · exact hL q h
  obtain ⟨t2, a1, b1⟩ := k r D1 hK1 l X A p e s m args below meth c T'.heap (locs ++ Lc) ls ⟨I.1, I.2.1, by rw [e1]; exact hP1, I.2.2.2.1, I.2.2.2.2.1, hS⟩ hl T' rfl X'
  refine ⟨t2, ?_, b1⟩
  rw [hg]
  refine stp t2 ?_
  have e3 : (r.map (am_tr X.2.2)).toList ++ st.map (am_tr X.2.2) = (r.toList ++ st).map (am_tr X.2.2) := by cases r <;> rfl
  rw [e3]
  exact a1
theorem am_callV {M' : am_M} {av : List Value} {b ci index N : Nat} {C : String} {T : u_T} {fs : List (Option Nat)} {K : Option Value → am_D → Prop} (hw : am_CW M' av.length) (hl1 : Cond.methodLink M.1.cls index M'.1 ∈ am_good) (hi : Cond.instanceMethod M'.1 ∈ am_good) (hse : Cond.selects M'.1.cls M'.1 M'.1 ∈ am_good)
    (hl0 : lay[b]? = some (.inl (ci, fs))) (hci : vwCl[ci]? = some (C, T, N)) (hC : C = M'.1.cls) (hst : (st.map fun v => v.category).sum ≤ 8) (hd : decode M.2.1 pc = .ok (.invokevirtual index, 3)) (hm : am_Met lay d M' (.ref b :: av) D K)
    (k : ∀ r D1, K r D1 → am_AW lay (d + 1) M (pc + 3) L (r.toList ++ st) D1 Q) : am_AW lay (d + 1) M pc L (av.reverse ++ .ref b :: st) D Q := by
  intro l X A p e s m args below meth c H locs ls I hl
  subst hC
  have hrv := va_recv I.2.2.2.1 I.2.2.1 hci (am_W_get hl0)
  refine am_after I hl rfl (as := ((.ref b :: av).map (am_tr X.2.2)).toArray) (K := K) ?_ k
  exact va_runV (As := av.map (am_tr X.2.2)) (rest := st.map (am_tr X.2.2)) ⟨I.1.1, I.1.2.1, I.1.2.2.1, I.1.2.2.2.2.2.1, I.1.2.2.2.2.2.2⟩ (hm l X A I.2.1) ⟨am_callB hw I.1 hl1, am_word I.1 hi, am_word I.1 hse⟩ ⟨am_blind, hrv, fun U hU hW => am_pre I.2.2.1 I.2.2.2.1 I.2.2.2.2.1 hU hW⟩ rfl (by simp) hl.1 (by simp [am_tr]) (lv_room (by rw [am_cats]; exact hst)) hd ⟨Nat.le_refl _, Nat.le_refl _⟩
theorem am_callVN {M' : am_M} {av : List Value} {b ci index N : Nat} {host C : String} {T : u_T} {fs : List (Option Nat)} {K : Option Value → am_D → Prop} (hw : am_CW M' av.length) (hl1 : Cond.methodLinkNest M.1.cls index M'.1 host ∈ am_nest) (hi : Cond.instanceMethod M'.1 ∈ am_good) (hse : Cond.selects M'.1.cls M'.1 M'.1 ∈ am_good)
    (hl0 : lay[b]? = some (.inl (ci, fs))) (hci : vwCl[ci]? = some (C, T, N)) (hC : C = M'.1.cls) (hst : (st.map fun v => v.category).sum ≤ 8) (hd : decode M.2.1 pc = .ok (.invokevirtual index, 3)) (hm : am_Met lay d M' (.ref b :: av) D K)
    (k : ∀ r D1, K r D1 → am_AW lay (d + 1) M (pc + 3) L (r.toList ++ st) D1 Q) : am_AW lay (d + 1) M pc L (av.reverse ++ .ref b :: st) D Q := by
  intro l X A p e s m args below meth c H locs ls I hl
  subst hC
  have hrv := va_recv I.2.2.2.1 I.2.2.1 hci (am_W_get hl0)
  refine am_after I hl rfl (as := ((.ref b :: av).map (am_tr X.2.2)).toArray) (K := K) ?_ k
  exact va_runVN (As := av.map (am_tr X.2.2)) (rest := st.map (am_tr X.2.2)) ⟨I.1.1, I.1.2.1, I.1.2.2.1, I.1.2.2.2.2.2.1, I.1.2.2.2.2.2.2⟩ (hm l X A I.2.1) ⟨am_callN hw I.1 I.2.2.2.2.1 hl1, am_word I.1 hi, am_word I.1 hse⟩ ⟨am_blind, hrv, fun U hU hW => am_pre I.2.2.1 I.2.2.2.1 I.2.2.2.2.1 hU hW⟩ rfl (by simp) hl.1 (by simp [am_tr]) (lv_room (by rw [am_cats]; exact hst)) hd ⟨Nat.le_refl _, Nat.le_refl _⟩
theorem am_callS {M' : am_M} {av : List Value} {index : Nat} {K : Option Value → am_D → Prop} (hw : am_CW M' av.length) (hl1 : Cond.methodLink M.1.cls index M'.1 ∈ am_good) (hi : Cond.static M'.1 ∈ am_good)
    (hst : (st.map fun v => v.category).sum ≤ 8) (hd : decode M.2.1 pc = .ok (.invokestatic index, 3)) (hm : am_Met lay d M' av D K)
    (k : ∀ r D1, K r D1 → am_AW lay (d + 1) M (pc + 3) L (r.toList ++ st) D1 Q) : am_AW lay (d + 1) M pc L (av.reverse ++ st) D Q := by
  intro l X A p e s m args below meth c H locs ls I hl
  refine am_after I hl rfl (as := (av.map (am_tr X.2.2)).toArray) (K := K) ?_ k
  exact va_runS (As := av.map (am_tr X.2.2)) (rest := st.map (am_tr X.2.2)) ⟨I.1.1, I.1.2.1, I.1.2.2.1, I.1.2.2.2.2.2.1, I.1.2.2.2.2.2.2⟩ (hm l X A I.2.1) ⟨am_callB hw I.1 hl1, am_word I.1 hi⟩ ⟨am_blind, fun U hU hW => am_pre I.2.2.1 I.2.2.2.1 I.2.2.2.2.1 hU hW⟩ rfl (by simp) hl.1 (by simp) (lv_room (by rw [am_cats]; exact hst)) hd ⟨Nat.le_refl _, Nat.le_refl _⟩
theorem am_callSN {M' : am_M} {av : List Value} {index : Nat} {host : String} {K : Option Value → am_D → Prop} (hw : am_CW M' av.length) (hl1 : Cond.methodLinkNest M.1.cls index M'.1 host ∈ am_nest) (hi : Cond.static M'.1 ∈ am_good)
    (hst : (st.map fun v => v.category).sum ≤ 8) (hd : decode M.2.1 pc = .ok (.invokestatic index, 3)) (hm : am_Met lay d M' av D K)
    (k : ∀ r D1, K r D1 → am_AW lay (d + 1) M (pc + 3) L (r.toList ++ st) D1 Q) : am_AW lay (d + 1) M pc L (av.reverse ++ st) D Q := by
  intro l X A p e s m args below meth c H locs ls I hl
  refine am_after I hl rfl (as := (av.map (am_tr X.2.2)).toArray) (K := K) ?_ k
  exact va_runSN (As := av.map (am_tr X.2.2)) (rest := st.map (am_tr X.2.2)) ⟨I.1.1, I.1.2.1, I.1.2.2.1, I.1.2.2.2.2.2.1, I.1.2.2.2.2.2.2⟩ (hm l X A I.2.1) ⟨am_callN hw I.1 I.2.2.2.2.1 hl1, am_word I.1 hi, trivial⟩ ⟨am_blind, fun U hU hW => am_pre I.2.2.1 I.2.2.2.1 I.2.2.2.2.1 hU hW⟩ rfl (by simp) hl.1 (by simp) (lv_room (by rw [am_cats]; exact hst)) hd ⟨Nat.le_refl _, Nat.le_refl _⟩
/-! the JDK's own: max, min, arraycopy -/
theorem am_max {index : Nat} {x y : Int32} (hd : decode M.2.1 pc = .ok (.invokestatic index, 3)) (hw : Cond.methodLink M.1.cls index Lib.Math.max.name ∈ am_good ∧ Cond.static Lib.Math.max.name ∈ am_good ∧ Cond.initialized "java/lang/Math" ∈ am_good ∧ Cond.code Lib.Math.max.name Lib.Math.max.code 2 (some .int) ∈ am_good) (hst : (st.map fun v => v.category).sum ≤ 8) (k : am_AW lay (d + 1) M (pc + 3) L (.int (if x < y then y else x) :: st) D Q) : am_AW lay (d + 1) M pc L (.int y :: .int x :: st) D Q := by
  intro l X A p e s m args below meth c H locs ls I hl
  refine va_mmax I.1.1 I.1.2.1 (I.1.2.2.1.trans hl.1.symm) I.1.2.2.2.2.2.1 (am_word I.1 hw.1) (am_word I.1 hw.2.1) (am_word I.1 hw.2.2.1) (am_word I.1 hw.2.2.2) (Nat.le_add_left 1 d) ?_ (Nat.le_refl _) (Nat.le_refl _) hd (k l X A p e s m args below meth c H locs ls I hl)
  rw [am_cats]
  show _ ≤ 64 * (d + 1)
  omega
theorem am_min {index : Nat} {x y : Int32} (hd : decode M.2.1 pc = .ok (.invokestatic index, 3)) (hw : Cond.methodLink M.1.cls index Lib.Math.min.name ∈ am_good ∧ Cond.static Lib.Math.min.name ∈ am_good ∧ Cond.initialized "java/lang/Math" ∈ am_good ∧ Cond.code Lib.Math.min.name Lib.Math.min.code 2 (some .int) ∈ am_good) (hst : (st.map fun v => v.category).sum ≤ 8) (k : am_AW lay (d + 1) M (pc + 3) L (.int (if y < x then y else x) :: st) D Q) : am_AW lay (d + 1) M pc L (.int y :: .int x :: st) D Q := by
  intro l X A p e s m args below meth c H locs ls I hl
  refine va_mmin I.1.1 I.1.2.1 (I.1.2.2.1.trans hl.1.symm) I.1.2.2.2.2.2.1 (am_word I.1 hw.1) (am_word I.1 hw.2.1) (am_word I.1 hw.2.2.1) (am_word I.1 hw.2.2.2) (Nat.le_add_left 1 d) ?_ (Nat.le_refl _) (Nat.le_refl _) hd (k l X A p e s m args below meth c H locs ls I hl)
  rw [am_cats]
  show _ ≤ 64 * (d + 1)
  omega
/-- the first n places of the row at q0 go to the row at q1 -/
def am_cp (D : am_D) (q0 q1 n : Nat) : am_D := fun q j => if q = q1 ∧ j < n then D q0 j else D q j
theorem am_copy {index q0 q1 n0 n1 : Nat} {n : Int32} (hw : Cond.methodLink M.1.cls index arraycopyName ∈ am_good ∧ Cond.native arraycopyName ∈ am_good ∧ Cond.static arraycopyName ∈ am_good ∧ Cond.initialized "java/lang/System" ∈ am_good) (hl0 : lay[q0]? = some (.inr (.inl (false, n0)))) (hl1 : lay[q1]? = some (.inr (.inl (false, n1)))) (hn : ¬ n < 0) (h0 : n.toNatClampNeg ≤ n0) (h1 : n.toNatClampNeg ≤ n1)
    (hst : (st.map fun v => v.category).sum ≤ 8) (hd : decode M.2.1 pc = .ok (.invokestatic index, 3)) (k : am_AW lay (d + 1) M (pc + 3) L st (am_cp D q0 q1 n.toNatClampNeg) Q) : am_AW lay (d + 1) M pc L (.int n :: .int 0 :: .ref q1 :: .int 0 :: .ref q0 :: st) D Q := by
  intro l X A p e s m args below meth c H locs ls I hl
  have e0 : (0 : Int32).toNatClampNeg = 0 := rfl
  refine va_copyi I.1.1 I.1.2.1 (I.1.2.2.1.trans hl.1.symm) I.1.2.2.2.2.2.1 (am_word I.1 hw.1) (am_word I.1 hw.2.1) (am_word I.1 hw.2.2.1) (am_word I.1 hw.2.2.2) I.2.2.2.1 I.2.2.1 (I.2.1 D) I.2.2.2.2.2 q0 q1 0 0 (am_W_get hl0) (am_W_get hl1) rfl rfl rfl (by decide) (by decide) hn (by rw [e0]; omega) (by rw [e0]; omega) (fun i _ => rfl) (Nat.le_add_left 1 d) ?_ hd (fun H1 locs1 P1 D1 S1 => ?_)
  · rw [am_cats]
    show _ + (nativeFrameWords "java/lang/System" "arraycopy" 5 + 11) ≤ 64 * (d + 1)
    have : nativeFrameWords "java/lang/System" "arraycopy" 5 ≤ 20 := by decide
    omega
  · rw [am_W_put (D1 := am_cp D q0 q1 n.toNatClampNeg) hl1 ?_ (fun k h => by funext j; simp [am_cp, h])] at P1
    · exact k l X A p e s m args below meth c H1 locs1 ls ⟨I.1, I.2.1, P1, I.2.2.2.1, I.2.2.2.2.1, S1⟩ hl
    · have hc : am_cp D q0 q1 n.toNatClampNeg q1 = va_cpy (D q0) (D q1) (0 : Int32).toNatClampNeg (0 : Int32).toNatClampNeg n.toNatClampNeg := by
        funext j
        simp [am_cp, va_cpy, e0]
      show Sum.inl (_, _, Sum.inl _) = Sum.inl (_, _, Sum.inl _)
      rw [hc]
end AMR
end
section
theorem am_mem {w : Cond} (i : Nat) (h : lw_tbl[i]? = some w) (g : goodWord w = true) : w ∈ am_good := List.mem_filter.mpr ⟨List.mem_of_getElem? h, g⟩
theorem am_memN {w : Cond} (i : Nat) (h : lw_tbl[i]? = some w) (g : am_isNest w = true) : w ∈ am_nest := List.mem_filter.mpr ⟨List.mem_of_getElem? h, g⟩
theorem am_fg {C : String} {T : u_T} {N : Nat} (h : ∀ k, k < N → u_lay C T k ∈ am_good) : ∀ w ∈ u_ws C T N, w ∈ am_good := by
  intro w hw
  obtain ⟨k, hk, rfl⟩ := List.mem_map.mp hw
  exact h k (List.mem_range.mp hk)
abbrev mX0_init : am_M := (yX0_init, cX0_init, 1, none)
abbrev mX0_start : am_M := (yX0_start, cX0_start, 3, none)
abbrev mX0_copyFrom : am_M := (yX0_copyFrom, cX0_copyFrom, 2, none)
abbrev mX0_size : am_M := (yX0_size, cX0_size, 1, (some .int))
abbrev mX0_stamp : am_M := (yX0_stamp, cX0_stamp, 1, (some .int))
abbrev mX0_everyone : am_M := (yX0_everyone, cX0_everyone, 1, (some .int))
abbrev mX0_has : am_M := (yX0_has, cX0_has, 2, (some .boolean))
abbrev mX0_hasPair : am_M := (yX0_hasPair, cX0_hasPair, 3, (some .boolean))
abbrev mX0_beatenBy : am_M := (yX0_beatenBy, cX0_beatenBy, 2, (some .int))
abbrev mX0_beatersOf : am_M := (yX0_beatersOf, cX0_beatersOf, 2, (some .int))
abbrev mX0_wins : am_M := (yX0_wins, cX0_wins, 3, (some .boolean))
abbrev mX0_winsOf : am_M := (yX0_winsOf, cX0_winsOf, 2, (some .int))
abbrev mX0_winsAtPlace : am_M := (yX0_winsAtPlace, cX0_winsAtPlace, 5, (some .int))
abbrev mX0_turn : am_M := (yX0_turn, cX0_turn, 3, none)
abbrev mX0_setWinner : am_M := (yX0_setWinner, cX0_setWinner, 3, none)
abbrev mX0_weightOf : am_M := (yX0_weightOf, cX0_weightOf, 4, (some .int))
abbrev mX0_putWeight : am_M := (yX0_putWeight, cX0_putWeight, 6, none)
abbrev mX0_swap : am_M := (yX0_swap, cX0_swap, 4, none)
abbrev mX0_swapAgainst : am_M := (yX0_swapAgainst, cX0_swapAgainst, 5, none)
abbrev mX0_isTriangle : am_M := (yX0_isTriangle, cX0_isTriangle, 4, (some .boolean))
abbrev mX0_countTriangles : am_M := (yX0_countTriangles, cX0_countTriangles, 3, (some .int))
abbrev mX0_costOfBefore : am_M := (yX0_costOfBefore, cX0_costOfBefore, 3, (some .int))
abbrev mX1_init : am_M := (yX1_init, cX1_init, 1, none)
abbrev mX1_build : am_M := (yX1_build, cX1_build, 6, none)
abbrev mX1_restOf : am_M := (yX1_restOf, cX1_restOf, 2, (some .int))
abbrev mX1_greatestOf : am_M := (yX1_greatestOf, cX1_greatestOf, 4, (some .int))
abbrev mX1_smallestOf : am_M := (yX1_smallestOf, cX1_smallestOf, 5, (some .int))
abbrev mX1_smallestIn : am_M := (yX1_smallestIn, cX1_smallestIn, 4, (some .int))
abbrev mX1_settle : am_M := (yX1_settle, cX1_settle, 6, none)
abbrev mX2_init : am_M := (yX2_init, cX2_init, 1, none)
abbrev mX2_playerAt : am_M := (yX2_playerAt, cX2_playerAt, 2, (some .int))
abbrev mX2_countLengths : am_M := (yX2_countLengths, cX2_countLengths, 2, (some .int))
abbrev mX2_find : am_M := (yX2_find, cX2_find, 6, (some .boolean))
abbrev mX2_extend : am_M := (yX2_extend, cX2_extend, 8, (some .boolean))
abbrev mX3_init : am_M := (yX3_init, cX3_init, 2, none)
abbrev mX3_size : am_M := (yX3_size, cX3_size, 1, (some .int))
abbrev mX3_isEmpty : am_M := (yX3_isEmpty, cX3_isEmpty, 1, (some .boolean))
abbrev mX3_stateAt : am_M := (yX3_stateAt, cX3_stateAt, 3, (some (.object "TournamentDesk$Board")))
abbrev mX3_record : am_M := (yX3_record, cX3_record, 3, none)
abbrev mX3_takeLatest : am_M := (yX3_takeLatest, cX3_takeLatest, 3, none)
abbrev mX4_init : am_M := (yX4_init, cX4_init, 1, none)
abbrev mX4_countDiffering : am_M := (yX4_countDiffering, cX4_countDiffering, 4, (some .int))
abbrev mX4_helpfulTriangle : am_M := (yX4_helpfulTriangle, cX4_helpfulTriangle, 5, (some .int))
abbrev mX4_differingAmong : am_M := (yX4_differingAmong, cX4_differingAmong, 5, (some .int))
abbrev mX4_differs : am_M := (yX4_differs, cX4_differs, 4, (some .int))
abbrev mX4_areAlike : am_M := (yX4_areAlike, cX4_areAlike, 3, (some .boolean))
abbrev mX4_assign : am_M := (yX4_assign, cX4_assign, 6, (some .boolean))
abbrev mX4_corresponds : am_M := (yX4_corresponds, cX4_corresponds, 6, (some .boolean))
abbrev mX5_init : am_M := (yX5_init, cX5_init, 1, none)
abbrev mX5_learn : am_M := (yX5_learn, cX5_learn, 4, none)
abbrev mX5_sumCosts : am_M := (yX5_sumCosts, cX5_sumCosts, 7, none)
abbrev mX5_leastWithin : am_M := (yX5_leastWithin, cX5_leastWithin, 5, (some .int))
abbrev mX5_costWithFirst : am_M := (yX5_costWithFirst, cX5_costWithFirst, 5, (some .int))
abbrev mX5_leastFor : am_M := (yX5_leastFor, cX5_leastFor, 2, (some .int))
abbrev mX5_firstOnesWithin : am_M := (yX5_firstOnesWithin, cX5_firstOnesWithin, 5, (some .int))
abbrev mX5_leastCostOf : am_M := (yX5_leastCostOf, cX5_leastCostOf, 2, (some .int))
abbrev mX5_firstOnes : am_M := (yX5_firstOnes, cX5_firstOnes, 2, (some .int))
abbrev mX5_playerAt : am_M := (yX5_playerAt, cX5_playerAt, 5, (some .int))
abbrev mX6_init : am_M := (yX6_init, cX6_init, 1, none)
abbrev mX6_playerAt : am_M := (yX6_playerAt, cX6_playerAt, 2, (some .int))
abbrev mX6_put : am_M := (yX6_put, cX6_put, 3, none)
abbrev mX6_stepsBetween : am_M := (yX6_stepsBetween, cX6_stepsBetween, 5, (some .int))
abbrev mX6_beatenByAny : am_M := (yX6_beatenByAny, cX6_beatenByAny, 4, (some .int))
abbrev mX6_findShortest : am_M := (yX6_findShortest, cX6_findShortest, 6, none)
abbrev mX6_nextTowards : am_M := (yX6_nextTowards, cX6_nextTowards, 5, (some .int))
abbrev mX6_findSpanning : am_M := (yX6_findSpanning, cX6_findSpanning, 6, none)
abbrev mX6_countSpanning : am_M := (yX6_countSpanning, cX6_countSpanning, 5, (some .int))
abbrev mX6_countEnding : am_M := (yX6_countEnding, cX6_countEnding, 4, (some .int))
abbrev mX6_sumOfCounts : am_M := (yX6_sumOfCounts, cX6_sumOfCounts, 7, (some .int))
abbrev mX6_putCount : am_M := (yX6_putCount, cX6_putCount, 5, none)
abbrev mX7_init : am_M := (yX7_init, cX7_init, 1, none)
abbrev mX7_size : am_M := (yX7_size, cX7_size, 1, (some .int))
abbrev mX7_empty : am_M := (yX7_empty, cX7_empty, 1, none)
abbrev mX7_add : am_M := (yX7_add, cX7_add, 2, (some .boolean))
abbrev mX7_at : am_M := (yX7_at, cX7_at, 2, (some .char))
abbrev mX7_faultFor : am_M := (yX7_faultFor, cX7_faultFor, 3, (some .int))
abbrev mX7_isResult : am_M := (yX7_isResult, cX7_isResult, 4, (some .boolean))
abbrev mX7_enterInto : am_M := (yX7_enterInto, cX7_enterInto, 7, (some .int))
abbrev mX8_init : am_M := (yX8_init, cX8_init, 1, none)
abbrev mX8_size : am_M := (yX8_size, cX8_size, 1, (some .int))
abbrev mX8_empty : am_M := (yX8_empty, cX8_empty, 1, none)
abbrev mX8_add : am_M := (yX8_add, cX8_add, 2, (some .boolean))
abbrev mX8_numberAt : am_M := (yX8_numberAt, cX8_numberAt, 2, (some .int))
abbrev mX8_failingCount : am_M := (yX8_failingCount, cX8_failingCount, 4, (some .int))
abbrev mX8_sumOfSmallest : am_M := (yX8_sumOfSmallest, cX8_sumOfSmallest, 6, (some .int))
abbrev mX8_timesOf : am_M := (yX8_timesOf, cX8_timesOf, 4, (some .int))
abbrev mX9_leadersOf : am_M := (yX9_leadersOf, cX9_leadersOf, 6, (some .int))
abbrev mX9_topOf : am_M := (yX9_topOf, cX9_topOf, 5, (some .int))
abbrev mX9_countParts : am_M := (yX9_countParts, cX9_countParts, 4, (some .int))
abbrev mX9_partNumber : am_M := (yX9_partNumber, cX9_partNumber, 5, (some .int))
abbrev mX9_partWith : am_M := (yX9_partWith, cX9_partWith, 5, (some .int))
abbrev mX9_kingsOf : am_M := (yX9_kingsOf, cX9_kingsOf, 3, (some .int))
abbrev mX9_isKing : am_M := (yX9_isKing, cX9_isKing, 4, (some .boolean))
abbrev mX9_chainTopsOf : am_M := (yX9_chainTopsOf, cX9_chainTopsOf, 3, (some .int))
abbrev mX9_topsAbove : am_M := (yX9_topsAbove, cX9_topsAbove, 6, (some .int))
abbrev mX10_init : am_M := (yX10_init, cX10_init, 1, none)
abbrev mX10_reset : am_M := (yX10_reset, cX10_reset, 3, (some .int))
abbrev mX10_setResult : am_M := (yX10_setResult, cX10_setResult, 4, (some .int))
abbrev mX10_setWeight : am_M := (yX10_setWeight, cX10_setWeight, 5, (some .int))
abbrev mX10_reverseTriangle : am_M := (yX10_reverseTriangle, cX10_reverseTriangle, 4, (some .int))
abbrev mX10_reversePath : am_M := (yX10_reversePath, cX10_reversePath, 5, (some .int))
abbrev mX10_reversePlayer : am_M := (yX10_reversePlayer, cX10_reversePlayer, 3, (some .int))
abbrev mX10_exchange : am_M := (yX10_exchange, cX10_exchange, 3, (some .int))
abbrev mX10_construct : am_M := (yX10_construct, cX10_construct, 1, (some .int))
abbrev mX10_enter : am_M := (yX10_enter, cX10_enter, 1, (some .int))
abbrev mX10_recall : am_M := (yX10_recall, cX10_recall, 1, (some .int))
abbrev mX10_undo : am_M := (yX10_undo, cX10_undo, 1, (some .int))
abbrev mX10_append : am_M := (yX10_append, cX10_append, 2, (some .int))
abbrev mX10_clearSequence : am_M := (yX10_clearSequence, cX10_clearSequence, 2, (some .int))
abbrev mX10_checkSequence : am_M := (yX10_checkSequence, cX10_checkSequence, 1, (some .int))
abbrev mX10_type : am_M := (yX10_type, cX10_type, 2, (some .int))
abbrev mX10_clearText : am_M := (yX10_clearText, cX10_clearText, 2, (some .int))
abbrev mX10_fault : am_M := (yX10_fault, cX10_fault, 1, (some .int))
abbrev mX10_players : am_M := (yX10_players, cX10_players, 1, (some .int))
abbrev mX10_beats : am_M := (yX10_beats, cX10_beats, 3, (some .int))
abbrev mX10_weight : am_M := (yX10_weight, cX10_weight, 3, (some .int))
abbrev mX10_score : am_M := (yX10_score, cX10_score, 2, (some .int))
abbrev mX10_scoreAt : am_M := (yX10_scoreAt, cX10_scoreAt, 2, (some .int))
abbrev mX10_triangles : am_M := (yX10_triangles, cX10_triangles, 1, (some .int))
abbrev mX10_distance : am_M := (yX10_distance, cX10_distance, 3, (some .int))
abbrev mX10_components : am_M := (yX10_components, cX10_components, 1, (some .int))
abbrev mX10_componentOf : am_M := (yX10_componentOf, cX10_componentOf, 2, (some .int))
abbrev mX10_spanningPaths : am_M := (yX10_spanningPaths, cX10_spanningPaths, 1, (some .int))
abbrev mX10_pathAt : am_M := (yX10_pathAt, cX10_pathAt, 2, (some .int))
abbrev mX10_cycleAt : am_M := (yX10_cycleAt, cX10_cycleAt, 4, (some .int))
abbrev mX10_cycleLengths : am_M := (yX10_cycleLengths, cX10_cycleLengths, 2, (some .int))
abbrev mX10_leastCost : am_M := (yX10_leastCost, cX10_leastCost, 1, (some .int))
abbrev mX10_orderAt : am_M := (yX10_orderAt, cX10_orderAt, 2, (some .int))
abbrev mX10_winners : am_M := (yX10_winners, cX10_winners, 2, (some .int))
abbrev mX10_undisputed : am_M := (yX10_undisputed, cX10_undisputed, 3, (some .int))
abbrev mX10_winnersBy : am_M := (yX10_winnersBy, cX10_winnersBy, 2, (some .int))
abbrev mX10_store : am_M := (yX10_store, cX10_store, 1, (some .int))
abbrev mX10_difference : am_M := (yX10_difference, cX10_difference, 1, (some .int))
abbrev mX10_isLikeStored : am_M := (yX10_isLikeStored, cX10_isLikeStored, 1, (some .int))
abbrev mX10_towardsStored : am_M := (yX10_towardsStored, cX10_towardsStored, 1, (some .int))
abbrev mX10_holds : am_M := (yX10_holds, cX10_holds, 2, (some .boolean))
abbrev mX10_only : am_M := (yX10_only, cX10_only, 1, (some .int))
abbrev mX10_without : am_M := (yX10_without, cX10_without, 2, (some .int))
abbrev mX10_lowestOf : am_M := (yX10_lowestOf, cX10_lowestOf, 1, (some .int))
abbrev mX11_init : am_M := (yX11_init, cX11_init, 1, none)
abbrev mX11_in : am_M := (yX11_in, cX11_in, 3, (some .boolean))
abbrev mX11_has : am_M := (yX11_has, cX11_has, 2, (some .boolean))
abbrev mX11_count : am_M := (yX11_count, cX11_count, 3, (some .int))
abbrev mX11_copies : am_M := (yX11_copies, cX11_copies, 3, none)
abbrev mX11_n : am_M := (yX11_n, cX11_n, 1, (some .int))
abbrev mX11_all : am_M := (yX11_all, cX11_all, 1, (some .int))
abbrev mX11_beaten : am_M := (yX11_beaten, cX11_beaten, 2, (some .int))
abbrev mX11_beats1 : am_M := (yX11_beats1, cX11_beats1, 3, (some .boolean))
abbrev mX11_isPlayer : am_M := (yX11_isPlayer, cX11_isPlayer, 2, (some .boolean))
abbrev mX11_isPair : am_M := (yX11_isPair, cX11_isPair, 3, (some .boolean))
abbrev mX11_at : am_M := (yX11_at, cX11_at, 2, (some .int))
abbrev mX11_begins : am_M := (yX11_begins, cX11_begins, 4, none)
abbrev mX11_keeps : am_M := (yX11_keeps, cX11_keeps, 2, none)
abbrev mX11_wins : am_M := (yX11_wins, cX11_wins, 3, none)
abbrev mX11_turns : am_M := (yX11_turns, cX11_turns, 3, none)
abbrev mX11_reset : am_M := (yX11_reset, cX11_reset, 3, (some .int))
abbrev mX11_setResult : am_M := (yX11_setResult, cX11_setResult, 4, (some .int))
abbrev mX11_setWeight : am_M := (yX11_setWeight, cX11_setWeight, 5, (some .int))
abbrev mX11_isCycle : am_M := (yX11_isCycle, cX11_isCycle, 4, (some .boolean))
abbrev mX11_reverseTriangle : am_M := (yX11_reverseTriangle, cX11_reverseTriangle, 4, (some .int))
abbrev mX11_stepsTo : am_M := (yX11_stepsTo, cX11_stepsTo, 5, none)
abbrev mX11_reversePath : am_M := (yX11_reversePath, cX11_reversePath, 6, (some .int))
abbrev mX11_reversePlayer : am_M := (yX11_reversePlayer, cX11_reversePlayer, 3, (some .int))
abbrev mX11_swapped : am_M := (yX11_swapped, cX11_swapped, 4, (some .int))
abbrev mX11_exchange : am_M := (yX11_exchange, cX11_exchange, 6, (some .int))
abbrev mX11_fails : am_M := (yX11_fails, cX11_fails, 7, (some .int))
abbrev mX11_construct : am_M := (yX11_construct, cX11_construct, 7, (some .int))
abbrev mX11_faultOf : am_M := (yX11_faultOf, cX11_faultOf, 3, (some .int))
abbrev mX11_enter : am_M := (yX11_enter, cX11_enter, 3, (some .int))
abbrev mX11_recall : am_M := (yX11_recall, cX11_recall, 1, (some .int))
abbrev mX11_undo : am_M := (yX11_undo, cX11_undo, 2, (some .int))
abbrev mX11_append : am_M := (yX11_append, cX11_append, 2, (some .int))
abbrev mX11_clearSequence : am_M := (yX11_clearSequence, cX11_clearSequence, 2, (some .int))
abbrev mX11_checkSequence : am_M := (yX11_checkSequence, cX11_checkSequence, 1, (some .int))
abbrev mX11_type : am_M := (yX11_type, cX11_type, 2, (some .int))
abbrev mX11_clearText : am_M := (yX11_clearText, cX11_clearText, 2, (some .int))
abbrev mX11_fault : am_M := (yX11_fault, cX11_fault, 1, (some .int))
abbrev mX11_players : am_M := (yX11_players, cX11_players, 1, (some .int))
abbrev mX11_beats : am_M := (yX11_beats, cX11_beats, 3, (some .int))
abbrev mX11_weight : am_M := (yX11_weight, cX11_weight, 3, (some .int))
abbrev mX11_score : am_M := (yX11_score, cX11_score, 2, (some .int))
abbrev mX11_scoreAt : am_M := (yX11_scoreAt, cX11_scoreAt, 7, (some .int))
abbrev mX11_triangles : am_M := (yX11_triangles, cX11_triangles, 5, (some .int))
abbrev mX11_distance : am_M := (yX11_distance, cX11_distance, 3, (some .int))
abbrev mX11_reaches : am_M := (yX11_reaches, cX11_reaches, 4, none)
abbrev mX11_isLowest : am_M := (yX11_isLowest, cX11_isLowest, 4, (some .boolean))
abbrev mX11_components : am_M := (yX11_components, cX11_components, 3, (some .int))
abbrev mX11_componentAt : am_M := (yX11_componentAt, cX11_componentAt, 4, (some .int))
abbrev mX11_componentOf : am_M := (yX11_componentOf, cX11_componentOf, 2, (some .int))
abbrev mX11_countsPaths : am_M := (yX11_countsPaths, cX11_countsPaths, 6, none)
abbrev mX11_spanningPaths : am_M := (yX11_spanningPaths, cX11_spanningPaths, 3, (some .int))
abbrev mX11_pathAt : am_M := (yX11_pathAt, cX11_pathAt, 6, (some .int))
abbrev mX11_closes : am_M := (yX11_closes, cX11_closes, 7, none)
abbrev mX11_isClosed : am_M := (yX11_isClosed, cX11_isClosed, 2, (some .boolean))
abbrev mX11_cycleAt : am_M := (yX11_cycleAt, cX11_cycleAt, 8, (some .int))
abbrev mX11_cycleLengths : am_M := (yX11_cycleLengths, cX11_cycleLengths, 4, (some .int))
abbrev mX11_costOf : am_M := (yX11_costOf, cX11_costOf, 5, (some .int))
abbrev mX11_orders : am_M := (yX11_orders, cX11_orders, 6, none)
abbrev mX11_isBest : am_M := (yX11_isBest, cX11_isBest, 4, (some .boolean))
abbrev mX11_leastCost : am_M := (yX11_leastCost, cX11_leastCost, 1, (some .int))
abbrev mX11_orderAt : am_M := (yX11_orderAt, cX11_orderAt, 5, (some .int))
abbrev mX11_isKing : am_M := (yX11_isKing, cX11_isKing, 4, (some .boolean))
abbrev mX11_isTop : am_M := (yX11_isTop, cX11_isTop, 4, (some .boolean))
abbrev mX11_isChain : am_M := (yX11_isChain, cX11_isChain, 4, (some .boolean))
abbrev mX11_isBeaten : am_M := (yX11_isBeaten, cX11_isBeaten, 4, (some .boolean))
abbrev mX11_isFirst : am_M := (yX11_isFirst, cX11_isFirst, 5, (some .boolean))
abbrev mX11_winnersBy : am_M := (yX11_winnersBy, cX11_winnersBy, 5, (some .int))
abbrev mX11_winners : am_M := (yX11_winners, cX11_winners, 2, (some .int))
abbrev mX11_undisputed : am_M := (yX11_undisputed, cX11_undisputed, 3, (some .int))
abbrev mX11_store : am_M := (yX11_store, cX11_store, 1, (some .int))
abbrev mX11_differs : am_M := (yX11_differs, cX11_differs, 3, (some .boolean))
abbrev mX11_difference : am_M := (yX11_difference, cX11_difference, 4, (some .int))
abbrev mX11_fits : am_M := (yX11_fits, cX11_fits, 4, (some .boolean))
abbrev mX11_isLikeStored : am_M := (yX11_isLikeStored, cX11_isLikeStored, 2, (some .int))
abbrev mX11_towardsStored : am_M := (yX11_towardsStored, cX11_towardsStored, 6, (some .int))
abbrev mJ6_bitCount_0f7a4 : am_M := (yJ6_bitCount_0f7a4, cJ6_bitCount_0f7a4, 1, (some .int))
abbrev mJ9_floorMod_7cf53 : am_M := (yJ9_floorMod_7cf53, cJ9_floorMod_7cf53, 3, (some .int))
abbrev mJ9_max_7cf53 : am_M := (yJ9_max_7cf53, cJ9_max_7cf53, 2, (some .int))
abbrev mJ9_min_7cf53 : am_M := (yJ9_min_7cf53, cJ9_min_7cf53, 2, (some .int))
theorem fg_X0 : ∀ w ∈ u_ws RX0 TX0 4, w ∈ am_good := am_fg fun k hk => match k, hk with
  | 0, _ => am_mem 97 (by decide +kernel) rfl
  | 1, _ => am_mem 99 (by decide +kernel) rfl
  | 2, _ => am_mem 101 (by decide +kernel) rfl
  | 3, _ => am_mem 103 (by decide +kernel) rfl
  | k + 4, hk => absurd hk (by omega)
theorem fp_X0_0 : am_FP TX0 4 0 := ⟨⟨tyX0, tyX0_ok⟩, nmX0, rfl, by decide +kernel⟩
theorem fp_X0_1 : am_FP TX0 4 1 := ⟨⟨tyX0, tyX0_ok⟩, nmX0, rfl, by decide +kernel⟩
theorem fg_X1 : ∀ w ∈ u_ws RX1 TX1 1, w ∈ am_good := am_fg fun k hk => match k, hk with
  | 0, _ => am_mem 160 (by decide +kernel) rfl
  | k + 1, hk => absurd hk (by omega)
theorem fg_X10 : ∀ w ∈ u_ws RX10 TX10 10, w ∈ am_good := am_fg fun k hk => match k, hk with
  | 0, _ => am_mem 228 (by decide +kernel) rfl
  | 1, _ => am_mem 230 (by decide +kernel) rfl
  | 2, _ => am_mem 232 (by decide +kernel) rfl
  | 3, _ => am_mem 234 (by decide +kernel) rfl
  | 4, _ => am_mem 236 (by decide +kernel) rfl
  | 5, _ => am_mem 238 (by decide +kernel) rfl
  | 6, _ => am_mem 240 (by decide +kernel) rfl
  | 7, _ => am_mem 242 (by decide +kernel) rfl
  | 8, _ => am_mem 244 (by decide +kernel) rfl
  | 9, _ => am_mem 246 (by decide +kernel) rfl
  | k + 10, hk => absurd hk (by omega)
theorem fg_X11 : ∀ w ∈ u_ws RX11 TX11 12, w ∈ am_good := am_fg fun k hk => match k, hk with
  | 0, _ => am_mem 843 (by decide +kernel) rfl
  | 1, _ => am_mem 845 (by decide +kernel) rfl
  | 2, _ => am_mem 847 (by decide +kernel) rfl
  | 3, _ => am_mem 849 (by decide +kernel) rfl
  | 4, _ => am_mem 851 (by decide +kernel) rfl
  | 5, _ => am_mem 853 (by decide +kernel) rfl
  | 6, _ => am_mem 855 (by decide +kernel) rfl
  | 7, _ => am_mem 857 (by decide +kernel) rfl
  | 8, _ => am_mem 859 (by decide +kernel) rfl
  | 9, _ => am_mem 861 (by decide +kernel) rfl
  | 10, _ => am_mem 863 (by decide +kernel) rfl
  | 11, _ => am_mem 865 (by decide +kernel) rfl
  | k + 12, hk => absurd hk (by omega)
theorem fp_X11_3 : am_FP TX11 12 3 := ⟨⟨tyX11, tyX11_ok⟩, nmX11, rfl, by decide +kernel⟩
theorem fp_X11_4 : am_FP TX11 12 4 := ⟨⟨tyX11, tyX11_ok⟩, nmX11, rfl, by decide +kernel⟩
theorem fp_X11_6 : am_FP TX11 12 6 := ⟨⟨tyX11, tyX11_ok⟩, nmX11, rfl, by decide +kernel⟩
theorem fg_X2 : ∀ w ∈ u_ws RX2 TX2 2, w ∈ am_good := am_fg fun k hk => match k, hk with
  | 0, _ => am_mem 184 (by decide +kernel) rfl
  | 1, _ => am_mem 186 (by decide +kernel) rfl
  | k + 2, hk => absurd hk (by omega)
theorem fg_X3 : ∀ w ∈ u_ws RX3 TX3 3, w ∈ am_good := am_fg fun k hk => match k, hk with
  | 0, _ => am_mem 119 (by decide +kernel) rfl
  | 1, _ => am_mem 121 (by decide +kernel) rfl
  | 2, _ => am_mem 123 (by decide +kernel) rfl
  | k + 3, hk => absurd hk (by omega)
theorem fp_X3_1 : am_FP TX3 3 1 := ⟨⟨tyX3, tyX3_ok⟩, nmX3, rfl, by decide +kernel⟩
theorem fp_X3_2 : am_FP TX3 3 2 := ⟨⟨tyX3, tyX3_ok⟩, nmX3, rfl, by decide +kernel⟩
theorem fg_X4 : ∀ w ∈ u_ws RX4 TX4 1, w ∈ am_good := am_fg fun k hk => match k, hk with
  | 0, _ => am_mem 215 (by decide +kernel) rfl
  | k + 1, hk => absurd hk (by omega)
theorem fg_X5 : ∀ w ∈ u_ws RX5 TX5 4, w ∈ am_good := am_fg fun k hk => match k, hk with
  | 0, _ => am_mem 199 (by decide +kernel) rfl
  | 1, _ => am_mem 201 (by decide +kernel) rfl
  | 2, _ => am_mem 203 (by decide +kernel) rfl
  | 3, _ => am_mem 205 (by decide +kernel) rfl
  | k + 4, hk => absurd hk (by omega)
theorem fp_X5_3 : am_FP TX5 4 3 := ⟨⟨tyX5, tyX5_ok⟩, nmX5, rfl, by decide +kernel⟩
theorem fg_X6 : ∀ w ∈ u_ws RX6 TX6 2, w ∈ am_good := am_fg fun k hk => match k, hk with
  | 0, _ => am_mem 171 (by decide +kernel) rfl
  | 1, _ => am_mem 173 (by decide +kernel) rfl
  | k + 2, hk => absurd hk (by omega)
theorem fg_X7 : ∀ w ∈ u_ws RX7 TX7 2, w ∈ am_good := am_fg fun k hk => match k, hk with
  | 0, _ => am_mem 147 (by decide +kernel) rfl
  | 1, _ => am_mem 149 (by decide +kernel) rfl
  | k + 2, hk => absurd hk (by omega)
theorem fp_X7_1 : am_FP TX7 2 1 := ⟨⟨tyX7, tyX7_ok⟩, nmX7, rfl, by decide +kernel⟩
theorem fg_X8 : ∀ w ∈ u_ws RX8 TX8 2, w ∈ am_good := am_fg fun k hk => match k, hk with
  | 0, _ => am_mem 134 (by decide +kernel) rfl
  | 1, _ => am_mem 136 (by decide +kernel) rfl
  | k + 2, hk => absurd hk (by omega)
theorem fp_X8_1 : am_FP TX8 2 1 := ⟨⟨tyX8, tyX8_ok⟩, nmX8, rfl, by decide +kernel⟩
theorem fw_X0_9 : am_FW RX0 9 0 2 RX0 TX0 4 := ⟨rfl, by decide, fg_X0, am_mem 95 (by decide +kernel) rfl⟩
theorem fw_X0_15 : am_FW RX0 15 0 3 RX0 TX0 4 := ⟨rfl, by decide, fg_X0, am_mem 96 (by decide +kernel) rfl⟩
theorem fw_X0_22 : am_FW RX0 22 0 1 RX0 TX0 4 := ⟨rfl, by decide, fg_X0, am_mem 94 (by decide +kernel) rfl⟩
theorem fw_X0_35 : am_FW RX0 35 0 0 RX0 TX0 4 := ⟨rfl, by decide, fg_X0, am_mem 93 (by decide +kernel) rfl⟩
theorem fw_X1_9 : am_FW RX1 9 1 0 RX1 TX1 1 := ⟨rfl, by decide, fg_X1, am_mem 159 (by decide +kernel) rfl⟩
theorem fw_X10_10 : am_FW RX10 10 9 0 RX10 TX10 10 := ⟨rfl, by decide, fg_X10, am_mem 218 (by decide +kernel) rfl⟩
theorem fw_X10_16 : am_FW RX10 16 9 1 RX10 TX10 10 := ⟨rfl, by decide, fg_X10, am_mem 219 (by decide +kernel) rfl⟩
theorem fw_X10_22 : am_FW RX10 22 9 2 RX10 TX10 10 := ⟨rfl, by decide, fg_X10, am_mem 220 (by decide +kernel) rfl⟩
theorem fw_X10_29 : am_FW RX10 29 9 3 RX10 TX10 10 := ⟨rfl, by decide, fg_X10, am_mem 221 (by decide +kernel) rfl⟩
theorem fw_X10_36 : am_FW RX10 36 9 4 RX10 TX10 10 := ⟨rfl, by decide, fg_X10, am_mem 222 (by decide +kernel) rfl⟩
theorem fw_X10_43 : am_FW RX10 43 9 5 RX10 TX10 10 := ⟨rfl, by decide, fg_X10, am_mem 223 (by decide +kernel) rfl⟩
theorem fw_X10_50 : am_FW RX10 50 9 6 RX10 TX10 10 := ⟨rfl, by decide, fg_X10, am_mem 224 (by decide +kernel) rfl⟩
theorem fw_X10_57 : am_FW RX10 57 9 7 RX10 TX10 10 := ⟨rfl, by decide, fg_X10, am_mem 225 (by decide +kernel) rfl⟩
theorem fw_X10_64 : am_FW RX10 64 9 8 RX10 TX10 10 := ⟨rfl, by decide, fg_X10, am_mem 226 (by decide +kernel) rfl⟩
theorem fw_X10_71 : am_FW RX10 71 9 9 RX10 TX10 10 := ⟨rfl, by decide, fg_X10, am_mem 227 (by decide +kernel) rfl⟩
theorem fw_X11_7 : am_FW RX11 7 10 0 RX11 TX11 12 := ⟨rfl, by decide, fg_X11, am_mem 831 (by decide +kernel) rfl⟩
theorem fw_X11_13 : am_FW RX11 13 10 1 RX11 TX11 12 := ⟨rfl, by decide, fg_X11, am_mem 832 (by decide +kernel) rfl⟩
theorem fw_X11_16 : am_FW RX11 16 10 2 RX11 TX11 12 := ⟨rfl, by decide, fg_X11, am_mem 833 (by decide +kernel) rfl⟩
theorem fw_X11_19 : am_FW RX11 19 10 5 RX11 TX11 12 := ⟨rfl, by decide, fg_X11, am_mem 836 (by decide +kernel) rfl⟩
theorem fw_X11_22 : am_FW RX11 22 10 7 RX11 TX11 12 := ⟨rfl, by decide, fg_X11, am_mem 838 (by decide +kernel) rfl⟩
theorem fw_X11_25 : am_FW RX11 25 10 8 RX11 TX11 12 := ⟨rfl, by decide, fg_X11, am_mem 839 (by decide +kernel) rfl⟩
theorem fw_X11_28 : am_FW RX11 28 10 9 RX11 TX11 12 := ⟨rfl, by decide, fg_X11, am_mem 840 (by decide +kernel) rfl⟩
theorem fw_X11_31 : am_FW RX11 31 10 10 RX11 TX11 12 := ⟨rfl, by decide, fg_X11, am_mem 841 (by decide +kernel) rfl⟩
theorem fw_X11_34 : am_FW RX11 34 10 11 RX11 TX11 12 := ⟨rfl, by decide, fg_X11, am_mem 842 (by decide +kernel) rfl⟩
theorem fw_X11_65 : am_FW RX11 65 10 3 RX11 TX11 12 := ⟨rfl, by decide, fg_X11, am_mem 834 (by decide +kernel) rfl⟩
theorem fw_X11_105 : am_FW RX11 105 10 4 RX11 TX11 12 := ⟨rfl, by decide, fg_X11, am_mem 835 (by decide +kernel) rfl⟩
theorem fw_X11_114 : am_FW RX11 114 10 6 RX11 TX11 12 := ⟨rfl, by decide, fg_X11, am_mem 837 (by decide +kernel) rfl⟩
theorem fw_X2_9 : am_FW RX2 9 2 0 RX2 TX2 2 := ⟨rfl, by decide, fg_X2, am_mem 182 (by decide +kernel) rfl⟩
theorem fw_X2_15 : am_FW RX2 15 2 1 RX2 TX2 2 := ⟨rfl, by decide, fg_X2, am_mem 183 (by decide +kernel) rfl⟩
theorem fw_X3_11 : am_FW RX3 11 3 0 RX3 TX3 3 := ⟨rfl, by decide, fg_X3, am_mem 116 (by decide +kernel) rfl⟩
theorem fw_X3_18 : am_FW RX3 18 3 2 RX3 TX3 3 := ⟨rfl, by decide, fg_X3, am_mem 118 (by decide +kernel) rfl⟩
theorem fw_X3_22 : am_FW RX3 22 3 1 RX3 TX3 3 := ⟨rfl, by decide, fg_X3, am_mem 117 (by decide +kernel) rfl⟩
theorem fw_X4_9 : am_FW RX4 9 4 0 RX4 TX4 1 := ⟨rfl, by decide, fg_X4, am_mem 214 (by decide +kernel) rfl⟩
theorem fw_X5_9 : am_FW RX5 9 5 0 RX5 TX5 4 := ⟨rfl, by decide, fg_X5, am_mem 195 (by decide +kernel) rfl⟩
theorem fw_X5_15 : am_FW RX5 15 5 1 RX5 TX5 4 := ⟨rfl, by decide, fg_X5, am_mem 196 (by decide +kernel) rfl⟩
theorem fw_X5_18 : am_FW RX5 18 5 2 RX5 TX5 4 := ⟨rfl, by decide, fg_X5, am_mem 197 (by decide +kernel) rfl⟩
theorem fw_X5_21 : am_FW RX5 21 5 3 RX5 TX5 4 := ⟨rfl, by decide, fg_X5, am_mem 198 (by decide +kernel) rfl⟩
theorem fw_X6_9 : am_FW RX6 9 6 0 RX6 TX6 2 := ⟨rfl, by decide, fg_X6, am_mem 169 (by decide +kernel) rfl⟩
theorem fw_X6_15 : am_FW RX6 15 6 1 RX6 TX6 2 := ⟨rfl, by decide, fg_X6, am_mem 170 (by decide +kernel) rfl⟩
theorem fw_X7_9 : am_FW RX7 9 7 0 RX7 TX7 2 := ⟨rfl, by decide, fg_X7, am_mem 145 (by decide +kernel) rfl⟩
theorem fw_X7_15 : am_FW RX7 15 7 1 RX7 TX7 2 := ⟨rfl, by decide, fg_X7, am_mem 146 (by decide +kernel) rfl⟩
theorem fw_X8_9 : am_FW RX8 9 8 0 RX8 TX8 2 := ⟨rfl, by decide, fg_X8, am_mem 132 (by decide +kernel) rfl⟩
theorem fw_X8_15 : am_FW RX8 15 8 1 RX8 TX8 2 := ⟨rfl, by decide, fg_X8, am_mem 133 (by decide +kernel) rfl⟩
theorem cw_J6_bitCount_0f7a4 : am_CW mJ6_bitCount_0f7a4 1 := ⟨⟨by decide +kernel, by decide +kernel⟩, by decide +kernel, am_mem 67 (by decide +kernel) rfl, am_mem 343 (by decide +kernel) rfl, by decide⟩
theorem cw_J9_floorMod_7cf53 : am_CW mJ9_floorMod_7cf53 2 := ⟨⟨by decide +kernel, by decide +kernel⟩, by decide +kernel, am_mem 56 (by decide +kernel) rfl, am_mem 263 (by decide +kernel) rfl, by decide⟩
theorem cw_X0_beatenBy : am_CW mX0_beatenBy 1 := ⟨⟨by decide +kernel, by decide +kernel⟩, by decide +kernel, am_mem 55 (by decide +kernel) rfl, am_mem 295 (by decide +kernel) rfl, by decide⟩
theorem cw_X0_beatersOf : am_CW mX0_beatersOf 1 := ⟨⟨by decide +kernel, by decide +kernel⟩, by decide +kernel, am_mem 55 (by decide +kernel) rfl, am_mem 755 (by decide +kernel) rfl, by decide⟩
theorem cw_X0_copyFrom : am_CW mX0_copyFrom 1 := ⟨⟨by decide +kernel, by decide +kernel⟩, by decide +kernel, am_mem 55 (by decide +kernel) rfl, am_mem 271 (by decide +kernel) rfl, by decide⟩
theorem cw_X0_costOfBefore : am_CW mX0_costOfBefore 2 := ⟨⟨by decide +kernel, by decide +kernel⟩, by decide +kernel, am_mem 55 (by decide +kernel) rfl, am_mem 700 (by decide +kernel) rfl, by decide⟩
theorem cw_X0_countTriangles : am_CW mX0_countTriangles 0 := ⟨⟨by decide +kernel, by decide +kernel⟩, by decide +kernel, am_mem 55 (by decide +kernel) rfl, am_mem 336 (by decide +kernel) rfl, by decide⟩
theorem cw_X0_everyone : am_CW mX0_everyone 0 := ⟨⟨by decide +kernel, by decide +kernel⟩, by decide +kernel, am_mem 55 (by decide +kernel) rfl, am_mem 433 (by decide +kernel) rfl, by decide⟩
theorem cw_X0_has : am_CW mX0_has 1 := ⟨⟨by decide +kernel, by decide +kernel⟩, by decide +kernel, am_mem 55 (by decide +kernel) rfl, am_mem 287 (by decide +kernel) rfl, by decide⟩
theorem cw_X0_hasPair : am_CW mX0_hasPair 2 := ⟨⟨by decide +kernel, by decide +kernel⟩, by decide +kernel, am_mem 55 (by decide +kernel) rfl, am_mem 283 (by decide +kernel) rfl, by decide⟩
theorem cw_X0_isTriangle : am_CW mX0_isTriangle 3 := ⟨⟨by decide +kernel, by decide +kernel⟩, by decide +kernel, am_mem 55 (by decide +kernel) rfl, am_mem 331 (by decide +kernel) rfl, by decide⟩
theorem cw_X0_putWeight : am_CW mX0_putWeight 3 := ⟨⟨by decide +kernel, by decide +kernel⟩, by decide +kernel, am_mem 55 (by decide +kernel) rfl, am_mem 323 (by decide +kernel) rfl, by decide⟩
theorem cw_X0_setWinner : am_CW mX0_setWinner 2 := ⟨⟨by decide +kernel, by decide +kernel⟩, by decide +kernel, am_mem 55 (by decide +kernel) rfl, am_mem 302 (by decide +kernel) rfl, by decide⟩
theorem cw_X0_size : am_CW mX0_size 0 := ⟨⟨by decide +kernel, by decide +kernel⟩, by decide +kernel, am_mem 55 (by decide +kernel) rfl, am_mem 256 (by decide +kernel) rfl, by decide⟩
theorem cw_X0_stamp : am_CW mX0_stamp 0 := ⟨⟨by decide +kernel, by decide +kernel⟩, by decide +kernel, am_mem 55 (by decide +kernel) rfl, am_mem 690 (by decide +kernel) rfl, by decide⟩
theorem cw_X0_start : am_CW mX0_start 1 := ⟨⟨by decide +kernel, by decide +kernel⟩, by decide +kernel, am_mem 55 (by decide +kernel) rfl, am_mem 86 (by decide +kernel) rfl, by decide⟩
theorem cw_X0_swap : am_CW mX0_swap 2 := ⟨⟨by decide +kernel, by decide +kernel⟩, by decide +kernel, am_mem 55 (by decide +kernel) rfl, am_mem 392 (by decide +kernel) rfl, by decide⟩
theorem cw_X0_swapAgainst : am_CW mX0_swapAgainst 3 := ⟨⟨by decide +kernel, by decide +kernel⟩, by decide +kernel, am_mem 55 (by decide +kernel) rfl, am_mem 396 (by decide +kernel) rfl, by decide⟩
theorem cw_X0_turn : am_CW mX0_turn 2 := ⟨⟨by decide +kernel, by decide +kernel⟩, by decide +kernel, am_mem 55 (by decide +kernel) rfl, am_mem 307 (by decide +kernel) rfl, by decide⟩
theorem cw_X0_weightOf : am_CW mX0_weightOf 2 := ⟨⟨by decide +kernel, by decide +kernel⟩, by decide +kernel, am_mem 55 (by decide +kernel) rfl, am_mem 319 (by decide +kernel) rfl, by decide⟩
theorem cw_X0_wins : am_CW mX0_wins 2 := ⟨⟨by decide +kernel, by decide +kernel⟩, by decide +kernel, am_mem 55 (by decide +kernel) rfl, am_mem 291 (by decide +kernel) rfl, by decide⟩
theorem cw_X0_winsAtPlace : am_CW mX0_winsAtPlace 1 := ⟨⟨by decide +kernel, by decide +kernel⟩, by decide +kernel, am_mem 55 (by decide +kernel) rfl, am_mem 576 (by decide +kernel) rfl, by decide⟩
theorem cw_X0_winsOf : am_CW mX0_winsOf 1 := ⟨⟨by decide +kernel, by decide +kernel⟩, by decide +kernel, am_mem 55 (by decide +kernel) rfl, am_mem 340 (by decide +kernel) rfl, by decide⟩
theorem cw_X10_holds : am_CW mX10_holds 2 := ⟨⟨by decide +kernel, by decide +kernel⟩, by decide +kernel, am_mem 54 (by decide +kernel) rfl, am_mem 298 (by decide +kernel) rfl, by decide⟩
theorem cw_X10_lowestOf : am_CW mX10_lowestOf 1 := ⟨⟨by decide +kernel, by decide +kernel⟩, by decide +kernel, am_mem 54 (by decide +kernel) rfl, am_mem 440 (by decide +kernel) rfl, by decide⟩
theorem cw_X10_only : am_CW mX10_only 1 := ⟨⟨by decide +kernel, by decide +kernel⟩, by decide +kernel, am_mem 54 (by decide +kernel) rfl, am_mem 311 (by decide +kernel) rfl, by decide⟩
theorem cw_X10_winnersBy : am_CW mX10_winnersBy 1 := ⟨⟨by decide +kernel, by decide +kernel⟩, by decide +kernel, am_mem 54 (by decide +kernel) rfl, am_mem 738 (by decide +kernel) rfl, by decide⟩
theorem cw_X10_without : am_CW mX10_without 2 := ⟨⟨by decide +kernel, by decide +kernel⟩, by decide +kernel, am_mem 54 (by decide +kernel) rfl, am_mem 449 (by decide +kernel) rfl, by decide⟩
theorem cw_X11_all : am_CW mX11_all 0 := ⟨⟨by decide +kernel, by decide +kernel⟩, by decide +kernel, am_mem 65 (by decide +kernel) rfl, am_mem 963 (by decide +kernel) rfl, by decide⟩
theorem cw_X11_at : am_CW mX11_at 2 := ⟨⟨by decide +kernel, by decide +kernel⟩, by decide +kernel, am_mem 65 (by decide +kernel) rfl, am_mem 827 (by decide +kernel) rfl, by decide⟩
theorem cw_X11_beaten : am_CW mX11_beaten 1 := ⟨⟨by decide +kernel, by decide +kernel⟩, by decide +kernel, am_mem 65 (by decide +kernel) rfl, am_mem 898 (by decide +kernel) rfl, by decide⟩
theorem cw_X11_beats1 : am_CW mX11_beats1 2 := ⟨⟨by decide +kernel, by decide +kernel⟩, by decide +kernel, am_mem 65 (by decide +kernel) rfl, am_mem 894 (by decide +kernel) rfl, by decide⟩
theorem cw_X11_begins : am_CW mX11_begins 1 := ⟨⟨by decide +kernel, by decide +kernel⟩, by decide +kernel, am_mem 65 (by decide +kernel) rfl, am_mem 824 (by decide +kernel) rfl, by decide⟩
theorem cw_X11_closes : am_CW mX11_closes 2 := ⟨⟨by decide +kernel, by decide +kernel⟩, by decide +kernel, am_mem 65 (by decide +kernel) rfl, am_mem 1068 (by decide +kernel) rfl, by decide⟩
theorem cw_X11_componentAt : am_CW mX11_componentAt 1 := ⟨⟨by decide +kernel, by decide +kernel⟩, by decide +kernel, am_mem 65 (by decide +kernel) rfl, am_mem 1048 (by decide +kernel) rfl, by decide⟩
theorem cw_X11_copies : am_CW mX11_copies 2 := ⟨⟨by decide +kernel, by decide +kernel⟩, by decide +kernel, am_mem 65 (by decide +kernel) rfl, am_mem 830 (by decide +kernel) rfl, by decide⟩
theorem cw_X11_costOf : am_CW mX11_costOf 2 := ⟨⟨by decide +kernel, by decide +kernel⟩, by decide +kernel, am_mem 65 (by decide +kernel) rfl, am_mem 1088 (by decide +kernel) rfl, by decide⟩
theorem cw_X11_count : am_CW mX11_count 1 := ⟨⟨by decide +kernel, by decide +kernel⟩, by decide +kernel, am_mem 65 (by decide +kernel) rfl, am_mem 944 (by decide +kernel) rfl, by decide⟩
theorem cw_X11_countsPaths : am_CW mX11_countsPaths 0 := ⟨⟨by decide +kernel, by decide +kernel⟩, by decide +kernel, am_mem 65 (by decide +kernel) rfl, am_mem 1056 (by decide +kernel) rfl, by decide⟩
theorem cw_X11_differs : am_CW mX11_differs 2 := ⟨⟨by decide +kernel, by decide +kernel⟩, by decide +kernel, am_mem 65 (by decide +kernel) rfl, am_mem 1140 (by decide +kernel) rfl, by decide⟩
theorem cw_X11_fails : am_CW mX11_fails 0 := ⟨⟨by decide +kernel, by decide +kernel⟩, by decide +kernel, am_mem 65 (by decide +kernel) rfl, am_mem 959 (by decide +kernel) rfl, by decide⟩
theorem cw_X11_faultOf : am_CW mX11_faultOf 0 := ⟨⟨by decide +kernel, by decide +kernel⟩, by decide +kernel, am_mem 65 (by decide +kernel) rfl, am_mem 971 (by decide +kernel) rfl, by decide⟩
theorem cw_X11_fits : am_CW mX11_fits 1 := ⟨⟨by decide +kernel, by decide +kernel⟩, by decide +kernel, am_mem 65 (by decide +kernel) rfl, am_mem 1148 (by decide +kernel) rfl, by decide⟩
theorem cw_X11_has : am_CW mX11_has 2 := ⟨⟨by decide +kernel, by decide +kernel⟩, by decide +kernel, am_mem 65 (by decide +kernel) rfl, am_mem 901 (by decide +kernel) rfl, by decide⟩
theorem cw_X11_in : am_CW mX11_in 3 := ⟨⟨by decide +kernel, by decide +kernel⟩, by decide +kernel, am_mem 65 (by decide +kernel) rfl, am_mem 874 (by decide +kernel) rfl, by decide⟩
theorem cw_X11_isBeaten : am_CW mX11_isBeaten 1 := ⟨⟨by decide +kernel, by decide +kernel⟩, by decide +kernel, am_mem 65 (by decide +kernel) rfl, am_mem 1124 (by decide +kernel) rfl, by decide⟩
theorem cw_X11_isBest : am_CW mX11_isBest 2 := ⟨⟨by decide +kernel, by decide +kernel⟩, by decide +kernel, am_mem 65 (by decide +kernel) rfl, am_mem 1096 (by decide +kernel) rfl, by decide⟩
theorem cw_X11_isChain : am_CW mX11_isChain 1 := ⟨⟨by decide +kernel, by decide +kernel⟩, by decide +kernel, am_mem 65 (by decide +kernel) rfl, am_mem 1120 (by decide +kernel) rfl, by decide⟩
theorem cw_X11_isClosed : am_CW mX11_isClosed 1 := ⟨⟨by decide +kernel, by decide +kernel⟩, by decide +kernel, am_mem 65 (by decide +kernel) rfl, am_mem 1072 (by decide +kernel) rfl, by decide⟩
theorem cw_X11_isCycle : am_CW mX11_isCycle 3 := ⟨⟨by decide +kernel, by decide +kernel⟩, by decide +kernel, am_mem 65 (by decide +kernel) rfl, am_mem 917 (by decide +kernel) rfl, by decide⟩
theorem cw_X11_isFirst : am_CW mX11_isFirst 1 := ⟨⟨by decide +kernel, by decide +kernel⟩, by decide +kernel, am_mem 65 (by decide +kernel) rfl, am_mem 1116 (by decide +kernel) rfl, by decide⟩
theorem cw_X11_isKing : am_CW mX11_isKing 1 := ⟨⟨by decide +kernel, by decide +kernel⟩, by decide +kernel, am_mem 65 (by decide +kernel) rfl, am_mem 1108 (by decide +kernel) rfl, by decide⟩
theorem cw_X11_isLowest : am_CW mX11_isLowest 1 := ⟨⟨by decide +kernel, by decide +kernel⟩, by decide +kernel, am_mem 65 (by decide +kernel) rfl, am_mem 1040 (by decide +kernel) rfl, by decide⟩
theorem cw_X11_isPair : am_CW mX11_isPair 2 := ⟨⟨by decide +kernel, by decide +kernel⟩, by decide +kernel, am_mem 65 (by decide +kernel) rfl, am_mem 886 (by decide +kernel) rfl, by decide⟩
theorem cw_X11_isPlayer : am_CW mX11_isPlayer 1 := ⟨⟨by decide +kernel, by decide +kernel⟩, by decide +kernel, am_mem 65 (by decide +kernel) rfl, am_mem 890 (by decide +kernel) rfl, by decide⟩
theorem cw_X11_isTop : am_CW mX11_isTop 1 := ⟨⟨by decide +kernel, by decide +kernel⟩, by decide +kernel, am_mem 65 (by decide +kernel) rfl, am_mem 1112 (by decide +kernel) rfl, by decide⟩
theorem cw_X11_keeps : am_CW mX11_keeps 0 := ⟨⟨by decide +kernel, by decide +kernel⟩, by decide +kernel, am_mem 65 (by decide +kernel) rfl, am_mem 878 (by decide +kernel) rfl, by decide⟩
theorem cw_X11_n : am_CW mX11_n 0 := ⟨⟨by decide +kernel, by decide +kernel⟩, by decide +kernel, am_mem 65 (by decide +kernel) rfl, am_mem 929 (by decide +kernel) rfl, by decide⟩
theorem cw_X11_orders : am_CW mX11_orders 0 := ⟨⟨by decide +kernel, by decide +kernel⟩, by decide +kernel, am_mem 65 (by decide +kernel) rfl, am_mem 1084 (by decide +kernel) rfl, by decide⟩
theorem cw_X11_reaches : am_CW mX11_reaches 0 := ⟨⟨by decide +kernel, by decide +kernel⟩, by decide +kernel, am_mem 65 (by decide +kernel) rfl, am_mem 1036 (by decide +kernel) rfl, by decide⟩
theorem cw_X11_stepsTo : am_CW mX11_stepsTo 1 := ⟨⟨by decide +kernel, by decide +kernel⟩, by decide +kernel, am_mem 65 (by decide +kernel) rfl, am_mem 937 (by decide +kernel) rfl, by decide⟩
theorem cw_X11_swapped : am_CW mX11_swapped 3 := ⟨⟨by decide +kernel, by decide +kernel⟩, by decide +kernel, am_mem 65 (by decide +kernel) rfl, am_mem 951 (by decide +kernel) rfl, by decide⟩
theorem cw_X11_triangles : am_CW mX11_triangles 0 := ⟨⟨by decide +kernel, by decide +kernel⟩, by decide +kernel, am_mem 65 (by decide +kernel) rfl, am_mem 925 (by decide +kernel) rfl, by decide⟩
theorem cw_X11_turns : am_CW mX11_turns 2 := ⟨⟨by decide +kernel, by decide +kernel⟩, by decide +kernel, am_mem 65 (by decide +kernel) rfl, am_mem 921 (by decide +kernel) rfl, by decide⟩
theorem cw_X11_winnersBy : am_CW mX11_winnersBy 1 := ⟨⟨by decide +kernel, by decide +kernel⟩, by decide +kernel, am_mem 65 (by decide +kernel) rfl, am_mem 1104 (by decide +kernel) rfl, by decide⟩
theorem cw_X11_wins : am_CW mX11_wins 2 := ⟨⟨by decide +kernel, by decide +kernel⟩, by decide +kernel, am_mem 65 (by decide +kernel) rfl, am_mem 905 (by decide +kernel) rfl, by decide⟩
theorem cw_X1_build : am_CW mX1_build 2 := ⟨⟨by decide +kernel, by decide +kernel⟩, by decide +kernel, am_mem 60 (by decide +kernel) rfl, am_mem 423 (by decide +kernel) rfl, by decide⟩
theorem cw_X1_greatestOf : am_CW mX1_greatestOf 1 := ⟨⟨by decide +kernel, by decide +kernel⟩, by decide +kernel, am_mem 60 (by decide +kernel) rfl, am_mem 437 (by decide +kernel) rfl, by decide⟩
theorem cw_X1_restOf : am_CW mX1_restOf 1 := ⟨⟨by decide +kernel, by decide +kernel⟩, by decide +kernel, am_mem 60 (by decide +kernel) rfl, am_mem 446 (by decide +kernel) rfl, by decide⟩
theorem cw_X1_settle : am_CW mX1_settle 4 := ⟨⟨by decide +kernel, by decide +kernel⟩, by decide +kernel, am_mem 60 (by decide +kernel) rfl, am_mem 463 (by decide +kernel) rfl, by decide⟩
theorem cw_X1_smallestIn : am_CW mX1_smallestIn 1 := ⟨⟨by decide +kernel, by decide +kernel⟩, by decide +kernel, am_mem 60 (by decide +kernel) rfl, am_mem 458 (by decide +kernel) rfl, by decide⟩
theorem cw_X1_smallestOf : am_CW mX1_smallestOf 2 := ⟨⟨by decide +kernel, by decide +kernel⟩, by decide +kernel, am_mem 60 (by decide +kernel) rfl, am_mem 454 (by decide +kernel) rfl, by decide⟩
theorem cw_X2_countLengths : am_CW mX2_countLengths 2 := ⟨⟨by decide +kernel, by decide +kernel⟩, by decide +kernel, am_mem 62 (by decide +kernel) rfl, am_mem 673 (by decide +kernel) rfl, by decide⟩
theorem cw_X2_extend : am_CW mX2_extend 6 := ⟨⟨by decide +kernel, by decide +kernel⟩, by decide +kernel, am_mem 62 (by decide +kernel) rfl, am_mem 658 (by decide +kernel) rfl, by decide⟩
theorem cw_X2_find : am_CW mX2_find 3 := ⟨⟨by decide +kernel, by decide +kernel⟩, by decide +kernel, am_mem 62 (by decide +kernel) rfl, am_mem 650 (by decide +kernel) rfl, by decide⟩
theorem cw_X2_playerAt : am_CW mX2_playerAt 1 := ⟨⟨by decide +kernel, by decide +kernel⟩, by decide +kernel, am_mem 62 (by decide +kernel) rfl, am_mem 666 (by decide +kernel) rfl, by decide⟩
theorem cw_X3_isEmpty : am_CW mX3_isEmpty 0 := ⟨⟨by decide +kernel, by decide +kernel⟩, by decide +kernel, am_mem 57 (by decide +kernel) rfl, am_mem 499 (by decide +kernel) rfl, by decide⟩
theorem cw_X3_record : am_CW mX3_record 1 := ⟨⟨by decide +kernel, by decide +kernel⟩, by decide +kernel, am_mem 57 (by decide +kernel) rfl, am_mem 260 (by decide +kernel) rfl, by decide⟩
theorem cw_X3_size : am_CW mX3_size 0 := ⟨⟨by decide +kernel, by decide +kernel⟩, by decide +kernel, am_mem 57 (by decide +kernel) rfl, am_mem 507 (by decide +kernel) rfl, by decide⟩
theorem cw_X3_stateAt : am_CW mX3_stateAt 1 := ⟨⟨by decide +kernel, by decide +kernel⟩, by decide +kernel, am_mem 57 (by decide +kernel) rfl, am_mem 267 (by decide +kernel) rfl, by decide⟩
theorem cw_X3_takeLatest : am_CW mX3_takeLatest 1 := ⟨⟨by decide +kernel, by decide +kernel⟩, by decide +kernel, am_mem 57 (by decide +kernel) rfl, am_mem 503 (by decide +kernel) rfl, by decide⟩
theorem cw_X4_areAlike : am_CW mX4_areAlike 2 := ⟨⟨by decide +kernel, by decide +kernel⟩, by decide +kernel, am_mem 64 (by decide +kernel) rfl, am_mem 789 (by decide +kernel) rfl, by decide⟩
theorem cw_X4_assign : am_CW mX4_assign 5 := ⟨⟨by decide +kernel, by decide +kernel⟩, by decide +kernel, am_mem 64 (by decide +kernel) rfl, am_mem 793 (by decide +kernel) rfl, by decide⟩
theorem cw_X4_corresponds : am_CW mX4_corresponds 5 := ⟨⟨by decide +kernel, by decide +kernel⟩, by decide +kernel, am_mem 64 (by decide +kernel) rfl, am_mem 797 (by decide +kernel) rfl, by decide⟩
theorem cw_X4_countDiffering : am_CW mX4_countDiffering 2 := ⟨⟨by decide +kernel, by decide +kernel⟩, by decide +kernel, am_mem 64 (by decide +kernel) rfl, am_mem 778 (by decide +kernel) rfl, by decide⟩
theorem cw_X4_differingAmong : am_CW mX4_differingAmong 5 := ⟨⟨by decide +kernel, by decide +kernel⟩, by decide +kernel, am_mem 64 (by decide +kernel) rfl, am_mem 811 (by decide +kernel) rfl, by decide⟩
theorem cw_X4_differs : am_CW mX4_differs 4 := ⟨⟨by decide +kernel, by decide +kernel⟩, by decide +kernel, am_mem 64 (by decide +kernel) rfl, am_mem 814 (by decide +kernel) rfl, by decide⟩
theorem cw_X4_helpfulTriangle : am_CW mX4_helpfulTriangle 2 := ⟨⟨by decide +kernel, by decide +kernel⟩, by decide +kernel, am_mem 64 (by decide +kernel) rfl, am_mem 807 (by decide +kernel) rfl, by decide⟩
theorem cw_X5_costWithFirst : am_CW mX5_costWithFirst 2 := ⟨⟨by decide +kernel, by decide +kernel⟩, by decide +kernel, am_mem 63 (by decide +kernel) rfl, am_mem 711 (by decide +kernel) rfl, by decide⟩
theorem cw_X5_firstOnes : am_CW mX5_firstOnes 1 := ⟨⟨by decide +kernel, by decide +kernel⟩, by decide +kernel, am_mem 63 (by decide +kernel) rfl, am_mem 763 (by decide +kernel) rfl, by decide⟩
theorem cw_X5_firstOnesWithin : am_CW mX5_firstOnesWithin 2 := ⟨⟨by decide +kernel, by decide +kernel⟩, by decide +kernel, am_mem 63 (by decide +kernel) rfl, am_mem 729 (by decide +kernel) rfl, by decide⟩
theorem cw_X5_learn : am_CW mX5_learn 1 := ⟨⟨by decide +kernel, by decide +kernel⟩, by decide +kernel, am_mem 63 (by decide +kernel) rfl, am_mem 686 (by decide +kernel) rfl, by decide⟩
theorem cw_X5_leastCostOf : am_CW mX5_leastCostOf 1 := ⟨⟨by decide +kernel, by decide +kernel⟩, by decide +kernel, am_mem 63 (by decide +kernel) rfl, am_mem 682 (by decide +kernel) rfl, by decide⟩
theorem cw_X5_leastFor : am_CW mX5_leastFor 1 := ⟨⟨by decide +kernel, by decide +kernel⟩, by decide +kernel, am_mem 63 (by decide +kernel) rfl, am_mem 716 (by decide +kernel) rfl, by decide⟩
theorem cw_X5_leastWithin : am_CW mX5_leastWithin 2 := ⟨⟨by decide +kernel, by decide +kernel⟩, by decide +kernel, am_mem 63 (by decide +kernel) rfl, am_mem 705 (by decide +kernel) rfl, by decide⟩
theorem cw_X5_playerAt : am_CW mX5_playerAt 2 := ⟨⟨by decide +kernel, by decide +kernel⟩, by decide +kernel, am_mem 63 (by decide +kernel) rfl, am_mem 725 (by decide +kernel) rfl, by decide⟩
theorem cw_X5_sumCosts : am_CW mX5_sumCosts 3 := ⟨⟨by decide +kernel, by decide +kernel⟩, by decide +kernel, am_mem 63 (by decide +kernel) rfl, am_mem 695 (by decide +kernel) rfl, by decide⟩
theorem cw_X6_beatenByAny : am_CW mX6_beatenByAny 2 := ⟨⟨by decide +kernel, by decide +kernel⟩, by decide +kernel, am_mem 61 (by decide +kernel) rfl, am_mem 359 (by decide +kernel) rfl, by decide⟩
theorem cw_X6_countEnding : am_CW mX6_countEnding 3 := ⟨⟨by decide +kernel, by decide +kernel⟩, by decide +kernel, am_mem 61 (by decide +kernel) rfl, am_mem 624 (by decide +kernel) rfl, by decide⟩
theorem cw_X6_countSpanning : am_CW mX6_countSpanning 1 := ⟨⟨by decide +kernel, by decide +kernel⟩, by decide +kernel, am_mem 61 (by decide +kernel) rfl, am_mem 618 (by decide +kernel) rfl, by decide⟩
theorem cw_X6_findShortest : am_CW mX6_findShortest 3 := ⟨⟨by decide +kernel, by decide +kernel⟩, by decide +kernel, am_mem 61 (by decide +kernel) rfl, am_mem 364 (by decide +kernel) rfl, by decide⟩
theorem cw_X6_findSpanning : am_CW mX6_findSpanning 1 := ⟨⟨by decide +kernel, by decide +kernel⟩, by decide +kernel, am_mem 61 (by decide +kernel) rfl, am_mem 641 (by decide +kernel) rfl, by decide⟩
theorem cw_X6_nextTowards : am_CW mX6_nextTowards 4 := ⟨⟨by decide +kernel, by decide +kernel⟩, by decide +kernel, am_mem 61 (by decide +kernel) rfl, am_mem 376 (by decide +kernel) rfl, by decide⟩
theorem cw_X6_playerAt : am_CW mX6_playerAt 1 := ⟨⟨by decide +kernel, by decide +kernel⟩, by decide +kernel, am_mem 61 (by decide +kernel) rfl, am_mem 373 (by decide +kernel) rfl, by decide⟩
theorem cw_X6_put : am_CW mX6_put 2 := ⟨⟨by decide +kernel, by decide +kernel⟩, by decide +kernel, am_mem 61 (by decide +kernel) rfl, am_mem 369 (by decide +kernel) rfl, by decide⟩
theorem cw_X6_putCount : am_CW mX6_putCount 3 := ⟨⟨by decide +kernel, by decide +kernel⟩, by decide +kernel, am_mem 61 (by decide +kernel) rfl, am_mem 633 (by decide +kernel) rfl, by decide⟩
theorem cw_X6_stepsBetween : am_CW mX6_stepsBetween 3 := ⟨⟨by decide +kernel, by decide +kernel⟩, by decide +kernel, am_mem 61 (by decide +kernel) rfl, am_mem 353 (by decide +kernel) rfl, by decide⟩
theorem cw_X6_sumOfCounts : am_CW mX6_sumOfCounts 2 := ⟨⟨by decide +kernel, by decide +kernel⟩, by decide +kernel, am_mem 61 (by decide +kernel) rfl, am_mem 628 (by decide +kernel) rfl, by decide⟩
theorem cw_X7_add : am_CW mX7_add 1 := ⟨⟨by decide +kernel, by decide +kernel⟩, by decide +kernel, am_mem 59 (by decide +kernel) rfl, am_mem 536 (by decide +kernel) rfl, by decide⟩
theorem cw_X7_at : am_CW mX7_at 1 := ⟨⟨by decide +kernel, by decide +kernel⟩, by decide +kernel, am_mem 59 (by decide +kernel) rfl, am_mem 480 (by decide +kernel) rfl, by decide⟩
theorem cw_X7_empty : am_CW mX7_empty 0 := ⟨⟨by decide +kernel, by decide +kernel⟩, by decide +kernel, am_mem 59 (by decide +kernel) rfl, am_mem 548 (by decide +kernel) rfl, by decide⟩
theorem cw_X7_enterInto : am_CW mX7_enterInto 1 := ⟨⟨by decide +kernel, by decide +kernel⟩, by decide +kernel, am_mem 59 (by decide +kernel) rfl, am_mem 485 (by decide +kernel) rfl, by decide⟩
theorem cw_X7_faultFor : am_CW mX7_faultFor 1 := ⟨⟨by decide +kernel, by decide +kernel⟩, by decide +kernel, am_mem 59 (by decide +kernel) rfl, am_mem 472 (by decide +kernel) rfl, by decide⟩
theorem cw_X7_isResult : am_CW mX7_isResult 2 := ⟨⟨by decide +kernel, by decide +kernel⟩, by decide +kernel, am_mem 59 (by decide +kernel) rfl, am_mem 476 (by decide +kernel) rfl, by decide⟩
theorem cw_X7_size : am_CW mX7_size 0 := ⟨⟨by decide +kernel, by decide +kernel⟩, by decide +kernel, am_mem 59 (by decide +kernel) rfl, am_mem 540 (by decide +kernel) rfl, by decide⟩
theorem cw_X8_add : am_CW mX8_add 1 := ⟨⟨by decide +kernel, by decide +kernel⟩, by decide +kernel, am_mem 58 (by decide +kernel) rfl, am_mem 515 (by decide +kernel) rfl, by decide⟩
theorem cw_X8_empty : am_CW mX8_empty 0 := ⟨⟨by decide +kernel, by decide +kernel⟩, by decide +kernel, am_mem 58 (by decide +kernel) rfl, am_mem 524 (by decide +kernel) rfl, by decide⟩
theorem cw_X8_failingCount : am_CW mX8_failingCount 0 := ⟨⟨by decide +kernel, by decide +kernel⟩, by decide +kernel, am_mem 58 (by decide +kernel) rfl, am_mem 406 (by decide +kernel) rfl, by decide⟩
theorem cw_X8_numberAt : am_CW mX8_numberAt 1 := ⟨⟨by decide +kernel, by decide +kernel⟩, by decide +kernel, am_mem 58 (by decide +kernel) rfl, am_mem 418 (by decide +kernel) rfl, by decide⟩
theorem cw_X8_size : am_CW mX8_size 0 := ⟨⟨by decide +kernel, by decide +kernel⟩, by decide +kernel, am_mem 58 (by decide +kernel) rfl, am_mem 427 (by decide +kernel) rfl, by decide⟩
theorem cw_X8_sumOfSmallest : am_CW mX8_sumOfSmallest 1 := ⟨⟨by decide +kernel, by decide +kernel⟩, by decide +kernel, am_mem 58 (by decide +kernel) rfl, am_mem 410 (by decide +kernel) rfl, by decide⟩
theorem cw_X8_timesOf : am_CW mX8_timesOf 1 := ⟨⟨by decide +kernel, by decide +kernel⟩, by decide +kernel, am_mem 58 (by decide +kernel) rfl, am_mem 414 (by decide +kernel) rfl, by decide⟩
theorem cw_X9_chainTopsOf : am_CW mX9_chainTopsOf 1 := ⟨⟨by decide +kernel, by decide +kernel⟩, by decide +kernel, am_mem 68 (by decide +kernel) rfl, am_mem 751 (by decide +kernel) rfl, by decide⟩
theorem cw_X9_countParts : am_CW mX9_countParts 1 := ⟨⟨by decide +kernel, by decide +kernel⟩, by decide +kernel, am_mem 68 (by decide +kernel) rfl, am_mem 591 (by decide +kernel) rfl, by decide⟩
theorem cw_X9_isKing : am_CW mX9_isKing 2 := ⟨⟨by decide +kernel, by decide +kernel⟩, by decide +kernel, am_mem 68 (by decide +kernel) rfl, am_mem 746 (by decide +kernel) rfl, by decide⟩
theorem cw_X9_kingsOf : am_CW mX9_kingsOf 1 := ⟨⟨by decide +kernel, by decide +kernel⟩, by decide +kernel, am_mem 68 (by decide +kernel) rfl, am_mem 743 (by decide +kernel) rfl, by decide⟩
theorem cw_X9_leadersOf : am_CW mX9_leadersOf 2 := ⟨⟨by decide +kernel, by decide +kernel⟩, by decide +kernel, am_mem 68 (by decide +kernel) rfl, am_mem 598 (by decide +kernel) rfl, by decide⟩
theorem cw_X9_partNumber : am_CW mX9_partNumber 2 := ⟨⟨by decide +kernel, by decide +kernel⟩, by decide +kernel, am_mem 68 (by decide +kernel) rfl, am_mem 610 (by decide +kernel) rfl, by decide⟩
theorem cw_X9_partWith : am_CW mX9_partWith 2 := ⟨⟨by decide +kernel, by decide +kernel⟩, by decide +kernel, am_mem 68 (by decide +kernel) rfl, am_mem 653 (by decide +kernel) rfl, by decide⟩
theorem cw_X9_topOf : am_CW mX9_topOf 2 := ⟨⟨by decide +kernel, by decide +kernel⟩, by decide +kernel, am_mem 68 (by decide +kernel) rfl, am_mem 595 (by decide +kernel) rfl, by decide⟩
theorem cw_X9_topsAbove : am_CW mX9_topsAbove 4 := ⟨⟨by decide +kernel, by decide +kernel⟩, by decide +kernel, am_mem 68 (by decide +kernel) rfl, am_mem 759 (by decide +kernel) rfl, by decide⟩
theorem ck_J6_bitCount_0f7a4 : Cond.static yJ6_bitCount_0f7a4 ∈ am_good := am_mem 342 (by decide +kernel) rfl
theorem ck_J9_floorMod_7cf53 : Cond.static yJ9_floorMod_7cf53 ∈ am_good := am_mem 262 (by decide +kernel) rfl
theorem ck_X0_beatenBy : Cond.instanceMethod yX0_beatenBy ∈ am_good := am_mem 293 (by decide +kernel) rfl
theorem cs_X0_beatenBy : Cond.selects RX0 yX0_beatenBy yX0_beatenBy ∈ am_good := am_mem 294 (by decide +kernel) rfl
theorem ck_X0_beatersOf : Cond.instanceMethod yX0_beatersOf ∈ am_good := am_mem 753 (by decide +kernel) rfl
theorem cs_X0_beatersOf : Cond.selects RX0 yX0_beatersOf yX0_beatersOf ∈ am_good := am_mem 754 (by decide +kernel) rfl
theorem ck_X0_copyFrom : Cond.instanceMethod yX0_copyFrom ∈ am_good := am_mem 269 (by decide +kernel) rfl
theorem cs_X0_copyFrom : Cond.selects RX0 yX0_copyFrom yX0_copyFrom ∈ am_good := am_mem 270 (by decide +kernel) rfl
theorem ck_X0_costOfBefore : Cond.instanceMethod yX0_costOfBefore ∈ am_good := am_mem 698 (by decide +kernel) rfl
theorem cs_X0_costOfBefore : Cond.selects RX0 yX0_costOfBefore yX0_costOfBefore ∈ am_good := am_mem 699 (by decide +kernel) rfl
theorem ck_X0_countTriangles : Cond.instanceMethod yX0_countTriangles ∈ am_good := am_mem 334 (by decide +kernel) rfl
theorem cs_X0_countTriangles : Cond.selects RX0 yX0_countTriangles yX0_countTriangles ∈ am_good := am_mem 335 (by decide +kernel) rfl
theorem ck_X0_everyone : Cond.instanceMethod yX0_everyone ∈ am_good := am_mem 431 (by decide +kernel) rfl
theorem cs_X0_everyone : Cond.selects RX0 yX0_everyone yX0_everyone ∈ am_good := am_mem 432 (by decide +kernel) rfl
theorem ck_X0_has : Cond.instanceMethod yX0_has ∈ am_good := am_mem 285 (by decide +kernel) rfl
theorem cs_X0_has : Cond.selects RX0 yX0_has yX0_has ∈ am_good := am_mem 286 (by decide +kernel) rfl
theorem ck_X0_hasPair : Cond.instanceMethod yX0_hasPair ∈ am_good := am_mem 281 (by decide +kernel) rfl
theorem cs_X0_hasPair : Cond.selects RX0 yX0_hasPair yX0_hasPair ∈ am_good := am_mem 282 (by decide +kernel) rfl
theorem ck_X0_isTriangle : Cond.instanceMethod yX0_isTriangle ∈ am_good := am_mem 329 (by decide +kernel) rfl
theorem cs_X0_isTriangle : Cond.selects RX0 yX0_isTriangle yX0_isTriangle ∈ am_good := am_mem 330 (by decide +kernel) rfl
theorem ck_X0_putWeight : Cond.instanceMethod yX0_putWeight ∈ am_good := am_mem 321 (by decide +kernel) rfl
theorem cs_X0_putWeight : Cond.selects RX0 yX0_putWeight yX0_putWeight ∈ am_good := am_mem 322 (by decide +kernel) rfl
theorem ck_X0_setWinner : Cond.instanceMethod yX0_setWinner ∈ am_good := am_mem 300 (by decide +kernel) rfl
theorem cs_X0_setWinner : Cond.selects RX0 yX0_setWinner yX0_setWinner ∈ am_good := am_mem 301 (by decide +kernel) rfl
theorem ck_X0_size : Cond.instanceMethod yX0_size ∈ am_good := am_mem 254 (by decide +kernel) rfl
theorem cs_X0_size : Cond.selects RX0 yX0_size yX0_size ∈ am_good := am_mem 255 (by decide +kernel) rfl
theorem ck_X0_stamp : Cond.instanceMethod yX0_stamp ∈ am_good := am_mem 688 (by decide +kernel) rfl
theorem cs_X0_stamp : Cond.selects RX0 yX0_stamp yX0_stamp ∈ am_good := am_mem 689 (by decide +kernel) rfl
theorem ck_X0_start : Cond.instanceMethod yX0_start ∈ am_good := am_mem 84 (by decide +kernel) rfl
theorem cs_X0_start : Cond.selects RX0 yX0_start yX0_start ∈ am_good := am_mem 85 (by decide +kernel) rfl
theorem ck_X0_swap : Cond.instanceMethod yX0_swap ∈ am_good := am_mem 390 (by decide +kernel) rfl
theorem cs_X0_swap : Cond.selects RX0 yX0_swap yX0_swap ∈ am_good := am_mem 391 (by decide +kernel) rfl
theorem ck_X0_swapAgainst : Cond.instanceMethod yX0_swapAgainst ∈ am_good := am_mem 395 (by decide +kernel) rfl
theorem cs_X0_swapAgainst : Cond.selects RX0 yX0_swapAgainst yX0_swapAgainst ∈ am_good := am_mem 2 (by decide +kernel) rfl
theorem ck_X0_turn : Cond.instanceMethod yX0_turn ∈ am_good := am_mem 305 (by decide +kernel) rfl
theorem cs_X0_turn : Cond.selects RX0 yX0_turn yX0_turn ∈ am_good := am_mem 306 (by decide +kernel) rfl
theorem ck_X0_weightOf : Cond.instanceMethod yX0_weightOf ∈ am_good := am_mem 317 (by decide +kernel) rfl
theorem cs_X0_weightOf : Cond.selects RX0 yX0_weightOf yX0_weightOf ∈ am_good := am_mem 318 (by decide +kernel) rfl
theorem ck_X0_wins : Cond.instanceMethod yX0_wins ∈ am_good := am_mem 289 (by decide +kernel) rfl
theorem cs_X0_wins : Cond.selects RX0 yX0_wins yX0_wins ∈ am_good := am_mem 290 (by decide +kernel) rfl
theorem ck_X0_winsAtPlace : Cond.instanceMethod yX0_winsAtPlace ∈ am_good := am_mem 574 (by decide +kernel) rfl
theorem cs_X0_winsAtPlace : Cond.selects RX0 yX0_winsAtPlace yX0_winsAtPlace ∈ am_good := am_mem 575 (by decide +kernel) rfl
theorem ck_X0_winsOf : Cond.instanceMethod yX0_winsOf ∈ am_good := am_mem 338 (by decide +kernel) rfl
theorem cs_X0_winsOf : Cond.selects RX0 yX0_winsOf yX0_winsOf ∈ am_good := am_mem 339 (by decide +kernel) rfl
theorem ck_X10_holds : Cond.static yX10_holds ∈ am_good := am_mem 297 (by decide +kernel) rfl
theorem ck_X10_lowestOf : Cond.static yX10_lowestOf ∈ am_good := am_mem 439 (by decide +kernel) rfl
theorem ck_X10_only : Cond.static yX10_only ∈ am_good := am_mem 310 (by decide +kernel) rfl
theorem ck_X10_winnersBy : Cond.instanceMethod yX10_winnersBy ∈ am_good := am_mem 737 (by decide +kernel) rfl
theorem cs_X10_winnersBy : Cond.selects RX10 yX10_winnersBy yX10_winnersBy ∈ am_good := am_mem 21 (by decide +kernel) rfl
theorem ck_X10_without : Cond.static yX10_without ∈ am_good := am_mem 448 (by decide +kernel) rfl
theorem ck_X11_all : Cond.instanceMethod yX11_all ∈ am_good := am_mem 962 (by decide +kernel) rfl
theorem cs_X11_all : Cond.selects RX11 yX11_all yX11_all ∈ am_good := am_mem 34 (by decide +kernel) rfl
theorem ck_X11_at : Cond.static yX11_at ∈ am_good := am_mem 826 (by decide +kernel) rfl
theorem ck_X11_beaten : Cond.instanceMethod yX11_beaten ∈ am_good := am_mem 897 (by decide +kernel) rfl
theorem cs_X11_beaten : Cond.selects RX11 yX11_beaten yX11_beaten ∈ am_good := am_mem 27 (by decide +kernel) rfl
theorem ck_X11_beats1 : Cond.instanceMethod yX11_beats1 ∈ am_good := am_mem 893 (by decide +kernel) rfl
theorem cs_X11_beats1 : Cond.selects RX11 yX11_beats1 yX11_beats1 ∈ am_good := am_mem 26 (by decide +kernel) rfl
theorem ck_X11_begins : Cond.instanceMethod yX11_begins ∈ am_good := am_mem 823 (by decide +kernel) rfl
theorem cs_X11_begins : Cond.selects RX11 yX11_begins yX11_begins ∈ am_good := am_mem 22 (by decide +kernel) rfl
theorem ck_X11_closes : Cond.instanceMethod yX11_closes ∈ am_good := am_mem 1067 (by decide +kernel) rfl
theorem cs_X11_closes : Cond.selects RX11 yX11_closes yX11_closes ∈ am_good := am_mem 40 (by decide +kernel) rfl
theorem ck_X11_componentAt : Cond.instanceMethod yX11_componentAt ∈ am_good := am_mem 1047 (by decide +kernel) rfl
theorem cs_X11_componentAt : Cond.selects RX11 yX11_componentAt yX11_componentAt ∈ am_good := am_mem 38 (by decide +kernel) rfl
theorem ck_X11_copies : Cond.static yX11_copies ∈ am_good := am_mem 829 (by decide +kernel) rfl
theorem ck_X11_costOf : Cond.instanceMethod yX11_costOf ∈ am_good := am_mem 1087 (by decide +kernel) rfl
theorem cs_X11_costOf : Cond.selects RX11 yX11_costOf yX11_costOf ∈ am_good := am_mem 43 (by decide +kernel) rfl
theorem ck_X11_count : Cond.static yX11_count ∈ am_good := am_mem 943 (by decide +kernel) rfl
theorem ck_X11_countsPaths : Cond.instanceMethod yX11_countsPaths ∈ am_good := am_mem 1055 (by decide +kernel) rfl
theorem cs_X11_countsPaths : Cond.selects RX11 yX11_countsPaths yX11_countsPaths ∈ am_good := am_mem 39 (by decide +kernel) rfl
theorem ck_X11_differs : Cond.instanceMethod yX11_differs ∈ am_good := am_mem 1139 (by decide +kernel) rfl
theorem cs_X11_differs : Cond.selects RX11 yX11_differs yX11_differs ∈ am_good := am_mem 51 (by decide +kernel) rfl
theorem ck_X11_fails : Cond.instanceMethod yX11_fails ∈ am_good := am_mem 958 (by decide +kernel) rfl
theorem cs_X11_fails : Cond.selects RX11 yX11_fails yX11_fails ∈ am_good := am_mem 33 (by decide +kernel) rfl
theorem ck_X11_faultOf : Cond.instanceMethod yX11_faultOf ∈ am_good := am_mem 970 (by decide +kernel) rfl
theorem cs_X11_faultOf : Cond.selects RX11 yX11_faultOf yX11_faultOf ∈ am_good := am_mem 35 (by decide +kernel) rfl
theorem ck_X11_fits : Cond.instanceMethod yX11_fits ∈ am_good := am_mem 1147 (by decide +kernel) rfl
theorem cs_X11_fits : Cond.selects RX11 yX11_fits yX11_fits ∈ am_good := am_mem 52 (by decide +kernel) rfl
theorem ck_X11_has : Cond.static yX11_has ∈ am_good := am_mem 900 (by decide +kernel) rfl
theorem ck_X11_in : Cond.static yX11_in ∈ am_good := am_mem 873 (by decide +kernel) rfl
theorem ck_X11_isBeaten : Cond.instanceMethod yX11_isBeaten ∈ am_good := am_mem 1123 (by decide +kernel) rfl
theorem cs_X11_isBeaten : Cond.selects RX11 yX11_isBeaten yX11_isBeaten ∈ am_good := am_mem 50 (by decide +kernel) rfl
theorem ck_X11_isBest : Cond.instanceMethod yX11_isBest ∈ am_good := am_mem 1095 (by decide +kernel) rfl
theorem cs_X11_isBest : Cond.selects RX11 yX11_isBest yX11_isBest ∈ am_good := am_mem 44 (by decide +kernel) rfl
theorem ck_X11_isChain : Cond.instanceMethod yX11_isChain ∈ am_good := am_mem 1119 (by decide +kernel) rfl
theorem cs_X11_isChain : Cond.selects RX11 yX11_isChain yX11_isChain ∈ am_good := am_mem 49 (by decide +kernel) rfl
theorem ck_X11_isClosed : Cond.instanceMethod yX11_isClosed ∈ am_good := am_mem 1071 (by decide +kernel) rfl
theorem cs_X11_isClosed : Cond.selects RX11 yX11_isClosed yX11_isClosed ∈ am_good := am_mem 41 (by decide +kernel) rfl
theorem ck_X11_isCycle : Cond.instanceMethod yX11_isCycle ∈ am_good := am_mem 916 (by decide +kernel) rfl
theorem cs_X11_isCycle : Cond.selects RX11 yX11_isCycle yX11_isCycle ∈ am_good := am_mem 29 (by decide +kernel) rfl
theorem ck_X11_isFirst : Cond.instanceMethod yX11_isFirst ∈ am_good := am_mem 1115 (by decide +kernel) rfl
theorem cs_X11_isFirst : Cond.selects RX11 yX11_isFirst yX11_isFirst ∈ am_good := am_mem 48 (by decide +kernel) rfl
theorem ck_X11_isKing : Cond.instanceMethod yX11_isKing ∈ am_good := am_mem 1107 (by decide +kernel) rfl
theorem cs_X11_isKing : Cond.selects RX11 yX11_isKing yX11_isKing ∈ am_good := am_mem 46 (by decide +kernel) rfl
theorem ck_X11_isLowest : Cond.instanceMethod yX11_isLowest ∈ am_good := am_mem 1039 (by decide +kernel) rfl
theorem cs_X11_isLowest : Cond.selects RX11 yX11_isLowest yX11_isLowest ∈ am_good := am_mem 37 (by decide +kernel) rfl
theorem ck_X11_isPair : Cond.instanceMethod yX11_isPair ∈ am_good := am_mem 885 (by decide +kernel) rfl
theorem cs_X11_isPair : Cond.selects RX11 yX11_isPair yX11_isPair ∈ am_good := am_mem 24 (by decide +kernel) rfl
theorem ck_X11_isPlayer : Cond.instanceMethod yX11_isPlayer ∈ am_good := am_mem 889 (by decide +kernel) rfl
theorem cs_X11_isPlayer : Cond.selects RX11 yX11_isPlayer yX11_isPlayer ∈ am_good := am_mem 25 (by decide +kernel) rfl
theorem ck_X11_isTop : Cond.instanceMethod yX11_isTop ∈ am_good := am_mem 1111 (by decide +kernel) rfl
theorem cs_X11_isTop : Cond.selects RX11 yX11_isTop yX11_isTop ∈ am_good := am_mem 47 (by decide +kernel) rfl
theorem ck_X11_keeps : Cond.instanceMethod yX11_keeps ∈ am_good := am_mem 877 (by decide +kernel) rfl
theorem cs_X11_keeps : Cond.selects RX11 yX11_keeps yX11_keeps ∈ am_good := am_mem 23 (by decide +kernel) rfl
theorem ck_X11_n : Cond.instanceMethod yX11_n ∈ am_good := am_mem 928 (by decide +kernel) rfl
theorem cs_X11_n : Cond.selects RX11 yX11_n yX11_n ∈ am_good := am_mem 31 (by decide +kernel) rfl
theorem ck_X11_orders : Cond.instanceMethod yX11_orders ∈ am_good := am_mem 1083 (by decide +kernel) rfl
theorem cs_X11_orders : Cond.selects RX11 yX11_orders yX11_orders ∈ am_good := am_mem 42 (by decide +kernel) rfl
theorem ck_X11_reaches : Cond.instanceMethod yX11_reaches ∈ am_good := am_mem 1035 (by decide +kernel) rfl
theorem cs_X11_reaches : Cond.selects RX11 yX11_reaches yX11_reaches ∈ am_good := am_mem 36 (by decide +kernel) rfl
theorem ck_X11_stepsTo : Cond.instanceMethod yX11_stepsTo ∈ am_good := am_mem 936 (by decide +kernel) rfl
theorem cs_X11_stepsTo : Cond.selects RX11 yX11_stepsTo yX11_stepsTo ∈ am_good := am_mem 32 (by decide +kernel) rfl
theorem ck_X11_swapped : Cond.static yX11_swapped ∈ am_good := am_mem 950 (by decide +kernel) rfl
theorem ck_X11_triangles : Cond.instanceMethod yX11_triangles ∈ am_good := am_mem 923 (by decide +kernel) rfl
theorem cs_X11_triangles : Cond.selects RX11 yX11_triangles yX11_triangles ∈ am_good := am_mem 924 (by decide +kernel) rfl
theorem ck_X11_turns : Cond.instanceMethod yX11_turns ∈ am_good := am_mem 920 (by decide +kernel) rfl
theorem cs_X11_turns : Cond.selects RX11 yX11_turns yX11_turns ∈ am_good := am_mem 30 (by decide +kernel) rfl
theorem ck_X11_winnersBy : Cond.instanceMethod yX11_winnersBy ∈ am_good := am_mem 1103 (by decide +kernel) rfl
theorem cs_X11_winnersBy : Cond.selects RX11 yX11_winnersBy yX11_winnersBy ∈ am_good := am_mem 45 (by decide +kernel) rfl
theorem ck_X11_wins : Cond.instanceMethod yX11_wins ∈ am_good := am_mem 904 (by decide +kernel) rfl
theorem cs_X11_wins : Cond.selects RX11 yX11_wins yX11_wins ∈ am_good := am_mem 28 (by decide +kernel) rfl
theorem ck_X1_build : Cond.instanceMethod yX1_build ∈ am_good := am_mem 421 (by decide +kernel) rfl
theorem cs_X1_build : Cond.selects RX1 yX1_build yX1_build ∈ am_good := am_mem 422 (by decide +kernel) rfl
theorem ck_X1_greatestOf : Cond.instanceMethod yX1_greatestOf ∈ am_good := am_mem 436 (by decide +kernel) rfl
theorem cs_X1_greatestOf : Cond.selects RX1 yX1_greatestOf yX1_greatestOf ∈ am_good := am_mem 5 (by decide +kernel) rfl
theorem ck_X1_restOf : Cond.instanceMethod yX1_restOf ∈ am_good := am_mem 445 (by decide +kernel) rfl
theorem cs_X1_restOf : Cond.selects RX1 yX1_restOf yX1_restOf ∈ am_good := am_mem 6 (by decide +kernel) rfl
theorem ck_X1_settle : Cond.instanceMethod yX1_settle ∈ am_good := am_mem 462 (by decide +kernel) rfl
theorem cs_X1_settle : Cond.selects RX1 yX1_settle yX1_settle ∈ am_good := am_mem 9 (by decide +kernel) rfl
theorem ck_X1_smallestIn : Cond.instanceMethod yX1_smallestIn ∈ am_good := am_mem 457 (by decide +kernel) rfl
theorem cs_X1_smallestIn : Cond.selects RX1 yX1_smallestIn yX1_smallestIn ∈ am_good := am_mem 8 (by decide +kernel) rfl
theorem ck_X1_smallestOf : Cond.instanceMethod yX1_smallestOf ∈ am_good := am_mem 453 (by decide +kernel) rfl
theorem cs_X1_smallestOf : Cond.selects RX1 yX1_smallestOf yX1_smallestOf ∈ am_good := am_mem 7 (by decide +kernel) rfl
theorem ck_X2_countLengths : Cond.static yX2_countLengths ∈ am_good := am_mem 672 (by decide +kernel) rfl
theorem ck_X2_extend : Cond.static yX2_extend ∈ am_good := am_mem 657 (by decide +kernel) rfl
theorem ck_X2_find : Cond.instanceMethod yX2_find ∈ am_good := am_mem 648 (by decide +kernel) rfl
theorem cs_X2_find : Cond.selects RX2 yX2_find yX2_find ∈ am_good := am_mem 649 (by decide +kernel) rfl
theorem ck_X2_playerAt : Cond.instanceMethod yX2_playerAt ∈ am_good := am_mem 664 (by decide +kernel) rfl
theorem cs_X2_playerAt : Cond.selects RX2 yX2_playerAt yX2_playerAt ∈ am_good := am_mem 665 (by decide +kernel) rfl
theorem ck_X3_isEmpty : Cond.instanceMethod yX3_isEmpty ∈ am_good := am_mem 497 (by decide +kernel) rfl
theorem cs_X3_isEmpty : Cond.selects RX3 yX3_isEmpty yX3_isEmpty ∈ am_good := am_mem 498 (by decide +kernel) rfl
theorem ck_X3_record : Cond.instanceMethod yX3_record ∈ am_good := am_mem 258 (by decide +kernel) rfl
theorem cs_X3_record : Cond.selects RX3 yX3_record yX3_record ∈ am_good := am_mem 259 (by decide +kernel) rfl
theorem ck_X3_size : Cond.instanceMethod yX3_size ∈ am_good := am_mem 505 (by decide +kernel) rfl
theorem cs_X3_size : Cond.selects RX3 yX3_size yX3_size ∈ am_good := am_mem 506 (by decide +kernel) rfl
theorem ck_X3_stateAt : Cond.instanceMethod yX3_stateAt ∈ am_good := am_mem 266 (by decide +kernel) rfl
theorem cs_X3_stateAt : Cond.selects RX3 yX3_stateAt yX3_stateAt ∈ am_good := am_mem 0 (by decide +kernel) rfl
theorem ck_X3_takeLatest : Cond.instanceMethod yX3_takeLatest ∈ am_good := am_mem 501 (by decide +kernel) rfl
theorem cs_X3_takeLatest : Cond.selects RX3 yX3_takeLatest yX3_takeLatest ∈ am_good := am_mem 502 (by decide +kernel) rfl
theorem ck_X4_areAlike : Cond.instanceMethod yX4_areAlike ∈ am_good := am_mem 787 (by decide +kernel) rfl
theorem cs_X4_areAlike : Cond.selects RX4 yX4_areAlike yX4_areAlike ∈ am_good := am_mem 788 (by decide +kernel) rfl
theorem ck_X4_assign : Cond.static yX4_assign ∈ am_good := am_mem 792 (by decide +kernel) rfl
theorem ck_X4_corresponds : Cond.static yX4_corresponds ∈ am_good := am_mem 796 (by decide +kernel) rfl
theorem ck_X4_countDiffering : Cond.static yX4_countDiffering ∈ am_good := am_mem 777 (by decide +kernel) rfl
theorem ck_X4_differingAmong : Cond.static yX4_differingAmong ∈ am_good := am_mem 810 (by decide +kernel) rfl
theorem ck_X4_differs : Cond.static yX4_differs ∈ am_good := am_mem 813 (by decide +kernel) rfl
theorem ck_X4_helpfulTriangle : Cond.static yX4_helpfulTriangle ∈ am_good := am_mem 806 (by decide +kernel) rfl
theorem ck_X5_costWithFirst : Cond.instanceMethod yX5_costWithFirst ∈ am_good := am_mem 710 (by decide +kernel) rfl
theorem cs_X5_costWithFirst : Cond.selects RX5 yX5_costWithFirst yX5_costWithFirst ∈ am_good := am_mem 18 (by decide +kernel) rfl
theorem ck_X5_firstOnes : Cond.instanceMethod yX5_firstOnes ∈ am_good := am_mem 761 (by decide +kernel) rfl
theorem cs_X5_firstOnes : Cond.selects RX5 yX5_firstOnes yX5_firstOnes ∈ am_good := am_mem 762 (by decide +kernel) rfl
theorem ck_X5_firstOnesWithin : Cond.instanceMethod yX5_firstOnesWithin ∈ am_good := am_mem 728 (by decide +kernel) rfl
theorem cs_X5_firstOnesWithin : Cond.selects RX5 yX5_firstOnesWithin yX5_firstOnesWithin ∈ am_good := am_mem 20 (by decide +kernel) rfl
theorem ck_X5_learn : Cond.instanceMethod yX5_learn ∈ am_good := am_mem 685 (by decide +kernel) rfl
theorem cs_X5_learn : Cond.selects RX5 yX5_learn yX5_learn ∈ am_good := am_mem 15 (by decide +kernel) rfl
theorem ck_X5_leastCostOf : Cond.instanceMethod yX5_leastCostOf ∈ am_good := am_mem 680 (by decide +kernel) rfl
theorem cs_X5_leastCostOf : Cond.selects RX5 yX5_leastCostOf yX5_leastCostOf ∈ am_good := am_mem 681 (by decide +kernel) rfl
theorem ck_X5_leastFor : Cond.instanceMethod yX5_leastFor ∈ am_good := am_mem 715 (by decide +kernel) rfl
theorem cs_X5_leastFor : Cond.selects RX5 yX5_leastFor yX5_leastFor ∈ am_good := am_mem 19 (by decide +kernel) rfl
theorem ck_X5_leastWithin : Cond.instanceMethod yX5_leastWithin ∈ am_good := am_mem 704 (by decide +kernel) rfl
theorem cs_X5_leastWithin : Cond.selects RX5 yX5_leastWithin yX5_leastWithin ∈ am_good := am_mem 17 (by decide +kernel) rfl
theorem ck_X5_playerAt : Cond.instanceMethod yX5_playerAt ∈ am_good := am_mem 723 (by decide +kernel) rfl
theorem cs_X5_playerAt : Cond.selects RX5 yX5_playerAt yX5_playerAt ∈ am_good := am_mem 724 (by decide +kernel) rfl
theorem ck_X5_sumCosts : Cond.instanceMethod yX5_sumCosts ∈ am_good := am_mem 694 (by decide +kernel) rfl
theorem cs_X5_sumCosts : Cond.selects RX5 yX5_sumCosts yX5_sumCosts ∈ am_good := am_mem 16 (by decide +kernel) rfl
theorem ck_X6_beatenByAny : Cond.static yX6_beatenByAny ∈ am_good := am_mem 358 (by decide +kernel) rfl
theorem ck_X6_countEnding : Cond.instanceMethod yX6_countEnding ∈ am_good := am_mem 623 (by decide +kernel) rfl
theorem cs_X6_countEnding : Cond.selects RX6 yX6_countEnding yX6_countEnding ∈ am_good := am_mem 12 (by decide +kernel) rfl
theorem ck_X6_countSpanning : Cond.instanceMethod yX6_countSpanning ∈ am_good := am_mem 616 (by decide +kernel) rfl
theorem cs_X6_countSpanning : Cond.selects RX6 yX6_countSpanning yX6_countSpanning ∈ am_good := am_mem 617 (by decide +kernel) rfl
theorem ck_X6_findShortest : Cond.instanceMethod yX6_findShortest ∈ am_good := am_mem 362 (by decide +kernel) rfl
theorem cs_X6_findShortest : Cond.selects RX6 yX6_findShortest yX6_findShortest ∈ am_good := am_mem 363 (by decide +kernel) rfl
theorem ck_X6_findSpanning : Cond.instanceMethod yX6_findSpanning ∈ am_good := am_mem 639 (by decide +kernel) rfl
theorem cs_X6_findSpanning : Cond.selects RX6 yX6_findSpanning yX6_findSpanning ∈ am_good := am_mem 640 (by decide +kernel) rfl
theorem ck_X6_nextTowards : Cond.static yX6_nextTowards ∈ am_good := am_mem 375 (by decide +kernel) rfl
theorem ck_X6_playerAt : Cond.instanceMethod yX6_playerAt ∈ am_good := am_mem 371 (by decide +kernel) rfl
theorem cs_X6_playerAt : Cond.selects RX6 yX6_playerAt yX6_playerAt ∈ am_good := am_mem 372 (by decide +kernel) rfl
theorem ck_X6_put : Cond.instanceMethod yX6_put ∈ am_good := am_mem 368 (by decide +kernel) rfl
theorem cs_X6_put : Cond.selects RX6 yX6_put yX6_put ∈ am_good := am_mem 1 (by decide +kernel) rfl
theorem ck_X6_putCount : Cond.instanceMethod yX6_putCount ∈ am_good := am_mem 632 (by decide +kernel) rfl
theorem cs_X6_putCount : Cond.selects RX6 yX6_putCount yX6_putCount ∈ am_good := am_mem 14 (by decide +kernel) rfl
theorem ck_X6_stepsBetween : Cond.static yX6_stepsBetween ∈ am_good := am_mem 352 (by decide +kernel) rfl
theorem ck_X6_sumOfCounts : Cond.instanceMethod yX6_sumOfCounts ∈ am_good := am_mem 627 (by decide +kernel) rfl
theorem cs_X6_sumOfCounts : Cond.selects RX6 yX6_sumOfCounts yX6_sumOfCounts ∈ am_good := am_mem 13 (by decide +kernel) rfl
theorem ck_X7_add : Cond.instanceMethod yX7_add ∈ am_good := am_mem 534 (by decide +kernel) rfl
theorem cs_X7_add : Cond.selects RX7 yX7_add yX7_add ∈ am_good := am_mem 535 (by decide +kernel) rfl
theorem ck_X7_at : Cond.instanceMethod yX7_at ∈ am_good := am_mem 479 (by decide +kernel) rfl
theorem cs_X7_at : Cond.selects RX7 yX7_at yX7_at ∈ am_good := am_mem 11 (by decide +kernel) rfl
theorem ck_X7_empty : Cond.instanceMethod yX7_empty ∈ am_good := am_mem 546 (by decide +kernel) rfl
theorem cs_X7_empty : Cond.selects RX7 yX7_empty yX7_empty ∈ am_good := am_mem 547 (by decide +kernel) rfl
theorem ck_X7_enterInto : Cond.instanceMethod yX7_enterInto ∈ am_good := am_mem 483 (by decide +kernel) rfl
theorem cs_X7_enterInto : Cond.selects RX7 yX7_enterInto yX7_enterInto ∈ am_good := am_mem 484 (by decide +kernel) rfl
theorem ck_X7_faultFor : Cond.instanceMethod yX7_faultFor ∈ am_good := am_mem 470 (by decide +kernel) rfl
theorem cs_X7_faultFor : Cond.selects RX7 yX7_faultFor yX7_faultFor ∈ am_good := am_mem 471 (by decide +kernel) rfl
theorem ck_X7_isResult : Cond.instanceMethod yX7_isResult ∈ am_good := am_mem 475 (by decide +kernel) rfl
theorem cs_X7_isResult : Cond.selects RX7 yX7_isResult yX7_isResult ∈ am_good := am_mem 10 (by decide +kernel) rfl
theorem ck_X7_size : Cond.instanceMethod yX7_size ∈ am_good := am_mem 538 (by decide +kernel) rfl
theorem cs_X7_size : Cond.selects RX7 yX7_size yX7_size ∈ am_good := am_mem 539 (by decide +kernel) rfl
theorem ck_X8_add : Cond.instanceMethod yX8_add ∈ am_good := am_mem 513 (by decide +kernel) rfl
theorem cs_X8_add : Cond.selects RX8 yX8_add yX8_add ∈ am_good := am_mem 514 (by decide +kernel) rfl
theorem ck_X8_empty : Cond.instanceMethod yX8_empty ∈ am_good := am_mem 522 (by decide +kernel) rfl
theorem cs_X8_empty : Cond.selects RX8 yX8_empty yX8_empty ∈ am_good := am_mem 523 (by decide +kernel) rfl
theorem ck_X8_failingCount : Cond.instanceMethod yX8_failingCount ∈ am_good := am_mem 404 (by decide +kernel) rfl
theorem cs_X8_failingCount : Cond.selects RX8 yX8_failingCount yX8_failingCount ∈ am_good := am_mem 405 (by decide +kernel) rfl
theorem ck_X8_numberAt : Cond.instanceMethod yX8_numberAt ∈ am_good := am_mem 416 (by decide +kernel) rfl
theorem cs_X8_numberAt : Cond.selects RX8 yX8_numberAt yX8_numberAt ∈ am_good := am_mem 417 (by decide +kernel) rfl
theorem ck_X8_size : Cond.instanceMethod yX8_size ∈ am_good := am_mem 425 (by decide +kernel) rfl
theorem cs_X8_size : Cond.selects RX8 yX8_size yX8_size ∈ am_good := am_mem 426 (by decide +kernel) rfl
theorem ck_X8_sumOfSmallest : Cond.instanceMethod yX8_sumOfSmallest ∈ am_good := am_mem 409 (by decide +kernel) rfl
theorem cs_X8_sumOfSmallest : Cond.selects RX8 yX8_sumOfSmallest yX8_sumOfSmallest ∈ am_good := am_mem 3 (by decide +kernel) rfl
theorem ck_X8_timesOf : Cond.instanceMethod yX8_timesOf ∈ am_good := am_mem 413 (by decide +kernel) rfl
theorem cs_X8_timesOf : Cond.selects RX8 yX8_timesOf yX8_timesOf ∈ am_good := am_mem 4 (by decide +kernel) rfl
theorem ck_X9_chainTopsOf : Cond.static yX9_chainTopsOf ∈ am_good := am_mem 750 (by decide +kernel) rfl
theorem ck_X9_countParts : Cond.static yX9_countParts ∈ am_good := am_mem 590 (by decide +kernel) rfl
theorem ck_X9_isKing : Cond.static yX9_isKing ∈ am_good := am_mem 745 (by decide +kernel) rfl
theorem ck_X9_kingsOf : Cond.static yX9_kingsOf ∈ am_good := am_mem 742 (by decide +kernel) rfl
theorem ck_X9_leadersOf : Cond.static yX9_leadersOf ∈ am_good := am_mem 597 (by decide +kernel) rfl
theorem ck_X9_partNumber : Cond.static yX9_partNumber ∈ am_good := am_mem 609 (by decide +kernel) rfl
theorem ck_X9_partWith : Cond.static yX9_partWith ∈ am_good := am_mem 652 (by decide +kernel) rfl
theorem ck_X9_topOf : Cond.static yX9_topOf ∈ am_good := am_mem 594 (by decide +kernel) rfl
theorem ck_X9_topsAbove : Cond.static yX9_topsAbove ∈ am_good := am_mem 758 (by decide +kernel) rfl
theorem cl_X0_18 : Cond.methodLink RX0 18 yX0_start ∈ am_good := am_mem 83 (by decide +kernel) rfl
theorem cl_X0_26 : Cond.methodLink RX0 26 Lib.Math.min.name ∈ am_good ∧ Cond.static Lib.Math.min.name ∈ am_good ∧ Cond.initialized "java/lang/Math" ∈ am_good ∧ Cond.code Lib.Math.min.name Lib.Math.min.code 2 (some .int) ∈ am_good := ⟨am_mem 87 (by decide +kernel) rfl, am_mem 88 (by decide +kernel) rfl, am_mem 56 (by decide +kernel) rfl, am_mem 89 (by decide +kernel) rfl⟩
theorem cl_X0_32 : Cond.methodLink RX0 32 Lib.Math.max.name ∈ am_good ∧ Cond.static Lib.Math.max.name ∈ am_good ∧ Cond.initialized "java/lang/Math" ∈ am_good ∧ Cond.code Lib.Math.max.name Lib.Math.max.code 2 (some .int) ∈ am_good := ⟨am_mem 90 (by decide +kernel) rfl, am_mem 91 (by decide +kernel) rfl, am_mem 56 (by decide +kernel) rfl, am_mem 92 (by decide +kernel) rfl⟩
theorem cl_X0_38 : Cond.methodLink RX0 38 arraycopyName ∈ am_good ∧ Cond.native arraycopyName ∈ am_good ∧ Cond.static arraycopyName ∈ am_good ∧ Cond.initialized "java/lang/System" ∈ am_good := ⟨am_mem 272 (by decide +kernel) rfl, am_mem 274 (by decide +kernel) rfl, am_mem 273 (by decide +kernel) rfl, am_mem 66 (by decide +kernel) rfl⟩
theorem cl_X0_44 : Cond.methodLink RX0 44 yX0_has ∈ am_good := am_mem 284 (by decide +kernel) rfl
theorem cl_X0_48 : Cond.methodLink RX0 48 yX0_everyone ∈ am_good := am_mem 756 (by decide +kernel) rfl
theorem cl_X0_52 : Cond.methodLink RX0 52 yX0_beatenBy ∈ am_good := am_mem 292 (by decide +kernel) rfl
theorem cl_X0_56 : Cond.methodLinkNest RX0 56 yX10_only "TournamentDesk" ∈ am_nest := am_memN 309 (by decide +kernel) rfl
theorem cl_X0_59 : Cond.methodLinkNest RX0 59 yX10_holds "TournamentDesk" ∈ am_nest := am_memN 296 (by decide +kernel) rfl
theorem cl_X0_63 : Cond.methodLink RX0 63 yJ6_bitCount_0f7a4 ∈ am_good := am_mem 341 (by decide +kernel) rfl
theorem cl_X0_68 : Cond.methodLink RX0 68 yX0_winsOf ∈ am_good := am_mem 337 (by decide +kernel) rfl
theorem cl_X0_71 : Cond.methodLink RX0 71 yX0_hasPair ∈ am_good := am_mem 308 (by decide +kernel) rfl
theorem cl_X0_74 : Cond.methodLink RX0 74 yX0_wins ∈ am_good := am_mem 303 (by decide +kernel) rfl
theorem cl_X0_77 : Cond.methodLink RX0 77 yX0_turn ∈ am_good := am_mem 304 (by decide +kernel) rfl
theorem cl_X0_81 : Cond.methodLink RX0 81 yX0_swapAgainst ∈ am_good := am_mem 393 (by decide +kernel) rfl
theorem cl_X0_85 : Cond.methodLink RX0 85 yX0_weightOf ∈ am_good := am_mem 397 (by decide +kernel) rfl
theorem cl_X0_88 : Cond.methodLink RX0 88 yX0_putWeight ∈ am_good := am_mem 398 (by decide +kernel) rfl
theorem cl_X1_15 : Cond.methodLink RX1 15 yX8_size ∈ am_good := am_mem 424 (by decide +kernel) rfl
theorem cl_X1_21 : Cond.methodLink RX1 21 yX0_start ∈ am_good := am_mem 428 (by decide +kernel) rfl
theorem cl_X1_27 : Cond.methodLink RX1 27 yX8_numberAt ∈ am_good := am_mem 429 (by decide +kernel) rfl
theorem cl_X1_31 : Cond.methodLink RX1 31 yX0_everyone ∈ am_good := am_mem 430 (by decide +kernel) rfl
theorem cl_X1_34 : Cond.methodLink RX1 34 yX1_greatestOf ∈ am_good := am_mem 434 (by decide +kernel) rfl
theorem cl_X1_37 : Cond.methodLinkNest RX1 37 yX10_without "TournamentDesk" ∈ am_nest := am_memN 447 (by decide +kernel) rfl
theorem cl_X1_41 : Cond.methodLink RX1 41 yX1_restOf ∈ am_good := am_mem 443 (by decide +kernel) rfl
theorem cl_X1_44 : Cond.methodLink RX1 44 yX1_smallestOf ∈ am_good := am_mem 451 (by decide +kernel) rfl
theorem cl_X1_47 : Cond.methodLink RX1 47 yX1_settle ∈ am_good := am_mem 460 (by decide +kernel) rfl
theorem cl_X1_51 : Cond.methodLinkNest RX1 51 yX10_lowestOf "TournamentDesk" ∈ am_nest := am_memN 438 (by decide +kernel) rfl
theorem cl_X1_54 : Cond.methodLinkNest RX1 54 yX10_holds "TournamentDesk" ∈ am_nest := am_memN 442 (by decide +kernel) rfl
theorem cl_X1_58 : Cond.methodLink RX1 58 yX1_smallestIn ∈ am_good := am_mem 455 (by decide +kernel) rfl
theorem cl_X1_61 : Cond.methodLinkNest RX1 61 yX10_only "TournamentDesk" ∈ am_nest := am_memN 459 (by decide +kernel) rfl
theorem cl_X1_64 : Cond.methodLink RX1 64 yX0_setWinner ∈ am_good := am_mem 464 (by decide +kernel) rfl
theorem cl_X10_102 : Cond.methodLink RX10 102 yX0_putWeight ∈ am_good := am_mem 320 (by decide +kernel) rfl
theorem cl_X10_106 : Cond.methodLink RX10 106 yX0_isTriangle ∈ am_good := am_mem 328 (by decide +kernel) rfl
theorem cl_X10_110 : Cond.methodLink RX10 110 yX0_turn ∈ am_good := am_mem 332 (by decide +kernel) rfl
theorem cl_X10_113 : Cond.methodLink RX10 113 yX0_countTriangles ∈ am_good := am_mem 333 (by decide +kernel) rfl
theorem cl_X10_116 : Cond.methodLink RX10 116 yX6_stepsBetween ∈ am_good := am_mem 351 (by decide +kernel) rfl
theorem cl_X10_120 : Cond.methodLink RX10 120 yX6_findShortest ∈ am_good := am_mem 361 (by decide +kernel) rfl
theorem cl_X10_124 : Cond.methodLink RX10 124 yX6_playerAt ∈ am_good := am_mem 378 (by decide +kernel) rfl
theorem cl_X10_128 : Cond.methodLink RX10 128 yX0_has ∈ am_good := am_mem 383 (by decide +kernel) rfl
theorem cl_X10_132 : Cond.methodLink RX10 132 yX0_winsOf ∈ am_good := am_mem 384 (by decide +kernel) rfl
theorem cl_X10_135 : Cond.methodLink RX10 135 yX0_swap ∈ am_good := am_mem 389 (by decide +kernel) rfl
theorem cl_X10_138 : Cond.methodLink RX10 138 yX8_failingCount ∈ am_good := am_mem 403 (by decide +kernel) rfl
theorem cl_X10_141 : Cond.methodLink RX10 141 yX1_build ∈ am_good := am_mem 420 (by decide +kernel) rfl
theorem cl_X10_145 : Cond.methodLink RX10 145 yX7_faultFor ∈ am_good := am_mem 469 (by decide +kernel) rfl
theorem cl_X10_149 : Cond.methodLink RX10 149 yX7_enterInto ∈ am_good := am_mem 482 (by decide +kernel) rfl
theorem cl_X10_152 : Cond.methodLink RX10 152 yX0_copyFrom ∈ am_good := am_mem 491 (by decide +kernel) rfl
theorem cl_X10_155 : Cond.methodLink RX10 155 yX3_isEmpty ∈ am_good := am_mem 496 (by decide +kernel) rfl
theorem cl_X10_159 : Cond.methodLink RX10 159 yX3_takeLatest ∈ am_good := am_mem 500 (by decide +kernel) rfl
theorem cl_X10_162 : Cond.methodLink RX10 162 yX3_size ∈ am_good := am_mem 504 (by decide +kernel) rfl
theorem cl_X10_163 : Cond.methodLink RX10 163 yX8_add ∈ am_good := am_mem 512 (by decide +kernel) rfl
theorem cl_X10_166 : Cond.methodLink RX10 166 yX8_size ∈ am_good := am_mem 516 (by decide +kernel) rfl
theorem cl_X10_167 : Cond.methodLink RX10 167 yX8_empty ∈ am_good := am_mem 521 (by decide +kernel) rfl
theorem cl_X10_170 : Cond.methodLink RX10 170 yX7_add ∈ am_good := am_mem 533 (by decide +kernel) rfl
theorem cl_X10_173 : Cond.methodLink RX10 173 yX7_size ∈ am_good := am_mem 537 (by decide +kernel) rfl
theorem cl_X10_174 : Cond.methodLink RX10 174 yX7_empty ∈ am_good := am_mem 545 (by decide +kernel) rfl
theorem cl_X10_175 : Cond.methodLink RX10 175 yX0_winsAtPlace ∈ am_good := am_mem 573 (by decide +kernel) rfl
theorem cl_X10_178 : Cond.methodLink RX10 178 yX9_countParts ∈ am_good := am_mem 589 (by decide +kernel) rfl
theorem cl_X10_183 : Cond.methodLink RX10 183 yX9_partNumber ∈ am_good := am_mem 608 (by decide +kernel) rfl
theorem cl_X10_187 : Cond.methodLink RX10 187 yX6_countSpanning ∈ am_good := am_mem 615 (by decide +kernel) rfl
theorem cl_X10_190 : Cond.methodLink RX10 190 yX6_findSpanning ∈ am_good := am_mem 638 (by decide +kernel) rfl
theorem cl_X10_193 : Cond.methodLink RX10 193 yX2_find ∈ am_good := am_mem 647 (by decide +kernel) rfl
theorem cl_X10_197 : Cond.methodLink RX10 197 yX2_playerAt ∈ am_good := am_mem 663 (by decide +kernel) rfl
theorem cl_X10_198 : Cond.methodLink RX10 198 yX2_countLengths ∈ am_good := am_mem 671 (by decide +kernel) rfl
theorem cl_X10_201 : Cond.methodLink RX10 201 yX5_leastCostOf ∈ am_good := am_mem 679 (by decide +kernel) rfl
theorem cl_X10_204 : Cond.methodLink RX10 204 yX5_playerAt ∈ am_good := am_mem 722 (by decide +kernel) rfl
theorem cl_X10_206 : Cond.methodLink RX10 206 yX10_winnersBy ∈ am_good := am_mem 735 (by decide +kernel) rfl
theorem cl_X10_209 : Cond.methodLink RX10 209 yX0_everyone ∈ am_good := am_mem 739 (by decide +kernel) rfl
theorem cl_X10_212 : Cond.methodLink RX10 212 yJ6_bitCount_0f7a4 ∈ am_good := am_mem 441 (by decide +kernel) rfl
theorem cl_X10_217 : Cond.methodLink RX10 217 yX9_topOf ∈ am_good := am_mem 740 (by decide +kernel) rfl
theorem cl_X10_220 : Cond.methodLink RX10 220 yX9_kingsOf ∈ am_good := am_mem 741 (by decide +kernel) rfl
theorem cl_X10_223 : Cond.methodLink RX10 223 yX9_leadersOf ∈ am_good := am_mem 748 (by decide +kernel) rfl
theorem cl_X10_226 : Cond.methodLink RX10 226 yX9_chainTopsOf ∈ am_good := am_mem 749 (by decide +kernel) rfl
theorem cl_X10_229 : Cond.methodLink RX10 229 yX5_firstOnes ∈ am_good := am_mem 760 (by decide +kernel) rfl
theorem cl_X10_232 : Cond.methodLink RX10 232 yX4_countDiffering ∈ am_good := am_mem 776 (by decide +kernel) rfl
theorem cl_X10_236 : Cond.methodLink RX10 236 yX4_areAlike ∈ am_good := am_mem 786 (by decide +kernel) rfl
theorem cl_X10_240 : Cond.methodLink RX10 240 yX4_helpfulTriangle ∈ am_good := am_mem 805 (by decide +kernel) rfl
theorem cl_X10_243 : Cond.methodLink RX10 243 yX10_only ∈ am_good := am_mem 450 (by decide +kernel) rfl
theorem cl_X10_75 : Cond.methodLink RX10 75 yX0_size ∈ am_good := am_mem 253 (by decide +kernel) rfl
theorem cl_X10_79 : Cond.methodLink RX10 79 yX3_record ∈ am_good := am_mem 257 (by decide +kernel) rfl
theorem cl_X10_83 : Cond.methodLink RX10 83 yX0_start ∈ am_good := am_mem 275 (by decide +kernel) rfl
theorem cl_X10_87 : Cond.methodLink RX10 87 yX0_hasPair ∈ am_good := am_mem 280 (by decide +kernel) rfl
theorem cl_X10_91 : Cond.methodLink RX10 91 yX0_wins ∈ am_good := am_mem 288 (by decide +kernel) rfl
theorem cl_X10_94 : Cond.methodLink RX10 94 yX0_setWinner ∈ am_good := am_mem 299 (by decide +kernel) rfl
theorem cl_X10_98 : Cond.methodLink RX10 98 yX0_weightOf ∈ am_good := am_mem 316 (by decide +kernel) rfl
theorem cl_X11_101 : Cond.methodLink RX11 101 yX11_swapped ∈ am_good := am_mem 949 (by decide +kernel) rfl
theorem cl_X11_108 : Cond.methodLink RX11 108 yX11_fails ∈ am_good := am_mem 956 (by decide +kernel) rfl
theorem cl_X11_111 : Cond.methodLink RX11 111 yX11_all ∈ am_good := am_mem 960 (by decide +kernel) rfl
theorem cl_X11_117 : Cond.methodLink RX11 117 yX11_faultOf ∈ am_good := am_mem 968 (by decide +kernel) rfl
theorem cl_X11_120 : Cond.methodLink RX11 120 yX11_reaches ∈ am_good := am_mem 1033 (by decide +kernel) rfl
theorem cl_X11_123 : Cond.methodLink RX11 123 yX11_isLowest ∈ am_good := am_mem 1037 (by decide +kernel) rfl
theorem cl_X11_126 : Cond.methodLink RX11 126 yX11_componentAt ∈ am_good := am_mem 1045 (by decide +kernel) rfl
theorem cl_X11_129 : Cond.methodLink RX11 129 yX11_countsPaths ∈ am_good := am_mem 1053 (by decide +kernel) rfl
theorem cl_X11_132 : Cond.methodLink RX11 132 yX11_closes ∈ am_good := am_mem 1065 (by decide +kernel) rfl
theorem cl_X11_135 : Cond.methodLink RX11 135 yX11_isClosed ∈ am_good := am_mem 1069 (by decide +kernel) rfl
theorem cl_X11_138 : Cond.methodLink RX11 138 yX11_costOf ∈ am_good := am_mem 1085 (by decide +kernel) rfl
theorem cl_X11_141 : Cond.methodLink RX11 141 yX11_orders ∈ am_good := am_mem 1081 (by decide +kernel) rfl
theorem cl_X11_144 : Cond.methodLink RX11 144 yX11_isBest ∈ am_good := am_mem 1093 (by decide +kernel) rfl
theorem cl_X11_147 : Cond.methodLink RX11 147 yX11_isChain ∈ am_good := am_mem 1117 (by decide +kernel) rfl
theorem cl_X11_150 : Cond.methodLink RX11 150 yX11_isBeaten ∈ am_good := am_mem 1121 (by decide +kernel) rfl
theorem cl_X11_153 : Cond.methodLink RX11 153 yX11_isKing ∈ am_good := am_mem 1105 (by decide +kernel) rfl
theorem cl_X11_156 : Cond.methodLink RX11 156 yX11_isTop ∈ am_good := am_mem 1109 (by decide +kernel) rfl
theorem cl_X11_159 : Cond.methodLink RX11 159 yX11_isFirst ∈ am_good := am_mem 1113 (by decide +kernel) rfl
theorem cl_X11_162 : Cond.methodLink RX11 162 yX11_winnersBy ∈ am_good := am_mem 1101 (by decide +kernel) rfl
theorem cl_X11_165 : Cond.methodLink RX11 165 yX11_differs ∈ am_good := am_mem 1137 (by decide +kernel) rfl
theorem cl_X11_168 : Cond.methodLink RX11 168 yX11_fits ∈ am_good := am_mem 1145 (by decide +kernel) rfl
theorem cl_X11_37 : Cond.methodLink RX11 37 yX11_begins ∈ am_good := am_mem 821 (by decide +kernel) rfl
theorem cl_X11_41 : Cond.methodLink RX11 41 yX11_copies ∈ am_good := am_mem 828 (by decide +kernel) rfl
theorem cl_X11_45 : Cond.methodLink RX11 45 yX11_beaten ∈ am_good := am_mem 895 (by decide +kernel) rfl
theorem cl_X11_49 : Cond.methodLink RX11 49 yX11_has ∈ am_good := am_mem 899 (by decide +kernel) rfl
theorem cl_X11_53 : Cond.methodLink RX11 53 yX11_in ∈ am_good := am_mem 872 (by decide +kernel) rfl
theorem cl_X11_57 : Cond.methodLink RX11 57 yX11_isPlayer ∈ am_good := am_mem 887 (by decide +kernel) rfl
theorem cl_X11_61 : Cond.methodLink RX11 61 yX11_at ∈ am_good := am_mem 825 (by decide +kernel) rfl
theorem cl_X11_69 : Cond.methodLink RX11 69 yX11_beats1 ∈ am_good := am_mem 891 (by decide +kernel) rfl
theorem cl_X11_72 : Cond.methodLink RX11 72 yX11_wins ∈ am_good := am_mem 902 (by decide +kernel) rfl
theorem cl_X11_76 : Cond.methodLink RX11 76 yX11_keeps ∈ am_good := am_mem 875 (by decide +kernel) rfl
theorem cl_X11_79 : Cond.methodLink RX11 79 yX11_isPair ∈ am_good := am_mem 883 (by decide +kernel) rfl
theorem cl_X11_82 : Cond.methodLink RX11 82 yX11_isCycle ∈ am_good := am_mem 914 (by decide +kernel) rfl
theorem cl_X11_85 : Cond.methodLink RX11 85 yX11_turns ∈ am_good := am_mem 918 (by decide +kernel) rfl
theorem cl_X11_88 : Cond.methodLink RX11 88 yX11_triangles ∈ am_good := am_mem 922 (by decide +kernel) rfl
theorem cl_X11_92 : Cond.methodLink RX11 92 yX11_n ∈ am_good := am_mem 926 (by decide +kernel) rfl
theorem cl_X11_95 : Cond.methodLink RX11 95 yX11_stepsTo ∈ am_good := am_mem 934 (by decide +kernel) rfl
theorem cl_X11_98 : Cond.methodLink RX11 98 yX11_count ∈ am_good := am_mem 942 (by decide +kernel) rfl
theorem cl_X2_18 : Cond.methodLink RX2 18 yX9_partWith ∈ am_good := am_mem 651 (by decide +kernel) rfl
theorem cl_X2_24 : Cond.methodLink RX2 24 yJ6_bitCount_0f7a4 ∈ am_good := am_mem 654 (by decide +kernel) rfl
theorem cl_X2_30 : Cond.methodLink RX2 30 Lib.Math.max.name ∈ am_good ∧ Cond.static Lib.Math.max.name ∈ am_good ∧ Cond.initialized "java/lang/Math" ∈ am_good ∧ Cond.code Lib.Math.max.name Lib.Math.max.code 2 (some .int) ∈ am_good := ⟨am_mem 674 (by decide +kernel) rfl, am_mem 91 (by decide +kernel) rfl, am_mem 56 (by decide +kernel) rfl, am_mem 92 (by decide +kernel) rfl⟩
theorem cl_X2_36 : Cond.methodLinkNest RX2 36 yX10_without "TournamentDesk" ∈ am_nest := am_memN 655 (by decide +kernel) rfl
theorem cl_X2_39 : Cond.methodLink RX2 39 yX2_extend ∈ am_good := am_mem 656 (by decide +kernel) rfl
theorem cl_X2_43 : Cond.methodLink RX2 43 yX0_wins ∈ am_good := am_mem 659 (by decide +kernel) rfl
theorem cl_X2_49 : Cond.methodLinkNest RX2 49 yX10_holds "TournamentDesk" ∈ am_nest := am_memN 660 (by decide +kernel) rfl
theorem cl_X2_52 : Cond.methodLink RX2 52 yX0_size ∈ am_good := am_mem 661 (by decide +kernel) rfl
theorem cl_X2_56 : Cond.methodLinkNest RX2 56 yX10_only "TournamentDesk" ∈ am_nest := am_memN 662 (by decide +kernel) rfl
theorem cl_X3_25 : Cond.methodLink RX3 25 yJ9_floorMod_7cf53 ∈ am_good := am_mem 261 (by decide +kernel) rfl
theorem cl_X3_31 : Cond.methodLink RX3 31 yX3_stateAt ∈ am_good := am_mem 264 (by decide +kernel) rfl
theorem cl_X3_35 : Cond.methodLink RX3 35 yX0_copyFrom ∈ am_good := am_mem 268 (by decide +kernel) rfl
theorem cl_X4_15 : Cond.methodLink RX4 15 yX0_size ∈ am_good := am_mem 779 (by decide +kernel) rfl
theorem cl_X4_21 : Cond.methodLink RX4 21 yX0_beatenBy ∈ am_good := am_mem 780 (by decide +kernel) rfl
theorem cl_X4_25 : Cond.methodLink RX4 25 yJ6_bitCount_0f7a4 ∈ am_good := am_mem 781 (by decide +kernel) rfl
theorem cl_X4_30 : Cond.methodLink RX4 30 yX0_isTriangle ∈ am_good := am_mem 808 (by decide +kernel) rfl
theorem cl_X4_34 : Cond.methodLink RX4 34 yX4_differingAmong ∈ am_good := am_mem 809 (by decide +kernel) rfl
theorem cl_X4_38 : Cond.methodLink RX4 38 yX4_differs ∈ am_good := am_mem 812 (by decide +kernel) rfl
theorem cl_X4_42 : Cond.methodLink RX4 42 yX0_wins ∈ am_good := am_mem 799 (by decide +kernel) rfl
theorem cl_X4_46 : Cond.methodLink RX4 46 yX0_everyone ∈ am_good := am_mem 790 (by decide +kernel) rfl
theorem cl_X4_49 : Cond.methodLink RX4 49 yX4_assign ∈ am_good := am_mem 791 (by decide +kernel) rfl
theorem cl_X4_53 : Cond.methodLinkNest RX4 53 yX10_holds "TournamentDesk" ∈ am_nest := am_memN 794 (by decide +kernel) rfl
theorem cl_X4_56 : Cond.methodLink RX4 56 yX4_corresponds ∈ am_good := am_mem 795 (by decide +kernel) rfl
theorem cl_X4_59 : Cond.methodLinkNest RX4 59 yX10_without "TournamentDesk" ∈ am_nest := am_memN 800 (by decide +kernel) rfl
theorem cl_X4_63 : Cond.methodLink RX4 63 yX0_winsOf ∈ am_good := am_mem 798 (by decide +kernel) rfl
theorem cl_X5_25 : Cond.methodLink RX5 25 yX0_stamp ∈ am_good := am_mem 687 (by decide +kernel) rfl
theorem cl_X5_31 : Cond.methodLink RX5 31 yX0_size ∈ am_good := am_mem 691 (by decide +kernel) rfl
theorem cl_X5_34 : Cond.methodLink RX5 34 yX5_sumCosts ∈ am_good := am_mem 692 (by decide +kernel) rfl
theorem cl_X5_38 : Cond.methodLink RX5 38 yX0_everyone ∈ am_good := am_mem 701 (by decide +kernel) rfl
theorem cl_X5_41 : Cond.methodLink RX5 41 yX5_leastWithin ∈ am_good := am_mem 702 (by decide +kernel) rfl
theorem cl_X5_45 : Cond.methodLinkNest RX5 45 yX10_lowestOf "TournamentDesk" ∈ am_nest := am_memN 696 (by decide +kernel) rfl
theorem cl_X5_49 : Cond.methodLink RX5 49 yX0_costOfBefore ∈ am_good := am_mem 697 (by decide +kernel) rfl
theorem cl_X5_55 : Cond.methodLinkNest RX5 55 yX10_holds "TournamentDesk" ∈ am_nest := am_memN 707 (by decide +kernel) rfl
theorem cl_X5_59 : Cond.methodLink RX5 59 yX5_costWithFirst ∈ am_good := am_mem 708 (by decide +kernel) rfl
theorem cl_X5_62 : Cond.methodLink RX5 62 Lib.Math.min.name ∈ am_good ∧ Cond.static Lib.Math.min.name ∈ am_good ∧ Cond.initialized "java/lang/Math" ∈ am_good ∧ Cond.code Lib.Math.min.name Lib.Math.min.code 2 (some .int) ∈ am_good := ⟨am_mem 717 (by decide +kernel) rfl, am_mem 88 (by decide +kernel) rfl, am_mem 56 (by decide +kernel) rfl, am_mem 89 (by decide +kernel) rfl⟩
theorem cl_X5_67 : Cond.methodLinkNest RX5 67 yX10_without "TournamentDesk" ∈ am_nest := am_memN 712 (by decide +kernel) rfl
theorem cl_X5_70 : Cond.methodLink RX5 70 yX5_leastFor ∈ am_good := am_mem 713 (by decide +kernel) rfl
theorem cl_X5_73 : Cond.methodLinkNest RX5 73 yX10_only "TournamentDesk" ∈ am_nest := am_memN 730 (by decide +kernel) rfl
theorem cl_X5_76 : Cond.methodLink RX5 76 yX5_learn ∈ am_good := am_mem 683 (by decide +kernel) rfl
theorem cl_X5_80 : Cond.methodLink RX5 80 yX5_firstOnesWithin ∈ am_good := am_mem 726 (by decide +kernel) rfl
theorem cl_X6_18 : Cond.methodLinkNest RX6 18 yX10_only "TournamentDesk" ∈ am_nest := am_memN 354 (by decide +kernel) rfl
theorem cl_X6_22 : Cond.methodLink RX6 22 yX0_size ∈ am_good := am_mem 355 (by decide +kernel) rfl
theorem cl_X6_28 : Cond.methodLinkNest RX6 28 yX10_holds "TournamentDesk" ∈ am_nest := am_memN 356 (by decide +kernel) rfl
theorem cl_X6_32 : Cond.methodLink RX6 32 yX6_beatenByAny ∈ am_good := am_mem 357 (by decide +kernel) rfl
theorem cl_X6_36 : Cond.methodLink RX6 36 yX0_beatenBy ∈ am_good := am_mem 360 (by decide +kernel) rfl
theorem cl_X6_39 : Cond.methodLink RX6 39 yX6_stepsBetween ∈ am_good := am_mem 365 (by decide +kernel) rfl
theorem cl_X6_43 : Cond.methodLink RX6 43 yX6_put ∈ am_good := am_mem 366 (by decide +kernel) rfl
theorem cl_X6_47 : Cond.methodLink RX6 47 yX6_playerAt ∈ am_good := am_mem 370 (by decide +kernel) rfl
theorem cl_X6_50 : Cond.methodLink RX6 50 yX6_nextTowards ∈ am_good := am_mem 374 (by decide +kernel) rfl
theorem cl_X6_54 : Cond.methodLink RX6 54 yX0_wins ∈ am_good := am_mem 377 (by decide +kernel) rfl
theorem cl_X6_57 : Cond.methodLink RX6 57 yX0_everyone ∈ am_good := am_mem 619 (by decide +kernel) rfl
theorem cl_X6_60 : Cond.methodLink RX6 60 yX9_topOf ∈ am_good := am_mem 642 (by decide +kernel) rfl
theorem cl_X6_65 : Cond.methodLinkNest RX6 65 yX10_lowestOf "TournamentDesk" ∈ am_nest := am_memN 629 (by decide +kernel) rfl
theorem cl_X6_68 : Cond.methodLinkNest RX6 68 yX10_without "TournamentDesk" ∈ am_nest := am_memN 620 (by decide +kernel) rfl
theorem cl_X6_72 : Cond.methodLink RX6 72 yX6_countEnding ∈ am_good := am_mem 621 (by decide +kernel) rfl
theorem cl_X6_75 : Cond.methodLink RX6 75 yX6_putCount ∈ am_good := am_mem 630 (by decide +kernel) rfl
theorem cl_X6_79 : Cond.methodLink RX6 79 yX6_sumOfCounts ∈ am_good := am_mem 625 (by decide +kernel) rfl
theorem cl_X7_19 : Cond.methodLink RX7 19 yX7_isResult ∈ am_good := am_mem 473 (by decide +kernel) rfl
theorem cl_X7_23 : Cond.methodLink RX7 23 yX7_at ∈ am_good := am_mem 477 (by decide +kernel) rfl
theorem cl_X7_27 : Cond.methodLink RX7 27 yX0_hasPair ∈ am_good := am_mem 481 (by decide +kernel) rfl
theorem cl_X7_33 : Cond.methodLink RX7 33 yX0_setWinner ∈ am_good := am_mem 486 (by decide +kernel) rfl
theorem cl_X8_19 : Cond.methodLink RX8 19 yX8_sumOfSmallest ∈ am_good := am_mem 407 (by decide +kernel) rfl
theorem cl_X8_23 : Cond.methodLink RX8 23 yX8_timesOf ∈ am_good := am_mem 411 (by decide +kernel) rfl
theorem cl_X8_26 : Cond.methodLink RX8 26 Lib.Math.min.name ∈ am_good ∧ Cond.static Lib.Math.min.name ∈ am_good ∧ Cond.initialized "java/lang/Math" ∈ am_good ∧ Cond.code Lib.Math.min.name Lib.Math.min.code 2 (some .int) ∈ am_good := ⟨am_mem 419 (by decide +kernel) rfl, am_mem 88 (by decide +kernel) rfl, am_mem 56 (by decide +kernel) rfl, am_mem 89 (by decide +kernel) rfl⟩
theorem cl_X8_32 : Cond.methodLink RX8 32 yX8_numberAt ∈ am_good := am_mem 415 (by decide +kernel) rfl
theorem cl_X9_15 : Cond.methodLink RX9 15 yX0_beatenBy ∈ am_good := am_mem 600 (by decide +kernel) rfl
theorem cl_X9_19 : Cond.methodLink RX9 19 yJ6_bitCount_0f7a4 ∈ am_good := am_mem 601 (by decide +kernel) rfl
theorem cl_X9_24 : Cond.methodLinkNest RX9 24 yX10_holds "TournamentDesk" ∈ am_nest := am_memN 602 (by decide +kernel) rfl
theorem cl_X9_28 : Cond.methodLinkNest RX9 28 yX10_only "TournamentDesk" ∈ am_nest := am_memN 603 (by decide +kernel) rfl
theorem cl_X9_31 : Cond.methodLink RX9 31 yX9_leadersOf ∈ am_good := am_mem 596 (by decide +kernel) rfl
theorem cl_X9_37 : Cond.methodLink RX9 37 yX0_everyone ∈ am_good := am_mem 592 (by decide +kernel) rfl
theorem cl_X9_40 : Cond.methodLink RX9 40 yX9_topOf ∈ am_good := am_mem 593 (by decide +kernel) rfl
theorem cl_X9_43 : Cond.methodLink RX9 43 yX9_isKing ∈ am_good := am_mem 744 (by decide +kernel) rfl
theorem cl_X9_47 : Cond.methodLink RX9 47 yX0_wins ∈ am_good := am_mem 747 (by decide +kernel) rfl
theorem cl_X9_50 : Cond.methodLink RX9 50 yX0_beatersOf ∈ am_good := am_mem 752 (by decide +kernel) rfl
theorem cl_X9_53 : Cond.methodLink RX9 53 yX9_topsAbove ∈ am_good := am_mem 757 (by decide +kernel) rfl
theorem cl_X9_9 : Cond.methodLink RX9 9 yX0_size ∈ am_good := am_mem 599 (by decide +kernel) rfl
theorem kw_J6_265 : Cond.constant RJ6 265 (1431655765) ∈ am_good := am_mem 344 (by decide +kernel) rfl
theorem kw_J6_266 : Cond.constant RJ6 266 (858993459) ∈ am_good := am_mem 345 (by decide +kernel) rfl
theorem kw_J6_267 : Cond.constant RJ6 267 (252645135) ∈ am_good := am_mem 346 (by decide +kernel) rfl
theorem kw_X5_54 : Cond.constant RX5 54 (2147483647) ∈ am_good := am_mem 706 (by decide +kernel) rfl
end
section
/-! layouts; contracts; a walk's pieces -/
def isX0 (lay : List am_L) (o : Nat) : Prop := lay[o]? = some (.inl (0, [none, none, some (o + 1), some (o + 2)])) ∧ lay[o + 1]? = some (.inr (.inl (false, 10))) ∧ lay[o + 2]? = some (.inr (.inl (false, 100)))
def isX1 (lay : List am_L) (o : Nat) : Prop := lay[o]? = some (.inl (1, [some (o + 1)])) ∧ lay[o + 1]? = some (.inr (.inl (false, 10)))
def isX2 (lay : List am_L) (o : Nat) : Prop := lay[o]? = some (.inl (2, [some (o + 1), some (o + 2)])) ∧ lay[o + 1]? = some (.inr (.inl (false, 10))) ∧ lay[o + 2]? = some (.inr (.inl (false, 1024)))
def isX4 (lay : List am_L) (o : Nat) : Prop := lay[o]? = some (.inl (4, [some (o + 1)])) ∧ lay[o + 1]? = some (.inr (.inl (false, 10)))
def isX5 (lay : List am_L) (o : Nat) : Prop := lay[o]? = some (.inl (5, [some (o + 1), some (o + 2), some (o + 3), none])) ∧ lay[o + 1]? = some (.inr (.inl (false, 1024))) ∧ lay[o + 2]? = some (.inr (.inl (false, 320))) ∧ lay[o + 3]? = some (.inr (.inl (false, 320)))
def isX6 (lay : List am_L) (o : Nat) : Prop := lay[o]? = some (.inl (6, [some (o + 1), some (o + 2)])) ∧ lay[o + 1]? = some (.inr (.inl (false, 10))) ∧ lay[o + 2]? = some (.inr (.inl (false, 10240)))
def isX7 (lay : List am_L) (o : Nat) : Prop := lay[o]? = some (.inl (7, [some (o + 1), none])) ∧ lay[o + 1]? = some (.inr (.inl (true, 120)))
def isX8 (lay : List am_L) (o : Nat) : Prop := lay[o]? = some (.inl (8, [some (o + 1), none])) ∧ lay[o + 1]? = some (.inr (.inl (false, 10)))
def isX11 (lay : List am_L) (o : Nat) : Prop := lay[o]? = some (.inl (10, [some (o + 1), some (o + 2), some (o + 3), none, none, some (o + 4), none, some (o + 5), some (o + 6), some (o + 7), some (o + 8), some (o + 9)])) ∧ lay[o + 1]? = some (.inr (.inl (false, 111))) ∧ lay[o + 2]? = some (.inr (.inl (false, 111))) ∧ lay[o + 3]? = some (.inr (.inl (false, 888))) ∧ lay[o + 4]? = some (.inr (.inl (false, 10))) ∧ lay[o + 5]? = some (.inr (.inl (false, 120))) ∧ lay[o + 6]? = some (.inr (.inl (false, 10240))) ∧ lay[o + 7]? = some (.inr (.inl (false, 1024))) ∧ lay[o + 8]? = some (.inr (.inl (false, 10))) ∧ lay[o + 9]? = some (.inr (.inl (false, 10)))
def am_hist (o : Nat) : List Nat := [o + 2, o + 5, o + 8, o + 11, o + 14, o + 17, o + 20, o + 23]
def isX3 (lay : List am_L) (o : Nat) : Prop := lay[o]? = some (.inl (3, [some (o + 1), none, none])) ∧ lay[o + 1]? = some (.inr (.inr (am_hist o))) ∧ ∀ j ∈ am_hist o, isX0 lay j
def isX10 (lay : List am_L) (o : Nat) : Prop := lay[o]? = some (.inl (9, [some (o + 1), some (o + 4), some (o + 7), some (o + 33), some (o + 35), some (o + 37), some (o + 39), some (o + 42), some (o + 45), some (o + 49)])) ∧ isX0 lay (o + 1) ∧ isX0 lay (o + 4) ∧ isX3 lay (o + 7) ∧ isX8 lay (o + 33) ∧ isX7 lay (o + 35) ∧ isX1 lay (o + 37) ∧ isX6 lay (o + 39) ∧ isX2 lay (o + 42) ∧ isX5 lay (o + 45) ∧ isX4 lay (o + 49)
def am_MetP (lay : List am_L) (d : Nat) (M : am_M) (av : List Value) (D : am_D) (v : Int32) : Prop := am_Met lay d M av D (fun r D1 => r = some (.int v) ∧ D1 = D)
def am_MetI (lay : List am_L) (d : Nat) (M : am_M) (av : List Value) (D : am_D) (v : Int32) (D2 : am_D) : Prop := am_Met lay d M av D (fun r D1 => r = some (.int v) ∧ D1 = D2)
def am_MetV (lay : List am_L) (d : Nat) (M : am_M) (av : List Value) (D : am_D) (D2 : am_D) : Prop := am_Met lay d M av D (fun r D1 => r = none ∧ D1 = D2)
def am_MetR (lay : List am_L) (d : Nat) (M : am_M) (av : List Value) (D : am_D) (j : Nat) : Prop := am_Met lay d M av D (fun r D1 => r = some (.ref j) ∧ D1 = D)
theorem am_set {lay : List am_L} {d : Nat} {M : am_M} {pc pc1 : Nat} {L L1 L2 st st1 : List Value} {D : am_D} {Q : Option Value → am_D → Prop} (h : am_AW lay d M pc1 L2 st1 D Q → am_AW lay d M pc L st D Q) (e : L2 = L1) (k : am_AW lay d M pc1 L1 st1 D Q) : am_AW lay d M pc L st D Q := h (by rw [e]; exact k)
def am_nul (ks : List Nat) (L : List Value) : List Value := ks.foldl (fun L k => L.set k .null) L
theorem am_drop {lay : List am_L} {d : Nat} {M : am_M} {pc : Nat} {L L1 st : List Value} {D : am_D} {Q : Option Value → am_D → Prop} (ks : List Nat) (e : am_nul ks L = L1) (k : am_AW lay d M pc L1 st D Q) : am_AW lay d M pc L st D Q := by
  subst e
  induction ks generalizing L with
  | nil => exact k
  | cons a r ih =>
    have h1 := ih k
    intro l X A p e s m args below meth c H locs ls I hl
    refine h1 l X A p e s m args below meth c H locs ls I ⟨hl.1, hl.2.1, fun q hq => hl.2.2 q ?_⟩
    obtain ⟨z, h2, h3, h4⟩ := am_ll_mem.mp hq
    by_cases hk : q.1 = a
    · exfalso
      rw [hk] at h2
      have hz : z = .null := by
        by_cases hlt : a < L.length
        · rw [List.getElem?_set_self hlt] at h2
          exact (Option.some.inj h2).symm
        · rw [List.getElem?_eq_none (by rw [List.length_set]; omega)] at h2
          cases h2
      rw [hz] at h3
      cases h3
    · rw [List.getElem?_set_ne (Ne.symm hk)] at h2
      exact am_ll_mem.mpr ⟨z, h2, h3, h4⟩
theorem am_out4 {x : Int32} (h0 : ¬ x = 0) (h1 : ¬ x = 1) (h2 : ¬ x = 2) (h3 : ¬ x = 3) : x.toInt < 0 ∨ 3 < x.toInt := by
  rcases Int.lt_or_le x.toInt 0 with h | h
  · exact Or.inl h
  · right
    rcases Int.lt_or_le 3 x.toInt with g | g
    · exact g
    · exfalso
      have : x.toInt = 0 ∨ x.toInt = 1 ∨ x.toInt = 2 ∨ x.toInt = 3 := by omega
      rcases this with e | e | e | e
      · exact h0 (Int32.toInt_inj.mp e)
      · exact h1 (Int32.toInt_inj.mp e)
      · exact h2 (Int32.toInt_inj.mp e)
      · exact h3 (Int32.toInt_inj.mp e)
end
section
set_option maxRecDepth 20000 in
theorem eX0_start {lay : List am_L} {d : Nat} {D : am_D} {Q : Option Value → am_D → Prop} {o : Nat} {v1 : Int32} (ho : isX0 lay o) (hT : (∀ D1, D1 = am_up D o 1 ((D o 1) + 1) →
 (∀ D2, D2 = am_up D1 o 0 (if 2 < (if 10 < v1 then 10 else v1) then (if 10 < v1 then 10 else v1) else 2) →
 am_AW lay (d + 1) mX0_start 26 [.ref o, .int v1, .int 0] [] D2 Q))) : am_Met lay (d + 1) mX0_start [.ref o, .int v1] D Q := by
  refine am_enter (by decide +kernel) rfl (Nat.le_of_ble_eq_true rfl) ?_
  show am_AW lay (d + 1) mX0_start 0 [.ref o, .int v1, .null] [] D Q
  refine am_aload_n (x := o) dX0_start_0 rfl ?_
  refine am_dup dX0_start_1 rfl ?_
  refine am_getI dX0_start_2 fw_X0_22 ho.1 rfl ?_
  refine am_iconst (v := 1) dX0_start_5 (by decide) ?_
  refine am_iadd dX0_start_6 ?_
  refine am_putI dX0_start_7 fw_X0_22 fp_X0_1 ho.1 rfl ?_
  obtain ⟨D1, hD⟩ : ∃ z, z = am_up D o 1 ((D o 1) + 1) := ⟨_, rfl⟩
  rw [← hD]
  replace hT := hT D1 hD
  clear hD
  refine am_aload_n (x := o) dX0_start_10 rfl ?_
  refine am_iconst (v := 2) dX0_start_11 (by decide) ?_
  refine am_iload_n (x := v1) dX0_start_12 rfl ?_
  refine am_bipush (v := 10) dX0_start_13 (by decide) ?_
  refine am_min dX0_start_15 cl_X0_26 (Nat.le_of_ble_eq_true rfl) ?_
  refine am_max dX0_start_18 cl_X0_32 (Nat.le_of_ble_eq_true rfl) ?_
  refine am_putI dX0_start_21 fw_X0_35 fp_X0_0 ho.1 rfl ?_
  obtain ⟨D2, hD⟩ : ∃ z, z = am_up D1 o 0 (if 2 < (if 10 < v1 then 10 else v1) then (if 10 < v1 then 10 else v1) else 2) := ⟨_, rfl⟩
  rw [← hD]
  replace hT := hT D2 hD
  clear hD
  refine am_iconst (v := 0) dX0_start_24 (by decide) ?_
  refine am_set (am_istore_n dX0_start_25 (by decide)) (L1 := [.ref o, .int v1, .int 0]) rfl ?_
  exact hT
set_option maxRecDepth 20000 in
theorem rX0_start_26 {lay : List am_L} {d : Nat} {D : am_D} {Q : Option Value → am_D → Prop} {o : Nat} {v1 : Int32} {v2 : Int32} (ho : isX0 lay o) (hT : ((10 ≤ v2 → am_AW lay (d + 1) mX0_start 71 [.ref o, .int v1, .int 0] [] D Q) ∧
 (¬ (10 ≤ v2) → (((D o 0) ≤ v2 → (vp_in v2 10 ∧ ∀ D1, D1 = am_up D (o + 1) (Int32.toNatClampNeg v2) 0 →
 am_AW lay (d + 1) mX0_start 26 [.ref o, .int v1, .int (v2 + 1)] [] D1 Q)) ∧
 (¬ ((D o 0) ≤ v2) → (vp_in v2 10 ∧ ∀ D2, D2 = am_up D (o + 1) (Int32.toNatClampNeg v2) ((1 <<< ((D o 0) &&& 31)) - (2 <<< (v2 &&& 31))) →
 am_AW lay (d + 1) mX0_start 26 [.ref o, .int v1, .int (v2 + 1)] [] D2 Q)))))) : am_AW lay (d + 1) mX0_start 26 [.ref o, .int v1, .int v2] [] D Q := by
  refine am_iload_n (x := v2) dX0_start_26 rfl ?_
  refine am_aload_n (x := o) dX0_start_27 rfl ?_
  refine am_getR dX0_start_28 fw_X0_9 ho.1 rfl ?_
  refine am_alen (v := 10) dX0_start_31 ho.2.1 rfl (by decide) ?_
  refine am_icmp_ge (tgt := 69) dX0_start_32 (by decide) (fun h => ?_) (fun h => ?_)
  · replace hT := hT.1 h
    refine am_iconst (v := 0) dX0_start_69 (by decide) ?_
    refine am_set (am_istore_n dX0_start_70 (by decide)) (L1 := [.ref o, .int v1, .int 0]) rfl ?_
    exact hT
  · replace hT := hT.2 h
    refine am_aload_n (x := o) dX0_start_35 rfl ?_
    refine am_getR dX0_start_36 fw_X0_9 ho.1 rfl ?_
    refine am_iload_n (x := v2) dX0_start_39 rfl ?_
    refine am_iload_n (x := v2) dX0_start_40 rfl ?_
    refine am_aload_n (x := o) dX0_start_41 rfl ?_
    refine am_getI dX0_start_42 fw_X0_35 ho.1 rfl ?_
    refine am_icmp_ge (tgt := 61) dX0_start_45 (by decide) (fun h => ?_) (fun h => ?_)
    · replace hT := hT.1 h
      refine am_iconst (v := 0) dX0_start_61 (by decide) ?_
      refine am_iast dX0_start_62 ho.2.1 hT.1 ?_
      obtain ⟨D1, hD⟩ : ∃ z, z = am_up D (o + 1) (Int32.toNatClampNeg v2) 0 := ⟨_, rfl⟩
      rw [← hD]
      replace hT := hT.2 D1 hD
      clear hD
      refine am_set (am_iinc (x := v2) (c0 := 1) dX0_start_63 (by decide) rfl (by decide)) (L1 := [.ref o, .int v1, .int (v2 + 1)]) rfl ?_
      refine am_goto (tgt := 26) dX0_start_66 (by decide) ?_
      exact hT
    · replace hT := hT.2 h
      refine am_iconst (v := 1) dX0_start_48 (by decide) ?_
      refine am_aload_n (x := o) dX0_start_49 rfl ?_
      refine am_getI dX0_start_50 fw_X0_35 ho.1 rfl ?_
      refine am_ishl dX0_start_53 ?_
      refine am_iconst (v := 2) dX0_start_54 (by decide) ?_
      refine am_iload_n (x := v2) dX0_start_55 rfl ?_
      refine am_ishl dX0_start_56 ?_
      refine am_isub dX0_start_57 ?_
      refine am_goto (tgt := 62) dX0_start_58 (by decide) ?_
      refine am_iast dX0_start_62 ho.2.1 hT.1 ?_
      obtain ⟨D2, hD⟩ : ∃ z, z = am_up D (o + 1) (Int32.toNatClampNeg v2) ((1 <<< ((D o 0) &&& 31)) - (2 <<< (v2 &&& 31))) := ⟨_, rfl⟩
      rw [← hD]
      replace hT := hT.2 D2 hD
      clear hD
      refine am_set (am_iinc (x := v2) (c0 := 1) dX0_start_63 (by decide) rfl (by decide)) (L1 := [.ref o, .int v1, .int (v2 + 1)]) rfl ?_
      refine am_goto (tgt := 26) dX0_start_66 (by decide) ?_
      exact hT
set_option maxRecDepth 20000 in
theorem rX0_start_71 {lay : List am_L} {d : Nat} {D : am_D} {Q : Option Value → am_D → Prop} {o : Nat} {v1 : Int32} {v2 : Int32} (ho : isX0 lay o) (hT : ((100 ≤ v2 → Q none D) ∧
 (¬ (100 ≤ v2) → (vp_in v2 100 ∧ ∀ D1, D1 = am_up D (o + 2) (Int32.toNatClampNeg v2) 1 →
 am_AW lay (d + 1) mX0_start 71 [.ref o, .int v1, .int (v2 + 1)] [] D1 Q)))) : am_AW lay (d + 1) mX0_start 71 [.ref o, .int v1, .int v2] [] D Q := by
  refine am_iload_n (x := v2) dX0_start_71 rfl ?_
  refine am_aload_n (x := o) dX0_start_72 rfl ?_
  refine am_getR dX0_start_73 fw_X0_15 ho.1 rfl ?_
  refine am_alen (v := 100) dX0_start_76 ho.2.2 rfl (by decide) ?_
  refine am_icmp_ge (tgt := 93) dX0_start_77 (by decide) (fun h => ?_) (fun h => ?_)
  · replace hT := hT.1 h
    exact am_return dX0_start_93 rfl hT
  · replace hT := hT.2 h
    refine am_aload_n (x := o) dX0_start_80 rfl ?_
    refine am_getR dX0_start_81 fw_X0_15 ho.1 rfl ?_
    refine am_iload_n (x := v2) dX0_start_84 rfl ?_
    refine am_iconst (v := 1) dX0_start_85 (by decide) ?_
    refine am_iast dX0_start_86 ho.2.2 hT.1 ?_
    obtain ⟨D1, hD⟩ : ∃ z, z = am_up D (o + 2) (Int32.toNatClampNeg v2) 1 := ⟨_, rfl⟩
    rw [← hD]
    replace hT := hT.2 D1 hD
    clear hD
    refine am_set (am_iinc (x := v2) (c0 := 1) dX0_start_87 (by decide) rfl (by decide)) (L1 := [.ref o, .int v1, .int (v2 + 1)]) rfl ?_
    refine am_goto (tgt := 71) dX0_start_90 (by decide) ?_
    exact hT
set_option maxRecDepth 20000 in
theorem eX0_copyFrom {lay : List am_L} {d : Nat} {D : am_D} {Q : Option Value → am_D → Prop} {o : Nat} {v1 : Nat} (ho : isX0 lay o) (h1 : isX0 lay v1) (hT : (∀ D1, D1 = am_up D o 1 ((D o 1) + 1) →
 (∀ D2, D2 = am_up D1 o 0 (D1 v1 0) →
 (∀ D3, D3 = am_cp D2 (v1 + 1) (o + 1) (Int32.toNatClampNeg 10) →
 (∀ D4, D4 = am_cp D3 (v1 + 2) (o + 2) (Int32.toNatClampNeg 100) →
 Q none D4))))) : am_Met lay (d + 1) mX0_copyFrom [.ref o, .ref v1] D Q := by
  refine am_enter (by decide +kernel) rfl (Nat.le_of_ble_eq_true rfl) ?_
  show am_AW lay (d + 1) mX0_copyFrom 0 [.ref o, .ref v1] [] D Q
  refine am_aload_n (x := o) dX0_copyFrom_0 rfl ?_
  refine am_dup dX0_copyFrom_1 rfl ?_
  refine am_getI dX0_copyFrom_2 fw_X0_22 ho.1 rfl ?_
  refine am_iconst (v := 1) dX0_copyFrom_5 (by decide) ?_
  refine am_iadd dX0_copyFrom_6 ?_
  refine am_putI dX0_copyFrom_7 fw_X0_22 fp_X0_1 ho.1 rfl ?_
  obtain ⟨D1, hD⟩ : ∃ z, z = am_up D o 1 ((D o 1) + 1) := ⟨_, rfl⟩
  rw [← hD]
  replace hT := hT D1 hD
  clear hD
  refine am_aload_n (x := o) dX0_copyFrom_10 rfl ?_
  refine am_aload_n (x := v1) dX0_copyFrom_11 rfl ?_
  refine am_getI dX0_copyFrom_12 fw_X0_35 h1.1 rfl ?_
  refine am_putI dX0_copyFrom_15 fw_X0_35 fp_X0_0 ho.1 rfl ?_
  obtain ⟨D2, hD⟩ : ∃ z, z = am_up D1 o 0 (D1 v1 0) := ⟨_, rfl⟩
  rw [← hD]
  replace hT := hT D2 hD
  clear hD
  refine am_aload_n (x := v1) dX0_copyFrom_18 rfl ?_
  refine am_getR dX0_copyFrom_19 fw_X0_9 h1.1 rfl ?_
  refine am_iconst (v := 0) dX0_copyFrom_22 (by decide) ?_
  refine am_aload_n (x := o) dX0_copyFrom_23 rfl ?_
  refine am_getR dX0_copyFrom_24 fw_X0_9 ho.1 rfl ?_
  refine am_iconst (v := 0) dX0_copyFrom_27 (by decide) ?_
  refine am_bipush (v := 10) dX0_copyFrom_28 (by decide) ?_
  refine am_copy cl_X0_38 h1.2.1 ho.2.1 (by decide) (by decide) (by decide) (Nat.le_of_ble_eq_true rfl) dX0_copyFrom_30 ?_
  obtain ⟨D3, hD⟩ : ∃ z, z = am_cp D2 (v1 + 1) (o + 1) (Int32.toNatClampNeg 10) := ⟨_, rfl⟩
  rw [← hD]
  replace hT := hT D3 hD
  clear hD
  refine am_aload_n (x := v1) dX0_copyFrom_33 rfl ?_
  refine am_getR dX0_copyFrom_34 fw_X0_15 h1.1 rfl ?_
  refine am_iconst (v := 0) dX0_copyFrom_37 (by decide) ?_
  refine am_aload_n (x := o) dX0_copyFrom_38 rfl ?_
  refine am_getR dX0_copyFrom_39 fw_X0_15 ho.1 rfl ?_
  refine am_iconst (v := 0) dX0_copyFrom_42 (by decide) ?_
  refine am_bipush (v := 100) dX0_copyFrom_43 (by decide) ?_
  refine am_copy cl_X0_38 h1.2.2 ho.2.2 (by decide) (by decide) (by decide) (Nat.le_of_ble_eq_true rfl) dX0_copyFrom_45 ?_
  obtain ⟨D4, hD⟩ : ∃ z, z = am_cp D3 (v1 + 2) (o + 2) (Int32.toNatClampNeg 100) := ⟨_, rfl⟩
  rw [← hD]
  replace hT := hT D4 hD
  clear hD
  exact am_return dX0_copyFrom_48 rfl hT
set_option maxRecDepth 20000 in
theorem eX0_size {lay : List am_L} {d : Nat} {D : am_D} {Q : Option Value → am_D → Prop} {o : Nat} (ho : isX0 lay o) (hT : Q (some (.int (D o 0))) D) : am_Met lay d mX0_size [.ref o] D Q := by
  refine am_enter (by decide +kernel) rfl (Nat.le_of_ble_eq_true rfl) ?_
  show am_AW lay d mX0_size 0 [.ref o] [] D Q
  refine am_aload_n (x := o) dX0_size_0 rfl ?_
  refine am_getI dX0_size_1 fw_X0_35 ho.1 rfl ?_
  exact am_ireturn (ty := .int) dX0_size_4 rfl rfl hT
set_option maxRecDepth 20000 in
theorem eX0_stamp {lay : List am_L} {d : Nat} {D : am_D} {Q : Option Value → am_D → Prop} {o : Nat} (ho : isX0 lay o) (hT : Q (some (.int (D o 1))) D) : am_Met lay d mX0_stamp [.ref o] D Q := by
  refine am_enter (by decide +kernel) rfl (Nat.le_of_ble_eq_true rfl) ?_
  show am_AW lay d mX0_stamp 0 [.ref o] [] D Q
  refine am_aload_n (x := o) dX0_stamp_0 rfl ?_
  refine am_getI dX0_stamp_1 fw_X0_22 ho.1 rfl ?_
  exact am_ireturn (ty := .int) dX0_stamp_4 rfl rfl hT
set_option maxRecDepth 20000 in
theorem eX0_everyone {lay : List am_L} {d : Nat} {D : am_D} {Q : Option Value → am_D → Prop} {o : Nat} (ho : isX0 lay o) (hT : Q (some (.int ((1 <<< ((D o 0) &&& 31)) - 1))) D) : am_Met lay d mX0_everyone [.ref o] D Q := by
  refine am_enter (by decide +kernel) rfl (Nat.le_of_ble_eq_true rfl) ?_
  show am_AW lay d mX0_everyone 0 [.ref o] [] D Q
  refine am_iconst (v := 1) dX0_everyone_0 (by decide) ?_
  refine am_aload_n (x := o) dX0_everyone_1 rfl ?_
  refine am_getI dX0_everyone_2 fw_X0_35 ho.1 rfl ?_
  refine am_ishl dX0_everyone_5 ?_
  refine am_iconst (v := 1) dX0_everyone_6 (by decide) ?_
  refine am_isub dX0_everyone_7 ?_
  exact am_ireturn (ty := .int) dX0_everyone_8 rfl rfl hT
set_option maxRecDepth 20000 in
theorem eX0_has {lay : List am_L} {d : Nat} {D : am_D} {Q : Option Value → am_D → Prop} {o : Nat} {v1 : Int32} (ho : isX0 lay o) (hT : ((v1 < 0 → Q (some (.int 0)) D) ∧
 (¬ (v1 < 0) → (((D o 0) ≤ v1 → Q (some (.int 0)) D) ∧
 (¬ ((D o 0) ≤ v1) → Q (some (.int 1)) D))))) : am_Met lay d mX0_has [.ref o, .int v1] D Q := by
  refine am_enter (by decide +kernel) rfl (Nat.le_of_ble_eq_true rfl) ?_
  show am_AW lay d mX0_has 0 [.ref o, .int v1] [] D Q
  refine am_iload_n (x := v1) dX0_has_0 rfl ?_
  refine am_if_lt (tgt := 16) dX0_has_1 (by decide) (fun h => ?_) (fun h => ?_)
  · replace hT := hT.1 h
    refine am_iconst (v := 0) dX0_has_16 (by decide) ?_
    exact am_ireturn (ty := .boolean) dX0_has_17 rfl (by decide) hT
  · replace hT := hT.2 h
    refine am_iload_n (x := v1) dX0_has_4 rfl ?_
    refine am_aload_n (x := o) dX0_has_5 rfl ?_
    refine am_getI dX0_has_6 fw_X0_35 ho.1 rfl ?_
    refine am_icmp_ge (tgt := 16) dX0_has_9 (by decide) (fun h => ?_) (fun h => ?_)
    · replace hT := hT.1 h
      refine am_iconst (v := 0) dX0_has_16 (by decide) ?_
      exact am_ireturn (ty := .boolean) dX0_has_17 rfl (by decide) hT
    · replace hT := hT.2 h
      refine am_iconst (v := 1) dX0_has_12 (by decide) ?_
      refine am_goto (tgt := 17) dX0_has_13 (by decide) ?_
      exact am_ireturn (ty := .boolean) dX0_has_17 rfl (by decide) hT
set_option maxRecDepth 20000 in
theorem eX0_hasPair {lay : List am_L} {d : Nat} {D : am_D} {Q : Option Value → am_D → Prop} {o : Nat} {v1 : Int32} {v2 : Int32} (ho : isX0 lay o) (hT : (∃ x1, am_MetP lay d mX0_has [.ref o, .int v1] D x1 ∧
 ((x1 = 0 → Q (some (.int 0)) D) ∧
 (¬ (x1 = 0) → (∃ x2, am_MetP lay d mX0_has [.ref o, .int v2] D x2 ∧
 ((x2 = 0 → Q (some (.int 0)) D) ∧
 (¬ (x2 = 0) → ((v1 = v2 → Q (some (.int 0)) D) ∧
 (¬ (v1 = v2) → Q (some (.int 1)) D))))))))) : am_Met lay (d + 1) mX0_hasPair [.ref o, .int v1, .int v2] D Q := by
  refine am_enter (by decide +kernel) rfl (Nat.le_of_ble_eq_true rfl) ?_
  show am_AW lay (d + 1) mX0_hasPair 0 [.ref o, .int v1, .int v2] [] D Q
  refine am_aload_n (x := o) dX0_hasPair_0 rfl ?_
  refine am_iload_n (x := v1) dX0_hasPair_1 rfl ?_
  obtain ⟨x1, hm, hT⟩ := hT
  refine am_callV (av := [.int v1]) (st := []) (b := o) cw_X0_has cl_X0_44 ck_X0_has cs_X0_has ho.1 rfl rfl (Nat.le_of_ble_eq_true rfl) dX0_hasPair_2 hm (fun r D9 hr => ?_)
  obtain ⟨rfl, e9⟩ := hr
  rw [e9]
  clear e9
  refine am_if_eq (tgt := 25) dX0_hasPair_5 (by decide) (fun h => ?_) (fun h => ?_)
  · replace hT := hT.1 h
    refine am_iconst (v := 0) dX0_hasPair_25 (by decide) ?_
    exact am_ireturn (ty := .boolean) dX0_hasPair_26 rfl (by decide) hT
  · replace hT := hT.2 h
    refine am_aload_n (x := o) dX0_hasPair_8 rfl ?_
    refine am_iload_n (x := v2) dX0_hasPair_9 rfl ?_
    obtain ⟨x2, hm, hT⟩ := hT
    refine am_callV (av := [.int v2]) (st := []) (b := o) cw_X0_has cl_X0_44 ck_X0_has cs_X0_has ho.1 rfl rfl (Nat.le_of_ble_eq_true rfl) dX0_hasPair_10 hm (fun r D9 hr => ?_)
    obtain ⟨rfl, e9⟩ := hr
    rw [e9]
    clear e9
    refine am_if_eq (tgt := 25) dX0_hasPair_13 (by decide) (fun h => ?_) (fun h => ?_)
    · replace hT := hT.1 h
      refine am_iconst (v := 0) dX0_hasPair_25 (by decide) ?_
      exact am_ireturn (ty := .boolean) dX0_hasPair_26 rfl (by decide) hT
    · replace hT := hT.2 h
      refine am_iload_n (x := v1) dX0_hasPair_16 rfl ?_
      refine am_iload_n (x := v2) dX0_hasPair_17 rfl ?_
      refine am_icmp_eq (tgt := 25) dX0_hasPair_18 (by decide) (fun h => ?_) (fun h => ?_)
      · replace hT := hT.1 h
        refine am_iconst (v := 0) dX0_hasPair_25 (by decide) ?_
        exact am_ireturn (ty := .boolean) dX0_hasPair_26 rfl (by decide) hT
      · replace hT := hT.2 h
        refine am_iconst (v := 1) dX0_hasPair_21 (by decide) ?_
        refine am_goto (tgt := 26) dX0_hasPair_22 (by decide) ?_
        exact am_ireturn (ty := .boolean) dX0_hasPair_26 rfl (by decide) hT
set_option maxRecDepth 20000 in
theorem eX0_beatenBy {lay : List am_L} {d : Nat} {D : am_D} {Q : Option Value → am_D → Prop} {o : Nat} {v1 : Int32} (ho : isX0 lay o) (hT : ((v1 < 0 → Q (some (.int 0)) D) ∧
 (¬ (v1 < 0) → ((10 ≤ v1 → Q (some (.int 0)) D) ∧
 (¬ (10 ≤ v1) → (vp_in v1 10 ∧ Q (some (.int (D (o + 1) (Int32.toNatClampNeg v1)))) D)))))) : am_Met lay d mX0_beatenBy [.ref o, .int v1] D Q := by
  refine am_enter (by decide +kernel) rfl (Nat.le_of_ble_eq_true rfl) ?_
  show am_AW lay d mX0_beatenBy 0 [.ref o, .int v1] [] D Q
  refine am_iload_n (x := v1) dX0_beatenBy_0 rfl ?_
  refine am_if_lt (tgt := 22) dX0_beatenBy_1 (by decide) (fun h => ?_) (fun h => ?_)
  · replace hT := hT.1 h
    refine am_iconst (v := 0) dX0_beatenBy_22 (by decide) ?_
    exact am_ireturn (ty := .int) dX0_beatenBy_23 rfl rfl hT
  · replace hT := hT.2 h
    refine am_iload_n (x := v1) dX0_beatenBy_4 rfl ?_
    refine am_aload_n (x := o) dX0_beatenBy_5 rfl ?_
    refine am_getR dX0_beatenBy_6 fw_X0_9 ho.1 rfl ?_
    refine am_alen (v := 10) dX0_beatenBy_9 ho.2.1 rfl (by decide) ?_
    refine am_icmp_ge (tgt := 22) dX0_beatenBy_10 (by decide) (fun h => ?_) (fun h => ?_)
    · replace hT := hT.1 h
      refine am_iconst (v := 0) dX0_beatenBy_22 (by decide) ?_
      exact am_ireturn (ty := .int) dX0_beatenBy_23 rfl rfl hT
    · replace hT := hT.2 h
      refine am_aload_n (x := o) dX0_beatenBy_13 rfl ?_
      refine am_getR dX0_beatenBy_14 fw_X0_9 ho.1 rfl ?_
      refine am_iload_n (x := v1) dX0_beatenBy_17 rfl ?_
      refine am_iald dX0_beatenBy_18 ho.2.1 hT.1 ?_
      replace hT := hT.2
      refine am_goto (tgt := 23) dX0_beatenBy_19 (by decide) ?_
      exact am_ireturn (ty := .int) dX0_beatenBy_23 rfl rfl hT
set_option maxRecDepth 20000 in
theorem eX0_beatersOf {lay : List am_L} {d : Nat} {D : am_D} {Q : Option Value → am_D → Prop} {o : Nat} {v1 : Int32} (ho : isX0 lay o) (hT : (∃ x1, am_MetP lay d mX0_everyone [.ref o] D x1 ∧
 (∃ x2, am_MetP lay d mX0_beatenBy [.ref o, .int v1] D x2 ∧
 (∃ x3, am_MetP lay d mX10_only [.int v1] D x3 ∧
 Q (some (.int ((x1 &&& (x2 ^^^ (-1))) &&& (x3 ^^^ (-1))))) D)))) : am_Met lay (d + 1) mX0_beatersOf [.ref o, .int v1] D Q := by
  refine am_enter (by decide +kernel) rfl (Nat.le_of_ble_eq_true rfl) ?_
  show am_AW lay (d + 1) mX0_beatersOf 0 [.ref o, .int v1] [] D Q
  refine am_aload_n (x := o) dX0_beatersOf_0 rfl ?_
  obtain ⟨x1, hm, hT⟩ := hT
  refine am_callV (av := []) (st := []) (b := o) cw_X0_everyone cl_X0_48 ck_X0_everyone cs_X0_everyone ho.1 rfl rfl (Nat.le_of_ble_eq_true rfl) dX0_beatersOf_1 hm (fun r D9 hr => ?_)
  obtain ⟨rfl, e9⟩ := hr
  rw [e9]
  clear e9
  refine am_aload_n (x := o) dX0_beatersOf_4 rfl ?_
  refine am_iload_n (x := v1) dX0_beatersOf_5 rfl ?_
  obtain ⟨x2, hm, hT⟩ := hT
  refine am_callV (av := [.int v1]) (st := [.int x1]) (b := o) cw_X0_beatenBy cl_X0_52 ck_X0_beatenBy cs_X0_beatenBy ho.1 rfl rfl (Nat.le_of_ble_eq_true rfl) dX0_beatersOf_6 hm (fun r D9 hr => ?_)
  obtain ⟨rfl, e9⟩ := hr
  rw [e9]
  clear e9
  refine am_iconst (v := -1) dX0_beatersOf_9 (by decide) ?_
  refine am_ixor dX0_beatersOf_10 ?_
  refine am_iand dX0_beatersOf_11 ?_
  refine am_iload_n (x := v1) dX0_beatersOf_12 rfl ?_
  obtain ⟨x3, hm, hT⟩ := hT
  refine am_callSN (av := [.int v1]) (st := [.int (x1 &&& (x2 ^^^ (-1)))]) cw_X10_only cl_X0_56 ck_X10_only (Nat.le_of_ble_eq_true rfl) dX0_beatersOf_13 hm (fun r D9 hr => ?_)
  obtain ⟨rfl, e9⟩ := hr
  rw [e9]
  clear e9
  refine am_iconst (v := -1) dX0_beatersOf_16 (by decide) ?_
  refine am_ixor dX0_beatersOf_17 ?_
  refine am_iand dX0_beatersOf_18 ?_
  exact am_ireturn (ty := .int) dX0_beatersOf_19 rfl rfl hT
set_option maxRecDepth 20000 in
theorem eX0_wins {lay : List am_L} {d : Nat} {D : am_D} {Q : Option Value → am_D → Prop} {o : Nat} {v1 : Int32} {v2 : Int32} (ho : isX0 lay o) (hT : (∃ x1, am_MetP lay d mX0_beatenBy [.ref o, .int v1] D x1 ∧
 (∃ x2, am_MetP lay d mX10_holds [.int x1, .int v2] D x2 ∧
 (narrow .boolean (.int x2) = .int x2 ∧ Q (some (.int x2)) D)))) : am_Met lay (d + 1) mX0_wins [.ref o, .int v1, .int v2] D Q := by
  refine am_enter (by decide +kernel) rfl (Nat.le_of_ble_eq_true rfl) ?_
  show am_AW lay (d + 1) mX0_wins 0 [.ref o, .int v1, .int v2] [] D Q
  refine am_aload_n (x := o) dX0_wins_0 rfl ?_
  refine am_iload_n (x := v1) dX0_wins_1 rfl ?_
  obtain ⟨x1, hm, hT⟩ := hT
  refine am_callV (av := [.int v1]) (st := []) (b := o) cw_X0_beatenBy cl_X0_52 ck_X0_beatenBy cs_X0_beatenBy ho.1 rfl rfl (Nat.le_of_ble_eq_true rfl) dX0_wins_2 hm (fun r D9 hr => ?_)
  obtain ⟨rfl, e9⟩ := hr
  rw [e9]
  clear e9
  refine am_iload_n (x := v2) dX0_wins_5 rfl ?_
  obtain ⟨x2, hm, hT⟩ := hT
  refine am_callSN (av := [.int x1, .int v2]) (st := []) cw_X10_holds cl_X0_59 ck_X10_holds (Nat.le_of_ble_eq_true rfl) dX0_wins_6 hm (fun r D9 hr => ?_)
  obtain ⟨rfl, e9⟩ := hr
  rw [e9]
  clear e9
  exact am_ireturn (ty := .boolean) dX0_wins_9 rfl hT.1 hT.2
set_option maxRecDepth 20000 in
theorem eX0_winsOf {lay : List am_L} {d : Nat} {D : am_D} {Q : Option Value → am_D → Prop} {o : Nat} {v1 : Int32} (ho : isX0 lay o) (hT : (∃ x1, am_MetP lay d mX0_beatenBy [.ref o, .int v1] D x1 ∧
 (∃ x2, am_MetP lay d mJ6_bitCount_0f7a4 [.int x1] D x2 ∧
 Q (some (.int x2)) D))) : am_Met lay (d + 1) mX0_winsOf [.ref o, .int v1] D Q := by
  refine am_enter (by decide +kernel) rfl (Nat.le_of_ble_eq_true rfl) ?_
  show am_AW lay (d + 1) mX0_winsOf 0 [.ref o, .int v1] [] D Q
  refine am_aload_n (x := o) dX0_winsOf_0 rfl ?_
  refine am_iload_n (x := v1) dX0_winsOf_1 rfl ?_
  obtain ⟨x1, hm, hT⟩ := hT
  refine am_callV (av := [.int v1]) (st := []) (b := o) cw_X0_beatenBy cl_X0_52 ck_X0_beatenBy cs_X0_beatenBy ho.1 rfl rfl (Nat.le_of_ble_eq_true rfl) dX0_winsOf_2 hm (fun r D9 hr => ?_)
  obtain ⟨rfl, e9⟩ := hr
  rw [e9]
  clear e9
  obtain ⟨x2, hm, hT⟩ := hT
  refine am_callS (av := [.int x1]) (st := []) cw_J6_bitCount_0f7a4 cl_X0_63 ck_J6_bitCount_0f7a4 (Nat.le_of_ble_eq_true rfl) dX0_winsOf_5 hm (fun r D9 hr => ?_)
  obtain ⟨rfl, e9⟩ := hr
  rw [e9]
  clear e9
  exact am_ireturn (ty := .int) dX0_winsOf_8 rfl rfl hT
set_option maxRecDepth 20000 in
theorem eX0_winsAtPlace {lay : List am_L} {d : Nat} {D : am_D} {Q : Option Value → am_D → Prop} {o : Nat} {v1 : Int32} (ho : isX0 lay o) (hT : am_AW lay (d + 1) mX0_winsAtPlace 4 [.ref o, .int v1, .int 0, .int 0, .null] [] D Q) : am_Met lay (d + 1) mX0_winsAtPlace [.ref o, .int v1] D Q := by
  refine am_enter (by decide +kernel) rfl (Nat.le_of_ble_eq_true rfl) ?_
  show am_AW lay (d + 1) mX0_winsAtPlace 0 [.ref o, .int v1, .null, .null, .null] [] D Q
  refine am_iconst (v := 0) dX0_winsAtPlace_0 (by decide) ?_
  refine am_set (am_istore_n dX0_winsAtPlace_1 (by decide)) (L1 := [.ref o, .int v1, .int 0, .null, .null]) rfl ?_
  refine am_iconst (v := 0) dX0_winsAtPlace_2 (by decide) ?_
  refine am_set (am_istore_n dX0_winsAtPlace_3 (by decide)) (L1 := [.ref o, .int v1, .int 0, .int 0, .null]) rfl ?_
  exact hT
set_option maxRecDepth 20000 in
theorem rX0_winsAtPlace_4 {lay : List am_L} {d : Nat} {D : am_D} {Q : Option Value → am_D → Prop} {o : Nat} {v1 : Int32} {v2 : Int32} {v3 : Int32} (ho : isX0 lay o) (hT : (((D o 0) ≤ v3 → Q (some (.int 0)) D) ∧
 (¬ ((D o 0) ≤ v3) → am_AW lay (d + 1) mX0_winsAtPlace 15 [.ref o, .int v1, .int v2, .int v3, .int 0] [] D Q))) : am_AW lay (d + 1) mX0_winsAtPlace 4 [.ref o, .int v1, .int v2, .int v3, .null] [] D Q := by
  refine am_iload_n (x := v3) dX0_winsAtPlace_4 rfl ?_
  refine am_aload_n (x := o) dX0_winsAtPlace_5 rfl ?_
  refine am_getI dX0_winsAtPlace_6 fw_X0_35 ho.1 rfl ?_
  refine am_icmp_ge (tgt := 61) dX0_winsAtPlace_9 (by decide) (fun h => ?_) (fun h => ?_)
  · replace hT := hT.1 h
    refine am_iconst (v := 0) dX0_winsAtPlace_61 (by decide) ?_
    exact am_ireturn (ty := .int) dX0_winsAtPlace_62 rfl rfl hT
  · replace hT := hT.2 h
    refine am_iconst (v := 0) dX0_winsAtPlace_12 (by decide) ?_
    refine am_set (am_istore dX0_winsAtPlace_13 (by decide)) (L1 := [.ref o, .int v1, .int v2, .int v3, .int 0]) rfl ?_
    exact hT
set_option maxRecDepth 20000 in
theorem rX0_winsAtPlace_15 {lay : List am_L} {d : Nat} {D : am_D} {Q : Option Value → am_D → Prop} {o : Nat} {v1 : Int32} {v2 : Int32} {v3 : Int32} {v4 : Int32} (ho : isX0 lay o) (hT : (((D o 0) ≤ v4 → ((v2 ≤ v1 → am_AW lay (d + 1) mX0_winsAtPlace 4 [.ref o, .int v1, .int v2, .int (v3 + 1), .null] [] D Q) ∧
 (¬ (v2 ≤ v1) → Q (some (.int v3)) D))) ∧
 (¬ ((D o 0) ≤ v4) → (∃ x1, am_MetP lay d mX0_winsOf [.ref o, .int v4] D x1 ∧
 ((¬ x1 = v3 → am_AW lay (d + 1) mX0_winsAtPlace 15 [.ref o, .int v1, .int (v2 + 0), .int v3, .int (v4 + 1)] [] D Q) ∧
 (¬ (¬ x1 = v3) → am_AW lay (d + 1) mX0_winsAtPlace 15 [.ref o, .int v1, .int (v2 + 1), .int v3, .int (v4 + 1)] [] D Q)))))) : am_AW lay (d + 1) mX0_winsAtPlace 15 [.ref o, .int v1, .int v2, .int v3, .int v4] [] D Q := by
  refine am_iload (x := v4) dX0_winsAtPlace_15 rfl ?_
  refine am_aload_n (x := o) dX0_winsAtPlace_17 rfl ?_
  refine am_getI dX0_winsAtPlace_18 fw_X0_35 ho.1 rfl ?_
  refine am_icmp_ge (tgt := 48) dX0_winsAtPlace_21 (by decide) (fun h => ?_) (fun h => ?_)
  · replace hT := hT.1 h
    refine am_iload_n (x := v2) dX0_winsAtPlace_48 rfl ?_
    refine am_iload_n (x := v1) dX0_winsAtPlace_49 rfl ?_
    refine am_icmp_le (tgt := 55) dX0_winsAtPlace_50 (by decide) (fun h => ?_) (fun h => ?_)
    · replace hT := hT.1 h
      refine am_set (am_iinc (x := v3) (c0 := 1) dX0_winsAtPlace_55 (by decide) rfl (by decide)) (L1 := [.ref o, .int v1, .int v2, .int (v3 + 1), .int v4]) rfl ?_
      refine am_goto (tgt := 4) dX0_winsAtPlace_58 (by decide) ?_
      refine am_drop [4] (L1 := [.ref o, .int v1, .int v2, .int (v3 + 1), .null]) rfl ?_
      exact hT
    · replace hT := hT.2 h
      refine am_iload_n (x := v3) dX0_winsAtPlace_53 rfl ?_
      exact am_ireturn (ty := .int) dX0_winsAtPlace_54 rfl rfl hT
  · replace hT := hT.2 h
    refine am_iload_n (x := v2) dX0_winsAtPlace_24 rfl ?_
    refine am_aload_n (x := o) dX0_winsAtPlace_25 rfl ?_
    refine am_iload (x := v4) dX0_winsAtPlace_26 rfl ?_
    obtain ⟨x1, hm, hT⟩ := hT
    refine am_callV (av := [.int v4]) (st := [.int v2]) (b := o) cw_X0_winsOf cl_X0_68 ck_X0_winsOf cs_X0_winsOf ho.1 rfl rfl (Nat.le_of_ble_eq_true rfl) dX0_winsAtPlace_28 hm (fun r D9 hr => ?_)
    obtain ⟨rfl, e9⟩ := hr
    rw [e9]
    clear e9
    refine am_iload_n (x := v3) dX0_winsAtPlace_31 rfl ?_
    refine am_icmp_ne (tgt := 39) dX0_winsAtPlace_32 (by decide) (fun h => ?_) (fun h => ?_)
    · replace hT := hT.1 h
      refine am_iconst (v := 0) dX0_winsAtPlace_39 (by decide) ?_
      refine am_iadd dX0_winsAtPlace_40 ?_
      refine am_set (am_istore_n dX0_winsAtPlace_41 (by decide)) (L1 := [.ref o, .int v1, .int (v2 + 0), .int v3, .int v4]) rfl ?_
      refine am_set (am_iinc (x := v4) (c0 := 1) dX0_winsAtPlace_42 (by decide) rfl (by decide)) (L1 := [.ref o, .int v1, .int (v2 + 0), .int v3, .int (v4 + 1)]) rfl ?_
      refine am_goto (tgt := 15) dX0_winsAtPlace_45 (by decide) ?_
      exact hT
    · replace hT := hT.2 h
      refine am_iconst (v := 1) dX0_winsAtPlace_35 (by decide) ?_
      refine am_goto (tgt := 40) dX0_winsAtPlace_36 (by decide) ?_
      refine am_iadd dX0_winsAtPlace_40 ?_
      refine am_set (am_istore_n dX0_winsAtPlace_41 (by decide)) (L1 := [.ref o, .int v1, .int (v2 + 1), .int v3, .int v4]) rfl ?_
      refine am_set (am_iinc (x := v4) (c0 := 1) dX0_winsAtPlace_42 (by decide) rfl (by decide)) (L1 := [.ref o, .int v1, .int (v2 + 1), .int v3, .int (v4 + 1)]) rfl ?_
      refine am_goto (tgt := 15) dX0_winsAtPlace_45 (by decide) ?_
      exact hT
set_option maxRecDepth 20000 in
theorem eX0_turn {lay : List am_L} {d : Nat} {D : am_D} {Q : Option Value → am_D → Prop} {o : Nat} {v1 : Int32} {v2 : Int32} (ho : isX0 lay o) (hT : (∃ x1, am_MetP lay d mX0_hasPair [.ref o, .int v1, .int v2] D x1 ∧
 ((x1 = 0 → Q none D) ∧
 (¬ (x1 = 0) → ((10 ≤ v1 → Q none D) ∧
 (¬ (10 ≤ v1) → ((v2 < 10 → (∀ D2, D2 = am_up D o 1 ((D o 1) + 1) →
 (vp_in v1 10 ∧ (∃ x3, am_MetP lay d mX10_only [.int v2] D2 x3 ∧
 (vp_in v1 10 ∧ ∀ D4, D4 = am_up D2 (o + 1) (Int32.toNatClampNeg v1) ((D2 (o + 1) (Int32.toNatClampNeg v1)) ^^^ x3) →
 (vp_in v2 10 ∧ (∃ x5, am_MetP lay d mX10_only [.int v1] D4 x5 ∧
 (vp_in v2 10 ∧ ∀ D6, D6 = am_up D4 (o + 1) (Int32.toNatClampNeg v2) ((D4 (o + 1) (Int32.toNatClampNeg v2)) ^^^ x5) →
 Q none D6)))))))) ∧
 (¬ (v2 < 10) → Q none D)))))))) : am_Met lay (d + 1) mX0_turn [.ref o, .int v1, .int v2] D Q := by
  refine am_enter (by decide +kernel) rfl (Nat.le_of_ble_eq_true rfl) ?_
  show am_AW lay (d + 1) mX0_turn 0 [.ref o, .int v1, .int v2] [] D Q
  refine am_aload_n (x := o) dX0_turn_0 rfl ?_
  refine am_iload_n (x := v1) dX0_turn_1 rfl ?_
  refine am_iload_n (x := v2) dX0_turn_2 rfl ?_
  obtain ⟨x1, hm, hT⟩ := hT
  refine am_callV (av := [.int v1, .int v2]) (st := []) (b := o) cw_X0_hasPair cl_X0_71 ck_X0_hasPair cs_X0_hasPair ho.1 rfl rfl (Nat.le_of_ble_eq_true rfl) dX0_turn_3 hm (fun r D9 hr => ?_)
  obtain ⟨rfl, e9⟩ := hr
  rw [e9]
  clear e9
  refine am_if_eq (tgt := 27) dX0_turn_6 (by decide) (fun h => ?_) (fun h => ?_)
  · replace hT := hT.1 h
    exact am_return dX0_turn_27 rfl hT
  · replace hT := hT.2 h
    refine am_iload_n (x := v1) dX0_turn_9 rfl ?_
    refine am_aload_n (x := o) dX0_turn_10 rfl ?_
    refine am_getR dX0_turn_11 fw_X0_9 ho.1 rfl ?_
    refine am_alen (v := 10) dX0_turn_14 ho.2.1 rfl (by decide) ?_
    refine am_icmp_ge (tgt := 27) dX0_turn_15 (by decide) (fun h => ?_) (fun h => ?_)
    · replace hT := hT.1 h
      exact am_return dX0_turn_27 rfl hT
    · replace hT := hT.2 h
      refine am_iload_n (x := v2) dX0_turn_18 rfl ?_
      refine am_aload_n (x := o) dX0_turn_19 rfl ?_
      refine am_getR dX0_turn_20 fw_X0_9 ho.1 rfl ?_
      refine am_alen (v := 10) dX0_turn_23 ho.2.1 rfl (by decide) ?_
      refine am_icmp_lt (tgt := 28) dX0_turn_24 (by decide) (fun h => ?_) (fun h => ?_)
      · replace hT := hT.1 h
        refine am_aload_n (x := o) dX0_turn_28 rfl ?_
        refine am_dup dX0_turn_29 rfl ?_
        refine am_getI dX0_turn_30 fw_X0_22 ho.1 rfl ?_
        refine am_iconst (v := 1) dX0_turn_33 (by decide) ?_
        refine am_iadd dX0_turn_34 ?_
        refine am_putI dX0_turn_35 fw_X0_22 fp_X0_1 ho.1 rfl ?_
        obtain ⟨D2, hD⟩ : ∃ z, z = am_up D o 1 ((D o 1) + 1) := ⟨_, rfl⟩
        rw [← hD]
        replace hT := hT D2 hD
        clear hD
        refine am_aload_n (x := o) dX0_turn_38 rfl ?_
        refine am_getR dX0_turn_39 fw_X0_9 ho.1 rfl ?_
        refine am_iload_n (x := v1) dX0_turn_42 rfl ?_
        refine am_dup2 dX0_turn_43 rfl rfl ?_
        refine am_iald dX0_turn_44 ho.2.1 hT.1 ?_
        replace hT := hT.2
        refine am_iload_n (x := v2) dX0_turn_45 rfl ?_
        obtain ⟨x3, hm, hT⟩ := hT
        refine am_callSN (av := [.int v2]) (st := [.int (D2 (o + 1) (Int32.toNatClampNeg v1)), .int v1, .ref (o + 1)]) cw_X10_only cl_X0_56 ck_X10_only (Nat.le_of_ble_eq_true rfl) dX0_turn_46 hm (fun r D9 hr => ?_)
        obtain ⟨rfl, e9⟩ := hr
        rw [e9]
        clear e9
        refine am_ixor dX0_turn_49 ?_
        refine am_iast dX0_turn_50 ho.2.1 hT.1 ?_
        obtain ⟨D4, hD⟩ : ∃ z, z = am_up D2 (o + 1) (Int32.toNatClampNeg v1) ((D2 (o + 1) (Int32.toNatClampNeg v1)) ^^^ x3) := ⟨_, rfl⟩
        rw [← hD]
        replace hT := hT.2 D4 hD
        clear hD
        refine am_aload_n (x := o) dX0_turn_51 rfl ?_
        refine am_getR dX0_turn_52 fw_X0_9 ho.1 rfl ?_
        refine am_iload_n (x := v2) dX0_turn_55 rfl ?_
        refine am_dup2 dX0_turn_56 rfl rfl ?_
        refine am_iald dX0_turn_57 ho.2.1 hT.1 ?_
        replace hT := hT.2
        refine am_iload_n (x := v1) dX0_turn_58 rfl ?_
        obtain ⟨x5, hm, hT⟩ := hT
        refine am_callSN (av := [.int v1]) (st := [.int (D4 (o + 1) (Int32.toNatClampNeg v2)), .int v2, .ref (o + 1)]) cw_X10_only cl_X0_56 ck_X10_only (Nat.le_of_ble_eq_true rfl) dX0_turn_59 hm (fun r D9 hr => ?_)
        obtain ⟨rfl, e9⟩ := hr
        rw [e9]
        clear e9
        refine am_ixor dX0_turn_62 ?_
        refine am_iast dX0_turn_63 ho.2.1 hT.1 ?_
        obtain ⟨D6, hD⟩ : ∃ z, z = am_up D4 (o + 1) (Int32.toNatClampNeg v2) ((D4 (o + 1) (Int32.toNatClampNeg v2)) ^^^ x5) := ⟨_, rfl⟩
        rw [← hD]
        replace hT := hT.2 D6 hD
        clear hD
        exact am_return dX0_turn_64 rfl hT
      · replace hT := hT.2 h
        exact am_return dX0_turn_27 rfl hT
set_option maxRecDepth 20000 in
theorem eX0_setWinner {lay : List am_L} {d : Nat} {D : am_D} {Q : Option Value → am_D → Prop} {o : Nat} {v1 : Int32} {v2 : Int32} (ho : isX0 lay o) (hT : (∃ x1, am_MetP lay d mX0_wins [.ref o, .int v1, .int v2] D x1 ∧
 ((¬ x1 = 0 → Q none D) ∧
 (¬ (¬ x1 = 0) → (∃ D2, am_MetV lay d mX0_turn [.ref o, .int v1, .int v2] D D2 ∧
 Q none D2))))) : am_Met lay (d + 1) mX0_setWinner [.ref o, .int v1, .int v2] D Q := by
  refine am_enter (by decide +kernel) rfl (Nat.le_of_ble_eq_true rfl) ?_
  show am_AW lay (d + 1) mX0_setWinner 0 [.ref o, .int v1, .int v2] [] D Q
  refine am_aload_n (x := o) dX0_setWinner_0 rfl ?_
  refine am_iload_n (x := v1) dX0_setWinner_1 rfl ?_
  refine am_iload_n (x := v2) dX0_setWinner_2 rfl ?_
  obtain ⟨x1, hm, hT⟩ := hT
  refine am_callV (av := [.int v1, .int v2]) (st := []) (b := o) cw_X0_wins cl_X0_74 ck_X0_wins cs_X0_wins ho.1 rfl rfl (Nat.le_of_ble_eq_true rfl) dX0_setWinner_3 hm (fun r D9 hr => ?_)
  obtain ⟨rfl, e9⟩ := hr
  rw [e9]
  clear e9
  refine am_if_ne (tgt := 15) dX0_setWinner_6 (by decide) (fun h => ?_) (fun h => ?_)
  · replace hT := hT.1 h
    exact am_return dX0_setWinner_15 rfl hT
  · replace hT := hT.2 h
    refine am_aload_n (x := o) dX0_setWinner_9 rfl ?_
    refine am_iload_n (x := v1) dX0_setWinner_10 rfl ?_
    refine am_iload_n (x := v2) dX0_setWinner_11 rfl ?_
    obtain ⟨D2, hm, hT⟩ := hT
    refine am_callV (av := [.int v1, .int v2]) (st := []) (b := o) cw_X0_turn cl_X0_77 ck_X0_turn cs_X0_turn ho.1 rfl rfl (Nat.le_of_ble_eq_true rfl) dX0_setWinner_12 hm (fun r D9 hr => ?_)
    obtain ⟨rfl, e9⟩ := hr
    rw [e9]
    clear e9
    exact am_return dX0_setWinner_15 rfl hT
set_option maxRecDepth 20000 in
theorem eX0_weightOf {lay : List am_L} {d : Nat} {D : am_D} {Q : Option Value → am_D → Prop} {o : Nat} {v1 : Int32} {v2 : Int32} (ho : isX0 lay o) (hT : (∃ x1, am_MetP lay d mX0_has [.ref o, .int v1] D x1 ∧
 ((x1 = 0 → Q (some (.int 0)) D) ∧
 (¬ (x1 = 0) → (∃ x2, am_MetP lay d mX0_has [.ref o, .int v2] D x2 ∧
 ((x2 = 0 → Q (some (.int 0)) D) ∧
 (¬ (x2 = 0) → ((((v1 * 10) + v2) < 0 → Q (some (.int 0)) D) ∧
 (¬ (((v1 * 10) + v2) < 0) → ((100 ≤ ((v1 * 10) + v2) → Q (some (.int 0)) D) ∧
 (¬ (100 ≤ ((v1 * 10) + v2)) → (vp_in ((v1 * 10) + v2) 100 ∧ Q (some (.int (D (o + 2) (Int32.toNatClampNeg ((v1 * 10) + v2))))) D)))))))))))) : am_Met lay (d + 1) mX0_weightOf [.ref o, .int v1, .int v2] D Q := by
  refine am_enter (by decide +kernel) rfl (Nat.le_of_ble_eq_true rfl) ?_
  show am_AW lay (d + 1) mX0_weightOf 0 [.ref o, .int v1, .int v2, .null] [] D Q
  refine am_iload_n (x := v1) dX0_weightOf_0 rfl ?_
  refine am_bipush (v := 10) dX0_weightOf_1 (by decide) ?_
  refine am_imul dX0_weightOf_3 ?_
  refine am_iload_n (x := v2) dX0_weightOf_4 rfl ?_
  refine am_iadd dX0_weightOf_5 ?_
  refine am_set (am_istore_n dX0_weightOf_6 (by decide)) (L1 := [.ref o, .int v1, .int v2, .int ((v1 * 10) + v2)]) rfl ?_
  refine am_aload_n (x := o) dX0_weightOf_7 rfl ?_
  refine am_iload_n (x := v1) dX0_weightOf_8 rfl ?_
  obtain ⟨x1, hm, hT⟩ := hT
  refine am_callV (av := [.int v1]) (st := []) (b := o) cw_X0_has cl_X0_44 ck_X0_has cs_X0_has ho.1 rfl rfl (Nat.le_of_ble_eq_true rfl) dX0_weightOf_9 hm (fun r D9 hr => ?_)
  obtain ⟨rfl, e9⟩ := hr
  rw [e9]
  clear e9
  refine am_if_eq (tgt := 45) dX0_weightOf_12 (by decide) (fun h => ?_) (fun h => ?_)
  · replace hT := hT.1 h
    refine am_iconst (v := 0) dX0_weightOf_45 (by decide) ?_
    exact am_ireturn (ty := .int) dX0_weightOf_46 rfl rfl hT
  · replace hT := hT.2 h
    refine am_aload_n (x := o) dX0_weightOf_15 rfl ?_
    refine am_iload_n (x := v2) dX0_weightOf_16 rfl ?_
    obtain ⟨x2, hm, hT⟩ := hT
    refine am_callV (av := [.int v2]) (st := []) (b := o) cw_X0_has cl_X0_44 ck_X0_has cs_X0_has ho.1 rfl rfl (Nat.le_of_ble_eq_true rfl) dX0_weightOf_17 hm (fun r D9 hr => ?_)
    obtain ⟨rfl, e9⟩ := hr
    rw [e9]
    clear e9
    refine am_if_eq (tgt := 45) dX0_weightOf_20 (by decide) (fun h => ?_) (fun h => ?_)
    · replace hT := hT.1 h
      refine am_iconst (v := 0) dX0_weightOf_45 (by decide) ?_
      exact am_ireturn (ty := .int) dX0_weightOf_46 rfl rfl hT
    · replace hT := hT.2 h
      refine am_iload_n (x := ((v1 * 10) + v2)) dX0_weightOf_23 rfl ?_
      refine am_if_lt (tgt := 45) dX0_weightOf_24 (by decide) (fun h => ?_) (fun h => ?_)
      · replace hT := hT.1 h
        refine am_iconst (v := 0) dX0_weightOf_45 (by decide) ?_
        exact am_ireturn (ty := .int) dX0_weightOf_46 rfl rfl hT
      · replace hT := hT.2 h
        refine am_iload_n (x := ((v1 * 10) + v2)) dX0_weightOf_27 rfl ?_
        refine am_aload_n (x := o) dX0_weightOf_28 rfl ?_
        refine am_getR dX0_weightOf_29 fw_X0_15 ho.1 rfl ?_
        refine am_alen (v := 100) dX0_weightOf_32 ho.2.2 rfl (by decide) ?_
        refine am_icmp_ge (tgt := 45) dX0_weightOf_33 (by decide) (fun h => ?_) (fun h => ?_)
        · replace hT := hT.1 h
          refine am_iconst (v := 0) dX0_weightOf_45 (by decide) ?_
          exact am_ireturn (ty := .int) dX0_weightOf_46 rfl rfl hT
        · replace hT := hT.2 h
          refine am_aload_n (x := o) dX0_weightOf_36 rfl ?_
          refine am_getR dX0_weightOf_37 fw_X0_15 ho.1 rfl ?_
          refine am_iload_n (x := ((v1 * 10) + v2)) dX0_weightOf_40 rfl ?_
          refine am_iald dX0_weightOf_41 ho.2.2 hT.1 ?_
          replace hT := hT.2
          refine am_goto (tgt := 46) dX0_weightOf_42 (by decide) ?_
          exact am_ireturn (ty := .int) dX0_weightOf_46 rfl rfl hT
set_option maxRecDepth 20000 in
theorem eX0_putWeight {lay : List am_L} {d : Nat} {D : am_D} {Q : Option Value → am_D → Prop} {o : Nat} {v1 : Int32} {v2 : Int32} {v3 : Int32} (ho : isX0 lay o) (hT : (∃ x1, am_MetP lay d mX0_hasPair [.ref o, .int v1, .int v2] D x1 ∧
 ((x1 = 0 → Q none D) ∧
 (¬ (x1 = 0) → (((if ((v2 * 10) + v1) < ((v1 * 10) + v2) then ((v2 * 10) + v1) else ((v1 * 10) + v2)) < 0 → Q none D) ∧
 (¬ ((if ((v2 * 10) + v1) < ((v1 * 10) + v2) then ((v2 * 10) + v1) else ((v1 * 10) + v2)) < 0) → (((if ((v1 * 10) + v2) < ((v2 * 10) + v1) then ((v2 * 10) + v1) else ((v1 * 10) + v2)) < 100 → (∀ D2, D2 = am_up D o 1 ((D o 1) + 1) →
 (vp_in ((v1 * 10) + v2) 100 ∧ ∀ D3, D3 = am_up D2 (o + 2) (Int32.toNatClampNeg ((v1 * 10) + v2)) v3 →
 (vp_in ((v2 * 10) + v1) 100 ∧ ∀ D4, D4 = am_up D3 (o + 2) (Int32.toNatClampNeg ((v2 * 10) + v1)) v3 →
 Q none D4)))) ∧
 (¬ ((if ((v1 * 10) + v2) < ((v2 * 10) + v1) then ((v2 * 10) + v1) else ((v1 * 10) + v2)) < 100) → Q none D)))))))) : am_Met lay (d + 1) mX0_putWeight [.ref o, .int v1, .int v2, .int v3] D Q := by
  refine am_enter (by decide +kernel) rfl (Nat.le_of_ble_eq_true rfl) ?_
  show am_AW lay (d + 1) mX0_putWeight 0 [.ref o, .int v1, .int v2, .int v3, .null, .null] [] D Q
  refine am_iload_n (x := v1) dX0_putWeight_0 rfl ?_
  refine am_bipush (v := 10) dX0_putWeight_1 (by decide) ?_
  refine am_imul dX0_putWeight_3 ?_
  refine am_iload_n (x := v2) dX0_putWeight_4 rfl ?_
  refine am_iadd dX0_putWeight_5 ?_
  refine am_set (am_istore dX0_putWeight_6 (by decide)) (L1 := [.ref o, .int v1, .int v2, .int v3, .int ((v1 * 10) + v2), .null]) rfl ?_
  refine am_iload_n (x := v2) dX0_putWeight_8 rfl ?_
  refine am_bipush (v := 10) dX0_putWeight_9 (by decide) ?_
  refine am_imul dX0_putWeight_11 ?_
  refine am_iload_n (x := v1) dX0_putWeight_12 rfl ?_
  refine am_iadd dX0_putWeight_13 ?_
  refine am_set (am_istore dX0_putWeight_14 (by decide)) (L1 := [.ref o, .int v1, .int v2, .int v3, .int ((v1 * 10) + v2), .int ((v2 * 10) + v1)]) rfl ?_
  refine am_aload_n (x := o) dX0_putWeight_16 rfl ?_
  refine am_iload_n (x := v1) dX0_putWeight_17 rfl ?_
  refine am_iload_n (x := v2) dX0_putWeight_18 rfl ?_
  obtain ⟨x1, hm, hT⟩ := hT
  refine am_callV (av := [.int v1, .int v2]) (st := []) (b := o) cw_X0_hasPair cl_X0_71 ck_X0_hasPair cs_X0_hasPair ho.1 rfl rfl (Nat.le_of_ble_eq_true rfl) dX0_putWeight_19 hm (fun r D9 hr => ?_)
  obtain ⟨rfl, e9⟩ := hr
  rw [e9]
  clear e9
  refine am_if_eq (tgt := 50) dX0_putWeight_22 (by decide) (fun h => ?_) (fun h => ?_)
  · replace hT := hT.1 h
    exact am_return dX0_putWeight_50 rfl hT
  · replace hT := hT.2 h
    refine am_iload (x := ((v1 * 10) + v2)) dX0_putWeight_25 rfl ?_
    refine am_iload (x := ((v2 * 10) + v1)) dX0_putWeight_27 rfl ?_
    refine am_min dX0_putWeight_29 cl_X0_26 (Nat.le_of_ble_eq_true rfl) ?_
    refine am_if_lt (tgt := 50) dX0_putWeight_32 (by decide) (fun h => ?_) (fun h => ?_)
    · replace hT := hT.1 h
      exact am_return dX0_putWeight_50 rfl hT
    · replace hT := hT.2 h
      refine am_iload (x := ((v1 * 10) + v2)) dX0_putWeight_35 rfl ?_
      refine am_iload (x := ((v2 * 10) + v1)) dX0_putWeight_37 rfl ?_
      refine am_max dX0_putWeight_39 cl_X0_32 (Nat.le_of_ble_eq_true rfl) ?_
      refine am_aload_n (x := o) dX0_putWeight_42 rfl ?_
      refine am_getR dX0_putWeight_43 fw_X0_15 ho.1 rfl ?_
      refine am_alen (v := 100) dX0_putWeight_46 ho.2.2 rfl (by decide) ?_
      refine am_icmp_lt (tgt := 51) dX0_putWeight_47 (by decide) (fun h => ?_) (fun h => ?_)
      · replace hT := hT.1 h
        refine am_aload_n (x := o) dX0_putWeight_51 rfl ?_
        refine am_dup dX0_putWeight_52 rfl ?_
        refine am_getI dX0_putWeight_53 fw_X0_22 ho.1 rfl ?_
        refine am_iconst (v := 1) dX0_putWeight_56 (by decide) ?_
        refine am_iadd dX0_putWeight_57 ?_
        refine am_putI dX0_putWeight_58 fw_X0_22 fp_X0_1 ho.1 rfl ?_
        obtain ⟨D2, hD⟩ : ∃ z, z = am_up D o 1 ((D o 1) + 1) := ⟨_, rfl⟩
        rw [← hD]
        replace hT := hT D2 hD
        clear hD
        refine am_aload_n (x := o) dX0_putWeight_61 rfl ?_
        refine am_getR dX0_putWeight_62 fw_X0_15 ho.1 rfl ?_
        refine am_iload (x := ((v1 * 10) + v2)) dX0_putWeight_65 rfl ?_
        refine am_iload_n (x := v3) dX0_putWeight_67 rfl ?_
        refine am_iast dX0_putWeight_68 ho.2.2 hT.1 ?_
        obtain ⟨D3, hD⟩ : ∃ z, z = am_up D2 (o + 2) (Int32.toNatClampNeg ((v1 * 10) + v2)) v3 := ⟨_, rfl⟩
        rw [← hD]
        replace hT := hT.2 D3 hD
        clear hD
        refine am_aload_n (x := o) dX0_putWeight_69 rfl ?_
        refine am_getR dX0_putWeight_70 fw_X0_15 ho.1 rfl ?_
        refine am_iload (x := ((v2 * 10) + v1)) dX0_putWeight_73 rfl ?_
        refine am_iload_n (x := v3) dX0_putWeight_75 rfl ?_
        refine am_iast dX0_putWeight_76 ho.2.2 hT.1 ?_
        obtain ⟨D4, hD⟩ : ∃ z, z = am_up D3 (o + 2) (Int32.toNatClampNeg ((v2 * 10) + v1)) v3 := ⟨_, rfl⟩
        rw [← hD]
        replace hT := hT.2 D4 hD
        clear hD
        exact am_return dX0_putWeight_77 rfl hT
      · replace hT := hT.2 h
        exact am_return dX0_putWeight_50 rfl hT
set_option maxRecDepth 20000 in
theorem eX0_swap {lay : List am_L} {d : Nat} {D : am_D} {Q : Option Value → am_D → Prop} {o : Nat} {v1 : Int32} {v2 : Int32} (ho : isX0 lay o) (hT : am_AW lay (d + 1) mX0_swap 2 [.ref o, .int v1, .int v2, .int 0] [] D Q) : am_Met lay (d + 1) mX0_swap [.ref o, .int v1, .int v2] D Q := by
  refine am_enter (by decide +kernel) rfl (Nat.le_of_ble_eq_true rfl) ?_
  show am_AW lay (d + 1) mX0_swap 0 [.ref o, .int v1, .int v2, .null] [] D Q
  refine am_iconst (v := 0) dX0_swap_0 (by decide) ?_
  refine am_set (am_istore_n dX0_swap_1 (by decide)) (L1 := [.ref o, .int v1, .int v2, .int 0]) rfl ?_
  exact hT
set_option maxRecDepth 20000 in
theorem rX0_swap_2 {lay : List am_L} {d : Nat} {D : am_D} {Q : Option Value → am_D → Prop} {o : Nat} {v1 : Int32} {v2 : Int32} {v3 : Int32} (ho : isX0 lay o) (hT : (((D o 0) ≤ v3 → (∃ D1, am_MetV lay d mX0_turn [.ref o, .int v1, .int v2] D D1 ∧
 Q none D1)) ∧
 (¬ ((D o 0) ≤ v3) → (∃ x2, am_MetP lay d mX0_hasPair [.ref o, .int v1, .int v3] D x2 ∧
 ((x2 = 0 → am_AW lay (d + 1) mX0_swap 2 [.ref o, .int v1, .int v2, .int (v3 + 1)] [] D Q) ∧
 (¬ (x2 = 0) → (∃ x3, am_MetP lay d mX0_hasPair [.ref o, .int v2, .int v3] D x3 ∧
 ((x3 = 0 → am_AW lay (d + 1) mX0_swap 2 [.ref o, .int v1, .int v2, .int (v3 + 1)] [] D Q) ∧
 (¬ (x3 = 0) → (∃ D4, am_MetV lay d mX0_swapAgainst [.ref o, .int v1, .int v2, .int v3] D D4 ∧
 am_AW lay (d + 1) mX0_swap 2 [.ref o, .int v1, .int v2, .int (v3 + 1)] [] D4 Q)))))))))) : am_AW lay (d + 1) mX0_swap 2 [.ref o, .int v1, .int v2, .int v3] [] D Q := by
  refine am_iload_n (x := v3) dX0_swap_2 rfl ?_
  refine am_aload_n (x := o) dX0_swap_3 rfl ?_
  refine am_getI dX0_swap_4 fw_X0_35 ho.1 rfl ?_
  refine am_icmp_ge (tgt := 41) dX0_swap_7 (by decide) (fun h => ?_) (fun h => ?_)
  · replace hT := hT.1 h
    refine am_aload_n (x := o) dX0_swap_41 rfl ?_
    refine am_iload_n (x := v1) dX0_swap_42 rfl ?_
    refine am_iload_n (x := v2) dX0_swap_43 rfl ?_
    obtain ⟨D1, hm, hT⟩ := hT
    refine am_callV (av := [.int v1, .int v2]) (st := []) (b := o) cw_X0_turn cl_X0_77 ck_X0_turn cs_X0_turn ho.1 rfl rfl (Nat.le_of_ble_eq_true rfl) dX0_swap_44 hm (fun r D9 hr => ?_)
    obtain ⟨rfl, e9⟩ := hr
    rw [e9]
    clear e9
    exact am_return dX0_swap_47 rfl hT
  · replace hT := hT.2 h
    refine am_aload_n (x := o) dX0_swap_10 rfl ?_
    refine am_iload_n (x := v1) dX0_swap_11 rfl ?_
    refine am_iload_n (x := v3) dX0_swap_12 rfl ?_
    obtain ⟨x2, hm, hT⟩ := hT
    refine am_callV (av := [.int v1, .int v3]) (st := []) (b := o) cw_X0_hasPair cl_X0_71 ck_X0_hasPair cs_X0_hasPair ho.1 rfl rfl (Nat.le_of_ble_eq_true rfl) dX0_swap_13 hm (fun r D9 hr => ?_)
    obtain ⟨rfl, e9⟩ := hr
    rw [e9]
    clear e9
    refine am_if_eq (tgt := 35) dX0_swap_16 (by decide) (fun h => ?_) (fun h => ?_)
    · replace hT := hT.1 h
      refine am_set (am_iinc (x := v3) (c0 := 1) dX0_swap_35 (by decide) rfl (by decide)) (L1 := [.ref o, .int v1, .int v2, .int (v3 + 1)]) rfl ?_
      refine am_goto (tgt := 2) dX0_swap_38 (by decide) ?_
      exact hT
    · replace hT := hT.2 h
      refine am_aload_n (x := o) dX0_swap_19 rfl ?_
      refine am_iload_n (x := v2) dX0_swap_20 rfl ?_
      refine am_iload_n (x := v3) dX0_swap_21 rfl ?_
      obtain ⟨x3, hm, hT⟩ := hT
      refine am_callV (av := [.int v2, .int v3]) (st := []) (b := o) cw_X0_hasPair cl_X0_71 ck_X0_hasPair cs_X0_hasPair ho.1 rfl rfl (Nat.le_of_ble_eq_true rfl) dX0_swap_22 hm (fun r D9 hr => ?_)
      obtain ⟨rfl, e9⟩ := hr
      rw [e9]
      clear e9
      refine am_if_eq (tgt := 35) dX0_swap_25 (by decide) (fun h => ?_) (fun h => ?_)
      · replace hT := hT.1 h
        refine am_set (am_iinc (x := v3) (c0 := 1) dX0_swap_35 (by decide) rfl (by decide)) (L1 := [.ref o, .int v1, .int v2, .int (v3 + 1)]) rfl ?_
        refine am_goto (tgt := 2) dX0_swap_38 (by decide) ?_
        exact hT
      · replace hT := hT.2 h
        refine am_aload_n (x := o) dX0_swap_28 rfl ?_
        refine am_iload_n (x := v1) dX0_swap_29 rfl ?_
        refine am_iload_n (x := v2) dX0_swap_30 rfl ?_
        refine am_iload_n (x := v3) dX0_swap_31 rfl ?_
        obtain ⟨D4, hm, hT⟩ := hT
        refine am_callV (av := [.int v1, .int v2, .int v3]) (st := []) (b := o) cw_X0_swapAgainst cl_X0_81 ck_X0_swapAgainst cs_X0_swapAgainst ho.1 rfl rfl (Nat.le_of_ble_eq_true rfl) dX0_swap_32 hm (fun r D9 hr => ?_)
        obtain ⟨rfl, e9⟩ := hr
        rw [e9]
        clear e9
        refine am_set (am_iinc (x := v3) (c0 := 1) dX0_swap_35 (by decide) rfl (by decide)) (L1 := [.ref o, .int v1, .int v2, .int (v3 + 1)]) rfl ?_
        refine am_goto (tgt := 2) dX0_swap_38 (by decide) ?_
        exact hT
set_option maxRecDepth 20000 in
theorem eX0_swapAgainst {lay : List am_L} {d : Nat} {D : am_D} {Q : Option Value → am_D → Prop} {o : Nat} {v1 : Int32} {v2 : Int32} {v3 : Int32} (ho : isX0 lay o) (hT : (∃ x1, am_MetP lay d mX0_weightOf [.ref o, .int v1, .int v3] D x1 ∧
 (∃ x2, am_MetP lay d mX0_weightOf [.ref o, .int v2, .int v3] D x2 ∧
 (∃ D3, am_MetV lay d mX0_putWeight [.ref o, .int v1, .int v3, .int x2] D D3 ∧
 (∃ D4, am_MetV lay d mX0_putWeight [.ref o, .int v2, .int v3, .int x1] D3 D4 ∧
 (∃ x5, am_MetP lay d mX0_wins [.ref o, .int v1, .int v3] D4 x5 ∧
 (∃ x6, am_MetP lay d mX0_wins [.ref o, .int v2, .int v3] D4 x6 ∧
 ((x5 = x6 → Q none D4) ∧
 (¬ (x5 = x6) → (∃ D7, am_MetV lay d mX0_turn [.ref o, .int v1, .int v3] D4 D7 ∧
 (∃ D8, am_MetV lay d mX0_turn [.ref o, .int v2, .int v3] D7 D8 ∧
 Q none D8))))))))))) : am_Met lay (d + 1) mX0_swapAgainst [.ref o, .int v1, .int v2, .int v3] D Q := by
  refine am_enter (by decide +kernel) rfl (Nat.le_of_ble_eq_true rfl) ?_
  show am_AW lay (d + 1) mX0_swapAgainst 0 [.ref o, .int v1, .int v2, .int v3, .null] [] D Q
  refine am_aload_n (x := o) dX0_swapAgainst_0 rfl ?_
  refine am_iload_n (x := v1) dX0_swapAgainst_1 rfl ?_
  refine am_iload_n (x := v3) dX0_swapAgainst_2 rfl ?_
  obtain ⟨x1, hm, hT⟩ := hT
  refine am_callV (av := [.int v1, .int v3]) (st := []) (b := o) cw_X0_weightOf cl_X0_85 ck_X0_weightOf cs_X0_weightOf ho.1 rfl rfl (Nat.le_of_ble_eq_true rfl) dX0_swapAgainst_3 hm (fun r D9 hr => ?_)
  obtain ⟨rfl, e9⟩ := hr
  rw [e9]
  clear e9
  refine am_set (am_istore dX0_swapAgainst_6 (by decide)) (L1 := [.ref o, .int v1, .int v2, .int v3, .int x1]) rfl ?_
  refine am_aload_n (x := o) dX0_swapAgainst_8 rfl ?_
  refine am_iload_n (x := v1) dX0_swapAgainst_9 rfl ?_
  refine am_iload_n (x := v3) dX0_swapAgainst_10 rfl ?_
  refine am_aload_n (x := o) dX0_swapAgainst_11 rfl ?_
  refine am_iload_n (x := v2) dX0_swapAgainst_12 rfl ?_
  refine am_iload_n (x := v3) dX0_swapAgainst_13 rfl ?_
  obtain ⟨x2, hm, hT⟩ := hT
  refine am_callV (av := [.int v2, .int v3]) (st := [.int v3, .int v1, .ref o]) (b := o) cw_X0_weightOf cl_X0_85 ck_X0_weightOf cs_X0_weightOf ho.1 rfl rfl (Nat.le_of_ble_eq_true rfl) dX0_swapAgainst_14 hm (fun r D9 hr => ?_)
  obtain ⟨rfl, e9⟩ := hr
  rw [e9]
  clear e9
  obtain ⟨D3, hm, hT⟩ := hT
  refine am_callV (av := [.int v1, .int v3, .int x2]) (st := []) (b := o) cw_X0_putWeight cl_X0_88 ck_X0_putWeight cs_X0_putWeight ho.1 rfl rfl (Nat.le_of_ble_eq_true rfl) dX0_swapAgainst_17 hm (fun r D9 hr => ?_)
  obtain ⟨rfl, e9⟩ := hr
  rw [e9]
  clear e9
  refine am_aload_n (x := o) dX0_swapAgainst_20 rfl ?_
  refine am_iload_n (x := v2) dX0_swapAgainst_21 rfl ?_
  refine am_iload_n (x := v3) dX0_swapAgainst_22 rfl ?_
  refine am_iload (x := x1) dX0_swapAgainst_23 rfl ?_
  obtain ⟨D4, hm, hT⟩ := hT
  refine am_callV (av := [.int v2, .int v3, .int x1]) (st := []) (b := o) cw_X0_putWeight cl_X0_88 ck_X0_putWeight cs_X0_putWeight ho.1 rfl rfl (Nat.le_of_ble_eq_true rfl) dX0_swapAgainst_25 hm (fun r D9 hr => ?_)
  obtain ⟨rfl, e9⟩ := hr
  rw [e9]
  clear e9
  refine am_aload_n (x := o) dX0_swapAgainst_28 rfl ?_
  refine am_iload_n (x := v1) dX0_swapAgainst_29 rfl ?_
  refine am_iload_n (x := v3) dX0_swapAgainst_30 rfl ?_
  obtain ⟨x5, hm, hT⟩ := hT
  refine am_callV (av := [.int v1, .int v3]) (st := []) (b := o) cw_X0_wins cl_X0_74 ck_X0_wins cs_X0_wins ho.1 rfl rfl (Nat.le_of_ble_eq_true rfl) dX0_swapAgainst_31 hm (fun r D9 hr => ?_)
  obtain ⟨rfl, e9⟩ := hr
  rw [e9]
  clear e9
  refine am_aload_n (x := o) dX0_swapAgainst_34 rfl ?_
  refine am_iload_n (x := v2) dX0_swapAgainst_35 rfl ?_
  refine am_iload_n (x := v3) dX0_swapAgainst_36 rfl ?_
  obtain ⟨x6, hm, hT⟩ := hT
  refine am_callV (av := [.int v2, .int v3]) (st := [.int x5]) (b := o) cw_X0_wins cl_X0_74 ck_X0_wins cs_X0_wins ho.1 rfl rfl (Nat.le_of_ble_eq_true rfl) dX0_swapAgainst_37 hm (fun r D9 hr => ?_)
  obtain ⟨rfl, e9⟩ := hr
  rw [e9]
  clear e9
  refine am_icmp_eq (tgt := 55) dX0_swapAgainst_40 (by decide) (fun h => ?_) (fun h => ?_)
  · replace hT := hT.1 h
    exact am_return dX0_swapAgainst_55 rfl hT
  · replace hT := hT.2 h
    refine am_aload_n (x := o) dX0_swapAgainst_43 rfl ?_
    refine am_iload_n (x := v1) dX0_swapAgainst_44 rfl ?_
    refine am_iload_n (x := v3) dX0_swapAgainst_45 rfl ?_
    obtain ⟨D7, hm, hT⟩ := hT
    refine am_callV (av := [.int v1, .int v3]) (st := []) (b := o) cw_X0_turn cl_X0_77 ck_X0_turn cs_X0_turn ho.1 rfl rfl (Nat.le_of_ble_eq_true rfl) dX0_swapAgainst_46 hm (fun r D9 hr => ?_)
    obtain ⟨rfl, e9⟩ := hr
    rw [e9]
    clear e9
    refine am_aload_n (x := o) dX0_swapAgainst_49 rfl ?_
    refine am_iload_n (x := v2) dX0_swapAgainst_50 rfl ?_
    refine am_iload_n (x := v3) dX0_swapAgainst_51 rfl ?_
    obtain ⟨D8, hm, hT⟩ := hT
    refine am_callV (av := [.int v2, .int v3]) (st := []) (b := o) cw_X0_turn cl_X0_77 ck_X0_turn cs_X0_turn ho.1 rfl rfl (Nat.le_of_ble_eq_true rfl) dX0_swapAgainst_52 hm (fun r D9 hr => ?_)
    obtain ⟨rfl, e9⟩ := hr
    rw [e9]
    clear e9
    exact am_return dX0_swapAgainst_55 rfl hT
set_option maxRecDepth 20000 in
theorem eX0_isTriangle {lay : List am_L} {d : Nat} {D : am_D} {Q : Option Value → am_D → Prop} {o : Nat} {v1 : Int32} {v2 : Int32} {v3 : Int32} (ho : isX0 lay o) (hT : (∃ x1, am_MetP lay d mX0_wins [.ref o, .int v1, .int v2] D x1 ∧
 (∃ x2, am_MetP lay d mX0_wins [.ref o, .int v2, .int v3] D x2 ∧
 ((¬ x1 = x2 → Q (some (.int 0)) D) ∧
 (¬ (¬ x1 = x2) → (∃ x3, am_MetP lay d mX0_wins [.ref o, .int v2, .int v3] D x3 ∧
 (∃ x4, am_MetP lay d mX0_wins [.ref o, .int v3, .int v1] D x4 ∧
 ((¬ x3 = x4 → Q (some (.int 0)) D) ∧
 (¬ (¬ x3 = x4) → Q (some (.int 1)) D))))))))) : am_Met lay (d + 1) mX0_isTriangle [.ref o, .int v1, .int v2, .int v3] D Q := by
  refine am_enter (by decide +kernel) rfl (Nat.le_of_ble_eq_true rfl) ?_
  show am_AW lay (d + 1) mX0_isTriangle 0 [.ref o, .int v1, .int v2, .int v3] [] D Q
  refine am_aload_n (x := o) dX0_isTriangle_0 rfl ?_
  refine am_iload_n (x := v1) dX0_isTriangle_1 rfl ?_
  refine am_iload_n (x := v2) dX0_isTriangle_2 rfl ?_
  obtain ⟨x1, hm, hT⟩ := hT
  refine am_callV (av := [.int v1, .int v2]) (st := []) (b := o) cw_X0_wins cl_X0_74 ck_X0_wins cs_X0_wins ho.1 rfl rfl (Nat.le_of_ble_eq_true rfl) dX0_isTriangle_3 hm (fun r D9 hr => ?_)
  obtain ⟨rfl, e9⟩ := hr
  rw [e9]
  clear e9
  refine am_aload_n (x := o) dX0_isTriangle_6 rfl ?_
  refine am_iload_n (x := v2) dX0_isTriangle_7 rfl ?_
  refine am_iload_n (x := v3) dX0_isTriangle_8 rfl ?_
  obtain ⟨x2, hm, hT⟩ := hT
  refine am_callV (av := [.int v2, .int v3]) (st := [.int x1]) (b := o) cw_X0_wins cl_X0_74 ck_X0_wins cs_X0_wins ho.1 rfl rfl (Nat.le_of_ble_eq_true rfl) dX0_isTriangle_9 hm (fun r D9 hr => ?_)
  obtain ⟨rfl, e9⟩ := hr
  rw [e9]
  clear e9
  refine am_icmp_ne (tgt := 34) dX0_isTriangle_12 (by decide) (fun h => ?_) (fun h => ?_)
  · replace hT := hT.1 h
    refine am_iconst (v := 0) dX0_isTriangle_34 (by decide) ?_
    exact am_ireturn (ty := .boolean) dX0_isTriangle_35 rfl (by decide) hT
  · replace hT := hT.2 h
    refine am_aload_n (x := o) dX0_isTriangle_15 rfl ?_
    refine am_iload_n (x := v2) dX0_isTriangle_16 rfl ?_
    refine am_iload_n (x := v3) dX0_isTriangle_17 rfl ?_
    obtain ⟨x3, hm, hT⟩ := hT
    refine am_callV (av := [.int v2, .int v3]) (st := []) (b := o) cw_X0_wins cl_X0_74 ck_X0_wins cs_X0_wins ho.1 rfl rfl (Nat.le_of_ble_eq_true rfl) dX0_isTriangle_18 hm (fun r D9 hr => ?_)
    obtain ⟨rfl, e9⟩ := hr
    rw [e9]
    clear e9
    refine am_aload_n (x := o) dX0_isTriangle_21 rfl ?_
    refine am_iload_n (x := v3) dX0_isTriangle_22 rfl ?_
    refine am_iload_n (x := v1) dX0_isTriangle_23 rfl ?_
    obtain ⟨x4, hm, hT⟩ := hT
    refine am_callV (av := [.int v3, .int v1]) (st := [.int x3]) (b := o) cw_X0_wins cl_X0_74 ck_X0_wins cs_X0_wins ho.1 rfl rfl (Nat.le_of_ble_eq_true rfl) dX0_isTriangle_24 hm (fun r D9 hr => ?_)
    obtain ⟨rfl, e9⟩ := hr
    rw [e9]
    clear e9
    refine am_icmp_ne (tgt := 34) dX0_isTriangle_27 (by decide) (fun h => ?_) (fun h => ?_)
    · replace hT := hT.1 h
      refine am_iconst (v := 0) dX0_isTriangle_34 (by decide) ?_
      exact am_ireturn (ty := .boolean) dX0_isTriangle_35 rfl (by decide) hT
    · replace hT := hT.2 h
      refine am_iconst (v := 1) dX0_isTriangle_30 (by decide) ?_
      refine am_goto (tgt := 35) dX0_isTriangle_31 (by decide) ?_
      exact am_ireturn (ty := .boolean) dX0_isTriangle_35 rfl (by decide) hT
set_option maxRecDepth 20000 in
theorem eX0_countTriangles {lay : List am_L} {d : Nat} {D : am_D} {Q : Option Value → am_D → Prop} {o : Nat} (ho : isX0 lay o) (hT : am_AW lay (d + 1) mX0_countTriangles 24 [.ref o, .int ((((D o 0) * ((D o 0) - 1)) * ((D o 0) - 2)) / 6), .int 0] [] D Q) : am_Met lay (d + 1) mX0_countTriangles [.ref o] D Q := by
  refine am_enter (by decide +kernel) rfl (Nat.le_of_ble_eq_true rfl) ?_
  show am_AW lay (d + 1) mX0_countTriangles 0 [.ref o, .null, .null] [] D Q
  refine am_aload_n (x := o) dX0_countTriangles_0 rfl ?_
  refine am_getI dX0_countTriangles_1 fw_X0_35 ho.1 rfl ?_
  refine am_aload_n (x := o) dX0_countTriangles_4 rfl ?_
  refine am_getI dX0_countTriangles_5 fw_X0_35 ho.1 rfl ?_
  refine am_iconst (v := 1) dX0_countTriangles_8 (by decide) ?_
  refine am_isub dX0_countTriangles_9 ?_
  refine am_imul dX0_countTriangles_10 ?_
  refine am_aload_n (x := o) dX0_countTriangles_11 rfl ?_
  refine am_getI dX0_countTriangles_12 fw_X0_35 ho.1 rfl ?_
  refine am_iconst (v := 2) dX0_countTriangles_15 (by decide) ?_
  refine am_isub dX0_countTriangles_16 ?_
  refine am_imul dX0_countTriangles_17 ?_
  refine am_bipush (v := 6) dX0_countTriangles_18 (by decide) ?_
  refine am_idiv dX0_countTriangles_20 (by decide) ?_
  refine am_set (am_istore_n dX0_countTriangles_21 (by decide)) (L1 := [.ref o, .int ((((D o 0) * ((D o 0) - 1)) * ((D o 0) - 2)) / 6), .null]) rfl ?_
  refine am_iconst (v := 0) dX0_countTriangles_22 (by decide) ?_
  refine am_set (am_istore_n dX0_countTriangles_23 (by decide)) (L1 := [.ref o, .int ((((D o 0) * ((D o 0) - 1)) * ((D o 0) - 2)) / 6), .int 0]) rfl ?_
  exact hT
set_option maxRecDepth 20000 in
theorem rX0_countTriangles_24 {lay : List am_L} {d : Nat} {D : am_D} {Q : Option Value → am_D → Prop} {o : Nat} {v1 : Int32} {v2 : Int32} (ho : isX0 lay o) (hT : (((D o 0) ≤ v2 → Q (some (.int v1)) D) ∧
 (¬ ((D o 0) ≤ v2) → (∃ x1, am_MetP lay d mX0_winsOf [.ref o, .int v2] D x1 ∧
 (∃ x2, am_MetP lay d mX0_winsOf [.ref o, .int v2] D x2 ∧
 am_AW lay (d + 1) mX0_countTriangles 24 [.ref o, .int (v1 - ((x1 * (x2 - 1)) / 2)), .int (v2 + 1)] [] D Q))))) : am_AW lay (d + 1) mX0_countTriangles 24 [.ref o, .int v1, .int v2] [] D Q := by
  refine am_iload_n (x := v2) dX0_countTriangles_24 rfl ?_
  refine am_aload_n (x := o) dX0_countTriangles_25 rfl ?_
  refine am_getI dX0_countTriangles_26 fw_X0_35 ho.1 rfl ?_
  refine am_icmp_ge (tgt := 56) dX0_countTriangles_29 (by decide) (fun h => ?_) (fun h => ?_)
  · replace hT := hT.1 h
    refine am_iload_n (x := v1) dX0_countTriangles_56 rfl ?_
    exact am_ireturn (ty := .int) dX0_countTriangles_57 rfl rfl hT
  · replace hT := hT.2 h
    refine am_iload_n (x := v1) dX0_countTriangles_32 rfl ?_
    refine am_aload_n (x := o) dX0_countTriangles_33 rfl ?_
    refine am_iload_n (x := v2) dX0_countTriangles_34 rfl ?_
    obtain ⟨x1, hm, hT⟩ := hT
    refine am_callV (av := [.int v2]) (st := [.int v1]) (b := o) cw_X0_winsOf cl_X0_68 ck_X0_winsOf cs_X0_winsOf ho.1 rfl rfl (Nat.le_of_ble_eq_true rfl) dX0_countTriangles_35 hm (fun r D9 hr => ?_)
    obtain ⟨rfl, e9⟩ := hr
    rw [e9]
    clear e9
    refine am_aload_n (x := o) dX0_countTriangles_38 rfl ?_
    refine am_iload_n (x := v2) dX0_countTriangles_39 rfl ?_
    obtain ⟨x2, hm, hT⟩ := hT
    refine am_callV (av := [.int v2]) (st := [.int x1, .int v1]) (b := o) cw_X0_winsOf cl_X0_68 ck_X0_winsOf cs_X0_winsOf ho.1 rfl rfl (Nat.le_of_ble_eq_true rfl) dX0_countTriangles_40 hm (fun r D9 hr => ?_)
    obtain ⟨rfl, e9⟩ := hr
    rw [e9]
    clear e9
    refine am_iconst (v := 1) dX0_countTriangles_43 (by decide) ?_
    refine am_isub dX0_countTriangles_44 ?_
    refine am_imul dX0_countTriangles_45 ?_
    refine am_iconst (v := 2) dX0_countTriangles_46 (by decide) ?_
    refine am_idiv dX0_countTriangles_47 (by decide) ?_
    refine am_isub dX0_countTriangles_48 ?_
    refine am_set (am_istore_n dX0_countTriangles_49 (by decide)) (L1 := [.ref o, .int (v1 - ((x1 * (x2 - 1)) / 2)), .int v2]) rfl ?_
    refine am_set (am_iinc (x := v2) (c0 := 1) dX0_countTriangles_50 (by decide) rfl (by decide)) (L1 := [.ref o, .int (v1 - ((x1 * (x2 - 1)) / 2)), .int (v2 + 1)]) rfl ?_
    refine am_goto (tgt := 24) dX0_countTriangles_53 (by decide) ?_
    exact hT
set_option maxRecDepth 20000 in
theorem eX0_costOfBefore {lay : List am_L} {d : Nat} {D : am_D} {Q : Option Value → am_D → Prop} {o : Nat} {v1 : Int32} {v2 : Int32} (ho : isX0 lay o) (hT : (∃ x1, am_MetP lay d mX0_wins [.ref o, .int v2, .int v1] D x1 ∧
 ((x1 = 0 → Q (some (.int 0)) D) ∧
 (¬ (x1 = 0) → (∃ x2, am_MetP lay d mX0_weightOf [.ref o, .int v1, .int v2] D x2 ∧
 Q (some (.int x2)) D))))) : am_Met lay (d + 1) mX0_costOfBefore [.ref o, .int v1, .int v2] D Q := by
  refine am_enter (by decide +kernel) rfl (Nat.le_of_ble_eq_true rfl) ?_
  show am_AW lay (d + 1) mX0_costOfBefore 0 [.ref o, .int v1, .int v2] [] D Q
  refine am_aload_n (x := o) dX0_costOfBefore_0 rfl ?_
  refine am_iload_n (x := v2) dX0_costOfBefore_1 rfl ?_
  refine am_iload_n (x := v1) dX0_costOfBefore_2 rfl ?_
  obtain ⟨x1, hm, hT⟩ := hT
  refine am_callV (av := [.int v2, .int v1]) (st := []) (b := o) cw_X0_wins cl_X0_74 ck_X0_wins cs_X0_wins ho.1 rfl rfl (Nat.le_of_ble_eq_true rfl) dX0_costOfBefore_3 hm (fun r D9 hr => ?_)
  obtain ⟨rfl, e9⟩ := hr
  rw [e9]
  clear e9
  refine am_if_eq (tgt := 18) dX0_costOfBefore_6 (by decide) (fun h => ?_) (fun h => ?_)
  · replace hT := hT.1 h
    refine am_iconst (v := 0) dX0_costOfBefore_18 (by decide) ?_
    exact am_ireturn (ty := .int) dX0_costOfBefore_19 rfl rfl hT
  · replace hT := hT.2 h
    refine am_aload_n (x := o) dX0_costOfBefore_9 rfl ?_
    refine am_iload_n (x := v1) dX0_costOfBefore_10 rfl ?_
    refine am_iload_n (x := v2) dX0_costOfBefore_11 rfl ?_
    obtain ⟨x2, hm, hT⟩ := hT
    refine am_callV (av := [.int v1, .int v2]) (st := []) (b := o) cw_X0_weightOf cl_X0_85 ck_X0_weightOf cs_X0_weightOf ho.1 rfl rfl (Nat.le_of_ble_eq_true rfl) dX0_costOfBefore_12 hm (fun r D9 hr => ?_)
    obtain ⟨rfl, e9⟩ := hr
    rw [e9]
    clear e9
    refine am_goto (tgt := 19) dX0_costOfBefore_15 (by decide) ?_
    exact am_ireturn (ty := .int) dX0_costOfBefore_19 rfl rfl hT
end
