-- ===== PART A: goes FIRST, ahead of the names: the tables' words, and 'selects' of the private methods out of them =====
/-- a private method of a class that the tables say can be made, by its rows of tables_1 -/
def lw_okq (q : MethodName × Nat) : Prop := (q.1.cls ≠ "java/lang/invoke/MethodHandle" ∧ q.1.cls ≠ "java/lang/invoke/VarHandle") ∧ Cond.instantiable q.1.cls q.2 ∈ tables_1 ∧ Cond.privateMethod q.1 ∈ tables_1 ∧ Cond.instanceMethod q.1 ∈ tables_1
theorem lw_p0 : lw_okq (⟨"SteadyFund$Claims", "indexedOf", "(LSteadyFund$Ledger;I)J"⟩, 13) := ⟨⟨by decide +kernel, by decide +kernel⟩, List.mem_of_getElem? (i := 189) (by decide +kernel), List.mem_of_getElem? (i := 641) (by decide +kernel), List.mem_of_getElem? (i := 642) (by decide +kernel)⟩
theorem lw_p1 : lw_okq (⟨"SteadyFund$Tide", "lookAt", "(LSteadyFund$Ledger;)V"⟩, 4) := ⟨⟨by decide +kernel, by decide +kernel⟩, List.mem_of_getElem? (i := 362) (by decide +kernel), List.mem_of_getElem? (i := 665) (by decide +kernel), List.mem_of_getElem? (i := 666) (by decide +kernel)⟩
theorem lw_p2 : lw_okq (⟨"SteadyFund$Claims", "leadOn", "(I)V"⟩, 13) := ⟨⟨by decide +kernel, by decide +kernel⟩, List.mem_of_getElem? (i := 189) (by decide +kernel), List.mem_of_getElem? (i := 718) (by decide +kernel), List.mem_of_getElem? (i := 719) (by decide +kernel)⟩
theorem lw_p3 : lw_okq (⟨"SteadyFund", "agreed", "(I)LSteadyFund$Clearing;"⟩, 8) := ⟨⟨by decide +kernel, by decide +kernel⟩, List.mem_of_getElem? (i := 24) (by decide +kernel), List.mem_of_getElem? (i := 738) (by decide +kernel), List.mem_of_getElem? (i := 739) (by decide +kernel)⟩
theorem lw_p4 : lw_okq (⟨"SteadyFund$Clearing", "learn", "(LSteadyFund$World;)Z"⟩, 9) := ⟨⟨by decide +kernel, by decide +kernel⟩, List.mem_of_getElem? (i := 383) (by decide +kernel), List.mem_of_getElem? (i := 746) (by decide +kernel), List.mem_of_getElem? (i := 747) (by decide +kernel)⟩
theorem lw_p5 : lw_okq (⟨"SteadyFund$Clearing", "begin", "()V"⟩, 9) := ⟨⟨by decide +kernel, by decide +kernel⟩, List.mem_of_getElem? (i := 383) (by decide +kernel), List.mem_of_getElem? (i := 756) (by decide +kernel), List.mem_of_getElem? (i := 757) (by decide +kernel)⟩
theorem lw_p6 : lw_okq (⟨"SteadyFund$Clearing", "handOn", "(I)V"⟩, 9) := ⟨⟨by decide +kernel, by decide +kernel⟩, List.mem_of_getElem? (i := 383) (by decide +kernel), List.mem_of_getElem? (i := 763) (by decide +kernel), List.mem_of_getElem? (i := 764) (by decide +kernel)⟩
theorem lw_p7 : lw_okq (⟨"SteadyFund$Clearing", "changesInRound", "()Z"⟩, 9) := ⟨⟨by decide +kernel, by decide +kernel⟩, List.mem_of_getElem? (i := 383) (by decide +kernel), List.mem_of_getElem? (i := 769) (by decide +kernel), List.mem_of_getElem? (i := 770) (by decide +kernel)⟩
theorem lw_p8 : lw_okq (⟨"SteadyFund$RuleReader", "anyHolds", "(I)J"⟩, 6) := ⟨⟨by decide +kernel, by decide +kernel⟩, List.mem_of_getElem? (i := 419) (by decide +kernel), List.mem_of_getElem? (i := 813) (by decide +kernel), List.mem_of_getElem? (i := 814) (by decide +kernel)⟩
theorem lw_p9 : lw_okq (⟨"SteadyFund$RuleReader", "allHold", "(I)J"⟩, 6) := ⟨⟨by decide +kernel, by decide +kernel⟩, List.mem_of_getElem? (i := 419) (by decide +kernel), List.mem_of_getElem? (i := 817) (by decide +kernel), List.mem_of_getElem? (i := 818) (by decide +kernel)⟩
theorem lw_p10 : lw_okq (⟨"SteadyFund$RuleReader", "held", "(I)J"⟩, 6) := ⟨⟨by decide +kernel, by decide +kernel⟩, List.mem_of_getElem? (i := 419) (by decide +kernel), List.mem_of_getElem? (i := 821) (by decide +kernel), List.mem_of_getElem? (i := 822) (by decide +kernel)⟩
theorem lw_p11 : lw_okq (⟨"SteadyFund$RuleReader", "added", "(I)J"⟩, 6) := ⟨⟨by decide +kernel, by decide +kernel⟩, List.mem_of_getElem? (i := 419) (by decide +kernel), List.mem_of_getElem? (i := 825) (by decide +kernel), List.mem_of_getElem? (i := 826) (by decide +kernel)⟩
theorem lw_p12 : lw_okq (⟨"SteadyFund$RuleReader", "multiplied", "(I)J"⟩, 6) := ⟨⟨by decide +kernel, by decide +kernel⟩, List.mem_of_getElem? (i := 419) (by decide +kernel), List.mem_of_getElem? (i := 829) (by decide +kernel), List.mem_of_getElem? (i := 830) (by decide +kernel)⟩
theorem lw_p13 : lw_okq (⟨"SteadyFund$RuleReader", "unit", "(I)J"⟩, 6) := ⟨⟨by decide +kernel, by decide +kernel⟩, List.mem_of_getElem? (i := 419) (by decide +kernel), List.mem_of_getElem? (i := 833) (by decide +kernel), List.mem_of_getElem? (i := 834) (by decide +kernel)⟩
theorem lw_p14 : lw_okq (⟨"SteadyFund$RuleReader", "next", "()I"⟩, 6) := ⟨⟨by decide +kernel, by decide +kernel⟩, List.mem_of_getElem? (i := 419) (by decide +kernel), List.mem_of_getElem? (i := 837) (by decide +kernel), List.mem_of_getElem? (i := 838) (by decide +kernel)⟩
theorem lw_p15 : lw_okq (⟨"SteadyFund$RuleReader", "refuse", "(I)J"⟩, 6) := ⟨⟨by decide +kernel, by decide +kernel⟩, List.mem_of_getElem? (i := 419) (by decide +kernel), List.mem_of_getElem? (i := 841) (by decide +kernel), List.mem_of_getElem? (i := 842) (by decide +kernel)⟩
def lw_privs_1 : List (MethodName × Nat) := [(⟨"SteadyFund$Claims", "indexedOf", "(LSteadyFund$Ledger;I)J"⟩, 13), (⟨"SteadyFund$Tide", "lookAt", "(LSteadyFund$Ledger;)V"⟩, 4), (⟨"SteadyFund$Claims", "leadOn", "(I)V"⟩, 13), (⟨"SteadyFund", "agreed", "(I)LSteadyFund$Clearing;"⟩, 8), (⟨"SteadyFund$Clearing", "learn", "(LSteadyFund$World;)Z"⟩, 9), (⟨"SteadyFund$Clearing", "begin", "()V"⟩, 9), (⟨"SteadyFund$Clearing", "handOn", "(I)V"⟩, 9), (⟨"SteadyFund$Clearing", "changesInRound", "()Z"⟩, 9), (⟨"SteadyFund$RuleReader", "anyHolds", "(I)J"⟩, 6), (⟨"SteadyFund$RuleReader", "allHold", "(I)J"⟩, 6), (⟨"SteadyFund$RuleReader", "held", "(I)J"⟩, 6), (⟨"SteadyFund$RuleReader", "added", "(I)J"⟩, 6), (⟨"SteadyFund$RuleReader", "multiplied", "(I)J"⟩, 6), (⟨"SteadyFund$RuleReader", "unit", "(I)J"⟩, 6), (⟨"SteadyFund$RuleReader", "next", "()I"⟩, 6), (⟨"SteadyFund$RuleReader", "refuse", "(I)J"⟩, 6)]
theorem lw_r1 : ∀ q ∈ lw_privs_1, lw_okq q := List.forall_mem_cons.mpr ⟨lw_p0, List.forall_mem_cons.mpr ⟨lw_p1, List.forall_mem_cons.mpr ⟨lw_p2, List.forall_mem_cons.mpr ⟨lw_p3, List.forall_mem_cons.mpr ⟨lw_p4, List.forall_mem_cons.mpr ⟨lw_p5, List.forall_mem_cons.mpr ⟨lw_p6, List.forall_mem_cons.mpr ⟨lw_p7, List.forall_mem_cons.mpr ⟨lw_p8, List.forall_mem_cons.mpr ⟨lw_p9, List.forall_mem_cons.mpr ⟨lw_p10, List.forall_mem_cons.mpr ⟨lw_p11, List.forall_mem_cons.mpr ⟨lw_p12, List.forall_mem_cons.mpr ⟨lw_p13, List.forall_mem_cons.mpr ⟨lw_p14, List.forall_mem_cons.mpr ⟨lw_p15, fun _ h => absurd h List.not_mem_nil⟩⟩⟩⟩⟩⟩⟩⟩⟩⟩⟩⟩⟩⟩⟩⟩
theorem lw_p16 : lw_okq (⟨"SteadyFund$RuleReader", "number", "()J"⟩, 6) := ⟨⟨by decide +kernel, by decide +kernel⟩, List.mem_of_getElem? (i := 419) (by decide +kernel), List.mem_of_getElem? (i := 848) (by decide +kernel), List.mem_of_getElem? (i := 849) (by decide +kernel)⟩
theorem lw_p17 : lw_okq (⟨"SteadyFund$RuleReader", "inBrackets", "(I)J"⟩, 6) := ⟨⟨by decide +kernel, by decide +kernel⟩, List.mem_of_getElem? (i := 419) (by decide +kernel), List.mem_of_getElem? (i := 854) (by decide +kernel), List.mem_of_getElem? (i := 855) (by decide +kernel)⟩
theorem lw_p18 : lw_okq (⟨"SteadyFund$RuleReader", "takes", "(C)Z"⟩, 6) := ⟨⟨by decide +kernel, by decide +kernel⟩, List.mem_of_getElem? (i := 419) (by decide +kernel), List.mem_of_getElem? (i := 858) (by decide +kernel), List.mem_of_getElem? (i := 859) (by decide +kernel)⟩
theorem lw_p19 : lw_okq (⟨"SteadyFund$Paper", "lookWhoCould", "()V"⟩, 13) := ⟨⟨by decide +kernel, by decide +kernel⟩, List.mem_of_getElem? (i := 137) (by decide +kernel), List.mem_of_getElem? (i := 1000) (by decide +kernel), List.mem_of_getElem? (i := 1001) (by decide +kernel)⟩
theorem lw_p20 : lw_okq (⟨"SteadyFund$Paper", "printsAll", "(I)Z"⟩, 13) := ⟨⟨by decide +kernel, by decide +kernel⟩, List.mem_of_getElem? (i := 137) (by decide +kernel), List.mem_of_getElem? (i := 1004) (by decide +kernel), List.mem_of_getElem? (i := 1005) (by decide +kernel)⟩
theorem lw_p21 : lw_okq (⟨"SteadyFund$Claims", "monthsOf", "(I)I"⟩, 13) := ⟨⟨by decide +kernel, by decide +kernel⟩, List.mem_of_getElem? (i := 189) (by decide +kernel), List.mem_of_getElem? (i := 1030) (by decide +kernel), List.mem_of_getElem? (i := 1031) (by decide +kernel)⟩
theorem lw_p22 : lw_okq (⟨"SteadyFund$SealedRecord", "sealed", "(II)I"⟩, 7) := ⟨⟨by decide +kernel, by decide +kernel⟩, List.mem_of_getElem? (i := 317) (by decide +kernel), List.mem_of_getElem? (i := 1048) (by decide +kernel), List.mem_of_getElem? (i := 1049) (by decide +kernel)⟩
theorem lw_p23 : lw_okq (⟨"SteadyFund$SealedRecord", "lookWhichFit", "(II)I"⟩, 7) := ⟨⟨by decide +kernel, by decide +kernel⟩, List.mem_of_getElem? (i := 317) (by decide +kernel), List.mem_of_getElem? (i := 1064) (by decide +kernel), List.mem_of_getElem? (i := 1065) (by decide +kernel)⟩
theorem lw_p24 : lw_okq (⟨"SteadyFundModel", "got", "(I)I"⟩, 23) := ⟨⟨by decide +kernel, by decide +kernel⟩, List.mem_of_getElem? (i := 1164) (by decide +kernel), List.mem_of_getElem? (i := 1252) (by decide +kernel), List.mem_of_getElem? (i := 1253) (by decide +kernel)⟩
theorem lw_p25 : lw_okq (⟨"SteadyFundModel", "has", "(II)Z"⟩, 23) := ⟨⟨by decide +kernel, by decide +kernel⟩, List.mem_of_getElem? (i := 1164) (by decide +kernel), List.mem_of_getElem? (i := 1266) (by decide +kernel), List.mem_of_getElem? (i := 1267) (by decide +kernel)⟩
theorem lw_p26 : lw_okq (⟨"SteadyFundModel", "isFallen", "()Z"⟩, 23) := ⟨⟨by decide +kernel, by decide +kernel⟩, List.mem_of_getElem? (i := 1164) (by decide +kernel), List.mem_of_getElem? (i := 1274) (by decide +kernel), List.mem_of_getElem? (i := 1275) (by decide +kernel)⟩
theorem lw_p27 : lw_okq (⟨"SteadyFundModel", "addRow", "(IJ)V"⟩, 23) := ⟨⟨by decide +kernel, by decide +kernel⟩, List.mem_of_getElem? (i := 1164) (by decide +kernel), List.mem_of_getElem? (i := 1278) (by decide +kernel), List.mem_of_getElem? (i := 1279) (by decide +kernel)⟩
theorem lw_p28 : lw_okq (⟨"SteadyFundModel", "allShown", "()J"⟩, 23) := ⟨⟨by decide +kernel, by decide +kernel⟩, List.mem_of_getElem? (i := 1164) (by decide +kernel), List.mem_of_getElem? (i := 1292) (by decide +kernel), List.mem_of_getElem? (i := 1293) (by decide +kernel)⟩
theorem lw_p29 : lw_okq (⟨"SteadyFundModel", "went", "(IIIZ)J"⟩, 23) := ⟨⟨by decide +kernel, by decide +kernel⟩, List.mem_of_getElem? (i := 1164) (by decide +kernel), List.mem_of_getElem? (i := 1304) (by decide +kernel), List.mem_of_getElem? (i := 1305) (by decide +kernel)⟩
theorem lw_p30 : lw_okq (⟨"SteadyFundModel", "wrongOf", "(I)I"⟩, 23) := ⟨⟨by decide +kernel, by decide +kernel⟩, List.mem_of_getElem? (i := 1164) (by decide +kernel), List.mem_of_getElem? (i := 1340) (by decide +kernel), List.mem_of_getElem? (i := 1341) (by decide +kernel)⟩
theorem lw_p31 : lw_okq (⟨"SteadyFundModel", "tell", "(JJ)V"⟩, 23) := ⟨⟨by decide +kernel, by decide +kernel⟩, List.mem_of_getElem? (i := 1164) (by decide +kernel), List.mem_of_getElem? (i := 1363) (by decide +kernel), List.mem_of_getElem? (i := 1364) (by decide +kernel)⟩
def lw_privs_2 : List (MethodName × Nat) := [(⟨"SteadyFund$RuleReader", "number", "()J"⟩, 6), (⟨"SteadyFund$RuleReader", "inBrackets", "(I)J"⟩, 6), (⟨"SteadyFund$RuleReader", "takes", "(C)Z"⟩, 6), (⟨"SteadyFund$Paper", "lookWhoCould", "()V"⟩, 13), (⟨"SteadyFund$Paper", "printsAll", "(I)Z"⟩, 13), (⟨"SteadyFund$Claims", "monthsOf", "(I)I"⟩, 13), (⟨"SteadyFund$SealedRecord", "sealed", "(II)I"⟩, 7), (⟨"SteadyFund$SealedRecord", "lookWhichFit", "(II)I"⟩, 7), (⟨"SteadyFundModel", "got", "(I)I"⟩, 23), (⟨"SteadyFundModel", "has", "(II)Z"⟩, 23), (⟨"SteadyFundModel", "isFallen", "()Z"⟩, 23), (⟨"SteadyFundModel", "addRow", "(IJ)V"⟩, 23), (⟨"SteadyFundModel", "allShown", "()J"⟩, 23), (⟨"SteadyFundModel", "went", "(IIIZ)J"⟩, 23), (⟨"SteadyFundModel", "wrongOf", "(I)I"⟩, 23), (⟨"SteadyFundModel", "tell", "(JJ)V"⟩, 23)]
theorem lw_r2 : ∀ q ∈ lw_privs_2, lw_okq q := List.forall_mem_cons.mpr ⟨lw_p16, List.forall_mem_cons.mpr ⟨lw_p17, List.forall_mem_cons.mpr ⟨lw_p18, List.forall_mem_cons.mpr ⟨lw_p19, List.forall_mem_cons.mpr ⟨lw_p20, List.forall_mem_cons.mpr ⟨lw_p21, List.forall_mem_cons.mpr ⟨lw_p22, List.forall_mem_cons.mpr ⟨lw_p23, List.forall_mem_cons.mpr ⟨lw_p24, List.forall_mem_cons.mpr ⟨lw_p25, List.forall_mem_cons.mpr ⟨lw_p26, List.forall_mem_cons.mpr ⟨lw_p27, List.forall_mem_cons.mpr ⟨lw_p28, List.forall_mem_cons.mpr ⟨lw_p29, List.forall_mem_cons.mpr ⟨lw_p30, List.forall_mem_cons.mpr ⟨lw_p31, fun _ h => absurd h List.not_mem_nil⟩⟩⟩⟩⟩⟩⟩⟩⟩⟩⟩⟩⟩⟩⟩⟩
theorem lw_p32 : lw_okq (⟨"SteadyFundModel", "allCounts", "(I)J"⟩, 23) := ⟨⟨by decide +kernel, by decide +kernel⟩, List.mem_of_getElem? (i := 1164) (by decide +kernel), List.mem_of_getElem? (i := 1387) (by decide +kernel), List.mem_of_getElem? (i := 1388) (by decide +kernel)⟩
theorem lw_p33 : lw_okq (⟨"SteadyFundModel", "countOf", "(II)J"⟩, 23) := ⟨⟨by decide +kernel, by decide +kernel⟩, List.mem_of_getElem? (i := 1164) (by decide +kernel), List.mem_of_getElem? (i := 1391) (by decide +kernel), List.mem_of_getElem? (i := 1392) (by decide +kernel)⟩
theorem lw_p34 : lw_okq (⟨"SteadyFundModel", "dealtTo", "(IIJ)J"⟩, 23) := ⟨⟨by decide +kernel, by decide +kernel⟩, List.mem_of_getElem? (i := 1164) (by decide +kernel), List.mem_of_getElem? (i := 1403) (by decide +kernel), List.mem_of_getElem? (i := 1404) (by decide +kernel)⟩
theorem lw_p35 : lw_okq (⟨"SteadyFundModel", "findTide", "(J)V"⟩, 23) := ⟨⟨by decide +kernel, by decide +kernel⟩, List.mem_of_getElem? (i := 1164) (by decide +kernel), List.mem_of_getElem? (i := 1407) (by decide +kernel), List.mem_of_getElem? (i := 1408) (by decide +kernel)⟩
theorem lw_p36 : lw_okq (⟨"SteadyFundModel", "wetBy", "(I)J"⟩, 23) := ⟨⟨by decide +kernel, by decide +kernel⟩, List.mem_of_getElem? (i := 1164) (by decide +kernel), List.mem_of_getElem? (i := 1411) (by decide +kernel), List.mem_of_getElem? (i := 1412) (by decide +kernel)⟩
theorem lw_p37 : lw_okq (⟨"SteadyFundModel", "putIn", "(I)J"⟩, 23) := ⟨⟨by decide +kernel, by decide +kernel⟩, List.mem_of_getElem? (i := 1164) (by decide +kernel), List.mem_of_getElem? (i := 1415) (by decide +kernel), List.mem_of_getElem? (i := 1416) (by decide +kernel)⟩
theorem lw_p38 : lw_okq (⟨"SteadyFundModel", "drawn", "(I)J"⟩, 23) := ⟨⟨by decide +kernel, by decide +kernel⟩, List.mem_of_getElem? (i := 1164) (by decide +kernel), List.mem_of_getElem? (i := 1419) (by decide +kernel), List.mem_of_getElem? (i := 1420) (by decide +kernel)⟩
theorem lw_p39 : lw_okq (⟨"SteadyFundModel", "lowest", "(I)I"⟩, 23) := ⟨⟨by decide +kernel, by decide +kernel⟩, List.mem_of_getElem? (i := 1164) (by decide +kernel), List.mem_of_getElem? (i := 1423) (by decide +kernel), List.mem_of_getElem? (i := 1424) (by decide +kernel)⟩
theorem lw_p40 : lw_okq (⟨"SteadyFundModel", "toTake", "(I)J"⟩, 23) := ⟨⟨by decide +kernel, by decide +kernel⟩, List.mem_of_getElem? (i := 1164) (by decide +kernel), List.mem_of_getElem? (i := 1447) (by decide +kernel), List.mem_of_getElem? (i := 1448) (by decide +kernel)⟩
theorem lw_p41 : lw_okq (⟨"SteadyFundModel", "findPays", "(Z)V"⟩, 23) := ⟨⟨by decide +kernel, by decide +kernel⟩, List.mem_of_getElem? (i := 1164) (by decide +kernel), List.mem_of_getElem? (i := 1470) (by decide +kernel), List.mem_of_getElem? (i := 1471) (by decide +kernel)⟩
theorem lw_p42 : lw_okq (⟨"SteadyFundModel", "reads", "()Z"⟩, 23) := ⟨⟨by decide +kernel, by decide +kernel⟩, List.mem_of_getElem? (i := 1164) (by decide +kernel), List.mem_of_getElem? (i := 1495) (by decide +kernel), List.mem_of_getElem? (i := 1496) (by decide +kernel)⟩
theorem lw_p43 : lw_okq (⟨"SteadyFundModel", "ahead", "()I"⟩, 23) := ⟨⟨by decide +kernel, by decide +kernel⟩, List.mem_of_getElem? (i := 1164) (by decide +kernel), List.mem_of_getElem? (i := 1499) (by decide +kernel), List.mem_of_getElem? (i := 1500) (by decide +kernel)⟩
theorem lw_p44 : lw_okq (⟨"SteadyFundModel", "digits", "()J"⟩, 23) := ⟨⟨by decide +kernel, by decide +kernel⟩, List.mem_of_getElem? (i := 1164) (by decide +kernel), List.mem_of_getElem? (i := 1506) (by decide +kernel), List.mem_of_getElem? (i := 1507) (by decide +kernel)⟩
theorem lw_p45 : lw_okq (⟨"SteadyFundModel", "stands", "(J)V"⟩, 23) := ⟨⟨by decide +kernel, by decide +kernel⟩, List.mem_of_getElem? (i := 1164) (by decide +kernel), List.mem_of_getElem? (i := 1510) (by decide +kernel), List.mem_of_getElem? (i := 1511) (by decide +kernel)⟩
theorem lw_p46 : lw_okq (⟨"SteadyFundModel", "worksDown", "(I)V"⟩, 23) := ⟨⟨by decide +kernel, by decide +kernel⟩, List.mem_of_getElem? (i := 1164) (by decide +kernel), List.mem_of_getElem? (i := 1517) (by decide +kernel), List.mem_of_getElem? (i := 1518) (by decide +kernel)⟩
theorem lw_p47 : lw_okq (⟨"SteadyFundModel", "works", "()V"⟩, 23) := ⟨⟨by decide +kernel, by decide +kernel⟩, List.mem_of_getElem? (i := 1164) (by decide +kernel), List.mem_of_getElem? (i := 1524) (by decide +kernel), List.mem_of_getElem? (i := 1525) (by decide +kernel)⟩
def lw_privs_3 : List (MethodName × Nat) := [(⟨"SteadyFundModel", "allCounts", "(I)J"⟩, 23), (⟨"SteadyFundModel", "countOf", "(II)J"⟩, 23), (⟨"SteadyFundModel", "dealtTo", "(IIJ)J"⟩, 23), (⟨"SteadyFundModel", "findTide", "(J)V"⟩, 23), (⟨"SteadyFundModel", "wetBy", "(I)J"⟩, 23), (⟨"SteadyFundModel", "putIn", "(I)J"⟩, 23), (⟨"SteadyFundModel", "drawn", "(I)J"⟩, 23), (⟨"SteadyFundModel", "lowest", "(I)I"⟩, 23), (⟨"SteadyFundModel", "toTake", "(I)J"⟩, 23), (⟨"SteadyFundModel", "findPays", "(Z)V"⟩, 23), (⟨"SteadyFundModel", "reads", "()Z"⟩, 23), (⟨"SteadyFundModel", "ahead", "()I"⟩, 23), (⟨"SteadyFundModel", "digits", "()J"⟩, 23), (⟨"SteadyFundModel", "stands", "(J)V"⟩, 23), (⟨"SteadyFundModel", "worksDown", "(I)V"⟩, 23), (⟨"SteadyFundModel", "works", "()V"⟩, 23)]
theorem lw_r3 : ∀ q ∈ lw_privs_3, lw_okq q := List.forall_mem_cons.mpr ⟨lw_p32, List.forall_mem_cons.mpr ⟨lw_p33, List.forall_mem_cons.mpr ⟨lw_p34, List.forall_mem_cons.mpr ⟨lw_p35, List.forall_mem_cons.mpr ⟨lw_p36, List.forall_mem_cons.mpr ⟨lw_p37, List.forall_mem_cons.mpr ⟨lw_p38, List.forall_mem_cons.mpr ⟨lw_p39, List.forall_mem_cons.mpr ⟨lw_p40, List.forall_mem_cons.mpr ⟨lw_p41, List.forall_mem_cons.mpr ⟨lw_p42, List.forall_mem_cons.mpr ⟨lw_p43, List.forall_mem_cons.mpr ⟨lw_p44, List.forall_mem_cons.mpr ⟨lw_p45, List.forall_mem_cons.mpr ⟨lw_p46, List.forall_mem_cons.mpr ⟨lw_p47, fun _ h => absurd h List.not_mem_nil⟩⟩⟩⟩⟩⟩⟩⟩⟩⟩⟩⟩⟩⟩⟩⟩
theorem lw_p48 : lw_okq (⟨"SteadyFundModel", "lay", "(I)V"⟩, 23) := ⟨⟨by decide +kernel, by decide +kernel⟩, List.mem_of_getElem? (i := 1164) (by decide +kernel), List.mem_of_getElem? (i := 1533) (by decide +kernel), List.mem_of_getElem? (i := 1534) (by decide +kernel)⟩
theorem lw_p49 : lw_okq (⟨"SteadyFundModel", "doesHave", "(I)Z"⟩, 23) := ⟨⟨by decide +kernel, by decide +kernel⟩, List.mem_of_getElem? (i := 1164) (by decide +kernel), List.mem_of_getElem? (i := 1554) (by decide +kernel), List.mem_of_getElem? (i := 1555) (by decide +kernel)⟩
theorem lw_p50 : lw_okq (⟨"SteadyFundModel", "mayHave", "(I)I"⟩, 23) := ⟨⟨by decide +kernel, by decide +kernel⟩, List.mem_of_getElem? (i := 1164) (by decide +kernel), List.mem_of_getElem? (i := 1558) (by decide +kernel), List.mem_of_getElem? (i := 1559) (by decide +kernel)⟩
theorem lw_p51 : lw_okq (⟨"SteadyFundModel", "sealOf", "(II)I"⟩, 23) := ⟨⟨by decide +kernel, by decide +kernel⟩, List.mem_of_getElem? (i := 1164) (by decide +kernel), List.mem_of_getElem? (i := 1575) (by decide +kernel), List.mem_of_getElem? (i := 1576) (by decide +kernel)⟩
theorem lw_p52 : lw_okq (⟨"SteadyFundModel", "sums", "(JII)J"⟩, 23) := ⟨⟨by decide +kernel, by decide +kernel⟩, List.mem_of_getElem? (i := 1164) (by decide +kernel), List.mem_of_getElem? (i := 1613) (by decide +kernel), List.mem_of_getElem? (i := 1614) (by decide +kernel)⟩
def lw_privs_4 : List (MethodName × Nat) := [(⟨"SteadyFundModel", "lay", "(I)V"⟩, 23), (⟨"SteadyFundModel", "doesHave", "(I)Z"⟩, 23), (⟨"SteadyFundModel", "mayHave", "(I)I"⟩, 23), (⟨"SteadyFundModel", "sealOf", "(II)I"⟩, 23), (⟨"SteadyFundModel", "sums", "(JII)J"⟩, 23)]
theorem lw_r4 : ∀ q ∈ lw_privs_4, lw_okq q := List.forall_mem_cons.mpr ⟨lw_p48, List.forall_mem_cons.mpr ⟨lw_p49, List.forall_mem_cons.mpr ⟨lw_p50, List.forall_mem_cons.mpr ⟨lw_p51, List.forall_mem_cons.mpr ⟨lw_p52, fun _ h => absurd h List.not_mem_nil⟩⟩⟩⟩⟩
def lw_privs : List (MethodName × Nat) := lw_privs_1 ++ (lw_privs_2 ++ (lw_privs_3 ++ (lw_privs_4)))
def lw_tbl : List Cond := k2_sels lw_privs ++ tables_1
theorem lw_privs_ok : ∀ q ∈ lw_privs, lw_okq q := by
  show ∀ q ∈ lw_privs_1 ++ (lw_privs_2 ++ (lw_privs_3 ++ (lw_privs_4))), lw_okq q
  exact List.forall_mem_append.mpr ⟨lw_r1, List.forall_mem_append.mpr ⟨lw_r2, List.forall_mem_append.mpr ⟨lw_r3, lw_r4⟩⟩⟩
def RX0 : String := "SteadyFund$Claims"
def TX0 : u_T := fun k => match k with
  | 0 => ("SteadyFund$Claims", "indexOf", "[I", true)
  | 1 => ("SteadyFund$Claims", "giver", "[I", true)
  | 2 => ("SteadyFund$Claims", "taker", "[I", true)
  | 3 => ("SteadyFund$Claims", "giftMonth", "[I", true)
  | 4 => ("SteadyFund$Claims", "giftSum", "[I", true)
  | 5 => ("SteadyFund$Claims", "gifts", "I", false)
  | 6 => ("SteadyFund$Claims", "yearsOfGood", "I", false)
  | 7 => ("SteadyFund$Claims", "yearsOfBad", "I", false)
  | 8 => ("SteadyFund$Claims", "brings", "[I", true)
  | 9 => ("SteadyFund$Claims", "cost", "[I", true)
  | 10 => ("SteadyFund$Claims", "suitMonths", "[I", true)
  | 11 => ("SteadyFund$Claims", "suits", "I", false)
  | _ => ("SteadyFund$Claims", "with", "[J", true)
def tyX0 : Nat → FieldType := fun k => match k with
  | 0 => .array .int
  | 1 => .array .int
  | 2 => .array .int
  | 3 => .array .int
  | 4 => .array .int
  | 5 => .int
  | 6 => .int
  | 7 => .int
  | 8 => .array .int
  | 9 => .array .int
  | 10 => .array .int
  | 11 => .int
  | _ => .array .long
theorem nmX0 : ∀ a, a < 13 → ∀ b, b < 13 → a ≠ b → (TX0 a).2.1 ≠ (TX0 b).2.1 := by decide +kernel
theorem tyX0_ok : ∀ k, k < 13 → parseFieldDescriptor (TX0 k).2.2.1 = some (tyX0 k) := by decide +kernel
def RX1 : String := "SteadyFund$Clearing"
def TX1 : u_T := fun k => match k with
  | 0 => ("SteadyFund$Clearing", "fromAll", "Z", true)
  | 1 => ("SteadyFund$Clearing", "coins", "[J", true)
  | 2 => ("SteadyFund$Clearing", "owed", "[I", true)
  | 3 => ("SteadyFund$Clearing", "dues", "[J", true)
  | 4 => ("SteadyFund$Clearing", "gets", "[J", true)
  | 5 => ("SteadyFund$Clearing", "next", "[J", true)
  | 6 => ("SteadyFund$Clearing", "share", "[J", true)
  | 7 => ("SteadyFund$Clearing", "pay", "[J", true)
  | _ => ("SteadyFund$Clearing", "changes", "I", false)
def tyX1 : Nat → FieldType := fun k => match k with
  | 0 => .boolean
  | 1 => .array .long
  | 2 => .array .int
  | 3 => .array .long
  | 4 => .array .long
  | 5 => .array .long
  | 6 => .array .long
  | 7 => .array .long
  | _ => .int
theorem nmX1 : ∀ a, a < 9 → ∀ b, b < 9 → a ≠ b → (TX1 a).2.1 ≠ (TX1 b).2.1 := by decide +kernel
theorem tyX1_ok : ∀ k, k < 9 → parseFieldDescriptor (TX1 k).2.2.1 = some (tyX1 k) := by decide +kernel
def RX2 : String := "SteadyFund$Fraction"
def TX2 : u_T := fun k => match k with
  | 0 => ("SteadyFund$Fraction", "above", "J", false)
  | _ => ("SteadyFund$Fraction", "below", "J", false)
def tyX2 : Nat → FieldType := fun k => match k with
  | 0 => .long
  | _ => .long
theorem nmX2 : ∀ a, a < 2 → ∀ b, b < 2 → a ≠ b → (TX2 a).2.1 ≠ (TX2 b).2.1 := by decide +kernel
theorem tyX2_ok : ∀ k, k < 2 → parseFieldDescriptor (TX2 k).2.2.1 = some (tyX2 k) := by decide +kernel
def RX3 : String := "SteadyFund$Houses"
def TX3 : u_T := fun k => match k with
  | 0 => ("SteadyFund$Houses", "own", "[I", true)
  | 1 => ("SteadyFund$Houses", "owed", "[I", true)
  | _ => ("SteadyFund$Houses", "isStruck", "Z", false)
def tyX3 : Nat → FieldType := fun k => match k with
  | 0 => .array .int
  | 1 => .array .int
  | _ => .boolean
theorem nmX3 : ∀ a, a < 3 → ∀ b, b < 3 → a ≠ b → (TX3 a).2.1 ≠ (TX3 b).2.1 := by decide +kernel
theorem tyX3_ok : ∀ k, k < 3 → parseFieldDescriptor (TX3 k).2.2.1 = some (tyX3 k) := by decide +kernel
def RX4 : String := "SteadyFund$Ledger"
def TX4 : u_T := fun k => match k with
  | 0 => ("SteadyFund$Ledger", "house", "[I", true)
  | 1 => ("SteadyFund$Ledger", "faith", "[I", true)
  | 2 => ("SteadyFund$Ledger", "shownTo", "[J", true)
  | 3 => ("SteadyFund$Ledger", "persons", "I", false)
  | 4 => ("SteadyFund$Ledger", "rowPerson", "[I", true)
  | 5 => ("SteadyFund$Ledger", "rowMonth", "[I", true)
  | 6 => ("SteadyFund$Ledger", "rowSum", "[I", true)
  | 7 => ("SteadyFund$Ledger", "rows", "I", false)
  | 8 => ("SteadyFund$Ledger", "now", "I", false)
  | 9 => ("SteadyFund$Ledger", "fee", "I", false)
  | 10 => ("SteadyFund$Ledger", "rate", "I", false)
  | 11 => ("SteadyFund$Ledger", "coins", "J", false)
  | 12 => ("SteadyFund$Ledger", "feesGone", "J", false)
  | 13 => ("SteadyFund$Ledger", "fell", "I", false)
  | 14 => ("SteadyFund$Ledger", "coinsAtEnd", "[J", true)
  | 15 => ("SteadyFund$Ledger", "shownAtEnd", "[J", true)
  | 16 => ("SteadyFund$Ledger", "leastIn", "[I", true)
  | 17 => ("SteadyFund$Ledger", "mostIn", "[I", true)
  | 18 => ("SteadyFund$Ledger", "leastOut", "[I", true)
  | _ => ("SteadyFund$Ledger", "mostOut", "[I", true)
def tyX4 : Nat → FieldType := fun k => match k with
  | 0 => .array .int
  | 1 => .array .int
  | 2 => .array .long
  | 3 => .int
  | 4 => .array .int
  | 5 => .array .int
  | 6 => .array .int
  | 7 => .int
  | 8 => .int
  | 9 => .int
  | 10 => .int
  | 11 => .long
  | 12 => .long
  | 13 => .int
  | 14 => .array .long
  | 15 => .array .long
  | 16 => .array .int
  | 17 => .array .int
  | 18 => .array .int
  | _ => .array .int
theorem nmX4 : ∀ a, a < 20 → ∀ b, b < 20 → a ≠ b → (TX4 a).2.1 ≠ (TX4 b).2.1 := by decide +kernel
theorem tyX4_ok : ∀ k, k < 20 → parseFieldDescriptor (TX4 k).2.2.1 = some (tyX4 k) := by decide +kernel
def RX5 : String := "SteadyFund$Letters"
def TX5 : u_T := fun k => match k with
  | 0 => ("SteadyFund$Letters", "office", "[I", true)
  | 1 => ("SteadyFund$Letters", "asked", "[I", true)
  | 2 => ("SteadyFund$Letters", "read", "[I", true)
  | 3 => ("SteadyFund$Letters", "size", "I", false)
  | 4 => ("SteadyFund$Letters", "rules", "[I", true)
  | _ => ("SteadyFund$Letters", "length", "I", false)
def tyX5 : Nat → FieldType := fun k => match k with
  | 0 => .array .int
  | 1 => .array .int
  | 2 => .array .int
  | 3 => .int
  | 4 => .array .int
  | _ => .int
theorem nmX5 : ∀ a, a < 6 → ∀ b, b < 6 → a ≠ b → (TX5 a).2.1 ≠ (TX5 b).2.1 := by decide +kernel
theorem tyX5_ok : ∀ k, k < 6 → parseFieldDescriptor (TX5 k).2.2.1 = some (tyX5 k) := by decide +kernel
def RX6 : String := "SteadyFund$Paper"
def TX6 : u_T := fun k => match k with
  | 0 => ("SteadyFund$Paper", "low", "[I", true)
  | 1 => ("SteadyFund$Paper", "high", "[I", true)
  | 2 => ("SteadyFund$Paper", "sold", "[I", true)
  | 3 => ("SteadyFund$Paper", "tradeDay", "[I", true)
  | 4 => ("SteadyFund$Paper", "price", "[I", true)
  | 5 => ("SteadyFund$Paper", "amount", "[I", true)
  | 6 => ("SteadyFund$Paper", "tradeFloor", "[I", true)
  | 7 => ("SteadyFund$Paper", "trades", "I", false)
  | 8 => ("SteadyFund$Paper", "handDays", "[I", true)
  | 9 => ("SteadyFund$Paper", "handFloors", "[I", true)
  | 10 => ("SteadyFund$Paper", "hands", "I", false)
  | 11 => ("SteadyFund$Paper", "couldPrint", "[I", true)
  | _ => ("SteadyFund$Paper", "isWrong", "[Z", true)
def tyX6 : Nat → FieldType := fun k => match k with
  | 0 => .array .int
  | 1 => .array .int
  | 2 => .array .int
  | 3 => .array .int
  | 4 => .array .int
  | 5 => .array .int
  | 6 => .array .int
  | 7 => .int
  | 8 => .array .int
  | 9 => .array .int
  | 10 => .int
  | 11 => .array .int
  | _ => .array .boolean
theorem nmX6 : ∀ a, a < 13 → ∀ b, b < 13 → a ≠ b → (TX6 a).2.1 ≠ (TX6 b).2.1 := by decide +kernel
theorem tyX6_ok : ∀ k, k < 13 → parseFieldDescriptor (TX6 k).2.2.1 = some (tyX6 k) := by decide +kernel
def RX7 : String := "SteadyFund$RuleReader"
def TX7 : u_T := fun k => match k with
  | 0 => ("SteadyFund$RuleReader", "named", "[J", true)
  | 1 => ("SteadyFund$RuleReader", "text", "[I", true)
  | 2 => ("SteadyFund$RuleReader", "length", "I", false)
  | 3 => ("SteadyFund$RuleReader", "place", "I", false)
  | 4 => ("SteadyFund$RuleReader", "open", "I", false)
  | _ => ("SteadyFund$RuleReader", "found", "I", false)
def tyX7 : Nat → FieldType := fun k => match k with
  | 0 => .array .long
  | 1 => .array .int
  | 2 => .int
  | 3 => .int
  | 4 => .int
  | _ => .int
theorem nmX7 : ∀ a, a < 6 → ∀ b, b < 6 → a ≠ b → (TX7 a).2.1 ≠ (TX7 b).2.1 := by decide +kernel
theorem tyX7_ok : ∀ k, k < 6 → parseFieldDescriptor (TX7 k).2.2.1 = some (tyX7 k) := by decide +kernel
def RX8 : String := "SteadyFund$SealedRecord"
def TX8 : u_T := fun k => match k with
  | 0 => ("SteadyFund$SealedRecord", "person", "[I", true)
  | 1 => ("SteadyFund$SealedRecord", "month", "[I", true)
  | 2 => ("SteadyFund$SealedRecord", "sum", "[I", true)
  | 3 => ("SteadyFund$SealedRecord", "fits", "[Z", true)
  | 4 => ("SteadyFund$SealedRecord", "rows", "I", false)
  | 5 => ("SteadyFund$SealedRecord", "sealH", "I", false)
  | _ => ("SteadyFund$SealedRecord", "sealG", "I", false)
def tyX8 : Nat → FieldType := fun k => match k with
  | 0 => .array .int
  | 1 => .array .int
  | 2 => .array .int
  | 3 => .array .boolean
  | 4 => .int
  | 5 => .int
  | _ => .int
theorem nmX8 : ∀ a, a < 7 → ∀ b, b < 7 → a ≠ b → (TX8 a).2.1 ≠ (TX8 b).2.1 := by decide +kernel
theorem tyX8_ok : ∀ k, k < 7 → parseFieldDescriptor (TX8 k).2.2.1 = some (tyX8 k) := by decide +kernel
def RX9 : String := "SteadyFund$Tide"
def TX9 : u_T := fun k => match k with
  | 0 => ("SteadyFund$Tide", "putIn", "[J", true)
  | 1 => ("SteadyFund$Tide", "drawn", "[J", true)
  | 2 => ("SteadyFund$Tide", "above", "J", false)
  | _ => ("SteadyFund$Tide", "below", "J", false)
def tyX9 : Nat → FieldType := fun k => match k with
  | 0 => .array .long
  | 1 => .array .long
  | 2 => .long
  | _ => .long
theorem nmX9 : ∀ a, a < 4 → ∀ b, b < 4 → a ≠ b → (TX9 a).2.1 ≠ (TX9 b).2.1 := by decide +kernel
theorem tyX9_ok : ∀ k, k < 4 → parseFieldDescriptor (TX9 k).2.2.1 = some (tyX9 k) := by decide +kernel
def RX10 : String := "SteadyFund$World"
def TX10 : u_T := fun k => match k with
  | 0 => ("SteadyFund$World", "ledger", "LSteadyFund$Ledger;", true)
  | 1 => ("SteadyFund$World", "paper", "LSteadyFund$Paper;", true)
  | 2 => ("SteadyFund$World", "claims", "LSteadyFund$Claims;", true)
  | 3 => ("SteadyFund$World", "houses", "LSteadyFund$Houses;", true)
  | _ => ("SteadyFund$World", "letters", "LSteadyFund$Letters;", true)
def tyX10 : Nat → FieldType := fun k => match k with
  | 0 => .object "SteadyFund$Ledger"
  | 1 => .object "SteadyFund$Paper"
  | 2 => .object "SteadyFund$Claims"
  | 3 => .object "SteadyFund$Houses"
  | _ => .object "SteadyFund$Letters"
theorem nmX10 : ∀ a, a < 5 → ∀ b, b < 5 → a ≠ b → (TX10 a).2.1 ≠ (TX10 b).2.1 := by decide +kernel
theorem tyX10_ok : ∀ k, k < 5 → parseFieldDescriptor (TX10 k).2.2.1 = some (tyX10 k) := by decide +kernel
def RX11 : String := "SteadyFund"
def TX11 : u_T := fun k => match k with
  | 0 => ("SteadyFund", "world", "LSteadyFund$World;", true)
  | 1 => ("SteadyFund", "images", "[LSteadyFund$World;", true)
  | 2 => ("SteadyFund", "kept", "LSteadyFund$SealedRecord;", true)
  | 3 => ("SteadyFund", "fraction", "LSteadyFund$Fraction;", true)
  | 4 => ("SteadyFund", "rising", "LSteadyFund$Tide;", true)
  | 5 => ("SteadyFund", "least", "LSteadyFund$Clearing;", true)
  | 6 => ("SteadyFund", "greatest", "LSteadyFund$Clearing;", true)
  | _ => ("SteadyFund", "reader", "LSteadyFund$RuleReader;", true)
def tyX11 : Nat → FieldType := fun k => match k with
  | 0 => .object "SteadyFund$World"
  | 1 => .array (.object "SteadyFund$World")
  | 2 => .object "SteadyFund$SealedRecord"
  | 3 => .object "SteadyFund$Fraction"
  | 4 => .object "SteadyFund$Tide"
  | 5 => .object "SteadyFund$Clearing"
  | 6 => .object "SteadyFund$Clearing"
  | _ => .object "SteadyFund$RuleReader"
theorem nmX11 : ∀ a, a < 8 → ∀ b, b < 8 → a ≠ b → (TX11 a).2.1 ≠ (TX11 b).2.1 := by decide +kernel
theorem tyX11_ok : ∀ k, k < 8 → parseFieldDescriptor (TX11 k).2.2.1 = some (tyX11 k) := by decide +kernel
def RX12 : String := "SteadyFundModel"
def TX12 : u_T := fun k => match k with
  | 0 => ("SteadyFundModel", "now", "[J", true)
  | 1 => ("SteadyFundModel", "kept", "[J", true)
  | 2 => ("SteadyFundModel", "isKept", "[Z", true)
  | 3 => ("SteadyFundModel", "over", "J", false)
  | 4 => ("SteadyFundModel", "under", "J", false)
  | 5 => ("SteadyFundModel", "backs", "[J", true)
  | 6 => ("SteadyFundModel", "own", "[J", true)
  | 7 => ("SteadyFundModel", "dues", "[J", true)
  | 8 => ("SteadyFundModel", "pays", "[J", true)
  | 9 => ("SteadyFundModel", "next", "[J", true)
  | 10 => ("SteadyFundModel", "rounds", "I", false)
  | 11 => ("SteadyFundModel", "at", "I", false)
  | 12 => ("SteadyFundModel", "fault", "I", false)
  | 13 => ("SteadyFundModel", "values", "[J", true)
  | 14 => ("SteadyFundModel", "valueMany", "I", false)
  | 15 => ("SteadyFundModel", "signs", "[I", true)
  | 16 => ("SteadyFundModel", "signMany", "I", false)
  | 17 => ("SteadyFundModel", "names", "[J", true)
  | 18 => ("SteadyFundModel", "told", "J", false)
  | 19 => ("SteadyFundModel", "record", "[I", true)
  | 20 => ("SteadyFundModel", "recorded", "I", false)
  | 21 => ("SteadyFundModel", "firstSeal", "I", false)
  | _ => ("SteadyFundModel", "otherSeal", "I", false)
def tyX12 : Nat → FieldType := fun k => match k with
  | 0 => .array .long
  | 1 => .array .long
  | 2 => .array .boolean
  | 3 => .long
  | 4 => .long
  | 5 => .array .long
  | 6 => .array .long
  | 7 => .array .long
  | 8 => .array .long
  | 9 => .array .long
  | 10 => .int
  | 11 => .int
  | 12 => .int
  | 13 => .array .long
  | 14 => .int
  | 15 => .array .int
  | 16 => .int
  | 17 => .array .long
  | 18 => .long
  | 19 => .array .int
  | 20 => .int
  | 21 => .int
  | _ => .int
theorem nmX12 : ∀ a, a < 23 → ∀ b, b < 23 → a ≠ b → (TX12 a).2.1 ≠ (TX12 b).2.1 := by decide +kernel
theorem tyX12_ok : ∀ k, k < 23 → parseFieldDescriptor (TX12 k).2.2.1 = some (tyX12 k) := by decide +kernel
abbrev vwCl : List vw_C := [(RX0, TX0, 13), (RX1, TX1, 9), (RX2, TX2, 2), (RX3, TX3, 3), (RX4, TX4, 20), (RX5, TX5, 6), (RX6, TX6, 13), (RX7, TX7, 6), (RX8, TX8, 7), (RX9, TX9, 4), (RX10, TX10, 5), (RX11, TX11, 8), (RX12, TX12, 23)]
def am_lays : List ((FieldType × Nat) ⊕ Nat) := [.inr 11, .inl ((.object RX10), 2), .inr 8, .inl (.int, 100), .inl (.int, 100), .inl (.int, 100), .inl (.boolean, 100), .inr 2, .inl (.int, 0), .inl (.int, 0), .inr 10, .inr 4, .inr 6, .inr 0, .inr 3, .inr 5, .inl (.int, 12), .inl (.int, 12), .inl (.long, 12), .inl (.int, 100), .inl (.int, 100), .inl (.int, 100), .inl (.long, 60), .inl (.long, 60), .inl (.int, 12), .inl (.int, 12), .inl (.int, 12), .inl (.int, 12), .inl (.int, 30), .inl (.int, 30), .inl (.int, 30), .inl (.int, 40), .inl (.int, 40), .inl (.int, 40), .inl (.int, 40), .inl (.int, 8), .inl (.int, 8), .inl (.int, 40), .inl (.boolean, 40), .inl (.int, 60), .inl (.int, 30), .inl (.int, 30), .inl (.int, 30), .inl (.int, 30), .inl (.int, 8), .inl (.int, 8), .inl (.int, 8), .inl (.long, 12), .inl (.int, 8), .inl (.int, 64), .inl (.int, 20), .inl (.int, 20), .inl (.int, 20), .inl (.int, 40), .inl (.int, 0), .inl (.int, 0), .inl (.int, 0), .inl (.int, 0), .inl (.int, 0), .inl (.int, 0), .inr 10, .inr 4, .inr 6, .inr 0, .inr 3, .inr 5, .inl (.int, 12), .inl (.int, 12), .inl (.long, 12), .inl (.int, 100), .inl (.int, 100), .inl (.int, 100), .inl (.long, 60), .inl (.long, 60), .inl (.int, 12), .inl (.int, 12), .inl (.int, 12), .inl (.int, 12), .inl (.int, 30), .inl (.int, 30), .inl (.int, 30), .inl (.int, 40), .inl (.int, 40), .inl (.int, 40), .inl (.int, 40), .inl (.int, 8), .inl (.int, 8), .inl (.int, 40), .inl (.boolean, 40), .inl (.int, 60), .inl (.int, 30), .inl (.int, 30), .inl (.int, 30), .inl (.int, 30), .inl (.int, 8), .inl (.int, 8), .inl (.int, 8), .inl (.long, 12), .inl (.int, 8), .inl (.int, 64), .inl (.int, 20), .inl (.int, 20), .inl (.int, 20), .inl (.int, 40), .inl (.int, 0), .inl (.int, 0), .inl (.int, 0), .inl (.int, 0), .inl (.int, 0), .inl (.int, 0), .inr 10, .inr 4, .inr 6, .inr 0, .inr 3, .inr 5, .inl (.int, 12), .inl (.int, 12), .inl (.long, 12), .inl (.int, 100), .inl (.int, 100), .inl (.int, 100), .inl (.long, 60), .inl (.long, 60), .inl (.int, 12), .inl (.int, 12), .inl (.int, 12), .inl (.int, 12), .inl (.int, 30), .inl (.int, 30), .inl (.int, 30), .inl (.int, 40), .inl (.int, 40), .inl (.int, 40), .inl (.int, 40), .inl (.int, 8), .inl (.int, 8), .inl (.int, 40), .inl (.boolean, 40), .inl (.int, 60), .inl (.int, 30), .inl (.int, 30), .inl (.int, 30), .inl (.int, 30), .inl (.int, 8), .inl (.int, 8), .inl (.int, 8), .inl (.long, 12), .inl (.int, 8), .inl (.int, 64), .inl (.int, 20), .inl (.int, 20), .inl (.int, 20), .inl (.int, 40), .inl (.int, 0), .inl (.int, 0), .inl (.int, 0), .inl (.int, 0), .inl (.int, 0), .inl (.int, 0), .inr 9, .inl (.long, 12), .inl (.long, 12), .inl (.int, 0), .inr 1, .inl (.long, 8), .inl (.int, 64), .inl (.long, 8), .inl (.long, 8), .inl (.long, 8), .inl (.long, 64), .inl (.long, 8), .inl (.int, 0), .inl (.int, 0), .inr 1, .inl (.long, 8), .inl (.int, 64), .inl (.long, 8), .inl (.long, 8), .inl (.long, 8), .inl (.long, 64), .inl (.long, 8), .inl (.int, 0), .inl (.int, 0), .inr 7, .inl (.long, 7), .inl (.int, 40), .inl (.int, 0), .inl (.int, 0), .inl (.int, 0), .inr 12, .inl (.long, 1200), .inl (.long, 2400), .inl (.boolean, 2), .inl (.long, 12), .inl (.long, 8), .inl (.long, 8), .inl (.long, 8), .inl (.long, 8), .inl (.long, 64), .inl (.int, 128), .inl (.long, 7), .inl (.int, 300)]
def am_lay (k : Nat) : (FieldType × Nat) ⊕ Nat := am_lays.getD k (.inl (.int, 0))
theorem ly_0 : am_lay 0 = .inr 11 := rfl
theorem ly_1 : am_lay 1 = .inl ((.object RX10), 2) := rfl
theorem ly_2 : am_lay 2 = .inr 8 := rfl
theorem ly_3 : am_lay 3 = .inl (.int, 100) := rfl
theorem ly_4 : am_lay 4 = .inl (.int, 100) := rfl
theorem ly_5 : am_lay 5 = .inl (.int, 100) := rfl
theorem ly_6 : am_lay 6 = .inl (.boolean, 100) := rfl
theorem ly_7 : am_lay 7 = .inr 2 := rfl
theorem ly_10 : am_lay 10 = .inr 10 := rfl
theorem ly_11 : am_lay 11 = .inr 4 := rfl
theorem ly_12 : am_lay 12 = .inr 6 := rfl
theorem ly_13 : am_lay 13 = .inr 0 := rfl
theorem ly_14 : am_lay 14 = .inr 3 := rfl
theorem ly_15 : am_lay 15 = .inr 5 := rfl
theorem ly_16 : am_lay 16 = .inl (.int, 12) := rfl
theorem ly_17 : am_lay 17 = .inl (.int, 12) := rfl
theorem ly_18 : am_lay 18 = .inl (.long, 12) := rfl
theorem ly_19 : am_lay 19 = .inl (.int, 100) := rfl
theorem ly_20 : am_lay 20 = .inl (.int, 100) := rfl
theorem ly_21 : am_lay 21 = .inl (.int, 100) := rfl
theorem ly_22 : am_lay 22 = .inl (.long, 60) := rfl
theorem ly_23 : am_lay 23 = .inl (.long, 60) := rfl
theorem ly_24 : am_lay 24 = .inl (.int, 12) := rfl
theorem ly_25 : am_lay 25 = .inl (.int, 12) := rfl
theorem ly_26 : am_lay 26 = .inl (.int, 12) := rfl
theorem ly_27 : am_lay 27 = .inl (.int, 12) := rfl
theorem ly_28 : am_lay 28 = .inl (.int, 30) := rfl
theorem ly_29 : am_lay 29 = .inl (.int, 30) := rfl
theorem ly_30 : am_lay 30 = .inl (.int, 30) := rfl
theorem ly_31 : am_lay 31 = .inl (.int, 40) := rfl
theorem ly_32 : am_lay 32 = .inl (.int, 40) := rfl
theorem ly_33 : am_lay 33 = .inl (.int, 40) := rfl
theorem ly_34 : am_lay 34 = .inl (.int, 40) := rfl
theorem ly_35 : am_lay 35 = .inl (.int, 8) := rfl
theorem ly_36 : am_lay 36 = .inl (.int, 8) := rfl
theorem ly_37 : am_lay 37 = .inl (.int, 40) := rfl
theorem ly_38 : am_lay 38 = .inl (.boolean, 40) := rfl
theorem ly_39 : am_lay 39 = .inl (.int, 60) := rfl
theorem ly_40 : am_lay 40 = .inl (.int, 30) := rfl
theorem ly_41 : am_lay 41 = .inl (.int, 30) := rfl
theorem ly_42 : am_lay 42 = .inl (.int, 30) := rfl
theorem ly_43 : am_lay 43 = .inl (.int, 30) := rfl
theorem ly_44 : am_lay 44 = .inl (.int, 8) := rfl
theorem ly_45 : am_lay 45 = .inl (.int, 8) := rfl
theorem ly_46 : am_lay 46 = .inl (.int, 8) := rfl
theorem ly_47 : am_lay 47 = .inl (.long, 12) := rfl
theorem ly_48 : am_lay 48 = .inl (.int, 8) := rfl
theorem ly_49 : am_lay 49 = .inl (.int, 64) := rfl
theorem ly_50 : am_lay 50 = .inl (.int, 20) := rfl
theorem ly_51 : am_lay 51 = .inl (.int, 20) := rfl
theorem ly_52 : am_lay 52 = .inl (.int, 20) := rfl
theorem ly_53 : am_lay 53 = .inl (.int, 40) := rfl
theorem ly_60 : am_lay 60 = .inr 10 := rfl
theorem ly_61 : am_lay 61 = .inr 4 := rfl
theorem ly_62 : am_lay 62 = .inr 6 := rfl
theorem ly_63 : am_lay 63 = .inr 0 := rfl
theorem ly_64 : am_lay 64 = .inr 3 := rfl
theorem ly_65 : am_lay 65 = .inr 5 := rfl
theorem ly_66 : am_lay 66 = .inl (.int, 12) := rfl
theorem ly_67 : am_lay 67 = .inl (.int, 12) := rfl
theorem ly_68 : am_lay 68 = .inl (.long, 12) := rfl
theorem ly_69 : am_lay 69 = .inl (.int, 100) := rfl
theorem ly_70 : am_lay 70 = .inl (.int, 100) := rfl
theorem ly_71 : am_lay 71 = .inl (.int, 100) := rfl
theorem ly_72 : am_lay 72 = .inl (.long, 60) := rfl
theorem ly_73 : am_lay 73 = .inl (.long, 60) := rfl
theorem ly_74 : am_lay 74 = .inl (.int, 12) := rfl
theorem ly_75 : am_lay 75 = .inl (.int, 12) := rfl
theorem ly_76 : am_lay 76 = .inl (.int, 12) := rfl
theorem ly_77 : am_lay 77 = .inl (.int, 12) := rfl
theorem ly_78 : am_lay 78 = .inl (.int, 30) := rfl
theorem ly_79 : am_lay 79 = .inl (.int, 30) := rfl
theorem ly_80 : am_lay 80 = .inl (.int, 30) := rfl
theorem ly_81 : am_lay 81 = .inl (.int, 40) := rfl
theorem ly_82 : am_lay 82 = .inl (.int, 40) := rfl
theorem ly_83 : am_lay 83 = .inl (.int, 40) := rfl
theorem ly_84 : am_lay 84 = .inl (.int, 40) := rfl
theorem ly_85 : am_lay 85 = .inl (.int, 8) := rfl
theorem ly_86 : am_lay 86 = .inl (.int, 8) := rfl
theorem ly_87 : am_lay 87 = .inl (.int, 40) := rfl
theorem ly_88 : am_lay 88 = .inl (.boolean, 40) := rfl
theorem ly_89 : am_lay 89 = .inl (.int, 60) := rfl
theorem ly_90 : am_lay 90 = .inl (.int, 30) := rfl
theorem ly_91 : am_lay 91 = .inl (.int, 30) := rfl
theorem ly_92 : am_lay 92 = .inl (.int, 30) := rfl
theorem ly_93 : am_lay 93 = .inl (.int, 30) := rfl
theorem ly_94 : am_lay 94 = .inl (.int, 8) := rfl
theorem ly_95 : am_lay 95 = .inl (.int, 8) := rfl
theorem ly_96 : am_lay 96 = .inl (.int, 8) := rfl
theorem ly_97 : am_lay 97 = .inl (.long, 12) := rfl
theorem ly_98 : am_lay 98 = .inl (.int, 8) := rfl
theorem ly_99 : am_lay 99 = .inl (.int, 64) := rfl
theorem ly_100 : am_lay 100 = .inl (.int, 20) := rfl
theorem ly_101 : am_lay 101 = .inl (.int, 20) := rfl
theorem ly_102 : am_lay 102 = .inl (.int, 20) := rfl
theorem ly_103 : am_lay 103 = .inl (.int, 40) := rfl
theorem ly_110 : am_lay 110 = .inr 10 := rfl
theorem ly_111 : am_lay 111 = .inr 4 := rfl
theorem ly_112 : am_lay 112 = .inr 6 := rfl
theorem ly_113 : am_lay 113 = .inr 0 := rfl
theorem ly_114 : am_lay 114 = .inr 3 := rfl
theorem ly_115 : am_lay 115 = .inr 5 := rfl
theorem ly_116 : am_lay 116 = .inl (.int, 12) := rfl
theorem ly_117 : am_lay 117 = .inl (.int, 12) := rfl
theorem ly_118 : am_lay 118 = .inl (.long, 12) := rfl
theorem ly_119 : am_lay 119 = .inl (.int, 100) := rfl
theorem ly_120 : am_lay 120 = .inl (.int, 100) := rfl
theorem ly_121 : am_lay 121 = .inl (.int, 100) := rfl
theorem ly_122 : am_lay 122 = .inl (.long, 60) := rfl
theorem ly_123 : am_lay 123 = .inl (.long, 60) := rfl
theorem ly_124 : am_lay 124 = .inl (.int, 12) := rfl
theorem ly_125 : am_lay 125 = .inl (.int, 12) := rfl
theorem ly_126 : am_lay 126 = .inl (.int, 12) := rfl
theorem ly_127 : am_lay 127 = .inl (.int, 12) := rfl
theorem ly_128 : am_lay 128 = .inl (.int, 30) := rfl
theorem ly_129 : am_lay 129 = .inl (.int, 30) := rfl
theorem ly_130 : am_lay 130 = .inl (.int, 30) := rfl
theorem ly_131 : am_lay 131 = .inl (.int, 40) := rfl
theorem ly_132 : am_lay 132 = .inl (.int, 40) := rfl
theorem ly_133 : am_lay 133 = .inl (.int, 40) := rfl
theorem ly_134 : am_lay 134 = .inl (.int, 40) := rfl
theorem ly_135 : am_lay 135 = .inl (.int, 8) := rfl
theorem ly_136 : am_lay 136 = .inl (.int, 8) := rfl
theorem ly_137 : am_lay 137 = .inl (.int, 40) := rfl
theorem ly_138 : am_lay 138 = .inl (.boolean, 40) := rfl
theorem ly_139 : am_lay 139 = .inl (.int, 60) := rfl
theorem ly_140 : am_lay 140 = .inl (.int, 30) := rfl
theorem ly_141 : am_lay 141 = .inl (.int, 30) := rfl
theorem ly_142 : am_lay 142 = .inl (.int, 30) := rfl
theorem ly_143 : am_lay 143 = .inl (.int, 30) := rfl
theorem ly_144 : am_lay 144 = .inl (.int, 8) := rfl
theorem ly_145 : am_lay 145 = .inl (.int, 8) := rfl
theorem ly_146 : am_lay 146 = .inl (.int, 8) := rfl
theorem ly_147 : am_lay 147 = .inl (.long, 12) := rfl
theorem ly_148 : am_lay 148 = .inl (.int, 8) := rfl
theorem ly_149 : am_lay 149 = .inl (.int, 64) := rfl
theorem ly_150 : am_lay 150 = .inl (.int, 20) := rfl
theorem ly_151 : am_lay 151 = .inl (.int, 20) := rfl
theorem ly_152 : am_lay 152 = .inl (.int, 20) := rfl
theorem ly_153 : am_lay 153 = .inl (.int, 40) := rfl
theorem ly_160 : am_lay 160 = .inr 9 := rfl
theorem ly_161 : am_lay 161 = .inl (.long, 12) := rfl
theorem ly_162 : am_lay 162 = .inl (.long, 12) := rfl
theorem ly_164 : am_lay 164 = .inr 1 := rfl
theorem ly_165 : am_lay 165 = .inl (.long, 8) := rfl
theorem ly_166 : am_lay 166 = .inl (.int, 64) := rfl
theorem ly_167 : am_lay 167 = .inl (.long, 8) := rfl
theorem ly_168 : am_lay 168 = .inl (.long, 8) := rfl
theorem ly_169 : am_lay 169 = .inl (.long, 8) := rfl
theorem ly_170 : am_lay 170 = .inl (.long, 64) := rfl
theorem ly_171 : am_lay 171 = .inl (.long, 8) := rfl
theorem ly_174 : am_lay 174 = .inr 1 := rfl
theorem ly_175 : am_lay 175 = .inl (.long, 8) := rfl
theorem ly_176 : am_lay 176 = .inl (.int, 64) := rfl
theorem ly_177 : am_lay 177 = .inl (.long, 8) := rfl
theorem ly_178 : am_lay 178 = .inl (.long, 8) := rfl
theorem ly_179 : am_lay 179 = .inl (.long, 8) := rfl
theorem ly_180 : am_lay 180 = .inl (.long, 64) := rfl
theorem ly_181 : am_lay 181 = .inl (.long, 8) := rfl
theorem ly_184 : am_lay 184 = .inr 7 := rfl
theorem ly_185 : am_lay 185 = .inl (.long, 7) := rfl
theorem ly_186 : am_lay 186 = .inl (.int, 40) := rfl
theorem ly_190 : am_lay 190 = .inr 12 := rfl
theorem ly_191 : am_lay 191 = .inl (.long, 1200) := rfl
theorem ly_192 : am_lay 192 = .inl (.long, 2400) := rfl
theorem ly_193 : am_lay 193 = .inl (.boolean, 2) := rfl
theorem ly_194 : am_lay 194 = .inl (.long, 12) := rfl
theorem ly_195 : am_lay 195 = .inl (.long, 8) := rfl
theorem ly_196 : am_lay 196 = .inl (.long, 8) := rfl
theorem ly_197 : am_lay 197 = .inl (.long, 8) := rfl
theorem ly_198 : am_lay 198 = .inl (.long, 8) := rfl
theorem ly_199 : am_lay 199 = .inl (.long, 64) := rfl
theorem ly_200 : am_lay 200 = .inl (.int, 128) := rfl
theorem ly_201 : am_lay 201 = .inl (.long, 7) := rfl
theorem ly_202 : am_lay 202 = .inl (.int, 300) := rfl
def am_ty : Nat → Nat → FieldType := fun ci => match ci with
  | 0 => tyX0
  | 1 => tyX1
  | 2 => tyX2
  | 3 => tyX3
  | 4 => tyX4
  | 5 => tyX5
  | 6 => tyX6
  | 7 => tyX7
  | 8 => tyX8
  | 9 => tyX9
  | 10 => tyX10
  | 11 => tyX11
  | _ => tyX12
def am_N : Nat → Nat := fun ci => match ci with
  | 0 => 13
  | 1 => 9
  | 2 => 2
  | 3 => 3
  | 4 => 20
  | 5 => 6
  | 6 => 13
  | 7 => 6
  | 8 => 7
  | 9 => 4
  | 10 => 5
  | 11 => 8
  | _ => 23
def am_cls (ci : Nat) (C : String) (T : u_T) (N : Nat) : Prop := vwCl[ci]? = some (C, T, N) ∧ am_N ci = N ∧ (∀ k, k < N → parseFieldDescriptor (T k).2.2.1 = some (am_ty ci k)) ∧ (∀ a, a < N → ∀ b, b < N → a ≠ b → (T a).2.1 ≠ (T b).2.1) ∧ ∀ w ∈ u_ws C T N, w ∈ lw_tbl
theorem cls_0 : am_cls 0 RX0 TX0 13 := ⟨rfl, rfl, tyX0_ok, nmX0, by decide +kernel⟩
theorem cls_1 : am_cls 1 RX1 TX1 9 := ⟨rfl, rfl, tyX1_ok, nmX1, by decide +kernel⟩
theorem cls_2 : am_cls 2 RX2 TX2 2 := ⟨rfl, rfl, tyX2_ok, nmX2, by decide +kernel⟩
theorem cls_3 : am_cls 3 RX3 TX3 3 := ⟨rfl, rfl, tyX3_ok, nmX3, by decide +kernel⟩
theorem cls_4 : am_cls 4 RX4 TX4 20 := ⟨rfl, rfl, tyX4_ok, nmX4, by decide +kernel⟩
theorem cls_5 : am_cls 5 RX5 TX5 6 := ⟨rfl, rfl, tyX5_ok, nmX5, by decide +kernel⟩
theorem cls_6 : am_cls 6 RX6 TX6 13 := ⟨rfl, rfl, tyX6_ok, nmX6, by decide +kernel⟩
theorem cls_7 : am_cls 7 RX7 TX7 6 := ⟨rfl, rfl, tyX7_ok, nmX7, by decide +kernel⟩
theorem cls_8 : am_cls 8 RX8 TX8 7 := ⟨rfl, rfl, tyX8_ok, nmX8, by decide +kernel⟩
theorem cls_9 : am_cls 9 RX9 TX9 4 := ⟨rfl, rfl, tyX9_ok, nmX9, by decide +kernel⟩
theorem cls_10 : am_cls 10 RX10 TX10 5 := ⟨rfl, rfl, tyX10_ok, nmX10, by decide +kernel⟩
theorem cls_11 : am_cls 11 RX11 TX11 8 := ⟨rfl, rfl, tyX11_ok, nmX11, by decide +kernel⟩
theorem cls_12 : am_cls 12 RX12 TX12 23 := ⟨rfl, rfl, tyX12_ok, nmX12, by decide +kernel⟩
def am_ba : List Nat := [0, 1, 2, 3, 4, 5, 6, 7, 10, 11, 12, 13, 14, 15, 16, 17, 18, 19, 20, 21, 22, 23, 24, 25, 26, 27, 28, 29, 30, 31, 32, 33, 34, 35, 36, 37, 38, 39, 40, 41, 42, 43, 44, 45, 46, 47, 48, 49, 50, 51, 52, 53, 160, 161, 162, 164, 165, 166, 167, 168, 169, 170, 171, 174, 175, 176, 177, 178, 179, 180, 181, 184, 185, 186, 190, 191, 192, 193, 194, 195, 196, 197, 198, 199, 200, 201, 202]
def am_sr : List (Nat × Nat × Nat) := [(0, 0, 10), (0, 1, 1), (0, 2, 2), (0, 3, 7), (0, 4, 160), (0, 5, 164), (0, 6, 174), (0, 7, 184), (2, 0, 3), (2, 1, 4), (2, 2, 5), (2, 3, 6), (10, 0, 11), (10, 1, 12), (10, 2, 13), (10, 3, 14), (10, 4, 15), (11, 0, 16), (11, 1, 17), (11, 2, 18), (11, 4, 19), (11, 5, 20), (11, 6, 21), (11, 14, 22), (11, 15, 23), (11, 16, 24), (11, 17, 25), (11, 18, 26), (11, 19, 27), (12, 0, 28), (12, 1, 29), (12, 2, 30), (12, 3, 31), (12, 4, 32), (12, 5, 33), (12, 6, 34), (12, 8, 35), (12, 9, 36), (12, 11, 37), (12, 12, 38), (13, 0, 39), (13, 1, 40), (13, 2, 41), (13, 3, 42), (13, 4, 43), (13, 8, 44), (13, 9, 45), (13, 10, 46), (13, 12, 47), (14, 0, 48), (14, 1, 49), (15, 0, 50), (15, 1, 51), (15, 2, 52), (15, 4, 53), (160, 0, 161), (160, 1, 162), (164, 1, 165), (164, 2, 166), (164, 3, 167), (164, 4, 168), (164, 5, 169), (164, 6, 170), (164, 7, 171), (174, 1, 175), (174, 2, 176), (174, 3, 177), (174, 4, 178), (174, 5, 179), (174, 6, 180), (174, 7, 181), (184, 0, 185), (184, 1, 186), (190, 0, 191), (190, 1, 192), (190, 2, 193), (190, 5, 194), (190, 6, 195), (190, 7, 196), (190, 8, 197), (190, 9, 198), (190, 13, 199), (190, 15, 200), (190, 17, 201), (190, 19, 202)]
def am_st (al : List Nat) (R : Nat → Nat → Option Nat) : Prop := (∀ k ∈ am_ba, k ∈ al) ∧ ∀ q ∈ am_sr, R q.1 q.2.1 = some q.2.2
theorem ba_0 {al : List Nat} {R : Nat → Nat → Option Nat} (h : am_st al R) : 0 ∈ al := h.1 0 (List.mem_of_getElem? (i := 0) rfl)
theorem ba_1 {al : List Nat} {R : Nat → Nat → Option Nat} (h : am_st al R) : 1 ∈ al := h.1 1 (List.mem_of_getElem? (i := 1) rfl)
theorem ba_2 {al : List Nat} {R : Nat → Nat → Option Nat} (h : am_st al R) : 2 ∈ al := h.1 2 (List.mem_of_getElem? (i := 2) rfl)
theorem ba_3 {al : List Nat} {R : Nat → Nat → Option Nat} (h : am_st al R) : 3 ∈ al := h.1 3 (List.mem_of_getElem? (i := 3) rfl)
theorem ba_4 {al : List Nat} {R : Nat → Nat → Option Nat} (h : am_st al R) : 4 ∈ al := h.1 4 (List.mem_of_getElem? (i := 4) rfl)
theorem ba_5 {al : List Nat} {R : Nat → Nat → Option Nat} (h : am_st al R) : 5 ∈ al := h.1 5 (List.mem_of_getElem? (i := 5) rfl)
theorem ba_6 {al : List Nat} {R : Nat → Nat → Option Nat} (h : am_st al R) : 6 ∈ al := h.1 6 (List.mem_of_getElem? (i := 6) rfl)
theorem ba_7 {al : List Nat} {R : Nat → Nat → Option Nat} (h : am_st al R) : 7 ∈ al := h.1 7 (List.mem_of_getElem? (i := 7) rfl)
theorem ba_10 {al : List Nat} {R : Nat → Nat → Option Nat} (h : am_st al R) : 10 ∈ al := h.1 10 (List.mem_of_getElem? (i := 8) rfl)
theorem ba_11 {al : List Nat} {R : Nat → Nat → Option Nat} (h : am_st al R) : 11 ∈ al := h.1 11 (List.mem_of_getElem? (i := 9) rfl)
theorem ba_12 {al : List Nat} {R : Nat → Nat → Option Nat} (h : am_st al R) : 12 ∈ al := h.1 12 (List.mem_of_getElem? (i := 10) rfl)
theorem ba_13 {al : List Nat} {R : Nat → Nat → Option Nat} (h : am_st al R) : 13 ∈ al := h.1 13 (List.mem_of_getElem? (i := 11) rfl)
theorem ba_14 {al : List Nat} {R : Nat → Nat → Option Nat} (h : am_st al R) : 14 ∈ al := h.1 14 (List.mem_of_getElem? (i := 12) rfl)
theorem ba_15 {al : List Nat} {R : Nat → Nat → Option Nat} (h : am_st al R) : 15 ∈ al := h.1 15 (List.mem_of_getElem? (i := 13) rfl)
theorem ba_16 {al : List Nat} {R : Nat → Nat → Option Nat} (h : am_st al R) : 16 ∈ al := h.1 16 (List.mem_of_getElem? (i := 14) rfl)
theorem ba_17 {al : List Nat} {R : Nat → Nat → Option Nat} (h : am_st al R) : 17 ∈ al := h.1 17 (List.mem_of_getElem? (i := 15) rfl)
theorem ba_18 {al : List Nat} {R : Nat → Nat → Option Nat} (h : am_st al R) : 18 ∈ al := h.1 18 (List.mem_of_getElem? (i := 16) rfl)
theorem ba_19 {al : List Nat} {R : Nat → Nat → Option Nat} (h : am_st al R) : 19 ∈ al := h.1 19 (List.mem_of_getElem? (i := 17) rfl)
theorem ba_20 {al : List Nat} {R : Nat → Nat → Option Nat} (h : am_st al R) : 20 ∈ al := h.1 20 (List.mem_of_getElem? (i := 18) rfl)
theorem ba_21 {al : List Nat} {R : Nat → Nat → Option Nat} (h : am_st al R) : 21 ∈ al := h.1 21 (List.mem_of_getElem? (i := 19) rfl)
theorem ba_22 {al : List Nat} {R : Nat → Nat → Option Nat} (h : am_st al R) : 22 ∈ al := h.1 22 (List.mem_of_getElem? (i := 20) rfl)
theorem ba_23 {al : List Nat} {R : Nat → Nat → Option Nat} (h : am_st al R) : 23 ∈ al := h.1 23 (List.mem_of_getElem? (i := 21) rfl)
theorem ba_24 {al : List Nat} {R : Nat → Nat → Option Nat} (h : am_st al R) : 24 ∈ al := h.1 24 (List.mem_of_getElem? (i := 22) rfl)
theorem ba_25 {al : List Nat} {R : Nat → Nat → Option Nat} (h : am_st al R) : 25 ∈ al := h.1 25 (List.mem_of_getElem? (i := 23) rfl)
theorem ba_26 {al : List Nat} {R : Nat → Nat → Option Nat} (h : am_st al R) : 26 ∈ al := h.1 26 (List.mem_of_getElem? (i := 24) rfl)
theorem ba_27 {al : List Nat} {R : Nat → Nat → Option Nat} (h : am_st al R) : 27 ∈ al := h.1 27 (List.mem_of_getElem? (i := 25) rfl)
theorem ba_28 {al : List Nat} {R : Nat → Nat → Option Nat} (h : am_st al R) : 28 ∈ al := h.1 28 (List.mem_of_getElem? (i := 26) rfl)
theorem ba_29 {al : List Nat} {R : Nat → Nat → Option Nat} (h : am_st al R) : 29 ∈ al := h.1 29 (List.mem_of_getElem? (i := 27) rfl)
theorem ba_30 {al : List Nat} {R : Nat → Nat → Option Nat} (h : am_st al R) : 30 ∈ al := h.1 30 (List.mem_of_getElem? (i := 28) rfl)
theorem ba_31 {al : List Nat} {R : Nat → Nat → Option Nat} (h : am_st al R) : 31 ∈ al := h.1 31 (List.mem_of_getElem? (i := 29) rfl)
theorem ba_32 {al : List Nat} {R : Nat → Nat → Option Nat} (h : am_st al R) : 32 ∈ al := h.1 32 (List.mem_of_getElem? (i := 30) rfl)
theorem ba_33 {al : List Nat} {R : Nat → Nat → Option Nat} (h : am_st al R) : 33 ∈ al := h.1 33 (List.mem_of_getElem? (i := 31) rfl)
theorem ba_34 {al : List Nat} {R : Nat → Nat → Option Nat} (h : am_st al R) : 34 ∈ al := h.1 34 (List.mem_of_getElem? (i := 32) rfl)
theorem ba_35 {al : List Nat} {R : Nat → Nat → Option Nat} (h : am_st al R) : 35 ∈ al := h.1 35 (List.mem_of_getElem? (i := 33) rfl)
theorem ba_36 {al : List Nat} {R : Nat → Nat → Option Nat} (h : am_st al R) : 36 ∈ al := h.1 36 (List.mem_of_getElem? (i := 34) rfl)
theorem ba_37 {al : List Nat} {R : Nat → Nat → Option Nat} (h : am_st al R) : 37 ∈ al := h.1 37 (List.mem_of_getElem? (i := 35) rfl)
theorem ba_38 {al : List Nat} {R : Nat → Nat → Option Nat} (h : am_st al R) : 38 ∈ al := h.1 38 (List.mem_of_getElem? (i := 36) rfl)
theorem ba_39 {al : List Nat} {R : Nat → Nat → Option Nat} (h : am_st al R) : 39 ∈ al := h.1 39 (List.mem_of_getElem? (i := 37) rfl)
theorem ba_40 {al : List Nat} {R : Nat → Nat → Option Nat} (h : am_st al R) : 40 ∈ al := h.1 40 (List.mem_of_getElem? (i := 38) rfl)
theorem ba_41 {al : List Nat} {R : Nat → Nat → Option Nat} (h : am_st al R) : 41 ∈ al := h.1 41 (List.mem_of_getElem? (i := 39) rfl)
theorem ba_42 {al : List Nat} {R : Nat → Nat → Option Nat} (h : am_st al R) : 42 ∈ al := h.1 42 (List.mem_of_getElem? (i := 40) rfl)
theorem ba_43 {al : List Nat} {R : Nat → Nat → Option Nat} (h : am_st al R) : 43 ∈ al := h.1 43 (List.mem_of_getElem? (i := 41) rfl)
theorem ba_44 {al : List Nat} {R : Nat → Nat → Option Nat} (h : am_st al R) : 44 ∈ al := h.1 44 (List.mem_of_getElem? (i := 42) rfl)
theorem ba_45 {al : List Nat} {R : Nat → Nat → Option Nat} (h : am_st al R) : 45 ∈ al := h.1 45 (List.mem_of_getElem? (i := 43) rfl)
theorem ba_46 {al : List Nat} {R : Nat → Nat → Option Nat} (h : am_st al R) : 46 ∈ al := h.1 46 (List.mem_of_getElem? (i := 44) rfl)
theorem ba_47 {al : List Nat} {R : Nat → Nat → Option Nat} (h : am_st al R) : 47 ∈ al := h.1 47 (List.mem_of_getElem? (i := 45) rfl)
theorem ba_48 {al : List Nat} {R : Nat → Nat → Option Nat} (h : am_st al R) : 48 ∈ al := h.1 48 (List.mem_of_getElem? (i := 46) rfl)
theorem ba_49 {al : List Nat} {R : Nat → Nat → Option Nat} (h : am_st al R) : 49 ∈ al := h.1 49 (List.mem_of_getElem? (i := 47) rfl)
theorem ba_50 {al : List Nat} {R : Nat → Nat → Option Nat} (h : am_st al R) : 50 ∈ al := h.1 50 (List.mem_of_getElem? (i := 48) rfl)
theorem ba_51 {al : List Nat} {R : Nat → Nat → Option Nat} (h : am_st al R) : 51 ∈ al := h.1 51 (List.mem_of_getElem? (i := 49) rfl)
theorem ba_52 {al : List Nat} {R : Nat → Nat → Option Nat} (h : am_st al R) : 52 ∈ al := h.1 52 (List.mem_of_getElem? (i := 50) rfl)
theorem ba_53 {al : List Nat} {R : Nat → Nat → Option Nat} (h : am_st al R) : 53 ∈ al := h.1 53 (List.mem_of_getElem? (i := 51) rfl)
theorem ba_160 {al : List Nat} {R : Nat → Nat → Option Nat} (h : am_st al R) : 160 ∈ al := h.1 160 (List.mem_of_getElem? (i := 52) rfl)
theorem ba_161 {al : List Nat} {R : Nat → Nat → Option Nat} (h : am_st al R) : 161 ∈ al := h.1 161 (List.mem_of_getElem? (i := 53) rfl)
theorem ba_162 {al : List Nat} {R : Nat → Nat → Option Nat} (h : am_st al R) : 162 ∈ al := h.1 162 (List.mem_of_getElem? (i := 54) rfl)
theorem ba_164 {al : List Nat} {R : Nat → Nat → Option Nat} (h : am_st al R) : 164 ∈ al := h.1 164 (List.mem_of_getElem? (i := 55) rfl)
theorem ba_165 {al : List Nat} {R : Nat → Nat → Option Nat} (h : am_st al R) : 165 ∈ al := h.1 165 (List.mem_of_getElem? (i := 56) rfl)
theorem ba_166 {al : List Nat} {R : Nat → Nat → Option Nat} (h : am_st al R) : 166 ∈ al := h.1 166 (List.mem_of_getElem? (i := 57) rfl)
theorem ba_167 {al : List Nat} {R : Nat → Nat → Option Nat} (h : am_st al R) : 167 ∈ al := h.1 167 (List.mem_of_getElem? (i := 58) rfl)
theorem ba_168 {al : List Nat} {R : Nat → Nat → Option Nat} (h : am_st al R) : 168 ∈ al := h.1 168 (List.mem_of_getElem? (i := 59) rfl)
theorem ba_169 {al : List Nat} {R : Nat → Nat → Option Nat} (h : am_st al R) : 169 ∈ al := h.1 169 (List.mem_of_getElem? (i := 60) rfl)
theorem ba_170 {al : List Nat} {R : Nat → Nat → Option Nat} (h : am_st al R) : 170 ∈ al := h.1 170 (List.mem_of_getElem? (i := 61) rfl)
theorem ba_171 {al : List Nat} {R : Nat → Nat → Option Nat} (h : am_st al R) : 171 ∈ al := h.1 171 (List.mem_of_getElem? (i := 62) rfl)
theorem ba_174 {al : List Nat} {R : Nat → Nat → Option Nat} (h : am_st al R) : 174 ∈ al := h.1 174 (List.mem_of_getElem? (i := 63) rfl)
theorem ba_175 {al : List Nat} {R : Nat → Nat → Option Nat} (h : am_st al R) : 175 ∈ al := h.1 175 (List.mem_of_getElem? (i := 64) rfl)
theorem ba_176 {al : List Nat} {R : Nat → Nat → Option Nat} (h : am_st al R) : 176 ∈ al := h.1 176 (List.mem_of_getElem? (i := 65) rfl)
theorem ba_177 {al : List Nat} {R : Nat → Nat → Option Nat} (h : am_st al R) : 177 ∈ al := h.1 177 (List.mem_of_getElem? (i := 66) rfl)
theorem ba_178 {al : List Nat} {R : Nat → Nat → Option Nat} (h : am_st al R) : 178 ∈ al := h.1 178 (List.mem_of_getElem? (i := 67) rfl)
theorem ba_179 {al : List Nat} {R : Nat → Nat → Option Nat} (h : am_st al R) : 179 ∈ al := h.1 179 (List.mem_of_getElem? (i := 68) rfl)
theorem ba_180 {al : List Nat} {R : Nat → Nat → Option Nat} (h : am_st al R) : 180 ∈ al := h.1 180 (List.mem_of_getElem? (i := 69) rfl)
theorem ba_181 {al : List Nat} {R : Nat → Nat → Option Nat} (h : am_st al R) : 181 ∈ al := h.1 181 (List.mem_of_getElem? (i := 70) rfl)
theorem ba_184 {al : List Nat} {R : Nat → Nat → Option Nat} (h : am_st al R) : 184 ∈ al := h.1 184 (List.mem_of_getElem? (i := 71) rfl)
theorem ba_185 {al : List Nat} {R : Nat → Nat → Option Nat} (h : am_st al R) : 185 ∈ al := h.1 185 (List.mem_of_getElem? (i := 72) rfl)
theorem ba_186 {al : List Nat} {R : Nat → Nat → Option Nat} (h : am_st al R) : 186 ∈ al := h.1 186 (List.mem_of_getElem? (i := 73) rfl)
theorem ba_190 {al : List Nat} {R : Nat → Nat → Option Nat} (h : am_st al R) : 190 ∈ al := h.1 190 (List.mem_of_getElem? (i := 74) rfl)
theorem ba_191 {al : List Nat} {R : Nat → Nat → Option Nat} (h : am_st al R) : 191 ∈ al := h.1 191 (List.mem_of_getElem? (i := 75) rfl)
theorem ba_192 {al : List Nat} {R : Nat → Nat → Option Nat} (h : am_st al R) : 192 ∈ al := h.1 192 (List.mem_of_getElem? (i := 76) rfl)
theorem ba_193 {al : List Nat} {R : Nat → Nat → Option Nat} (h : am_st al R) : 193 ∈ al := h.1 193 (List.mem_of_getElem? (i := 77) rfl)
theorem ba_194 {al : List Nat} {R : Nat → Nat → Option Nat} (h : am_st al R) : 194 ∈ al := h.1 194 (List.mem_of_getElem? (i := 78) rfl)
theorem ba_195 {al : List Nat} {R : Nat → Nat → Option Nat} (h : am_st al R) : 195 ∈ al := h.1 195 (List.mem_of_getElem? (i := 79) rfl)
theorem ba_196 {al : List Nat} {R : Nat → Nat → Option Nat} (h : am_st al R) : 196 ∈ al := h.1 196 (List.mem_of_getElem? (i := 80) rfl)
theorem ba_197 {al : List Nat} {R : Nat → Nat → Option Nat} (h : am_st al R) : 197 ∈ al := h.1 197 (List.mem_of_getElem? (i := 81) rfl)
theorem ba_198 {al : List Nat} {R : Nat → Nat → Option Nat} (h : am_st al R) : 198 ∈ al := h.1 198 (List.mem_of_getElem? (i := 82) rfl)
theorem ba_199 {al : List Nat} {R : Nat → Nat → Option Nat} (h : am_st al R) : 199 ∈ al := h.1 199 (List.mem_of_getElem? (i := 83) rfl)
theorem ba_200 {al : List Nat} {R : Nat → Nat → Option Nat} (h : am_st al R) : 200 ∈ al := h.1 200 (List.mem_of_getElem? (i := 84) rfl)
theorem ba_201 {al : List Nat} {R : Nat → Nat → Option Nat} (h : am_st al R) : 201 ∈ al := h.1 201 (List.mem_of_getElem? (i := 85) rfl)
theorem ba_202 {al : List Nat} {R : Nat → Nat → Option Nat} (h : am_st al R) : 202 ∈ al := h.1 202 (List.mem_of_getElem? (i := 86) rfl)
theorem sr_0_0 {al : List Nat} {R : Nat → Nat → Option Nat} (h : am_st al R) : R 0 0 = some 10 := h.2 (0, 0, 10) (List.mem_of_getElem? (i := 0) rfl)
theorem sr_0_1 {al : List Nat} {R : Nat → Nat → Option Nat} (h : am_st al R) : R 0 1 = some 1 := h.2 (0, 1, 1) (List.mem_of_getElem? (i := 1) rfl)
theorem sr_0_2 {al : List Nat} {R : Nat → Nat → Option Nat} (h : am_st al R) : R 0 2 = some 2 := h.2 (0, 2, 2) (List.mem_of_getElem? (i := 2) rfl)
theorem sr_0_3 {al : List Nat} {R : Nat → Nat → Option Nat} (h : am_st al R) : R 0 3 = some 7 := h.2 (0, 3, 7) (List.mem_of_getElem? (i := 3) rfl)
theorem sr_0_4 {al : List Nat} {R : Nat → Nat → Option Nat} (h : am_st al R) : R 0 4 = some 160 := h.2 (0, 4, 160) (List.mem_of_getElem? (i := 4) rfl)
theorem sr_0_5 {al : List Nat} {R : Nat → Nat → Option Nat} (h : am_st al R) : R 0 5 = some 164 := h.2 (0, 5, 164) (List.mem_of_getElem? (i := 5) rfl)
theorem sr_0_6 {al : List Nat} {R : Nat → Nat → Option Nat} (h : am_st al R) : R 0 6 = some 174 := h.2 (0, 6, 174) (List.mem_of_getElem? (i := 6) rfl)
theorem sr_0_7 {al : List Nat} {R : Nat → Nat → Option Nat} (h : am_st al R) : R 0 7 = some 184 := h.2 (0, 7, 184) (List.mem_of_getElem? (i := 7) rfl)
theorem sr_2_0 {al : List Nat} {R : Nat → Nat → Option Nat} (h : am_st al R) : R 2 0 = some 3 := h.2 (2, 0, 3) (List.mem_of_getElem? (i := 8) rfl)
theorem sr_2_1 {al : List Nat} {R : Nat → Nat → Option Nat} (h : am_st al R) : R 2 1 = some 4 := h.2 (2, 1, 4) (List.mem_of_getElem? (i := 9) rfl)
theorem sr_2_2 {al : List Nat} {R : Nat → Nat → Option Nat} (h : am_st al R) : R 2 2 = some 5 := h.2 (2, 2, 5) (List.mem_of_getElem? (i := 10) rfl)
theorem sr_2_3 {al : List Nat} {R : Nat → Nat → Option Nat} (h : am_st al R) : R 2 3 = some 6 := h.2 (2, 3, 6) (List.mem_of_getElem? (i := 11) rfl)
theorem sr_10_0 {al : List Nat} {R : Nat → Nat → Option Nat} (h : am_st al R) : R 10 0 = some 11 := h.2 (10, 0, 11) (List.mem_of_getElem? (i := 12) rfl)
theorem sr_10_1 {al : List Nat} {R : Nat → Nat → Option Nat} (h : am_st al R) : R 10 1 = some 12 := h.2 (10, 1, 12) (List.mem_of_getElem? (i := 13) rfl)
theorem sr_10_2 {al : List Nat} {R : Nat → Nat → Option Nat} (h : am_st al R) : R 10 2 = some 13 := h.2 (10, 2, 13) (List.mem_of_getElem? (i := 14) rfl)
theorem sr_10_3 {al : List Nat} {R : Nat → Nat → Option Nat} (h : am_st al R) : R 10 3 = some 14 := h.2 (10, 3, 14) (List.mem_of_getElem? (i := 15) rfl)
theorem sr_10_4 {al : List Nat} {R : Nat → Nat → Option Nat} (h : am_st al R) : R 10 4 = some 15 := h.2 (10, 4, 15) (List.mem_of_getElem? (i := 16) rfl)
theorem sr_11_0 {al : List Nat} {R : Nat → Nat → Option Nat} (h : am_st al R) : R 11 0 = some 16 := h.2 (11, 0, 16) (List.mem_of_getElem? (i := 17) rfl)
theorem sr_11_1 {al : List Nat} {R : Nat → Nat → Option Nat} (h : am_st al R) : R 11 1 = some 17 := h.2 (11, 1, 17) (List.mem_of_getElem? (i := 18) rfl)
theorem sr_11_2 {al : List Nat} {R : Nat → Nat → Option Nat} (h : am_st al R) : R 11 2 = some 18 := h.2 (11, 2, 18) (List.mem_of_getElem? (i := 19) rfl)
theorem sr_11_4 {al : List Nat} {R : Nat → Nat → Option Nat} (h : am_st al R) : R 11 4 = some 19 := h.2 (11, 4, 19) (List.mem_of_getElem? (i := 20) rfl)
theorem sr_11_5 {al : List Nat} {R : Nat → Nat → Option Nat} (h : am_st al R) : R 11 5 = some 20 := h.2 (11, 5, 20) (List.mem_of_getElem? (i := 21) rfl)
theorem sr_11_6 {al : List Nat} {R : Nat → Nat → Option Nat} (h : am_st al R) : R 11 6 = some 21 := h.2 (11, 6, 21) (List.mem_of_getElem? (i := 22) rfl)
theorem sr_11_14 {al : List Nat} {R : Nat → Nat → Option Nat} (h : am_st al R) : R 11 14 = some 22 := h.2 (11, 14, 22) (List.mem_of_getElem? (i := 23) rfl)
theorem sr_11_15 {al : List Nat} {R : Nat → Nat → Option Nat} (h : am_st al R) : R 11 15 = some 23 := h.2 (11, 15, 23) (List.mem_of_getElem? (i := 24) rfl)
theorem sr_11_16 {al : List Nat} {R : Nat → Nat → Option Nat} (h : am_st al R) : R 11 16 = some 24 := h.2 (11, 16, 24) (List.mem_of_getElem? (i := 25) rfl)
theorem sr_11_17 {al : List Nat} {R : Nat → Nat → Option Nat} (h : am_st al R) : R 11 17 = some 25 := h.2 (11, 17, 25) (List.mem_of_getElem? (i := 26) rfl)
theorem sr_11_18 {al : List Nat} {R : Nat → Nat → Option Nat} (h : am_st al R) : R 11 18 = some 26 := h.2 (11, 18, 26) (List.mem_of_getElem? (i := 27) rfl)
theorem sr_11_19 {al : List Nat} {R : Nat → Nat → Option Nat} (h : am_st al R) : R 11 19 = some 27 := h.2 (11, 19, 27) (List.mem_of_getElem? (i := 28) rfl)
theorem sr_12_0 {al : List Nat} {R : Nat → Nat → Option Nat} (h : am_st al R) : R 12 0 = some 28 := h.2 (12, 0, 28) (List.mem_of_getElem? (i := 29) rfl)
theorem sr_12_1 {al : List Nat} {R : Nat → Nat → Option Nat} (h : am_st al R) : R 12 1 = some 29 := h.2 (12, 1, 29) (List.mem_of_getElem? (i := 30) rfl)
theorem sr_12_2 {al : List Nat} {R : Nat → Nat → Option Nat} (h : am_st al R) : R 12 2 = some 30 := h.2 (12, 2, 30) (List.mem_of_getElem? (i := 31) rfl)
theorem sr_12_3 {al : List Nat} {R : Nat → Nat → Option Nat} (h : am_st al R) : R 12 3 = some 31 := h.2 (12, 3, 31) (List.mem_of_getElem? (i := 32) rfl)
theorem sr_12_4 {al : List Nat} {R : Nat → Nat → Option Nat} (h : am_st al R) : R 12 4 = some 32 := h.2 (12, 4, 32) (List.mem_of_getElem? (i := 33) rfl)
theorem sr_12_5 {al : List Nat} {R : Nat → Nat → Option Nat} (h : am_st al R) : R 12 5 = some 33 := h.2 (12, 5, 33) (List.mem_of_getElem? (i := 34) rfl)
theorem sr_12_6 {al : List Nat} {R : Nat → Nat → Option Nat} (h : am_st al R) : R 12 6 = some 34 := h.2 (12, 6, 34) (List.mem_of_getElem? (i := 35) rfl)
theorem sr_12_8 {al : List Nat} {R : Nat → Nat → Option Nat} (h : am_st al R) : R 12 8 = some 35 := h.2 (12, 8, 35) (List.mem_of_getElem? (i := 36) rfl)
theorem sr_12_9 {al : List Nat} {R : Nat → Nat → Option Nat} (h : am_st al R) : R 12 9 = some 36 := h.2 (12, 9, 36) (List.mem_of_getElem? (i := 37) rfl)
theorem sr_12_11 {al : List Nat} {R : Nat → Nat → Option Nat} (h : am_st al R) : R 12 11 = some 37 := h.2 (12, 11, 37) (List.mem_of_getElem? (i := 38) rfl)
theorem sr_12_12 {al : List Nat} {R : Nat → Nat → Option Nat} (h : am_st al R) : R 12 12 = some 38 := h.2 (12, 12, 38) (List.mem_of_getElem? (i := 39) rfl)
theorem sr_13_0 {al : List Nat} {R : Nat → Nat → Option Nat} (h : am_st al R) : R 13 0 = some 39 := h.2 (13, 0, 39) (List.mem_of_getElem? (i := 40) rfl)
theorem sr_13_1 {al : List Nat} {R : Nat → Nat → Option Nat} (h : am_st al R) : R 13 1 = some 40 := h.2 (13, 1, 40) (List.mem_of_getElem? (i := 41) rfl)
theorem sr_13_2 {al : List Nat} {R : Nat → Nat → Option Nat} (h : am_st al R) : R 13 2 = some 41 := h.2 (13, 2, 41) (List.mem_of_getElem? (i := 42) rfl)
theorem sr_13_3 {al : List Nat} {R : Nat → Nat → Option Nat} (h : am_st al R) : R 13 3 = some 42 := h.2 (13, 3, 42) (List.mem_of_getElem? (i := 43) rfl)
theorem sr_13_4 {al : List Nat} {R : Nat → Nat → Option Nat} (h : am_st al R) : R 13 4 = some 43 := h.2 (13, 4, 43) (List.mem_of_getElem? (i := 44) rfl)
theorem sr_13_8 {al : List Nat} {R : Nat → Nat → Option Nat} (h : am_st al R) : R 13 8 = some 44 := h.2 (13, 8, 44) (List.mem_of_getElem? (i := 45) rfl)
theorem sr_13_9 {al : List Nat} {R : Nat → Nat → Option Nat} (h : am_st al R) : R 13 9 = some 45 := h.2 (13, 9, 45) (List.mem_of_getElem? (i := 46) rfl)
theorem sr_13_10 {al : List Nat} {R : Nat → Nat → Option Nat} (h : am_st al R) : R 13 10 = some 46 := h.2 (13, 10, 46) (List.mem_of_getElem? (i := 47) rfl)
theorem sr_13_12 {al : List Nat} {R : Nat → Nat → Option Nat} (h : am_st al R) : R 13 12 = some 47 := h.2 (13, 12, 47) (List.mem_of_getElem? (i := 48) rfl)
theorem sr_14_0 {al : List Nat} {R : Nat → Nat → Option Nat} (h : am_st al R) : R 14 0 = some 48 := h.2 (14, 0, 48) (List.mem_of_getElem? (i := 49) rfl)
theorem sr_14_1 {al : List Nat} {R : Nat → Nat → Option Nat} (h : am_st al R) : R 14 1 = some 49 := h.2 (14, 1, 49) (List.mem_of_getElem? (i := 50) rfl)
theorem sr_15_0 {al : List Nat} {R : Nat → Nat → Option Nat} (h : am_st al R) : R 15 0 = some 50 := h.2 (15, 0, 50) (List.mem_of_getElem? (i := 51) rfl)
theorem sr_15_1 {al : List Nat} {R : Nat → Nat → Option Nat} (h : am_st al R) : R 15 1 = some 51 := h.2 (15, 1, 51) (List.mem_of_getElem? (i := 52) rfl)
theorem sr_15_2 {al : List Nat} {R : Nat → Nat → Option Nat} (h : am_st al R) : R 15 2 = some 52 := h.2 (15, 2, 52) (List.mem_of_getElem? (i := 53) rfl)
theorem sr_15_4 {al : List Nat} {R : Nat → Nat → Option Nat} (h : am_st al R) : R 15 4 = some 53 := h.2 (15, 4, 53) (List.mem_of_getElem? (i := 54) rfl)
theorem sr_160_0 {al : List Nat} {R : Nat → Nat → Option Nat} (h : am_st al R) : R 160 0 = some 161 := h.2 (160, 0, 161) (List.mem_of_getElem? (i := 55) rfl)
theorem sr_160_1 {al : List Nat} {R : Nat → Nat → Option Nat} (h : am_st al R) : R 160 1 = some 162 := h.2 (160, 1, 162) (List.mem_of_getElem? (i := 56) rfl)
theorem sr_164_1 {al : List Nat} {R : Nat → Nat → Option Nat} (h : am_st al R) : R 164 1 = some 165 := h.2 (164, 1, 165) (List.mem_of_getElem? (i := 57) rfl)
theorem sr_164_2 {al : List Nat} {R : Nat → Nat → Option Nat} (h : am_st al R) : R 164 2 = some 166 := h.2 (164, 2, 166) (List.mem_of_getElem? (i := 58) rfl)
theorem sr_164_3 {al : List Nat} {R : Nat → Nat → Option Nat} (h : am_st al R) : R 164 3 = some 167 := h.2 (164, 3, 167) (List.mem_of_getElem? (i := 59) rfl)
theorem sr_164_4 {al : List Nat} {R : Nat → Nat → Option Nat} (h : am_st al R) : R 164 4 = some 168 := h.2 (164, 4, 168) (List.mem_of_getElem? (i := 60) rfl)
theorem sr_164_5 {al : List Nat} {R : Nat → Nat → Option Nat} (h : am_st al R) : R 164 5 = some 169 := h.2 (164, 5, 169) (List.mem_of_getElem? (i := 61) rfl)
theorem sr_164_6 {al : List Nat} {R : Nat → Nat → Option Nat} (h : am_st al R) : R 164 6 = some 170 := h.2 (164, 6, 170) (List.mem_of_getElem? (i := 62) rfl)
theorem sr_164_7 {al : List Nat} {R : Nat → Nat → Option Nat} (h : am_st al R) : R 164 7 = some 171 := h.2 (164, 7, 171) (List.mem_of_getElem? (i := 63) rfl)
theorem sr_174_1 {al : List Nat} {R : Nat → Nat → Option Nat} (h : am_st al R) : R 174 1 = some 175 := h.2 (174, 1, 175) (List.mem_of_getElem? (i := 64) rfl)
theorem sr_174_2 {al : List Nat} {R : Nat → Nat → Option Nat} (h : am_st al R) : R 174 2 = some 176 := h.2 (174, 2, 176) (List.mem_of_getElem? (i := 65) rfl)
theorem sr_174_3 {al : List Nat} {R : Nat → Nat → Option Nat} (h : am_st al R) : R 174 3 = some 177 := h.2 (174, 3, 177) (List.mem_of_getElem? (i := 66) rfl)
theorem sr_174_4 {al : List Nat} {R : Nat → Nat → Option Nat} (h : am_st al R) : R 174 4 = some 178 := h.2 (174, 4, 178) (List.mem_of_getElem? (i := 67) rfl)
theorem sr_174_5 {al : List Nat} {R : Nat → Nat → Option Nat} (h : am_st al R) : R 174 5 = some 179 := h.2 (174, 5, 179) (List.mem_of_getElem? (i := 68) rfl)
theorem sr_174_6 {al : List Nat} {R : Nat → Nat → Option Nat} (h : am_st al R) : R 174 6 = some 180 := h.2 (174, 6, 180) (List.mem_of_getElem? (i := 69) rfl)
theorem sr_174_7 {al : List Nat} {R : Nat → Nat → Option Nat} (h : am_st al R) : R 174 7 = some 181 := h.2 (174, 7, 181) (List.mem_of_getElem? (i := 70) rfl)
theorem sr_184_0 {al : List Nat} {R : Nat → Nat → Option Nat} (h : am_st al R) : R 184 0 = some 185 := h.2 (184, 0, 185) (List.mem_of_getElem? (i := 71) rfl)
theorem sr_184_1 {al : List Nat} {R : Nat → Nat → Option Nat} (h : am_st al R) : R 184 1 = some 186 := h.2 (184, 1, 186) (List.mem_of_getElem? (i := 72) rfl)
theorem sr_190_0 {al : List Nat} {R : Nat → Nat → Option Nat} (h : am_st al R) : R 190 0 = some 191 := h.2 (190, 0, 191) (List.mem_of_getElem? (i := 73) rfl)
theorem sr_190_1 {al : List Nat} {R : Nat → Nat → Option Nat} (h : am_st al R) : R 190 1 = some 192 := h.2 (190, 1, 192) (List.mem_of_getElem? (i := 74) rfl)
theorem sr_190_2 {al : List Nat} {R : Nat → Nat → Option Nat} (h : am_st al R) : R 190 2 = some 193 := h.2 (190, 2, 193) (List.mem_of_getElem? (i := 75) rfl)
theorem sr_190_5 {al : List Nat} {R : Nat → Nat → Option Nat} (h : am_st al R) : R 190 5 = some 194 := h.2 (190, 5, 194) (List.mem_of_getElem? (i := 76) rfl)
theorem sr_190_6 {al : List Nat} {R : Nat → Nat → Option Nat} (h : am_st al R) : R 190 6 = some 195 := h.2 (190, 6, 195) (List.mem_of_getElem? (i := 77) rfl)
theorem sr_190_7 {al : List Nat} {R : Nat → Nat → Option Nat} (h : am_st al R) : R 190 7 = some 196 := h.2 (190, 7, 196) (List.mem_of_getElem? (i := 78) rfl)
theorem sr_190_8 {al : List Nat} {R : Nat → Nat → Option Nat} (h : am_st al R) : R 190 8 = some 197 := h.2 (190, 8, 197) (List.mem_of_getElem? (i := 79) rfl)
theorem sr_190_9 {al : List Nat} {R : Nat → Nat → Option Nat} (h : am_st al R) : R 190 9 = some 198 := h.2 (190, 9, 198) (List.mem_of_getElem? (i := 80) rfl)
theorem sr_190_13 {al : List Nat} {R : Nat → Nat → Option Nat} (h : am_st al R) : R 190 13 = some 199 := h.2 (190, 13, 199) (List.mem_of_getElem? (i := 81) rfl)
theorem sr_190_15 {al : List Nat} {R : Nat → Nat → Option Nat} (h : am_st al R) : R 190 15 = some 200 := h.2 (190, 15, 200) (List.mem_of_getElem? (i := 82) rfl)
theorem sr_190_17 {al : List Nat} {R : Nat → Nat → Option Nat} (h : am_st al R) : R 190 17 = some 201 := h.2 (190, 17, 201) (List.mem_of_getElem? (i := 83) rfl)
theorem sr_190_19 {al : List Nat} {R : Nat → Nat → Option Nat} (h : am_st al R) : R 190 19 = some 202 := h.2 (190, 19, 202) (List.mem_of_getElem? (i := 84) rfl)
def am_ba1 : List Nat := [60, 61, 62, 63, 64, 65, 66, 67, 68, 69, 70, 71, 72, 73, 74, 75, 76, 77, 78, 79, 80, 81, 82, 83, 84, 85, 86, 87, 88, 89, 90, 91, 92, 93, 94, 95, 96, 97, 98, 99, 100, 101, 102, 103]
def am_sr1 : List (Nat × Nat × Nat) := [(60, 0, 61), (60, 1, 62), (60, 2, 63), (60, 3, 64), (60, 4, 65), (61, 0, 66), (61, 1, 67), (61, 2, 68), (61, 4, 69), (61, 5, 70), (61, 6, 71), (61, 14, 72), (61, 15, 73), (61, 16, 74), (61, 17, 75), (61, 18, 76), (61, 19, 77), (62, 0, 78), (62, 1, 79), (62, 2, 80), (62, 3, 81), (62, 4, 82), (62, 5, 83), (62, 6, 84), (62, 8, 85), (62, 9, 86), (62, 11, 87), (62, 12, 88), (63, 0, 89), (63, 1, 90), (63, 2, 91), (63, 3, 92), (63, 4, 93), (63, 8, 94), (63, 9, 95), (63, 10, 96), (63, 12, 97), (64, 0, 98), (64, 1, 99), (65, 0, 100), (65, 1, 101), (65, 2, 102), (65, 4, 103)]
def am_st1 (al : List Nat) (R : Nat → Nat → Option Nat) : Prop := (∀ k ∈ am_ba1, k ∈ al) ∧ ∀ q ∈ am_sr1, R q.1 q.2.1 = some q.2.2
theorem ba_60 {al : List Nat} {R : Nat → Nat → Option Nat} (h : am_st1 al R) : 60 ∈ al := h.1 60 (List.mem_of_getElem? (i := 0) rfl)
theorem ba_61 {al : List Nat} {R : Nat → Nat → Option Nat} (h : am_st1 al R) : 61 ∈ al := h.1 61 (List.mem_of_getElem? (i := 1) rfl)
theorem ba_62 {al : List Nat} {R : Nat → Nat → Option Nat} (h : am_st1 al R) : 62 ∈ al := h.1 62 (List.mem_of_getElem? (i := 2) rfl)
theorem ba_63 {al : List Nat} {R : Nat → Nat → Option Nat} (h : am_st1 al R) : 63 ∈ al := h.1 63 (List.mem_of_getElem? (i := 3) rfl)
theorem ba_64 {al : List Nat} {R : Nat → Nat → Option Nat} (h : am_st1 al R) : 64 ∈ al := h.1 64 (List.mem_of_getElem? (i := 4) rfl)
theorem ba_65 {al : List Nat} {R : Nat → Nat → Option Nat} (h : am_st1 al R) : 65 ∈ al := h.1 65 (List.mem_of_getElem? (i := 5) rfl)
theorem ba_66 {al : List Nat} {R : Nat → Nat → Option Nat} (h : am_st1 al R) : 66 ∈ al := h.1 66 (List.mem_of_getElem? (i := 6) rfl)
theorem ba_67 {al : List Nat} {R : Nat → Nat → Option Nat} (h : am_st1 al R) : 67 ∈ al := h.1 67 (List.mem_of_getElem? (i := 7) rfl)
theorem ba_68 {al : List Nat} {R : Nat → Nat → Option Nat} (h : am_st1 al R) : 68 ∈ al := h.1 68 (List.mem_of_getElem? (i := 8) rfl)
theorem ba_69 {al : List Nat} {R : Nat → Nat → Option Nat} (h : am_st1 al R) : 69 ∈ al := h.1 69 (List.mem_of_getElem? (i := 9) rfl)
theorem ba_70 {al : List Nat} {R : Nat → Nat → Option Nat} (h : am_st1 al R) : 70 ∈ al := h.1 70 (List.mem_of_getElem? (i := 10) rfl)
theorem ba_71 {al : List Nat} {R : Nat → Nat → Option Nat} (h : am_st1 al R) : 71 ∈ al := h.1 71 (List.mem_of_getElem? (i := 11) rfl)
theorem ba_72 {al : List Nat} {R : Nat → Nat → Option Nat} (h : am_st1 al R) : 72 ∈ al := h.1 72 (List.mem_of_getElem? (i := 12) rfl)
theorem ba_73 {al : List Nat} {R : Nat → Nat → Option Nat} (h : am_st1 al R) : 73 ∈ al := h.1 73 (List.mem_of_getElem? (i := 13) rfl)
theorem ba_74 {al : List Nat} {R : Nat → Nat → Option Nat} (h : am_st1 al R) : 74 ∈ al := h.1 74 (List.mem_of_getElem? (i := 14) rfl)
theorem ba_75 {al : List Nat} {R : Nat → Nat → Option Nat} (h : am_st1 al R) : 75 ∈ al := h.1 75 (List.mem_of_getElem? (i := 15) rfl)
theorem ba_76 {al : List Nat} {R : Nat → Nat → Option Nat} (h : am_st1 al R) : 76 ∈ al := h.1 76 (List.mem_of_getElem? (i := 16) rfl)
theorem ba_77 {al : List Nat} {R : Nat → Nat → Option Nat} (h : am_st1 al R) : 77 ∈ al := h.1 77 (List.mem_of_getElem? (i := 17) rfl)
theorem ba_78 {al : List Nat} {R : Nat → Nat → Option Nat} (h : am_st1 al R) : 78 ∈ al := h.1 78 (List.mem_of_getElem? (i := 18) rfl)
theorem ba_79 {al : List Nat} {R : Nat → Nat → Option Nat} (h : am_st1 al R) : 79 ∈ al := h.1 79 (List.mem_of_getElem? (i := 19) rfl)
theorem ba_80 {al : List Nat} {R : Nat → Nat → Option Nat} (h : am_st1 al R) : 80 ∈ al := h.1 80 (List.mem_of_getElem? (i := 20) rfl)
theorem ba_81 {al : List Nat} {R : Nat → Nat → Option Nat} (h : am_st1 al R) : 81 ∈ al := h.1 81 (List.mem_of_getElem? (i := 21) rfl)
theorem ba_82 {al : List Nat} {R : Nat → Nat → Option Nat} (h : am_st1 al R) : 82 ∈ al := h.1 82 (List.mem_of_getElem? (i := 22) rfl)
theorem ba_83 {al : List Nat} {R : Nat → Nat → Option Nat} (h : am_st1 al R) : 83 ∈ al := h.1 83 (List.mem_of_getElem? (i := 23) rfl)
theorem ba_84 {al : List Nat} {R : Nat → Nat → Option Nat} (h : am_st1 al R) : 84 ∈ al := h.1 84 (List.mem_of_getElem? (i := 24) rfl)
theorem ba_85 {al : List Nat} {R : Nat → Nat → Option Nat} (h : am_st1 al R) : 85 ∈ al := h.1 85 (List.mem_of_getElem? (i := 25) rfl)
theorem ba_86 {al : List Nat} {R : Nat → Nat → Option Nat} (h : am_st1 al R) : 86 ∈ al := h.1 86 (List.mem_of_getElem? (i := 26) rfl)
theorem ba_87 {al : List Nat} {R : Nat → Nat → Option Nat} (h : am_st1 al R) : 87 ∈ al := h.1 87 (List.mem_of_getElem? (i := 27) rfl)
theorem ba_88 {al : List Nat} {R : Nat → Nat → Option Nat} (h : am_st1 al R) : 88 ∈ al := h.1 88 (List.mem_of_getElem? (i := 28) rfl)
theorem ba_89 {al : List Nat} {R : Nat → Nat → Option Nat} (h : am_st1 al R) : 89 ∈ al := h.1 89 (List.mem_of_getElem? (i := 29) rfl)
theorem ba_90 {al : List Nat} {R : Nat → Nat → Option Nat} (h : am_st1 al R) : 90 ∈ al := h.1 90 (List.mem_of_getElem? (i := 30) rfl)
theorem ba_91 {al : List Nat} {R : Nat → Nat → Option Nat} (h : am_st1 al R) : 91 ∈ al := h.1 91 (List.mem_of_getElem? (i := 31) rfl)
theorem ba_92 {al : List Nat} {R : Nat → Nat → Option Nat} (h : am_st1 al R) : 92 ∈ al := h.1 92 (List.mem_of_getElem? (i := 32) rfl)
theorem ba_93 {al : List Nat} {R : Nat → Nat → Option Nat} (h : am_st1 al R) : 93 ∈ al := h.1 93 (List.mem_of_getElem? (i := 33) rfl)
theorem ba_94 {al : List Nat} {R : Nat → Nat → Option Nat} (h : am_st1 al R) : 94 ∈ al := h.1 94 (List.mem_of_getElem? (i := 34) rfl)
theorem ba_95 {al : List Nat} {R : Nat → Nat → Option Nat} (h : am_st1 al R) : 95 ∈ al := h.1 95 (List.mem_of_getElem? (i := 35) rfl)
theorem ba_96 {al : List Nat} {R : Nat → Nat → Option Nat} (h : am_st1 al R) : 96 ∈ al := h.1 96 (List.mem_of_getElem? (i := 36) rfl)
theorem ba_97 {al : List Nat} {R : Nat → Nat → Option Nat} (h : am_st1 al R) : 97 ∈ al := h.1 97 (List.mem_of_getElem? (i := 37) rfl)
theorem ba_98 {al : List Nat} {R : Nat → Nat → Option Nat} (h : am_st1 al R) : 98 ∈ al := h.1 98 (List.mem_of_getElem? (i := 38) rfl)
theorem ba_99 {al : List Nat} {R : Nat → Nat → Option Nat} (h : am_st1 al R) : 99 ∈ al := h.1 99 (List.mem_of_getElem? (i := 39) rfl)
theorem ba_100 {al : List Nat} {R : Nat → Nat → Option Nat} (h : am_st1 al R) : 100 ∈ al := h.1 100 (List.mem_of_getElem? (i := 40) rfl)
theorem ba_101 {al : List Nat} {R : Nat → Nat → Option Nat} (h : am_st1 al R) : 101 ∈ al := h.1 101 (List.mem_of_getElem? (i := 41) rfl)
theorem ba_102 {al : List Nat} {R : Nat → Nat → Option Nat} (h : am_st1 al R) : 102 ∈ al := h.1 102 (List.mem_of_getElem? (i := 42) rfl)
theorem ba_103 {al : List Nat} {R : Nat → Nat → Option Nat} (h : am_st1 al R) : 103 ∈ al := h.1 103 (List.mem_of_getElem? (i := 43) rfl)
theorem sr_60_0 {al : List Nat} {R : Nat → Nat → Option Nat} (h : am_st1 al R) : R 60 0 = some 61 := h.2 (60, 0, 61) (List.mem_of_getElem? (i := 0) rfl)
theorem sr_60_1 {al : List Nat} {R : Nat → Nat → Option Nat} (h : am_st1 al R) : R 60 1 = some 62 := h.2 (60, 1, 62) (List.mem_of_getElem? (i := 1) rfl)
theorem sr_60_2 {al : List Nat} {R : Nat → Nat → Option Nat} (h : am_st1 al R) : R 60 2 = some 63 := h.2 (60, 2, 63) (List.mem_of_getElem? (i := 2) rfl)
theorem sr_60_3 {al : List Nat} {R : Nat → Nat → Option Nat} (h : am_st1 al R) : R 60 3 = some 64 := h.2 (60, 3, 64) (List.mem_of_getElem? (i := 3) rfl)
theorem sr_60_4 {al : List Nat} {R : Nat → Nat → Option Nat} (h : am_st1 al R) : R 60 4 = some 65 := h.2 (60, 4, 65) (List.mem_of_getElem? (i := 4) rfl)
theorem sr_61_0 {al : List Nat} {R : Nat → Nat → Option Nat} (h : am_st1 al R) : R 61 0 = some 66 := h.2 (61, 0, 66) (List.mem_of_getElem? (i := 5) rfl)
theorem sr_61_1 {al : List Nat} {R : Nat → Nat → Option Nat} (h : am_st1 al R) : R 61 1 = some 67 := h.2 (61, 1, 67) (List.mem_of_getElem? (i := 6) rfl)
theorem sr_61_2 {al : List Nat} {R : Nat → Nat → Option Nat} (h : am_st1 al R) : R 61 2 = some 68 := h.2 (61, 2, 68) (List.mem_of_getElem? (i := 7) rfl)
theorem sr_61_4 {al : List Nat} {R : Nat → Nat → Option Nat} (h : am_st1 al R) : R 61 4 = some 69 := h.2 (61, 4, 69) (List.mem_of_getElem? (i := 8) rfl)
theorem sr_61_5 {al : List Nat} {R : Nat → Nat → Option Nat} (h : am_st1 al R) : R 61 5 = some 70 := h.2 (61, 5, 70) (List.mem_of_getElem? (i := 9) rfl)
theorem sr_61_6 {al : List Nat} {R : Nat → Nat → Option Nat} (h : am_st1 al R) : R 61 6 = some 71 := h.2 (61, 6, 71) (List.mem_of_getElem? (i := 10) rfl)
theorem sr_61_14 {al : List Nat} {R : Nat → Nat → Option Nat} (h : am_st1 al R) : R 61 14 = some 72 := h.2 (61, 14, 72) (List.mem_of_getElem? (i := 11) rfl)
theorem sr_61_15 {al : List Nat} {R : Nat → Nat → Option Nat} (h : am_st1 al R) : R 61 15 = some 73 := h.2 (61, 15, 73) (List.mem_of_getElem? (i := 12) rfl)
theorem sr_61_16 {al : List Nat} {R : Nat → Nat → Option Nat} (h : am_st1 al R) : R 61 16 = some 74 := h.2 (61, 16, 74) (List.mem_of_getElem? (i := 13) rfl)
theorem sr_61_17 {al : List Nat} {R : Nat → Nat → Option Nat} (h : am_st1 al R) : R 61 17 = some 75 := h.2 (61, 17, 75) (List.mem_of_getElem? (i := 14) rfl)
theorem sr_61_18 {al : List Nat} {R : Nat → Nat → Option Nat} (h : am_st1 al R) : R 61 18 = some 76 := h.2 (61, 18, 76) (List.mem_of_getElem? (i := 15) rfl)
theorem sr_61_19 {al : List Nat} {R : Nat → Nat → Option Nat} (h : am_st1 al R) : R 61 19 = some 77 := h.2 (61, 19, 77) (List.mem_of_getElem? (i := 16) rfl)
theorem sr_62_0 {al : List Nat} {R : Nat → Nat → Option Nat} (h : am_st1 al R) : R 62 0 = some 78 := h.2 (62, 0, 78) (List.mem_of_getElem? (i := 17) rfl)
theorem sr_62_1 {al : List Nat} {R : Nat → Nat → Option Nat} (h : am_st1 al R) : R 62 1 = some 79 := h.2 (62, 1, 79) (List.mem_of_getElem? (i := 18) rfl)
theorem sr_62_2 {al : List Nat} {R : Nat → Nat → Option Nat} (h : am_st1 al R) : R 62 2 = some 80 := h.2 (62, 2, 80) (List.mem_of_getElem? (i := 19) rfl)
theorem sr_62_3 {al : List Nat} {R : Nat → Nat → Option Nat} (h : am_st1 al R) : R 62 3 = some 81 := h.2 (62, 3, 81) (List.mem_of_getElem? (i := 20) rfl)
theorem sr_62_4 {al : List Nat} {R : Nat → Nat → Option Nat} (h : am_st1 al R) : R 62 4 = some 82 := h.2 (62, 4, 82) (List.mem_of_getElem? (i := 21) rfl)
theorem sr_62_5 {al : List Nat} {R : Nat → Nat → Option Nat} (h : am_st1 al R) : R 62 5 = some 83 := h.2 (62, 5, 83) (List.mem_of_getElem? (i := 22) rfl)
theorem sr_62_6 {al : List Nat} {R : Nat → Nat → Option Nat} (h : am_st1 al R) : R 62 6 = some 84 := h.2 (62, 6, 84) (List.mem_of_getElem? (i := 23) rfl)
theorem sr_62_8 {al : List Nat} {R : Nat → Nat → Option Nat} (h : am_st1 al R) : R 62 8 = some 85 := h.2 (62, 8, 85) (List.mem_of_getElem? (i := 24) rfl)
theorem sr_62_9 {al : List Nat} {R : Nat → Nat → Option Nat} (h : am_st1 al R) : R 62 9 = some 86 := h.2 (62, 9, 86) (List.mem_of_getElem? (i := 25) rfl)
theorem sr_62_11 {al : List Nat} {R : Nat → Nat → Option Nat} (h : am_st1 al R) : R 62 11 = some 87 := h.2 (62, 11, 87) (List.mem_of_getElem? (i := 26) rfl)
theorem sr_62_12 {al : List Nat} {R : Nat → Nat → Option Nat} (h : am_st1 al R) : R 62 12 = some 88 := h.2 (62, 12, 88) (List.mem_of_getElem? (i := 27) rfl)
theorem sr_63_0 {al : List Nat} {R : Nat → Nat → Option Nat} (h : am_st1 al R) : R 63 0 = some 89 := h.2 (63, 0, 89) (List.mem_of_getElem? (i := 28) rfl)
theorem sr_63_1 {al : List Nat} {R : Nat → Nat → Option Nat} (h : am_st1 al R) : R 63 1 = some 90 := h.2 (63, 1, 90) (List.mem_of_getElem? (i := 29) rfl)
theorem sr_63_2 {al : List Nat} {R : Nat → Nat → Option Nat} (h : am_st1 al R) : R 63 2 = some 91 := h.2 (63, 2, 91) (List.mem_of_getElem? (i := 30) rfl)
theorem sr_63_3 {al : List Nat} {R : Nat → Nat → Option Nat} (h : am_st1 al R) : R 63 3 = some 92 := h.2 (63, 3, 92) (List.mem_of_getElem? (i := 31) rfl)
theorem sr_63_4 {al : List Nat} {R : Nat → Nat → Option Nat} (h : am_st1 al R) : R 63 4 = some 93 := h.2 (63, 4, 93) (List.mem_of_getElem? (i := 32) rfl)
theorem sr_63_8 {al : List Nat} {R : Nat → Nat → Option Nat} (h : am_st1 al R) : R 63 8 = some 94 := h.2 (63, 8, 94) (List.mem_of_getElem? (i := 33) rfl)
theorem sr_63_9 {al : List Nat} {R : Nat → Nat → Option Nat} (h : am_st1 al R) : R 63 9 = some 95 := h.2 (63, 9, 95) (List.mem_of_getElem? (i := 34) rfl)
theorem sr_63_10 {al : List Nat} {R : Nat → Nat → Option Nat} (h : am_st1 al R) : R 63 10 = some 96 := h.2 (63, 10, 96) (List.mem_of_getElem? (i := 35) rfl)
theorem sr_63_12 {al : List Nat} {R : Nat → Nat → Option Nat} (h : am_st1 al R) : R 63 12 = some 97 := h.2 (63, 12, 97) (List.mem_of_getElem? (i := 36) rfl)
theorem sr_64_0 {al : List Nat} {R : Nat → Nat → Option Nat} (h : am_st1 al R) : R 64 0 = some 98 := h.2 (64, 0, 98) (List.mem_of_getElem? (i := 37) rfl)
theorem sr_64_1 {al : List Nat} {R : Nat → Nat → Option Nat} (h : am_st1 al R) : R 64 1 = some 99 := h.2 (64, 1, 99) (List.mem_of_getElem? (i := 38) rfl)
theorem sr_65_0 {al : List Nat} {R : Nat → Nat → Option Nat} (h : am_st1 al R) : R 65 0 = some 100 := h.2 (65, 0, 100) (List.mem_of_getElem? (i := 39) rfl)
theorem sr_65_1 {al : List Nat} {R : Nat → Nat → Option Nat} (h : am_st1 al R) : R 65 1 = some 101 := h.2 (65, 1, 101) (List.mem_of_getElem? (i := 40) rfl)
theorem sr_65_2 {al : List Nat} {R : Nat → Nat → Option Nat} (h : am_st1 al R) : R 65 2 = some 102 := h.2 (65, 2, 102) (List.mem_of_getElem? (i := 41) rfl)
theorem sr_65_4 {al : List Nat} {R : Nat → Nat → Option Nat} (h : am_st1 al R) : R 65 4 = some 103 := h.2 (65, 4, 103) (List.mem_of_getElem? (i := 42) rfl)
def am_ba2 : List Nat := [110, 111, 112, 113, 114, 115, 116, 117, 118, 119, 120, 121, 122, 123, 124, 125, 126, 127, 128, 129, 130, 131, 132, 133, 134, 135, 136, 137, 138, 139, 140, 141, 142, 143, 144, 145, 146, 147, 148, 149, 150, 151, 152, 153]
def am_sr2 : List (Nat × Nat × Nat) := [(110, 0, 111), (110, 1, 112), (110, 2, 113), (110, 3, 114), (110, 4, 115), (111, 0, 116), (111, 1, 117), (111, 2, 118), (111, 4, 119), (111, 5, 120), (111, 6, 121), (111, 14, 122), (111, 15, 123), (111, 16, 124), (111, 17, 125), (111, 18, 126), (111, 19, 127), (112, 0, 128), (112, 1, 129), (112, 2, 130), (112, 3, 131), (112, 4, 132), (112, 5, 133), (112, 6, 134), (112, 8, 135), (112, 9, 136), (112, 11, 137), (112, 12, 138), (113, 0, 139), (113, 1, 140), (113, 2, 141), (113, 3, 142), (113, 4, 143), (113, 8, 144), (113, 9, 145), (113, 10, 146), (113, 12, 147), (114, 0, 148), (114, 1, 149), (115, 0, 150), (115, 1, 151), (115, 2, 152), (115, 4, 153)]
def am_st2 (al : List Nat) (R : Nat → Nat → Option Nat) : Prop := (∀ k ∈ am_ba2, k ∈ al) ∧ ∀ q ∈ am_sr2, R q.1 q.2.1 = some q.2.2
theorem ba_110 {al : List Nat} {R : Nat → Nat → Option Nat} (h : am_st2 al R) : 110 ∈ al := h.1 110 (List.mem_of_getElem? (i := 0) rfl)
theorem ba_111 {al : List Nat} {R : Nat → Nat → Option Nat} (h : am_st2 al R) : 111 ∈ al := h.1 111 (List.mem_of_getElem? (i := 1) rfl)
theorem ba_112 {al : List Nat} {R : Nat → Nat → Option Nat} (h : am_st2 al R) : 112 ∈ al := h.1 112 (List.mem_of_getElem? (i := 2) rfl)
theorem ba_113 {al : List Nat} {R : Nat → Nat → Option Nat} (h : am_st2 al R) : 113 ∈ al := h.1 113 (List.mem_of_getElem? (i := 3) rfl)
theorem ba_114 {al : List Nat} {R : Nat → Nat → Option Nat} (h : am_st2 al R) : 114 ∈ al := h.1 114 (List.mem_of_getElem? (i := 4) rfl)
theorem ba_115 {al : List Nat} {R : Nat → Nat → Option Nat} (h : am_st2 al R) : 115 ∈ al := h.1 115 (List.mem_of_getElem? (i := 5) rfl)
theorem ba_116 {al : List Nat} {R : Nat → Nat → Option Nat} (h : am_st2 al R) : 116 ∈ al := h.1 116 (List.mem_of_getElem? (i := 6) rfl)
theorem ba_117 {al : List Nat} {R : Nat → Nat → Option Nat} (h : am_st2 al R) : 117 ∈ al := h.1 117 (List.mem_of_getElem? (i := 7) rfl)
theorem ba_118 {al : List Nat} {R : Nat → Nat → Option Nat} (h : am_st2 al R) : 118 ∈ al := h.1 118 (List.mem_of_getElem? (i := 8) rfl)
theorem ba_119 {al : List Nat} {R : Nat → Nat → Option Nat} (h : am_st2 al R) : 119 ∈ al := h.1 119 (List.mem_of_getElem? (i := 9) rfl)
theorem ba_120 {al : List Nat} {R : Nat → Nat → Option Nat} (h : am_st2 al R) : 120 ∈ al := h.1 120 (List.mem_of_getElem? (i := 10) rfl)
theorem ba_121 {al : List Nat} {R : Nat → Nat → Option Nat} (h : am_st2 al R) : 121 ∈ al := h.1 121 (List.mem_of_getElem? (i := 11) rfl)
theorem ba_122 {al : List Nat} {R : Nat → Nat → Option Nat} (h : am_st2 al R) : 122 ∈ al := h.1 122 (List.mem_of_getElem? (i := 12) rfl)
theorem ba_123 {al : List Nat} {R : Nat → Nat → Option Nat} (h : am_st2 al R) : 123 ∈ al := h.1 123 (List.mem_of_getElem? (i := 13) rfl)
theorem ba_124 {al : List Nat} {R : Nat → Nat → Option Nat} (h : am_st2 al R) : 124 ∈ al := h.1 124 (List.mem_of_getElem? (i := 14) rfl)
theorem ba_125 {al : List Nat} {R : Nat → Nat → Option Nat} (h : am_st2 al R) : 125 ∈ al := h.1 125 (List.mem_of_getElem? (i := 15) rfl)
theorem ba_126 {al : List Nat} {R : Nat → Nat → Option Nat} (h : am_st2 al R) : 126 ∈ al := h.1 126 (List.mem_of_getElem? (i := 16) rfl)
theorem ba_127 {al : List Nat} {R : Nat → Nat → Option Nat} (h : am_st2 al R) : 127 ∈ al := h.1 127 (List.mem_of_getElem? (i := 17) rfl)
theorem ba_128 {al : List Nat} {R : Nat → Nat → Option Nat} (h : am_st2 al R) : 128 ∈ al := h.1 128 (List.mem_of_getElem? (i := 18) rfl)
theorem ba_129 {al : List Nat} {R : Nat → Nat → Option Nat} (h : am_st2 al R) : 129 ∈ al := h.1 129 (List.mem_of_getElem? (i := 19) rfl)
theorem ba_130 {al : List Nat} {R : Nat → Nat → Option Nat} (h : am_st2 al R) : 130 ∈ al := h.1 130 (List.mem_of_getElem? (i := 20) rfl)
theorem ba_131 {al : List Nat} {R : Nat → Nat → Option Nat} (h : am_st2 al R) : 131 ∈ al := h.1 131 (List.mem_of_getElem? (i := 21) rfl)
theorem ba_132 {al : List Nat} {R : Nat → Nat → Option Nat} (h : am_st2 al R) : 132 ∈ al := h.1 132 (List.mem_of_getElem? (i := 22) rfl)
theorem ba_133 {al : List Nat} {R : Nat → Nat → Option Nat} (h : am_st2 al R) : 133 ∈ al := h.1 133 (List.mem_of_getElem? (i := 23) rfl)
theorem ba_134 {al : List Nat} {R : Nat → Nat → Option Nat} (h : am_st2 al R) : 134 ∈ al := h.1 134 (List.mem_of_getElem? (i := 24) rfl)
theorem ba_135 {al : List Nat} {R : Nat → Nat → Option Nat} (h : am_st2 al R) : 135 ∈ al := h.1 135 (List.mem_of_getElem? (i := 25) rfl)
theorem ba_136 {al : List Nat} {R : Nat → Nat → Option Nat} (h : am_st2 al R) : 136 ∈ al := h.1 136 (List.mem_of_getElem? (i := 26) rfl)
theorem ba_137 {al : List Nat} {R : Nat → Nat → Option Nat} (h : am_st2 al R) : 137 ∈ al := h.1 137 (List.mem_of_getElem? (i := 27) rfl)
theorem ba_138 {al : List Nat} {R : Nat → Nat → Option Nat} (h : am_st2 al R) : 138 ∈ al := h.1 138 (List.mem_of_getElem? (i := 28) rfl)
theorem ba_139 {al : List Nat} {R : Nat → Nat → Option Nat} (h : am_st2 al R) : 139 ∈ al := h.1 139 (List.mem_of_getElem? (i := 29) rfl)
theorem ba_140 {al : List Nat} {R : Nat → Nat → Option Nat} (h : am_st2 al R) : 140 ∈ al := h.1 140 (List.mem_of_getElem? (i := 30) rfl)
theorem ba_141 {al : List Nat} {R : Nat → Nat → Option Nat} (h : am_st2 al R) : 141 ∈ al := h.1 141 (List.mem_of_getElem? (i := 31) rfl)
theorem ba_142 {al : List Nat} {R : Nat → Nat → Option Nat} (h : am_st2 al R) : 142 ∈ al := h.1 142 (List.mem_of_getElem? (i := 32) rfl)
theorem ba_143 {al : List Nat} {R : Nat → Nat → Option Nat} (h : am_st2 al R) : 143 ∈ al := h.1 143 (List.mem_of_getElem? (i := 33) rfl)
theorem ba_144 {al : List Nat} {R : Nat → Nat → Option Nat} (h : am_st2 al R) : 144 ∈ al := h.1 144 (List.mem_of_getElem? (i := 34) rfl)
theorem ba_145 {al : List Nat} {R : Nat → Nat → Option Nat} (h : am_st2 al R) : 145 ∈ al := h.1 145 (List.mem_of_getElem? (i := 35) rfl)
theorem ba_146 {al : List Nat} {R : Nat → Nat → Option Nat} (h : am_st2 al R) : 146 ∈ al := h.1 146 (List.mem_of_getElem? (i := 36) rfl)
theorem ba_147 {al : List Nat} {R : Nat → Nat → Option Nat} (h : am_st2 al R) : 147 ∈ al := h.1 147 (List.mem_of_getElem? (i := 37) rfl)
theorem ba_148 {al : List Nat} {R : Nat → Nat → Option Nat} (h : am_st2 al R) : 148 ∈ al := h.1 148 (List.mem_of_getElem? (i := 38) rfl)
theorem ba_149 {al : List Nat} {R : Nat → Nat → Option Nat} (h : am_st2 al R) : 149 ∈ al := h.1 149 (List.mem_of_getElem? (i := 39) rfl)
theorem ba_150 {al : List Nat} {R : Nat → Nat → Option Nat} (h : am_st2 al R) : 150 ∈ al := h.1 150 (List.mem_of_getElem? (i := 40) rfl)
theorem ba_151 {al : List Nat} {R : Nat → Nat → Option Nat} (h : am_st2 al R) : 151 ∈ al := h.1 151 (List.mem_of_getElem? (i := 41) rfl)
theorem ba_152 {al : List Nat} {R : Nat → Nat → Option Nat} (h : am_st2 al R) : 152 ∈ al := h.1 152 (List.mem_of_getElem? (i := 42) rfl)
theorem ba_153 {al : List Nat} {R : Nat → Nat → Option Nat} (h : am_st2 al R) : 153 ∈ al := h.1 153 (List.mem_of_getElem? (i := 43) rfl)
theorem sr_110_0 {al : List Nat} {R : Nat → Nat → Option Nat} (h : am_st2 al R) : R 110 0 = some 111 := h.2 (110, 0, 111) (List.mem_of_getElem? (i := 0) rfl)
theorem sr_110_1 {al : List Nat} {R : Nat → Nat → Option Nat} (h : am_st2 al R) : R 110 1 = some 112 := h.2 (110, 1, 112) (List.mem_of_getElem? (i := 1) rfl)
theorem sr_110_2 {al : List Nat} {R : Nat → Nat → Option Nat} (h : am_st2 al R) : R 110 2 = some 113 := h.2 (110, 2, 113) (List.mem_of_getElem? (i := 2) rfl)
theorem sr_110_3 {al : List Nat} {R : Nat → Nat → Option Nat} (h : am_st2 al R) : R 110 3 = some 114 := h.2 (110, 3, 114) (List.mem_of_getElem? (i := 3) rfl)
theorem sr_110_4 {al : List Nat} {R : Nat → Nat → Option Nat} (h : am_st2 al R) : R 110 4 = some 115 := h.2 (110, 4, 115) (List.mem_of_getElem? (i := 4) rfl)
theorem sr_111_0 {al : List Nat} {R : Nat → Nat → Option Nat} (h : am_st2 al R) : R 111 0 = some 116 := h.2 (111, 0, 116) (List.mem_of_getElem? (i := 5) rfl)
theorem sr_111_1 {al : List Nat} {R : Nat → Nat → Option Nat} (h : am_st2 al R) : R 111 1 = some 117 := h.2 (111, 1, 117) (List.mem_of_getElem? (i := 6) rfl)
theorem sr_111_2 {al : List Nat} {R : Nat → Nat → Option Nat} (h : am_st2 al R) : R 111 2 = some 118 := h.2 (111, 2, 118) (List.mem_of_getElem? (i := 7) rfl)
theorem sr_111_4 {al : List Nat} {R : Nat → Nat → Option Nat} (h : am_st2 al R) : R 111 4 = some 119 := h.2 (111, 4, 119) (List.mem_of_getElem? (i := 8) rfl)
theorem sr_111_5 {al : List Nat} {R : Nat → Nat → Option Nat} (h : am_st2 al R) : R 111 5 = some 120 := h.2 (111, 5, 120) (List.mem_of_getElem? (i := 9) rfl)
theorem sr_111_6 {al : List Nat} {R : Nat → Nat → Option Nat} (h : am_st2 al R) : R 111 6 = some 121 := h.2 (111, 6, 121) (List.mem_of_getElem? (i := 10) rfl)
theorem sr_111_14 {al : List Nat} {R : Nat → Nat → Option Nat} (h : am_st2 al R) : R 111 14 = some 122 := h.2 (111, 14, 122) (List.mem_of_getElem? (i := 11) rfl)
theorem sr_111_15 {al : List Nat} {R : Nat → Nat → Option Nat} (h : am_st2 al R) : R 111 15 = some 123 := h.2 (111, 15, 123) (List.mem_of_getElem? (i := 12) rfl)
theorem sr_111_16 {al : List Nat} {R : Nat → Nat → Option Nat} (h : am_st2 al R) : R 111 16 = some 124 := h.2 (111, 16, 124) (List.mem_of_getElem? (i := 13) rfl)
theorem sr_111_17 {al : List Nat} {R : Nat → Nat → Option Nat} (h : am_st2 al R) : R 111 17 = some 125 := h.2 (111, 17, 125) (List.mem_of_getElem? (i := 14) rfl)
theorem sr_111_18 {al : List Nat} {R : Nat → Nat → Option Nat} (h : am_st2 al R) : R 111 18 = some 126 := h.2 (111, 18, 126) (List.mem_of_getElem? (i := 15) rfl)
theorem sr_111_19 {al : List Nat} {R : Nat → Nat → Option Nat} (h : am_st2 al R) : R 111 19 = some 127 := h.2 (111, 19, 127) (List.mem_of_getElem? (i := 16) rfl)
theorem sr_112_0 {al : List Nat} {R : Nat → Nat → Option Nat} (h : am_st2 al R) : R 112 0 = some 128 := h.2 (112, 0, 128) (List.mem_of_getElem? (i := 17) rfl)
theorem sr_112_1 {al : List Nat} {R : Nat → Nat → Option Nat} (h : am_st2 al R) : R 112 1 = some 129 := h.2 (112, 1, 129) (List.mem_of_getElem? (i := 18) rfl)
theorem sr_112_2 {al : List Nat} {R : Nat → Nat → Option Nat} (h : am_st2 al R) : R 112 2 = some 130 := h.2 (112, 2, 130) (List.mem_of_getElem? (i := 19) rfl)
theorem sr_112_3 {al : List Nat} {R : Nat → Nat → Option Nat} (h : am_st2 al R) : R 112 3 = some 131 := h.2 (112, 3, 131) (List.mem_of_getElem? (i := 20) rfl)
theorem sr_112_4 {al : List Nat} {R : Nat → Nat → Option Nat} (h : am_st2 al R) : R 112 4 = some 132 := h.2 (112, 4, 132) (List.mem_of_getElem? (i := 21) rfl)
theorem sr_112_5 {al : List Nat} {R : Nat → Nat → Option Nat} (h : am_st2 al R) : R 112 5 = some 133 := h.2 (112, 5, 133) (List.mem_of_getElem? (i := 22) rfl)
theorem sr_112_6 {al : List Nat} {R : Nat → Nat → Option Nat} (h : am_st2 al R) : R 112 6 = some 134 := h.2 (112, 6, 134) (List.mem_of_getElem? (i := 23) rfl)
theorem sr_112_8 {al : List Nat} {R : Nat → Nat → Option Nat} (h : am_st2 al R) : R 112 8 = some 135 := h.2 (112, 8, 135) (List.mem_of_getElem? (i := 24) rfl)
theorem sr_112_9 {al : List Nat} {R : Nat → Nat → Option Nat} (h : am_st2 al R) : R 112 9 = some 136 := h.2 (112, 9, 136) (List.mem_of_getElem? (i := 25) rfl)
theorem sr_112_11 {al : List Nat} {R : Nat → Nat → Option Nat} (h : am_st2 al R) : R 112 11 = some 137 := h.2 (112, 11, 137) (List.mem_of_getElem? (i := 26) rfl)
theorem sr_112_12 {al : List Nat} {R : Nat → Nat → Option Nat} (h : am_st2 al R) : R 112 12 = some 138 := h.2 (112, 12, 138) (List.mem_of_getElem? (i := 27) rfl)
theorem sr_113_0 {al : List Nat} {R : Nat → Nat → Option Nat} (h : am_st2 al R) : R 113 0 = some 139 := h.2 (113, 0, 139) (List.mem_of_getElem? (i := 28) rfl)
theorem sr_113_1 {al : List Nat} {R : Nat → Nat → Option Nat} (h : am_st2 al R) : R 113 1 = some 140 := h.2 (113, 1, 140) (List.mem_of_getElem? (i := 29) rfl)
theorem sr_113_2 {al : List Nat} {R : Nat → Nat → Option Nat} (h : am_st2 al R) : R 113 2 = some 141 := h.2 (113, 2, 141) (List.mem_of_getElem? (i := 30) rfl)
theorem sr_113_3 {al : List Nat} {R : Nat → Nat → Option Nat} (h : am_st2 al R) : R 113 3 = some 142 := h.2 (113, 3, 142) (List.mem_of_getElem? (i := 31) rfl)
theorem sr_113_4 {al : List Nat} {R : Nat → Nat → Option Nat} (h : am_st2 al R) : R 113 4 = some 143 := h.2 (113, 4, 143) (List.mem_of_getElem? (i := 32) rfl)
theorem sr_113_8 {al : List Nat} {R : Nat → Nat → Option Nat} (h : am_st2 al R) : R 113 8 = some 144 := h.2 (113, 8, 144) (List.mem_of_getElem? (i := 33) rfl)
theorem sr_113_9 {al : List Nat} {R : Nat → Nat → Option Nat} (h : am_st2 al R) : R 113 9 = some 145 := h.2 (113, 9, 145) (List.mem_of_getElem? (i := 34) rfl)
theorem sr_113_10 {al : List Nat} {R : Nat → Nat → Option Nat} (h : am_st2 al R) : R 113 10 = some 146 := h.2 (113, 10, 146) (List.mem_of_getElem? (i := 35) rfl)
theorem sr_113_12 {al : List Nat} {R : Nat → Nat → Option Nat} (h : am_st2 al R) : R 113 12 = some 147 := h.2 (113, 12, 147) (List.mem_of_getElem? (i := 36) rfl)
theorem sr_114_0 {al : List Nat} {R : Nat → Nat → Option Nat} (h : am_st2 al R) : R 114 0 = some 148 := h.2 (114, 0, 148) (List.mem_of_getElem? (i := 37) rfl)
theorem sr_114_1 {al : List Nat} {R : Nat → Nat → Option Nat} (h : am_st2 al R) : R 114 1 = some 149 := h.2 (114, 1, 149) (List.mem_of_getElem? (i := 38) rfl)
theorem sr_115_0 {al : List Nat} {R : Nat → Nat → Option Nat} (h : am_st2 al R) : R 115 0 = some 150 := h.2 (115, 0, 150) (List.mem_of_getElem? (i := 39) rfl)
theorem sr_115_1 {al : List Nat} {R : Nat → Nat → Option Nat} (h : am_st2 al R) : R 115 1 = some 151 := h.2 (115, 1, 151) (List.mem_of_getElem? (i := 40) rfl)
theorem sr_115_2 {al : List Nat} {R : Nat → Nat → Option Nat} (h : am_st2 al R) : R 115 2 = some 152 := h.2 (115, 2, 152) (List.mem_of_getElem? (i := 41) rfl)
theorem sr_115_4 {al : List Nat} {R : Nat → Nat → Option Nat} (h : am_st2 al R) : R 115 4 = some 153 := h.2 (115, 4, 153) (List.mem_of_getElem? (i := 42) rfl)
