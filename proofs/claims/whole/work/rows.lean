section
-- ===== PART A: goes FIRST, ahead of the names: the tables' words, and 'selects' of the private methods out of them =====
/-- a private method of a class that the tables say can be made, by its rows of tables_1 -/
def lw_okq (q : MethodName × Nat) : Prop := (q.1.cls ≠ "java/lang/invoke/MethodHandle" ∧ q.1.cls ≠ "java/lang/invoke/VarHandle") ∧ Cond.instantiable q.1.cls q.2 ∈ tables_1 ∧ Cond.privateMethod q.1 ∈ tables_1 ∧ Cond.instanceMethod q.1 ∈ tables_1
theorem lw_p0 : lw_okq (⟨"SteadyFund$Claims", "indexedOf", "(LSteadyFund$Ledger;I)J"⟩, 13) := ⟨⟨by decide +kernel, by decide +kernel⟩, List.mem_of_getElem? (i := 189) (by decide +kernel), List.mem_of_getElem? (i := 638) (by decide +kernel), List.mem_of_getElem? (i := 639) (by decide +kernel)⟩
theorem lw_p1 : lw_okq (⟨"SteadyFund$Tide", "lookAt", "(LSteadyFund$Ledger;)V"⟩, 4) := ⟨⟨by decide +kernel, by decide +kernel⟩, List.mem_of_getElem? (i := 362) (by decide +kernel), List.mem_of_getElem? (i := 662) (by decide +kernel), List.mem_of_getElem? (i := 663) (by decide +kernel)⟩
theorem lw_p2 : lw_okq (⟨"SteadyFund$Claims", "leadOn", "(I)V"⟩, 13) := ⟨⟨by decide +kernel, by decide +kernel⟩, List.mem_of_getElem? (i := 189) (by decide +kernel), List.mem_of_getElem? (i := 715) (by decide +kernel), List.mem_of_getElem? (i := 716) (by decide +kernel)⟩
theorem lw_p3 : lw_okq (⟨"SteadyFund", "agreed", "(I)LSteadyFund$Clearing;"⟩, 8) := ⟨⟨by decide +kernel, by decide +kernel⟩, List.mem_of_getElem? (i := 24) (by decide +kernel), List.mem_of_getElem? (i := 735) (by decide +kernel), List.mem_of_getElem? (i := 736) (by decide +kernel)⟩
theorem lw_p4 : lw_okq (⟨"SteadyFund$Clearing", "learn", "(LSteadyFund$World;)Z"⟩, 9) := ⟨⟨by decide +kernel, by decide +kernel⟩, List.mem_of_getElem? (i := 383) (by decide +kernel), List.mem_of_getElem? (i := 743) (by decide +kernel), List.mem_of_getElem? (i := 744) (by decide +kernel)⟩
theorem lw_p5 : lw_okq (⟨"SteadyFund$Clearing", "begin", "()V"⟩, 9) := ⟨⟨by decide +kernel, by decide +kernel⟩, List.mem_of_getElem? (i := 383) (by decide +kernel), List.mem_of_getElem? (i := 753) (by decide +kernel), List.mem_of_getElem? (i := 754) (by decide +kernel)⟩
theorem lw_p6 : lw_okq (⟨"SteadyFund$Clearing", "handOn", "(I)V"⟩, 9) := ⟨⟨by decide +kernel, by decide +kernel⟩, List.mem_of_getElem? (i := 383) (by decide +kernel), List.mem_of_getElem? (i := 760) (by decide +kernel), List.mem_of_getElem? (i := 761) (by decide +kernel)⟩
theorem lw_p7 : lw_okq (⟨"SteadyFund$Clearing", "changesInRound", "()Z"⟩, 9) := ⟨⟨by decide +kernel, by decide +kernel⟩, List.mem_of_getElem? (i := 383) (by decide +kernel), List.mem_of_getElem? (i := 766) (by decide +kernel), List.mem_of_getElem? (i := 767) (by decide +kernel)⟩
theorem lw_p8 : lw_okq (⟨"SteadyFund$RuleReader", "anyHolds", "(I)J"⟩, 5) := ⟨⟨by decide +kernel, by decide +kernel⟩, List.mem_of_getElem? (i := 419) (by decide +kernel), List.mem_of_getElem? (i := 807) (by decide +kernel), List.mem_of_getElem? (i := 808) (by decide +kernel)⟩
theorem lw_p9 : lw_okq (⟨"SteadyFund$RuleReader", "allHold", "(I)J"⟩, 5) := ⟨⟨by decide +kernel, by decide +kernel⟩, List.mem_of_getElem? (i := 419) (by decide +kernel), List.mem_of_getElem? (i := 811) (by decide +kernel), List.mem_of_getElem? (i := 812) (by decide +kernel)⟩
theorem lw_p10 : lw_okq (⟨"SteadyFund$RuleReader", "held", "(I)J"⟩, 5) := ⟨⟨by decide +kernel, by decide +kernel⟩, List.mem_of_getElem? (i := 419) (by decide +kernel), List.mem_of_getElem? (i := 815) (by decide +kernel), List.mem_of_getElem? (i := 816) (by decide +kernel)⟩
theorem lw_p11 : lw_okq (⟨"SteadyFund$RuleReader", "added", "(I)J"⟩, 5) := ⟨⟨by decide +kernel, by decide +kernel⟩, List.mem_of_getElem? (i := 419) (by decide +kernel), List.mem_of_getElem? (i := 819) (by decide +kernel), List.mem_of_getElem? (i := 820) (by decide +kernel)⟩
theorem lw_p12 : lw_okq (⟨"SteadyFund$RuleReader", "multiplied", "(I)J"⟩, 5) := ⟨⟨by decide +kernel, by decide +kernel⟩, List.mem_of_getElem? (i := 419) (by decide +kernel), List.mem_of_getElem? (i := 823) (by decide +kernel), List.mem_of_getElem? (i := 824) (by decide +kernel)⟩
theorem lw_p13 : lw_okq (⟨"SteadyFund$RuleReader", "unit", "(I)J"⟩, 5) := ⟨⟨by decide +kernel, by decide +kernel⟩, List.mem_of_getElem? (i := 419) (by decide +kernel), List.mem_of_getElem? (i := 827) (by decide +kernel), List.mem_of_getElem? (i := 828) (by decide +kernel)⟩
theorem lw_p14 : lw_okq (⟨"SteadyFund$RuleReader", "next", "()I"⟩, 5) := ⟨⟨by decide +kernel, by decide +kernel⟩, List.mem_of_getElem? (i := 419) (by decide +kernel), List.mem_of_getElem? (i := 831) (by decide +kernel), List.mem_of_getElem? (i := 832) (by decide +kernel)⟩
theorem lw_p15 : lw_okq (⟨"SteadyFund$RuleReader", "refuse", "(I)J"⟩, 5) := ⟨⟨by decide +kernel, by decide +kernel⟩, List.mem_of_getElem? (i := 419) (by decide +kernel), List.mem_of_getElem? (i := 835) (by decide +kernel), List.mem_of_getElem? (i := 836) (by decide +kernel)⟩
def lw_privs_1 : List (MethodName × Nat) := [(⟨"SteadyFund$Claims", "indexedOf", "(LSteadyFund$Ledger;I)J"⟩, 13), (⟨"SteadyFund$Tide", "lookAt", "(LSteadyFund$Ledger;)V"⟩, 4), (⟨"SteadyFund$Claims", "leadOn", "(I)V"⟩, 13), (⟨"SteadyFund", "agreed", "(I)LSteadyFund$Clearing;"⟩, 8), (⟨"SteadyFund$Clearing", "learn", "(LSteadyFund$World;)Z"⟩, 9), (⟨"SteadyFund$Clearing", "begin", "()V"⟩, 9), (⟨"SteadyFund$Clearing", "handOn", "(I)V"⟩, 9), (⟨"SteadyFund$Clearing", "changesInRound", "()Z"⟩, 9), (⟨"SteadyFund$RuleReader", "anyHolds", "(I)J"⟩, 5), (⟨"SteadyFund$RuleReader", "allHold", "(I)J"⟩, 5), (⟨"SteadyFund$RuleReader", "held", "(I)J"⟩, 5), (⟨"SteadyFund$RuleReader", "added", "(I)J"⟩, 5), (⟨"SteadyFund$RuleReader", "multiplied", "(I)J"⟩, 5), (⟨"SteadyFund$RuleReader", "unit", "(I)J"⟩, 5), (⟨"SteadyFund$RuleReader", "next", "()I"⟩, 5), (⟨"SteadyFund$RuleReader", "refuse", "(I)J"⟩, 5)]
theorem lw_r1 : ∀ q ∈ lw_privs_1, lw_okq q := List.forall_mem_cons.mpr ⟨lw_p0, List.forall_mem_cons.mpr ⟨lw_p1, List.forall_mem_cons.mpr ⟨lw_p2, List.forall_mem_cons.mpr ⟨lw_p3, List.forall_mem_cons.mpr ⟨lw_p4, List.forall_mem_cons.mpr ⟨lw_p5, List.forall_mem_cons.mpr ⟨lw_p6, List.forall_mem_cons.mpr ⟨lw_p7, List.forall_mem_cons.mpr ⟨lw_p8, List.forall_mem_cons.mpr ⟨lw_p9, List.forall_mem_cons.mpr ⟨lw_p10, List.forall_mem_cons.mpr ⟨lw_p11, List.forall_mem_cons.mpr ⟨lw_p12, List.forall_mem_cons.mpr ⟨lw_p13, List.forall_mem_cons.mpr ⟨lw_p14, List.forall_mem_cons.mpr ⟨lw_p15, fun _ h => absurd h List.not_mem_nil⟩⟩⟩⟩⟩⟩⟩⟩⟩⟩⟩⟩⟩⟩⟩⟩
theorem lw_p16 : lw_okq (⟨"SteadyFund$RuleReader", "number", "()J"⟩, 5) := ⟨⟨by decide +kernel, by decide +kernel⟩, List.mem_of_getElem? (i := 419) (by decide +kernel), List.mem_of_getElem? (i := 842) (by decide +kernel), List.mem_of_getElem? (i := 843) (by decide +kernel)⟩
theorem lw_p17 : lw_okq (⟨"SteadyFund$RuleReader", "inBrackets", "(I)J"⟩, 5) := ⟨⟨by decide +kernel, by decide +kernel⟩, List.mem_of_getElem? (i := 419) (by decide +kernel), List.mem_of_getElem? (i := 848) (by decide +kernel), List.mem_of_getElem? (i := 849) (by decide +kernel)⟩
theorem lw_p18 : lw_okq (⟨"SteadyFund$RuleReader", "takes", "(C)Z"⟩, 5) := ⟨⟨by decide +kernel, by decide +kernel⟩, List.mem_of_getElem? (i := 419) (by decide +kernel), List.mem_of_getElem? (i := 852) (by decide +kernel), List.mem_of_getElem? (i := 853) (by decide +kernel)⟩
theorem lw_p19 : lw_okq (⟨"SteadyFund$Paper", "lookWhoCould", "()V"⟩, 13) := ⟨⟨by decide +kernel, by decide +kernel⟩, List.mem_of_getElem? (i := 137) (by decide +kernel), List.mem_of_getElem? (i := 994) (by decide +kernel), List.mem_of_getElem? (i := 995) (by decide +kernel)⟩
theorem lw_p20 : lw_okq (⟨"SteadyFund$Paper", "printsAll", "(I)Z"⟩, 13) := ⟨⟨by decide +kernel, by decide +kernel⟩, List.mem_of_getElem? (i := 137) (by decide +kernel), List.mem_of_getElem? (i := 998) (by decide +kernel), List.mem_of_getElem? (i := 999) (by decide +kernel)⟩
theorem lw_p21 : lw_okq (⟨"SteadyFund$Claims", "monthsOf", "(I)I"⟩, 13) := ⟨⟨by decide +kernel, by decide +kernel⟩, List.mem_of_getElem? (i := 189) (by decide +kernel), List.mem_of_getElem? (i := 1024) (by decide +kernel), List.mem_of_getElem? (i := 1025) (by decide +kernel)⟩
theorem lw_p22 : lw_okq (⟨"SteadyFund$SealedRecord", "sealed", "(II)I"⟩, 7) := ⟨⟨by decide +kernel, by decide +kernel⟩, List.mem_of_getElem? (i := 317) (by decide +kernel), List.mem_of_getElem? (i := 1044) (by decide +kernel), List.mem_of_getElem? (i := 1045) (by decide +kernel)⟩
theorem lw_p23 : lw_okq (⟨"SteadyFund$SealedRecord", "lookWhichFit", "(II)I"⟩, 7) := ⟨⟨by decide +kernel, by decide +kernel⟩, List.mem_of_getElem? (i := 317) (by decide +kernel), List.mem_of_getElem? (i := 1060) (by decide +kernel), List.mem_of_getElem? (i := 1061) (by decide +kernel)⟩
theorem lw_p24 : lw_okq (⟨"SteadyFundModel", "got", "(I)I"⟩, 23) := ⟨⟨by decide +kernel, by decide +kernel⟩, List.mem_of_getElem? (i := 1160) (by decide +kernel), List.mem_of_getElem? (i := 1248) (by decide +kernel), List.mem_of_getElem? (i := 1249) (by decide +kernel)⟩
theorem lw_p25 : lw_okq (⟨"SteadyFundModel", "has", "(II)Z"⟩, 23) := ⟨⟨by decide +kernel, by decide +kernel⟩, List.mem_of_getElem? (i := 1160) (by decide +kernel), List.mem_of_getElem? (i := 1262) (by decide +kernel), List.mem_of_getElem? (i := 1263) (by decide +kernel)⟩
theorem lw_p26 : lw_okq (⟨"SteadyFundModel", "isFallen", "()Z"⟩, 23) := ⟨⟨by decide +kernel, by decide +kernel⟩, List.mem_of_getElem? (i := 1160) (by decide +kernel), List.mem_of_getElem? (i := 1270) (by decide +kernel), List.mem_of_getElem? (i := 1271) (by decide +kernel)⟩
theorem lw_p27 : lw_okq (⟨"SteadyFundModel", "addRow", "(IJ)V"⟩, 23) := ⟨⟨by decide +kernel, by decide +kernel⟩, List.mem_of_getElem? (i := 1160) (by decide +kernel), List.mem_of_getElem? (i := 1274) (by decide +kernel), List.mem_of_getElem? (i := 1275) (by decide +kernel)⟩
theorem lw_p28 : lw_okq (⟨"SteadyFundModel", "allShown", "()J"⟩, 23) := ⟨⟨by decide +kernel, by decide +kernel⟩, List.mem_of_getElem? (i := 1160) (by decide +kernel), List.mem_of_getElem? (i := 1288) (by decide +kernel), List.mem_of_getElem? (i := 1289) (by decide +kernel)⟩
theorem lw_p29 : lw_okq (⟨"SteadyFundModel", "went", "(IIIZ)J"⟩, 23) := ⟨⟨by decide +kernel, by decide +kernel⟩, List.mem_of_getElem? (i := 1160) (by decide +kernel), List.mem_of_getElem? (i := 1300) (by decide +kernel), List.mem_of_getElem? (i := 1301) (by decide +kernel)⟩
theorem lw_p30 : lw_okq (⟨"SteadyFundModel", "wrongOf", "(I)I"⟩, 23) := ⟨⟨by decide +kernel, by decide +kernel⟩, List.mem_of_getElem? (i := 1160) (by decide +kernel), List.mem_of_getElem? (i := 1336) (by decide +kernel), List.mem_of_getElem? (i := 1337) (by decide +kernel)⟩
theorem lw_p31 : lw_okq (⟨"SteadyFundModel", "tell", "(JJ)V"⟩, 23) := ⟨⟨by decide +kernel, by decide +kernel⟩, List.mem_of_getElem? (i := 1160) (by decide +kernel), List.mem_of_getElem? (i := 1359) (by decide +kernel), List.mem_of_getElem? (i := 1360) (by decide +kernel)⟩
def lw_privs_2 : List (MethodName × Nat) := [(⟨"SteadyFund$RuleReader", "number", "()J"⟩, 5), (⟨"SteadyFund$RuleReader", "inBrackets", "(I)J"⟩, 5), (⟨"SteadyFund$RuleReader", "takes", "(C)Z"⟩, 5), (⟨"SteadyFund$Paper", "lookWhoCould", "()V"⟩, 13), (⟨"SteadyFund$Paper", "printsAll", "(I)Z"⟩, 13), (⟨"SteadyFund$Claims", "monthsOf", "(I)I"⟩, 13), (⟨"SteadyFund$SealedRecord", "sealed", "(II)I"⟩, 7), (⟨"SteadyFund$SealedRecord", "lookWhichFit", "(II)I"⟩, 7), (⟨"SteadyFundModel", "got", "(I)I"⟩, 23), (⟨"SteadyFundModel", "has", "(II)Z"⟩, 23), (⟨"SteadyFundModel", "isFallen", "()Z"⟩, 23), (⟨"SteadyFundModel", "addRow", "(IJ)V"⟩, 23), (⟨"SteadyFundModel", "allShown", "()J"⟩, 23), (⟨"SteadyFundModel", "went", "(IIIZ)J"⟩, 23), (⟨"SteadyFundModel", "wrongOf", "(I)I"⟩, 23), (⟨"SteadyFundModel", "tell", "(JJ)V"⟩, 23)]
theorem lw_r2 : ∀ q ∈ lw_privs_2, lw_okq q := List.forall_mem_cons.mpr ⟨lw_p16, List.forall_mem_cons.mpr ⟨lw_p17, List.forall_mem_cons.mpr ⟨lw_p18, List.forall_mem_cons.mpr ⟨lw_p19, List.forall_mem_cons.mpr ⟨lw_p20, List.forall_mem_cons.mpr ⟨lw_p21, List.forall_mem_cons.mpr ⟨lw_p22, List.forall_mem_cons.mpr ⟨lw_p23, List.forall_mem_cons.mpr ⟨lw_p24, List.forall_mem_cons.mpr ⟨lw_p25, List.forall_mem_cons.mpr ⟨lw_p26, List.forall_mem_cons.mpr ⟨lw_p27, List.forall_mem_cons.mpr ⟨lw_p28, List.forall_mem_cons.mpr ⟨lw_p29, List.forall_mem_cons.mpr ⟨lw_p30, List.forall_mem_cons.mpr ⟨lw_p31, fun _ h => absurd h List.not_mem_nil⟩⟩⟩⟩⟩⟩⟩⟩⟩⟩⟩⟩⟩⟩⟩⟩
theorem lw_p32 : lw_okq (⟨"SteadyFundModel", "allCounts", "(I)J"⟩, 23) := ⟨⟨by decide +kernel, by decide +kernel⟩, List.mem_of_getElem? (i := 1160) (by decide +kernel), List.mem_of_getElem? (i := 1383) (by decide +kernel), List.mem_of_getElem? (i := 1384) (by decide +kernel)⟩
theorem lw_p33 : lw_okq (⟨"SteadyFundModel", "countOf", "(II)J"⟩, 23) := ⟨⟨by decide +kernel, by decide +kernel⟩, List.mem_of_getElem? (i := 1160) (by decide +kernel), List.mem_of_getElem? (i := 1387) (by decide +kernel), List.mem_of_getElem? (i := 1388) (by decide +kernel)⟩
theorem lw_p34 : lw_okq (⟨"SteadyFundModel", "dealtTo", "(IIJ)J"⟩, 23) := ⟨⟨by decide +kernel, by decide +kernel⟩, List.mem_of_getElem? (i := 1160) (by decide +kernel), List.mem_of_getElem? (i := 1399) (by decide +kernel), List.mem_of_getElem? (i := 1400) (by decide +kernel)⟩
theorem lw_p35 : lw_okq (⟨"SteadyFundModel", "findTide", "(J)V"⟩, 23) := ⟨⟨by decide +kernel, by decide +kernel⟩, List.mem_of_getElem? (i := 1160) (by decide +kernel), List.mem_of_getElem? (i := 1403) (by decide +kernel), List.mem_of_getElem? (i := 1404) (by decide +kernel)⟩
theorem lw_p36 : lw_okq (⟨"SteadyFundModel", "wetBy", "(I)J"⟩, 23) := ⟨⟨by decide +kernel, by decide +kernel⟩, List.mem_of_getElem? (i := 1160) (by decide +kernel), List.mem_of_getElem? (i := 1407) (by decide +kernel), List.mem_of_getElem? (i := 1408) (by decide +kernel)⟩
theorem lw_p37 : lw_okq (⟨"SteadyFundModel", "putIn", "(I)J"⟩, 23) := ⟨⟨by decide +kernel, by decide +kernel⟩, List.mem_of_getElem? (i := 1160) (by decide +kernel), List.mem_of_getElem? (i := 1411) (by decide +kernel), List.mem_of_getElem? (i := 1412) (by decide +kernel)⟩
theorem lw_p38 : lw_okq (⟨"SteadyFundModel", "drawn", "(I)J"⟩, 23) := ⟨⟨by decide +kernel, by decide +kernel⟩, List.mem_of_getElem? (i := 1160) (by decide +kernel), List.mem_of_getElem? (i := 1415) (by decide +kernel), List.mem_of_getElem? (i := 1416) (by decide +kernel)⟩
theorem lw_p39 : lw_okq (⟨"SteadyFundModel", "lowest", "(I)I"⟩, 23) := ⟨⟨by decide +kernel, by decide +kernel⟩, List.mem_of_getElem? (i := 1160) (by decide +kernel), List.mem_of_getElem? (i := 1419) (by decide +kernel), List.mem_of_getElem? (i := 1420) (by decide +kernel)⟩
theorem lw_p40 : lw_okq (⟨"SteadyFundModel", "toTake", "(I)J"⟩, 23) := ⟨⟨by decide +kernel, by decide +kernel⟩, List.mem_of_getElem? (i := 1160) (by decide +kernel), List.mem_of_getElem? (i := 1443) (by decide +kernel), List.mem_of_getElem? (i := 1444) (by decide +kernel)⟩
theorem lw_p41 : lw_okq (⟨"SteadyFundModel", "findPays", "(Z)V"⟩, 23) := ⟨⟨by decide +kernel, by decide +kernel⟩, List.mem_of_getElem? (i := 1160) (by decide +kernel), List.mem_of_getElem? (i := 1466) (by decide +kernel), List.mem_of_getElem? (i := 1467) (by decide +kernel)⟩
theorem lw_p42 : lw_okq (⟨"SteadyFundModel", "reads", "()Z"⟩, 23) := ⟨⟨by decide +kernel, by decide +kernel⟩, List.mem_of_getElem? (i := 1160) (by decide +kernel), List.mem_of_getElem? (i := 1491) (by decide +kernel), List.mem_of_getElem? (i := 1492) (by decide +kernel)⟩
theorem lw_p43 : lw_okq (⟨"SteadyFundModel", "ahead", "()I"⟩, 23) := ⟨⟨by decide +kernel, by decide +kernel⟩, List.mem_of_getElem? (i := 1160) (by decide +kernel), List.mem_of_getElem? (i := 1495) (by decide +kernel), List.mem_of_getElem? (i := 1496) (by decide +kernel)⟩
theorem lw_p44 : lw_okq (⟨"SteadyFundModel", "digits", "()J"⟩, 23) := ⟨⟨by decide +kernel, by decide +kernel⟩, List.mem_of_getElem? (i := 1160) (by decide +kernel), List.mem_of_getElem? (i := 1502) (by decide +kernel), List.mem_of_getElem? (i := 1503) (by decide +kernel)⟩
theorem lw_p45 : lw_okq (⟨"SteadyFundModel", "stands", "(J)V"⟩, 23) := ⟨⟨by decide +kernel, by decide +kernel⟩, List.mem_of_getElem? (i := 1160) (by decide +kernel), List.mem_of_getElem? (i := 1506) (by decide +kernel), List.mem_of_getElem? (i := 1507) (by decide +kernel)⟩
theorem lw_p46 : lw_okq (⟨"SteadyFundModel", "worksDown", "(I)V"⟩, 23) := ⟨⟨by decide +kernel, by decide +kernel⟩, List.mem_of_getElem? (i := 1160) (by decide +kernel), List.mem_of_getElem? (i := 1513) (by decide +kernel), List.mem_of_getElem? (i := 1514) (by decide +kernel)⟩
theorem lw_p47 : lw_okq (⟨"SteadyFundModel", "works", "()V"⟩, 23) := ⟨⟨by decide +kernel, by decide +kernel⟩, List.mem_of_getElem? (i := 1160) (by decide +kernel), List.mem_of_getElem? (i := 1520) (by decide +kernel), List.mem_of_getElem? (i := 1521) (by decide +kernel)⟩
def lw_privs_3 : List (MethodName × Nat) := [(⟨"SteadyFundModel", "allCounts", "(I)J"⟩, 23), (⟨"SteadyFundModel", "countOf", "(II)J"⟩, 23), (⟨"SteadyFundModel", "dealtTo", "(IIJ)J"⟩, 23), (⟨"SteadyFundModel", "findTide", "(J)V"⟩, 23), (⟨"SteadyFundModel", "wetBy", "(I)J"⟩, 23), (⟨"SteadyFundModel", "putIn", "(I)J"⟩, 23), (⟨"SteadyFundModel", "drawn", "(I)J"⟩, 23), (⟨"SteadyFundModel", "lowest", "(I)I"⟩, 23), (⟨"SteadyFundModel", "toTake", "(I)J"⟩, 23), (⟨"SteadyFundModel", "findPays", "(Z)V"⟩, 23), (⟨"SteadyFundModel", "reads", "()Z"⟩, 23), (⟨"SteadyFundModel", "ahead", "()I"⟩, 23), (⟨"SteadyFundModel", "digits", "()J"⟩, 23), (⟨"SteadyFundModel", "stands", "(J)V"⟩, 23), (⟨"SteadyFundModel", "worksDown", "(I)V"⟩, 23), (⟨"SteadyFundModel", "works", "()V"⟩, 23)]
theorem lw_r3 : ∀ q ∈ lw_privs_3, lw_okq q := List.forall_mem_cons.mpr ⟨lw_p32, List.forall_mem_cons.mpr ⟨lw_p33, List.forall_mem_cons.mpr ⟨lw_p34, List.forall_mem_cons.mpr ⟨lw_p35, List.forall_mem_cons.mpr ⟨lw_p36, List.forall_mem_cons.mpr ⟨lw_p37, List.forall_mem_cons.mpr ⟨lw_p38, List.forall_mem_cons.mpr ⟨lw_p39, List.forall_mem_cons.mpr ⟨lw_p40, List.forall_mem_cons.mpr ⟨lw_p41, List.forall_mem_cons.mpr ⟨lw_p42, List.forall_mem_cons.mpr ⟨lw_p43, List.forall_mem_cons.mpr ⟨lw_p44, List.forall_mem_cons.mpr ⟨lw_p45, List.forall_mem_cons.mpr ⟨lw_p46, List.forall_mem_cons.mpr ⟨lw_p47, fun _ h => absurd h List.not_mem_nil⟩⟩⟩⟩⟩⟩⟩⟩⟩⟩⟩⟩⟩⟩⟩⟩
theorem lw_p48 : lw_okq (⟨"SteadyFundModel", "lay", "(I)V"⟩, 23) := ⟨⟨by decide +kernel, by decide +kernel⟩, List.mem_of_getElem? (i := 1160) (by decide +kernel), List.mem_of_getElem? (i := 1529) (by decide +kernel), List.mem_of_getElem? (i := 1530) (by decide +kernel)⟩
theorem lw_p49 : lw_okq (⟨"SteadyFundModel", "doesHave", "(I)Z"⟩, 23) := ⟨⟨by decide +kernel, by decide +kernel⟩, List.mem_of_getElem? (i := 1160) (by decide +kernel), List.mem_of_getElem? (i := 1550) (by decide +kernel), List.mem_of_getElem? (i := 1551) (by decide +kernel)⟩
theorem lw_p50 : lw_okq (⟨"SteadyFundModel", "mayHave", "(I)I"⟩, 23) := ⟨⟨by decide +kernel, by decide +kernel⟩, List.mem_of_getElem? (i := 1160) (by decide +kernel), List.mem_of_getElem? (i := 1554) (by decide +kernel), List.mem_of_getElem? (i := 1555) (by decide +kernel)⟩
theorem lw_p51 : lw_okq (⟨"SteadyFundModel", "sealOf", "(II)I"⟩, 23) := ⟨⟨by decide +kernel, by decide +kernel⟩, List.mem_of_getElem? (i := 1160) (by decide +kernel), List.mem_of_getElem? (i := 1571) (by decide +kernel), List.mem_of_getElem? (i := 1572) (by decide +kernel)⟩
theorem lw_p52 : lw_okq (⟨"SteadyFundModel", "sums", "(JII)J"⟩, 23) := ⟨⟨by decide +kernel, by decide +kernel⟩, List.mem_of_getElem? (i := 1160) (by decide +kernel), List.mem_of_getElem? (i := 1609) (by decide +kernel), List.mem_of_getElem? (i := 1610) (by decide +kernel)⟩
def lw_privs_4 : List (MethodName × Nat) := [(⟨"SteadyFundModel", "lay", "(I)V"⟩, 23), (⟨"SteadyFundModel", "doesHave", "(I)Z"⟩, 23), (⟨"SteadyFundModel", "mayHave", "(I)I"⟩, 23), (⟨"SteadyFundModel", "sealOf", "(II)I"⟩, 23), (⟨"SteadyFundModel", "sums", "(JII)J"⟩, 23)]
theorem lw_r4 : ∀ q ∈ lw_privs_4, lw_okq q := List.forall_mem_cons.mpr ⟨lw_p48, List.forall_mem_cons.mpr ⟨lw_p49, List.forall_mem_cons.mpr ⟨lw_p50, List.forall_mem_cons.mpr ⟨lw_p51, List.forall_mem_cons.mpr ⟨lw_p52, fun _ h => absurd h List.not_mem_nil⟩⟩⟩⟩⟩
def lw_privs : List (MethodName × Nat) := lw_privs_1 ++ (lw_privs_2 ++ (lw_privs_3 ++ (lw_privs_4)))
def lw_tbl : List Cond := k2_sels lw_privs ++ tables_1
theorem lw_privs_ok : ∀ q ∈ lw_privs, lw_okq q := by
  show ∀ q ∈ lw_privs_1 ++ (lw_privs_2 ++ (lw_privs_3 ++ (lw_privs_4))), lw_okq q
  exact List.forall_mem_append.mpr ⟨lw_r1, List.forall_mem_append.mpr ⟨lw_r2, List.forall_mem_append.mpr ⟨lw_r3, lw_r4⟩⟩⟩
def RX0 : String := "SteadyFund$Claims"
def TX0 : u_T := fun k => match k with
  | 0 => ("SteadyFund$Claims", "indexOf", "[I", true)
  | 1 => ("SteadyFund$Claims", "giver", "[I", true)
  | 2 => ("SteadyFund$Claims", "taker", "[I", true)
  | 3 => ("SteadyFund$Claims", "giftMonth", "[I", true)
  | 4 => ("SteadyFund$Claims", "giftSum", "[I", true)
  | 5 => ("SteadyFund$Claims", "gifts", "I", false)
  | 6 => ("SteadyFund$Claims", "yearsOfGood", "I", false)
  | 7 => ("SteadyFund$Claims", "yearsOfBad", "I", false)
  | 8 => ("SteadyFund$Claims", "brings", "[I", true)
  | 9 => ("SteadyFund$Claims", "cost", "[I", true)
  | 10 => ("SteadyFund$Claims", "suitMonths", "[I", true)
  | 11 => ("SteadyFund$Claims", "suits", "I", false)
  | _ => ("SteadyFund$Claims", "with", "[J", true)
def tyX0 : Nat → FieldType := fun k => match k with
  | 0 => .array .int
  | 1 => .array .int
  | 2 => .array .int
  | 3 => .array .int
  | 4 => .array .int
  | 5 => .int
  | 6 => .int
  | 7 => .int
  | 8 => .array .int
  | 9 => .array .int
  | 10 => .array .int
  | 11 => .int
  | _ => .array .long
theorem nmX0 : ∀ a, a < 13 → ∀ b, b < 13 → a ≠ b → (TX0 a).2.1 ≠ (TX0 b).2.1 := by decide +kernel
theorem tyX0_ok : ∀ k, k < 13 → parseFieldDescriptor (TX0 k).2.2.1 = some (tyX0 k) := by decide +kernel
def RX1 : String := "SteadyFund$Clearing"
def TX1 : u_T := fun k => match k with
  | 0 => ("SteadyFund$Clearing", "fromAll", "Z", true)
  | 1 => ("SteadyFund$Clearing", "coins", "[J", true)
  | 2 => ("SteadyFund$Clearing", "owed", "[I", true)
  | 3 => ("SteadyFund$Clearing", "dues", "[J", true)
  | 4 => ("SteadyFund$Clearing", "gets", "[J", true)
  | 5 => ("SteadyFund$Clearing", "next", "[J", true)
  | 6 => ("SteadyFund$Clearing", "share", "[J", true)
  | 7 => ("SteadyFund$Clearing", "pay", "[J", true)
  | _ => ("SteadyFund$Clearing", "changes", "I", false)
def tyX1 : Nat → FieldType := fun k => match k with
  | 0 => .boolean
  | 1 => .array .long
  | 2 => .array .int
  | 3 => .array .long
  | 4 => .array .long
  | 5 => .array .long
  | 6 => .array .long
  | 7 => .array .long
  | _ => .int
theorem nmX1 : ∀ a, a < 9 → ∀ b, b < 9 → a ≠ b → (TX1 a).2.1 ≠ (TX1 b).2.1 := by decide +kernel
theorem tyX1_ok : ∀ k, k < 9 → parseFieldDescriptor (TX1 k).2.2.1 = some (tyX1 k) := by decide +kernel
def RX2 : String := "SteadyFund$Fraction"
def TX2 : u_T := fun k => match k with
  | 0 => ("SteadyFund$Fraction", "above", "J", false)
  | _ => ("SteadyFund$Fraction", "below", "J", false)
def tyX2 : Nat → FieldType := fun k => match k with
  | 0 => .long
  | _ => .long
theorem nmX2 : ∀ a, a < 2 → ∀ b, b < 2 → a ≠ b → (TX2 a).2.1 ≠ (TX2 b).2.1 := by decide +kernel
theorem tyX2_ok : ∀ k, k < 2 → parseFieldDescriptor (TX2 k).2.2.1 = some (tyX2 k) := by decide +kernel
def RX3 : String := "SteadyFund$Houses"
def TX3 : u_T := fun k => match k with
  | 0 => ("SteadyFund$Houses", "own", "[I", true)
  | 1 => ("SteadyFund$Houses", "owed", "[I", true)
  | _ => ("SteadyFund$Houses", "isStruck", "Z", false)
def tyX3 : Nat → FieldType := fun k => match k with
  | 0 => .array .int
  | 1 => .array .int
  | _ => .boolean
theorem nmX3 : ∀ a, a < 3 → ∀ b, b < 3 → a ≠ b → (TX3 a).2.1 ≠ (TX3 b).2.1 := by decide +kernel
theorem tyX3_ok : ∀ k, k < 3 → parseFieldDescriptor (TX3 k).2.2.1 = some (tyX3 k) := by decide +kernel
def RX4 : String := "SteadyFund$Ledger"
def TX4 : u_T := fun k => match k with
  | 0 => ("SteadyFund$Ledger", "house", "[I", true)
  | 1 => ("SteadyFund$Ledger", "faith", "[I", true)
  | 2 => ("SteadyFund$Ledger", "shownTo", "[J", true)
  | 3 => ("SteadyFund$Ledger", "persons", "I", false)
  | 4 => ("SteadyFund$Ledger", "rowPerson", "[I", true)
  | 5 => ("SteadyFund$Ledger", "rowMonth", "[I", true)
  | 6 => ("SteadyFund$Ledger", "rowSum", "[I", true)
  | 7 => ("SteadyFund$Ledger", "rows", "I", false)
  | 8 => ("SteadyFund$Ledger", "now", "I", false)
  | 9 => ("SteadyFund$Ledger", "fee", "I", false)
  | 10 => ("SteadyFund$Ledger", "rate", "I", false)
  | 11 => ("SteadyFund$Ledger", "coins", "J", false)
  | 12 => ("SteadyFund$Ledger", "feesGone", "J", false)
  | 13 => ("SteadyFund$Ledger", "fell", "I", false)
  | 14 => ("SteadyFund$Ledger", "coinsAtEnd", "[J", true)
  | 15 => ("SteadyFund$Ledger", "shownAtEnd", "[J", true)
  | 16 => ("SteadyFund$Ledger", "leastIn", "[I", true)
  | 17 => ("SteadyFund$Ledger", "mostIn", "[I", true)
  | 18 => ("SteadyFund$Ledger", "leastOut", "[I", true)
  | _ => ("SteadyFund$Ledger", "mostOut", "[I", true)
def tyX4 : Nat → FieldType := fun k => match k with
  | 0 => .array .int
  | 1 => .array .int
  | 2 => .array .long
  | 3 => .int
  | 4 => .array .int
  | 5 => .array .int
  | 6 => .array .int
  | 7 => .int
  | 8 => .int
  | 9 => .int
  | 10 => .int
  | 11 => .long
  | 12 => .long
  | 13 => .int
  | 14 => .array .long
  | 15 => .array .long
  | 16 => .array .int
  | 17 => .array .int
  | 18 => .array .int
  | _ => .array .int
theorem nmX4 : ∀ a, a < 20 → ∀ b, b < 20 → a ≠ b → (TX4 a).2.1 ≠ (TX4 b).2.1 := by decide +kernel
theorem tyX4_ok : ∀ k, k < 20 → parseFieldDescriptor (TX4 k).2.2.1 = some (tyX4 k) := by decide +kernel
def RX5 : String := "SteadyFund$Letters"
def TX5 : u_T := fun k => match k with
  | 0 => ("SteadyFund$Letters", "office", "[I", true)
  | 1 => ("SteadyFund$Letters", "asked", "[I", true)
  | 2 => ("SteadyFund$Letters", "read", "[I", true)
  | 3 => ("SteadyFund$Letters", "size", "I", false)
  | 4 => ("SteadyFund$Letters", "rules", "[I", true)
  | _ => ("SteadyFund$Letters", "length", "I", false)
def tyX5 : Nat → FieldType := fun k => match k with
  | 0 => .array .int
  | 1 => .array .int
  | 2 => .array .int
  | 3 => .int
  | 4 => .array .int
  | _ => .int
theorem nmX5 : ∀ a, a < 6 → ∀ b, b < 6 → a ≠ b → (TX5 a).2.1 ≠ (TX5 b).2.1 := by decide +kernel
theorem tyX5_ok : ∀ k, k < 6 → parseFieldDescriptor (TX5 k).2.2.1 = some (tyX5 k) := by decide +kernel
def RX6 : String := "SteadyFund$Paper"
def TX6 : u_T := fun k => match k with
  | 0 => ("SteadyFund$Paper", "low", "[I", true)
  | 1 => ("SteadyFund$Paper", "high", "[I", true)
  | 2 => ("SteadyFund$Paper", "sold", "[I", true)
  | 3 => ("SteadyFund$Paper", "tradeDay", "[I", true)
  | 4 => ("SteadyFund$Paper", "price", "[I", true)
  | 5 => ("SteadyFund$Paper", "amount", "[I", true)
  | 6 => ("SteadyFund$Paper", "tradeFloor", "[I", true)
  | 7 => ("SteadyFund$Paper", "trades", "I", false)
  | 8 => ("SteadyFund$Paper", "handDays", "[I", true)
  | 9 => ("SteadyFund$Paper", "handFloors", "[I", true)
  | 10 => ("SteadyFund$Paper", "hands", "I", false)
  | 11 => ("SteadyFund$Paper", "couldPrint", "[I", true)
  | _ => ("SteadyFund$Paper", "isWrong", "[Z", true)
def tyX6 : Nat → FieldType := fun k => match k with
  | 0 => .array .int
  | 1 => .array .int
  | 2 => .array .int
  | 3 => .array .int
  | 4 => .array .int
  | 5 => .array .int
  | 6 => .array .int
  | 7 => .int
  | 8 => .array .int
  | 9 => .array .int
  | 10 => .int
  | 11 => .array .int
  | _ => .array .boolean
theorem nmX6 : ∀ a, a < 13 → ∀ b, b < 13 → a ≠ b → (TX6 a).2.1 ≠ (TX6 b).2.1 := by decide +kernel
theorem tyX6_ok : ∀ k, k < 13 → parseFieldDescriptor (TX6 k).2.2.1 = some (tyX6 k) := by decide +kernel
def RX7 : String := "SteadyFund$RuleReader"
def TX7 : u_T := fun k => match k with
  | 0 => ("SteadyFund$RuleReader", "named", "[J", true)
  | 1 => ("SteadyFund$RuleReader", "text", "LSteadyFund$Letters;", true)
  | 2 => ("SteadyFund$RuleReader", "place", "I", false)
  | 3 => ("SteadyFund$RuleReader", "open", "I", false)
  | _ => ("SteadyFund$RuleReader", "found", "I", false)
def tyX7 : Nat → FieldType := fun k => match k with
  | 0 => .array .long
  | 1 => .object "SteadyFund$Letters"
  | 2 => .int
  | 3 => .int
  | _ => .int
theorem nmX7 : ∀ a, a < 5 → ∀ b, b < 5 → a ≠ b → (TX7 a).2.1 ≠ (TX7 b).2.1 := by decide +kernel
theorem tyX7_ok : ∀ k, k < 5 → parseFieldDescriptor (TX7 k).2.2.1 = some (tyX7 k) := by decide +kernel
def RX8 : String := "SteadyFund$SealedRecord"
def TX8 : u_T := fun k => match k with
  | 0 => ("SteadyFund$SealedRecord", "person", "[I", true)
  | 1 => ("SteadyFund$SealedRecord", "month", "[I", true)
  | 2 => ("SteadyFund$SealedRecord", "sum", "[I", true)
  | 3 => ("SteadyFund$SealedRecord", "fits", "[Z", true)
  | 4 => ("SteadyFund$SealedRecord", "rows", "I", false)
  | 5 => ("SteadyFund$SealedRecord", "sealH", "I", false)
  | _ => ("SteadyFund$SealedRecord", "sealG", "I", false)
def tyX8 : Nat → FieldType := fun k => match k with
  | 0 => .array .int
  | 1 => .array .int
  | 2 => .array .int
  | 3 => .array .boolean
  | 4 => .int
  | 5 => .int
  | _ => .int
theorem nmX8 : ∀ a, a < 7 → ∀ b, b < 7 → a ≠ b → (TX8 a).2.1 ≠ (TX8 b).2.1 := by decide +kernel
theorem tyX8_ok : ∀ k, k < 7 → parseFieldDescriptor (TX8 k).2.2.1 = some (tyX8 k) := by decide +kernel
def RX9 : String := "SteadyFund$Tide"
def TX9 : u_T := fun k => match k with
  | 0 => ("SteadyFund$Tide", "putIn", "[J", true)
  | 1 => ("SteadyFund$Tide", "drawn", "[J", true)
  | 2 => ("SteadyFund$Tide", "above", "J", false)
  | _ => ("SteadyFund$Tide", "below", "J", false)
def tyX9 : Nat → FieldType := fun k => match k with
  | 0 => .array .long
  | 1 => .array .long
  | 2 => .long
  | _ => .long
theorem nmX9 : ∀ a, a < 4 → ∀ b, b < 4 → a ≠ b → (TX9 a).2.1 ≠ (TX9 b).2.1 := by decide +kernel
theorem tyX9_ok : ∀ k, k < 4 → parseFieldDescriptor (TX9 k).2.2.1 = some (tyX9 k) := by decide +kernel
def RX10 : String := "SteadyFund$World"
def TX10 : u_T := fun k => match k with
  | 0 => ("SteadyFund$World", "ledger", "LSteadyFund$Ledger;", true)
  | 1 => ("SteadyFund$World", "paper", "LSteadyFund$Paper;", true)
  | 2 => ("SteadyFund$World", "claims", "LSteadyFund$Claims;", true)
  | 3 => ("SteadyFund$World", "houses", "LSteadyFund$Houses;", true)
  | _ => ("SteadyFund$World", "letters", "LSteadyFund$Letters;", true)
def tyX10 : Nat → FieldType := fun k => match k with
  | 0 => .object "SteadyFund$Ledger"
  | 1 => .object "SteadyFund$Paper"
  | 2 => .object "SteadyFund$Claims"
  | 3 => .object "SteadyFund$Houses"
  | _ => .object "SteadyFund$Letters"
theorem nmX10 : ∀ a, a < 5 → ∀ b, b < 5 → a ≠ b → (TX10 a).2.1 ≠ (TX10 b).2.1 := by decide +kernel
theorem tyX10_ok : ∀ k, k < 5 → parseFieldDescriptor (TX10 k).2.2.1 = some (tyX10 k) := by decide +kernel
def RX11 : String := "SteadyFund"
def TX11 : u_T := fun k => match k with
  | 0 => ("SteadyFund", "world", "LSteadyFund$World;", true)
  | 1 => ("SteadyFund", "images", "[LSteadyFund$World;", true)
  | 2 => ("SteadyFund", "kept", "LSteadyFund$SealedRecord;", true)
  | 3 => ("SteadyFund", "fraction", "LSteadyFund$Fraction;", true)
  | 4 => ("SteadyFund", "rising", "LSteadyFund$Tide;", true)
  | 5 => ("SteadyFund", "least", "LSteadyFund$Clearing;", true)
  | 6 => ("SteadyFund", "greatest", "LSteadyFund$Clearing;", true)
  | _ => ("SteadyFund", "reader", "LSteadyFund$RuleReader;", true)
def tyX11 : Nat → FieldType := fun k => match k with
  | 0 => .object "SteadyFund$World"
  | 1 => .array (.object "SteadyFund$World")
  | 2 => .object "SteadyFund$SealedRecord"
  | 3 => .object "SteadyFund$Fraction"
  | 4 => .object "SteadyFund$Tide"
  | 5 => .object "SteadyFund$Clearing"
  | 6 => .object "SteadyFund$Clearing"
  | _ => .object "SteadyFund$RuleReader"
theorem nmX11 : ∀ a, a < 8 → ∀ b, b < 8 → a ≠ b → (TX11 a).2.1 ≠ (TX11 b).2.1 := by decide +kernel
theorem tyX11_ok : ∀ k, k < 8 → parseFieldDescriptor (TX11 k).2.2.1 = some (tyX11 k) := by decide +kernel
def RX12 : String := "SteadyFundModel"
def TX12 : u_T := fun k => match k with
  | 0 => ("SteadyFundModel", "now", "[J", true)
  | 1 => ("SteadyFundModel", "kept", "[J", true)
  | 2 => ("SteadyFundModel", "isKept", "[Z", true)
  | 3 => ("SteadyFundModel", "over", "J", false)
  | 4 => ("SteadyFundModel", "under", "J", false)
  | 5 => ("SteadyFundModel", "backs", "[J", true)
  | 6 => ("SteadyFundModel", "own", "[J", true)
  | 7 => ("SteadyFundModel", "dues", "[J", true)
  | 8 => ("SteadyFundModel", "pays", "[J", true)
  | 9 => ("SteadyFundModel", "next", "[J", true)
  | 10 => ("SteadyFundModel", "rounds", "I", false)
  | 11 => ("SteadyFundModel", "at", "I", false)
  | 12 => ("SteadyFundModel", "fault", "I", false)
  | 13 => ("SteadyFundModel", "values", "[J", true)
  | 14 => ("SteadyFundModel", "valueMany", "I", false)
  | 15 => ("SteadyFundModel", "signs", "[I", true)
  | 16 => ("SteadyFundModel", "signMany", "I", false)
  | 17 => ("SteadyFundModel", "names", "[J", true)
  | 18 => ("SteadyFundModel", "told", "J", false)
  | 19 => ("SteadyFundModel", "record", "[I", true)
  | 20 => ("SteadyFundModel", "recorded", "I", false)
  | 21 => ("SteadyFundModel", "firstSeal", "I", false)
  | _ => ("SteadyFundModel", "otherSeal", "I", false)
def tyX12 : Nat → FieldType := fun k => match k with
  | 0 => .array .long
  | 1 => .array .long
  | 2 => .array .boolean
  | 3 => .long
  | 4 => .long
  | 5 => .array .long
  | 6 => .array .long
  | 7 => .array .long
  | 8 => .array .long
  | 9 => .array .long
  | 10 => .int
  | 11 => .int
  | 12 => .int
  | 13 => .array .long
  | 14 => .int
  | 15 => .array .int
  | 16 => .int
  | 17 => .array .long
  | 18 => .long
  | 19 => .array .int
  | 20 => .int
  | 21 => .int
  | _ => .int
theorem nmX12 : ∀ a, a < 23 → ∀ b, b < 23 → a ≠ b → (TX12 a).2.1 ≠ (TX12 b).2.1 := by decide +kernel
theorem tyX12_ok : ∀ k, k < 23 → parseFieldDescriptor (TX12 k).2.2.1 = some (tyX12 k) := by decide +kernel
abbrev vwCl : List vw_C := [(RX0, TX0, 13), (RX1, TX1, 9), (RX2, TX2, 2), (RX3, TX3, 3), (RX4, TX4, 20), (RX5, TX5, 6), (RX6, TX6, 13), (RX7, TX7, 5), (RX8, TX8, 7), (RX9, TX9, 4), (RX10, TX10, 5), (RX11, TX11, 8), (RX12, TX12, 23)]
def am_lays : List ((FieldType × Nat) ⊕ Nat) := [.inr 11, .inl ((.object RX10), 2), .inr 8, .inl (.int, 100), .inl (.int, 100), .inl (.int, 100), .inl (.boolean, 100), .inr 2, .inl (.int, 0), .inl (.int, 0), .inr 10, .inr 4, .inr 6, .inr 0, .inr 3, .inr 5, .inl (.int, 12), .inl (.int, 12), .inl (.long, 12), .inl (.int, 100), .inl (.int, 100), .inl (.int, 100), .inl (.long, 60), .inl (.long, 60), .inl (.int, 12), .inl (.int, 12), .inl (.int, 12), .inl (.int, 12), .inl (.int, 30), .inl (.int, 30), .inl (.int, 30), .inl (.int, 40), .inl (.int, 40), .inl (.int, 40), .inl (.int, 40), .inl (.int, 8), .inl (.int, 8), .inl (.int, 40), .inl (.boolean, 40), .inl (.int, 60), .inl (.int, 30), .inl (.int, 30), .inl (.int, 30), .inl (.int, 30), .inl (.int, 8), .inl (.int, 8), .inl (.int, 8), .inl (.long, 12), .inl (.int, 8), .inl (.int, 64), .inl (.int, 20), .inl (.int, 20), .inl (.int, 20), .inl (.int, 40), .inl (.int, 0), .inl (.int, 0), .inl (.int, 0), .inl (.int, 0), .inl (.int, 0), .inl (.int, 0), .inr 10, .inr 4, .inr 6, .inr 0, .inr 3, .inr 5, .inl (.int, 12), .inl (.int, 12), .inl (.long, 12), .inl (.int, 100), .inl (.int, 100), .inl (.int, 100), .inl (.long, 60), .inl (.long, 60), .inl (.int, 12), .inl (.int, 12), .inl (.int, 12), .inl (.int, 12), .inl (.int, 30), .inl (.int, 30), .inl (.int, 30), .inl (.int, 40), .inl (.int, 40), .inl (.int, 40), .inl (.int, 40), .inl (.int, 8), .inl (.int, 8), .inl (.int, 40), .inl (.boolean, 40), .inl (.int, 60), .inl (.int, 30), .inl (.int, 30), .inl (.int, 30), .inl (.int, 30), .inl (.int, 8), .inl (.int, 8), .inl (.int, 8), .inl (.long, 12), .inl (.int, 8), .inl (.int, 64), .inl (.int, 20), .inl (.int, 20), .inl (.int, 20), .inl (.int, 40), .inl (.int, 0), .inl (.int, 0), .inl (.int, 0), .inl (.int, 0), .inl (.int, 0), .inl (.int, 0), .inr 10, .inr 4, .inr 6, .inr 0, .inr 3, .inr 5, .inl (.int, 12), .inl (.int, 12), .inl (.long, 12), .inl (.int, 100), .inl (.int, 100), .inl (.int, 100), .inl (.long, 60), .inl (.long, 60), .inl (.int, 12), .inl (.int, 12), .inl (.int, 12), .inl (.int, 12), .inl (.int, 30), .inl (.int, 30), .inl (.int, 30), .inl (.int, 40), .inl (.int, 40), .inl (.int, 40), .inl (.int, 40), .inl (.int, 8), .inl (.int, 8), .inl (.int, 40), .inl (.boolean, 40), .inl (.int, 60), .inl (.int, 30), .inl (.int, 30), .inl (.int, 30), .inl (.int, 30), .inl (.int, 8), .inl (.int, 8), .inl (.int, 8), .inl (.long, 12), .inl (.int, 8), .inl (.int, 64), .inl (.int, 20), .inl (.int, 20), .inl (.int, 20), .inl (.int, 40), .inl (.int, 0), .inl (.int, 0), .inl (.int, 0), .inl (.int, 0), .inl (.int, 0), .inl (.int, 0), .inr 9, .inl (.long, 12), .inl (.long, 12), .inl (.int, 0), .inr 1, .inl (.long, 8), .inl (.int, 64), .inl (.long, 8), .inl (.long, 8), .inl (.long, 8), .inl (.long, 64), .inl (.long, 8), .inl (.int, 0), .inl (.int, 0), .inr 1, .inl (.long, 8), .inl (.int, 64), .inl (.long, 8), .inl (.long, 8), .inl (.long, 8), .inl (.long, 64), .inl (.long, 8), .inl (.int, 0), .inl (.int, 0), .inr 7, .inl (.long, 7), .inl (.int, 0), .inl (.int, 0), .inl (.int, 0), .inl (.int, 0), .inr 12, .inl (.long, 1200), .inl (.long, 2400), .inl (.boolean, 2), .inl (.long, 12), .inl (.long, 8), .inl (.long, 8), .inl (.long, 8), .inl (.long, 8), .inl (.long, 64), .inl (.int, 128), .inl (.long, 7), .inl (.int, 300)]
def am_lay (k : Nat) : (FieldType × Nat) ⊕ Nat := am_lays.getD k (.inl (.int, 0))
theorem ly_0 : am_lay 0 = .inr 11 := rfl
theorem ly_1 : am_lay 1 = .inl ((.object RX10), 2) := rfl
theorem ly_2 : am_lay 2 = .inr 8 := rfl
theorem ly_3 : am_lay 3 = .inl (.int, 100) := rfl
theorem ly_4 : am_lay 4 = .inl (.int, 100) := rfl
theorem ly_5 : am_lay 5 = .inl (.int, 100) := rfl
theorem ly_6 : am_lay 6 = .inl (.boolean, 100) := rfl
theorem ly_7 : am_lay 7 = .inr 2 := rfl
theorem ly_10 : am_lay 10 = .inr 10 := rfl
theorem ly_11 : am_lay 11 = .inr 4 := rfl
theorem ly_12 : am_lay 12 = .inr 6 := rfl
theorem ly_13 : am_lay 13 = .inr 0 := rfl
theorem ly_14 : am_lay 14 = .inr 3 := rfl
theorem ly_15 : am_lay 15 = .inr 5 := rfl
theorem ly_16 : am_lay 16 = .inl (.int, 12) := rfl
theorem ly_17 : am_lay 17 = .inl (.int, 12) := rfl
theorem ly_18 : am_lay 18 = .inl (.long, 12) := rfl
theorem ly_19 : am_lay 19 = .inl (.int, 100) := rfl
theorem ly_20 : am_lay 20 = .inl (.int, 100) := rfl
theorem ly_21 : am_lay 21 = .inl (.int, 100) := rfl
theorem ly_22 : am_lay 22 = .inl (.long, 60) := rfl
theorem ly_23 : am_lay 23 = .inl (.long, 60) := rfl
theorem ly_24 : am_lay 24 = .inl (.int, 12) := rfl
theorem ly_25 : am_lay 25 = .inl (.int, 12) := rfl
theorem ly_26 : am_lay 26 = .inl (.int, 12) := rfl
theorem ly_27 : am_lay 27 = .inl (.int, 12) := rfl
theorem ly_28 : am_lay 28 = .inl (.int, 30) := rfl
theorem ly_29 : am_lay 29 = .inl (.int, 30) := rfl
theorem ly_30 : am_lay 30 = .inl (.int, 30) := rfl
theorem ly_31 : am_lay 31 = .inl (.int, 40) := rfl
theorem ly_32 : am_lay 32 = .inl (.int, 40) := rfl
theorem ly_33 : am_lay 33 = .inl (.int, 40) := rfl
theorem ly_34 : am_lay 34 = .inl (.int, 40) := rfl
theorem ly_35 : am_lay 35 = .inl (.int, 8) := rfl
theorem ly_36 : am_lay 36 = .inl (.int, 8) := rfl
theorem ly_37 : am_lay 37 = .inl (.int, 40) := rfl
theorem ly_38 : am_lay 38 = .inl (.boolean, 40) := rfl
theorem ly_39 : am_lay 39 = .inl (.int, 60) := rfl
theorem ly_40 : am_lay 40 = .inl (.int, 30) := rfl
theorem ly_41 : am_lay 41 = .inl (.int, 30) := rfl
theorem ly_42 : am_lay 42 = .inl (.int, 30) := rfl
theorem ly_43 : am_lay 43 = .inl (.int, 30) := rfl
theorem ly_44 : am_lay 44 = .inl (.int, 8) := rfl
theorem ly_45 : am_lay 45 = .inl (.int, 8) := rfl
theorem ly_46 : am_lay 46 = .inl (.int, 8) := rfl
theorem ly_47 : am_lay 47 = .inl (.long, 12) := rfl
theorem ly_48 : am_lay 48 = .inl (.int, 8) := rfl
theorem ly_49 : am_lay 49 = .inl (.int, 64) := rfl
theorem ly_50 : am_lay 50 = .inl (.int, 20) := rfl
theorem ly_51 : am_lay 51 = .inl (.int, 20) := rfl
theorem ly_52 : am_lay 52 = .inl (.int, 20) := rfl
theorem ly_53 : am_lay 53 = .inl (.int, 40) := rfl
theorem ly_60 : am_lay 60 = .inr 10 := rfl
theorem ly_61 : am_lay 61 = .inr 4 := rfl
theorem ly_62 : am_lay 62 = .inr 6 := rfl
theorem ly_63 : am_lay 63 = .inr 0 := rfl
theorem ly_64 : am_lay 64 = .inr 3 := rfl
theorem ly_65 : am_lay 65 = .inr 5 := rfl
theorem ly_66 : am_lay 66 = .inl (.int, 12) := rfl
theorem ly_67 : am_lay 67 = .inl (.int, 12) := rfl
theorem ly_68 : am_lay 68 = .inl (.long, 12) := rfl
theorem ly_69 : am_lay 69 = .inl (.int, 100) := rfl
theorem ly_70 : am_lay 70 = .inl (.int, 100) := rfl
theorem ly_71 : am_lay 71 = .inl (.int, 100) := rfl
theorem ly_72 : am_lay 72 = .inl (.long, 60) := rfl
theorem ly_73 : am_lay 73 = .inl (.long, 60) := rfl
theorem ly_74 : am_lay 74 = .inl (.int, 12) := rfl
theorem ly_75 : am_lay 75 = .inl (.int, 12) := rfl
theorem ly_76 : am_lay 76 = .inl (.int, 12) := rfl
theorem ly_77 : am_lay 77 = .inl (.int, 12) := rfl
theorem ly_78 : am_lay 78 = .inl (.int, 30) := rfl
theorem ly_79 : am_lay 79 = .inl (.int, 30) := rfl
theorem ly_80 : am_lay 80 = .inl (.int, 30) := rfl
theorem ly_81 : am_lay 81 = .inl (.int, 40) := rfl
theorem ly_82 : am_lay 82 = .inl (.int, 40) := rfl
theorem ly_83 : am_lay 83 = .inl (.int, 40) := rfl
theorem ly_84 : am_lay 84 = .inl (.int, 40) := rfl
theorem ly_85 : am_lay 85 = .inl (.int, 8) := rfl
theorem ly_86 : am_lay 86 = .inl (.int, 8) := rfl
theorem ly_87 : am_lay 87 = .inl (.int, 40) := rfl
theorem ly_88 : am_lay 88 = .inl (.boolean, 40) := rfl
theorem ly_89 : am_lay 89 = .inl (.int, 60) := rfl
theorem ly_90 : am_lay 90 = .inl (.int, 30) := rfl
theorem ly_91 : am_lay 91 = .inl (.int, 30) := rfl
theorem ly_92 : am_lay 92 = .inl (.int, 30) := rfl
theorem ly_93 : am_lay 93 = .inl (.int, 30) := rfl
theorem ly_94 : am_lay 94 = .inl (.int, 8) := rfl
theorem ly_95 : am_lay 95 = .inl (.int, 8) := rfl
theorem ly_96 : am_lay 96 = .inl (.int, 8) := rfl
theorem ly_97 : am_lay 97 = .inl (.long, 12) := rfl
theorem ly_98 : am_lay 98 = .inl (.int, 8) := rfl
theorem ly_99 : am_lay 99 = .inl (.int, 64) := rfl
theorem ly_100 : am_lay 100 = .inl (.int, 20) := rfl
theorem ly_101 : am_lay 101 = .inl (.int, 20) := rfl
theorem ly_102 : am_lay 102 = .inl (.int, 20) := rfl
theorem ly_103 : am_lay 103 = .inl (.int, 40) := rfl
theorem ly_110 : am_lay 110 = .inr 10 := rfl
theorem ly_111 : am_lay 111 = .inr 4 := rfl
theorem ly_112 : am_lay 112 = .inr 6 := rfl
theorem ly_113 : am_lay 113 = .inr 0 := rfl
theorem ly_114 : am_lay 114 = .inr 3 := rfl
theorem ly_115 : am_lay 115 = .inr 5 := rfl
theorem ly_116 : am_lay 116 = .inl (.int, 12) := rfl
theorem ly_117 : am_lay 117 = .inl (.int, 12) := rfl
theorem ly_118 : am_lay 118 = .inl (.long, 12) := rfl
theorem ly_119 : am_lay 119 = .inl (.int, 100) := rfl
theorem ly_120 : am_lay 120 = .inl (.int, 100) := rfl
theorem ly_121 : am_lay 121 = .inl (.int, 100) := rfl
theorem ly_122 : am_lay 122 = .inl (.long, 60) := rfl
theorem ly_123 : am_lay 123 = .inl (.long, 60) := rfl
theorem ly_124 : am_lay 124 = .inl (.int, 12) := rfl
theorem ly_125 : am_lay 125 = .inl (.int, 12) := rfl
theorem ly_126 : am_lay 126 = .inl (.int, 12) := rfl
theorem ly_127 : am_lay 127 = .inl (.int, 12) := rfl
theorem ly_128 : am_lay 128 = .inl (.int, 30) := rfl
theorem ly_129 : am_lay 129 = .inl (.int, 30) := rfl
theorem ly_130 : am_lay 130 = .inl (.int, 30) := rfl
theorem ly_131 : am_lay 131 = .inl (.int, 40) := rfl
theorem ly_132 : am_lay 132 = .inl (.int, 40) := rfl
theorem ly_133 : am_lay 133 = .inl (.int, 40) := rfl
theorem ly_134 : am_lay 134 = .inl (.int, 40) := rfl
theorem ly_135 : am_lay 135 = .inl (.int, 8) := rfl
theorem ly_136 : am_lay 136 = .inl (.int, 8) := rfl
theorem ly_137 : am_lay 137 = .inl (.int, 40) := rfl
theorem ly_138 : am_lay 138 = .inl (.boolean, 40) := rfl
theorem ly_139 : am_lay 139 = .inl (.int, 60) := rfl
theorem ly_140 : am_lay 140 = .inl (.int, 30) := rfl
theorem ly_141 : am_lay 141 = .inl (.int, 30) := rfl
theorem ly_142 : am_lay 142 = .inl (.int, 30) := rfl
theorem ly_143 : am_lay 143 = .inl (.int, 30) := rfl
theorem ly_144 : am_lay 144 = .inl (.int, 8) := rfl
theorem ly_145 : am_lay 145 = .inl (.int, 8) := rfl
theorem ly_146 : am_lay 146 = .inl (.int, 8) := rfl
theorem ly_147 : am_lay 147 = .inl (.long, 12) := rfl
theorem ly_148 : am_lay 148 = .inl (.int, 8) := rfl
theorem ly_149 : am_lay 149 = .inl (.int, 64) := rfl
theorem ly_150 : am_lay 150 = .inl (.int, 20) := rfl
theorem ly_151 : am_lay 151 = .inl (.int, 20) := rfl
theorem ly_152 : am_lay 152 = .inl (.int, 20) := rfl
theorem ly_153 : am_lay 153 = .inl (.int, 40) := rfl
theorem ly_160 : am_lay 160 = .inr 9 := rfl
theorem ly_161 : am_lay 161 = .inl (.long, 12) := rfl
theorem ly_162 : am_lay 162 = .inl (.long, 12) := rfl
theorem ly_164 : am_lay 164 = .inr 1 := rfl
theorem ly_165 : am_lay 165 = .inl (.long, 8) := rfl
theorem ly_166 : am_lay 166 = .inl (.int, 64) := rfl
theorem ly_167 : am_lay 167 = .inl (.long, 8) := rfl
theorem ly_168 : am_lay 168 = .inl (.long, 8) := rfl
theorem ly_169 : am_lay 169 = .inl (.long, 8) := rfl
theorem ly_170 : am_lay 170 = .inl (.long, 64) := rfl
theorem ly_171 : am_lay 171 = .inl (.long, 8) := rfl
theorem ly_174 : am_lay 174 = .inr 1 := rfl
theorem ly_175 : am_lay 175 = .inl (.long, 8) := rfl
theorem ly_176 : am_lay 176 = .inl (.int, 64) := rfl
theorem ly_177 : am_lay 177 = .inl (.long, 8) := rfl
theorem ly_178 : am_lay 178 = .inl (.long, 8) := rfl
theorem ly_179 : am_lay 179 = .inl (.long, 8) := rfl
theorem ly_180 : am_lay 180 = .inl (.long, 64) := rfl
theorem ly_181 : am_lay 181 = .inl (.long, 8) := rfl
theorem ly_184 : am_lay 184 = .inr 7 := rfl
theorem ly_185 : am_lay 185 = .inl (.long, 7) := rfl
theorem ly_190 : am_lay 190 = .inr 12 := rfl
theorem ly_191 : am_lay 191 = .inl (.long, 1200) := rfl
theorem ly_192 : am_lay 192 = .inl (.long, 2400) := rfl
theorem ly_193 : am_lay 193 = .inl (.boolean, 2) := rfl
theorem ly_194 : am_lay 194 = .inl (.long, 12) := rfl
theorem ly_195 : am_lay 195 = .inl (.long, 8) := rfl
theorem ly_196 : am_lay 196 = .inl (.long, 8) := rfl
theorem ly_197 : am_lay 197 = .inl (.long, 8) := rfl
theorem ly_198 : am_lay 198 = .inl (.long, 8) := rfl
theorem ly_199 : am_lay 199 = .inl (.long, 64) := rfl
theorem ly_200 : am_lay 200 = .inl (.int, 128) := rfl
theorem ly_201 : am_lay 201 = .inl (.long, 7) := rfl
theorem ly_202 : am_lay 202 = .inl (.int, 300) := rfl
def am_ty : Nat → Nat → FieldType := fun ci => match ci with
  | 0 => tyX0
  | 1 => tyX1
  | 2 => tyX2
  | 3 => tyX3
  | 4 => tyX4
  | 5 => tyX5
  | 6 => tyX6
  | 7 => tyX7
  | 8 => tyX8
  | 9 => tyX9
  | 10 => tyX10
  | 11 => tyX11
  | _ => tyX12
def am_N : Nat → Nat := fun ci => match ci with
  | 0 => 13
  | 1 => 9
  | 2 => 2
  | 3 => 3
  | 4 => 20
  | 5 => 6
  | 6 => 13
  | 7 => 5
  | 8 => 7
  | 9 => 4
  | 10 => 5
  | 11 => 8
  | _ => 23
def am_cls (ci : Nat) (C : String) (T : u_T) (N : Nat) : Prop := vwCl[ci]? = some (C, T, N) ∧ am_N ci = N ∧ (∀ k, k < N → parseFieldDescriptor (T k).2.2.1 = some (am_ty ci k)) ∧ (∀ a, a < N → ∀ b, b < N → a ≠ b → (T a).2.1 ≠ (T b).2.1) ∧ ∀ w ∈ u_ws C T N, w ∈ lw_tbl
theorem cls_0 : am_cls 0 RX0 TX0 13 := ⟨rfl, rfl, tyX0_ok, nmX0, by decide +kernel⟩
theorem cls_1 : am_cls 1 RX1 TX1 9 := ⟨rfl, rfl, tyX1_ok, nmX1, by decide +kernel⟩
theorem cls_2 : am_cls 2 RX2 TX2 2 := ⟨rfl, rfl, tyX2_ok, nmX2, by decide +kernel⟩
theorem cls_3 : am_cls 3 RX3 TX3 3 := ⟨rfl, rfl, tyX3_ok, nmX3, by decide +kernel⟩
theorem cls_4 : am_cls 4 RX4 TX4 20 := ⟨rfl, rfl, tyX4_ok, nmX4, by decide +kernel⟩
theorem cls_5 : am_cls 5 RX5 TX5 6 := ⟨rfl, rfl, tyX5_ok, nmX5, by decide +kernel⟩
theorem cls_6 : am_cls 6 RX6 TX6 13 := ⟨rfl, rfl, tyX6_ok, nmX6, by decide +kernel⟩
theorem cls_7 : am_cls 7 RX7 TX7 5 := ⟨rfl, rfl, tyX7_ok, nmX7, by decide +kernel⟩
theorem cls_8 : am_cls 8 RX8 TX8 7 := ⟨rfl, rfl, tyX8_ok, nmX8, by decide +kernel⟩
theorem cls_9 : am_cls 9 RX9 TX9 4 := ⟨rfl, rfl, tyX9_ok, nmX9, by decide +kernel⟩
theorem cls_10 : am_cls 10 RX10 TX10 5 := ⟨rfl, rfl, tyX10_ok, nmX10, by decide +kernel⟩
theorem cls_11 : am_cls 11 RX11 TX11 8 := ⟨rfl, rfl, tyX11_ok, nmX11, by decide +kernel⟩
theorem cls_12 : am_cls 12 RX12 TX12 23 := ⟨rfl, rfl, tyX12_ok, nmX12, by decide +kernel⟩
def am_ba : List Nat := [0, 1, 2, 3, 4, 5, 6, 7, 10, 11, 12, 13, 14, 15, 16, 17, 18, 19, 20, 21, 22, 23, 24, 25, 26, 27, 28, 29, 30, 31, 32, 33, 34, 35, 36, 37, 38, 39, 40, 41, 42, 43, 44, 45, 46, 47, 48, 49, 50, 51, 52, 53, 160, 161, 162, 164, 165, 166, 167, 168, 169, 170, 171, 174, 175, 176, 177, 178, 179, 180, 181, 184, 185, 190, 191, 192, 193, 194, 195, 196, 197, 198, 199, 200, 201, 202]
def am_sr : List (Nat × Nat × Nat) := [(0, 0, 10), (0, 1, 1), (0, 2, 2), (0, 3, 7), (0, 4, 160), (0, 5, 164), (0, 6, 174), (0, 7, 184), (2, 0, 3), (2, 1, 4), (2, 2, 5), (2, 3, 6), (10, 0, 11), (10, 1, 12), (10, 2, 13), (10, 3, 14), (10, 4, 15), (11, 0, 16), (11, 1, 17), (11, 2, 18), (11, 4, 19), (11, 5, 20), (11, 6, 21), (11, 14, 22), (11, 15, 23), (11, 16, 24), (11, 17, 25), (11, 18, 26), (11, 19, 27), (12, 0, 28), (12, 1, 29), (12, 2, 30), (12, 3, 31), (12, 4, 32), (12, 5, 33), (12, 6, 34), (12, 8, 35), (12, 9, 36), (12, 11, 37), (12, 12, 38), (13, 0, 39), (13, 1, 40), (13, 2, 41), (13, 3, 42), (13, 4, 43), (13, 8, 44), (13, 9, 45), (13, 10, 46), (13, 12, 47), (14, 0, 48), (14, 1, 49), (15, 0, 50), (15, 1, 51), (15, 2, 52), (15, 4, 53), (160, 0, 161), (160, 1, 162), (164, 1, 165), (164, 2, 166), (164, 3, 167), (164, 4, 168), (164, 5, 169), (164, 6, 170), (164, 7, 171), (174, 1, 175), (174, 2, 176), (174, 3, 177), (174, 4, 178), (174, 5, 179), (174, 6, 180), (174, 7, 181), (184, 0, 185), (184, 1, 15), (190, 0, 191), (190, 1, 192), (190, 2, 193), (190, 5, 194), (190, 6, 195), (190, 7, 196), (190, 8, 197), (190, 9, 198), (190, 13, 199), (190, 15, 200), (190, 17, 201), (190, 19, 202)]
def am_st (al : List Nat) (R : Nat → Nat → Option Nat) : Prop := (∀ k ∈ am_ba, k ∈ al) ∧ ∀ q ∈ am_sr, R q.1 q.2.1 = some q.2.2
theorem ba_0 {al : List Nat} {R : Nat → Nat → Option Nat} (h : am_st al R) : 0 ∈ al := h.1 0 (List.mem_of_getElem? (i := 0) rfl)
theorem ba_1 {al : List Nat} {R : Nat → Nat → Option Nat} (h : am_st al R) : 1 ∈ al := h.1 1 (List.mem_of_getElem? (i := 1) rfl)
theorem ba_2 {al : List Nat} {R : Nat → Nat → Option Nat} (h : am_st al R) : 2 ∈ al := h.1 2 (List.mem_of_getElem? (i := 2) rfl)
theorem ba_3 {al : List Nat} {R : Nat → Nat → Option Nat} (h : am_st al R) : 3 ∈ al := h.1 3 (List.mem_of_getElem? (i := 3) rfl)
theorem ba_4 {al : List Nat} {R : Nat → Nat → Option Nat} (h : am_st al R) : 4 ∈ al := h.1 4 (List.mem_of_getElem? (i := 4) rfl)
theorem ba_5 {al : List Nat} {R : Nat → Nat → Option Nat} (h : am_st al R) : 5 ∈ al := h.1 5 (List.mem_of_getElem? (i := 5) rfl)
theorem ba_6 {al : List Nat} {R : Nat → Nat → Option Nat} (h : am_st al R) : 6 ∈ al := h.1 6 (List.mem_of_getElem? (i := 6) rfl)
theorem ba_7 {al : List Nat} {R : Nat → Nat → Option Nat} (h : am_st al R) : 7 ∈ al := h.1 7 (List.mem_of_getElem? (i := 7) rfl)
theorem ba_10 {al : List Nat} {R : Nat → Nat → Option Nat} (h : am_st al R) : 10 ∈ al := h.1 10 (List.mem_of_getElem? (i := 8) rfl)
theorem ba_11 {al : List Nat} {R : Nat → Nat → Option Nat} (h : am_st al R) : 11 ∈ al := h.1 11 (List.mem_of_getElem? (i := 9) rfl)
theorem ba_12 {al : List Nat} {R : Nat → Nat → Option Nat} (h : am_st al R) : 12 ∈ al := h.1 12 (List.mem_of_getElem? (i := 10) rfl)
theorem ba_13 {al : List Nat} {R : Nat → Nat → Option Nat} (h : am_st al R) : 13 ∈ al := h.1 13 (List.mem_of_getElem? (i := 11) rfl)
theorem ba_14 {al : List Nat} {R : Nat → Nat → Option Nat} (h : am_st al R) : 14 ∈ al := h.1 14 (List.mem_of_getElem? (i := 12) rfl)
theorem ba_15 {al : List Nat} {R : Nat → Nat → Option Nat} (h : am_st al R) : 15 ∈ al := h.1 15 (List.mem_of_getElem? (i := 13) rfl)
theorem ba_16 {al : List Nat} {R : Nat → Nat → Option Nat} (h : am_st al R) : 16 ∈ al := h.1 16 (List.mem_of_getElem? (i := 14) rfl)
theorem ba_17 {al : List Nat} {R : Nat → Nat → Option Nat} (h : am_st al R) : 17 ∈ al := h.1 17 (List.mem_of_getElem? (i := 15) rfl)
theorem ba_18 {al : List Nat} {R : Nat → Nat → Option Nat} (h : am_st al R) : 18 ∈ al := h.1 18 (List.mem_of_getElem? (i := 16) rfl)
theorem ba_19 {al : List Nat} {R : Nat → Nat → Option Nat} (h : am_st al R) : 19 ∈ al := h.1 19 (List.mem_of_getElem? (i := 17) rfl)
theorem ba_20 {al : List Nat} {R : Nat → Nat → Option Nat} (h : am_st al R) : 20 ∈ al := h.1 20 (List.mem_of_getElem? (i := 18) rfl)
theorem ba_21 {al : List Nat} {R : Nat → Nat → Option Nat} (h : am_st al R) : 21 ∈ al := h.1 21 (List.mem_of_getElem? (i := 19) rfl)
theorem ba_22 {al : List Nat} {R : Nat → Nat → Option Nat} (h : am_st al R) : 22 ∈ al := h.1 22 (List.mem_of_getElem? (i := 20) rfl)
theorem ba_23 {al : List Nat} {R : Nat → Nat → Option Nat} (h : am_st al R) : 23 ∈ al := h.1 23 (List.mem_of_getElem? (i := 21) rfl)
theorem ba_24 {al : List Nat} {R : Nat → Nat → Option Nat} (h : am_st al R) : 24 ∈ al := h.1 24 (List.mem_of_getElem? (i := 22) rfl)
theorem ba_25 {al : List Nat} {R : Nat → Nat → Option Nat} (h : am_st al R) : 25 ∈ al := h.1 25 (List.mem_of_getElem? (i := 23) rfl)
theorem ba_26 {al : List Nat} {R : Nat → Nat → Option Nat} (h : am_st al R) : 26 ∈ al := h.1 26 (List.mem_of_getElem? (i := 24) rfl)
theorem ba_27 {al : List Nat} {R : Nat → Nat → Option Nat} (h : am_st al R) : 27 ∈ al := h.1 27 (List.mem_of_getElem? (i := 25) rfl)
theorem ba_28 {al : List Nat} {R : Nat → Nat → Option Nat} (h : am_st al R) : 28 ∈ al := h.1 28 (List.mem_of_getElem? (i := 26) rfl)
theorem ba_29 {al : List Nat} {R : Nat → Nat → Option Nat} (h : am_st al R) : 29 ∈ al := h.1 29 (List.mem_of_getElem? (i := 27) rfl)
theorem ba_30 {al : List Nat} {R : Nat → Nat → Option Nat} (h : am_st al R) : 30 ∈ al := h.1 30 (List.mem_of_getElem? (i := 28) rfl)
theorem ba_31 {al : List Nat} {R : Nat → Nat → Option Nat} (h : am_st al R) : 31 ∈ al := h.1 31 (List.mem_of_getElem? (i := 29) rfl)
theorem ba_32 {al : List Nat} {R : Nat → Nat → Option Nat} (h : am_st al R) : 32 ∈ al := h.1 32 (List.mem_of_getElem? (i := 30) rfl)
theorem ba_33 {al : List Nat} {R : Nat → Nat → Option Nat} (h : am_st al R) : 33 ∈ al := h.1 33 (List.mem_of_getElem? (i := 31) rfl)
theorem ba_34 {al : List Nat} {R : Nat → Nat → Option Nat} (h : am_st al R) : 34 ∈ al := h.1 34 (List.mem_of_getElem? (i := 32) rfl)
theorem ba_35 {al : List Nat} {R : Nat → Nat → Option Nat} (h : am_st al R) : 35 ∈ al := h.1 35 (List.mem_of_getElem? (i := 33) rfl)
theorem ba_36 {al : List Nat} {R : Nat → Nat → Option Nat} (h : am_st al R) : 36 ∈ al := h.1 36 (List.mem_of_getElem? (i := 34) rfl)
theorem ba_37 {al : List Nat} {R : Nat → Nat → Option Nat} (h : am_st al R) : 37 ∈ al := h.1 37 (List.mem_of_getElem? (i := 35) rfl)
theorem ba_38 {al : List Nat} {R : Nat → Nat → Option Nat} (h : am_st al R) : 38 ∈ al := h.1 38 (List.mem_of_getElem? (i := 36) rfl)
theorem ba_39 {al : List Nat} {R : Nat → Nat → Option Nat} (h : am_st al R) : 39 ∈ al := h.1 39 (List.mem_of_getElem? (i := 37) rfl)
theorem ba_40 {al : List Nat} {R : Nat → Nat → Option Nat} (h : am_st al R) : 40 ∈ al := h.1 40 (List.mem_of_getElem? (i := 38) rfl)
theorem ba_41 {al : List Nat} {R : Nat → Nat → Option Nat} (h : am_st al R) : 41 ∈ al := h.1 41 (List.mem_of_getElem? (i := 39) rfl)
theorem ba_42 {al : List Nat} {R : Nat → Nat → Option Nat} (h : am_st al R) : 42 ∈ al := h.1 42 (List.mem_of_getElem? (i := 40) rfl)
theorem ba_43 {al : List Nat} {R : Nat → Nat → Option Nat} (h : am_st al R) : 43 ∈ al := h.1 43 (List.mem_of_getElem? (i := 41) rfl)
theorem ba_44 {al : List Nat} {R : Nat → Nat → Option Nat} (h : am_st al R) : 44 ∈ al := h.1 44 (List.mem_of_getElem? (i := 42) rfl)
theorem ba_45 {al : List Nat} {R : Nat → Nat → Option Nat} (h : am_st al R) : 45 ∈ al := h.1 45 (List.mem_of_getElem? (i := 43) rfl)
theorem ba_46 {al : List Nat} {R : Nat → Nat → Option Nat} (h : am_st al R) : 46 ∈ al := h.1 46 (List.mem_of_getElem? (i := 44) rfl)
theorem ba_47 {al : List Nat} {R : Nat → Nat → Option Nat} (h : am_st al R) : 47 ∈ al := h.1 47 (List.mem_of_getElem? (i := 45) rfl)
theorem ba_48 {al : List Nat} {R : Nat → Nat → Option Nat} (h : am_st al R) : 48 ∈ al := h.1 48 (List.mem_of_getElem? (i := 46) rfl)
theorem ba_49 {al : List Nat} {R : Nat → Nat → Option Nat} (h : am_st al R) : 49 ∈ al := h.1 49 (List.mem_of_getElem? (i := 47) rfl)
theorem ba_50 {al : List Nat} {R : Nat → Nat → Option Nat} (h : am_st al R) : 50 ∈ al := h.1 50 (List.mem_of_getElem? (i := 48) rfl)
theorem ba_51 {al : List Nat} {R : Nat → Nat → Option Nat} (h : am_st al R) : 51 ∈ al := h.1 51 (List.mem_of_getElem? (i := 49) rfl)
theorem ba_52 {al : List Nat} {R : Nat → Nat → Option Nat} (h : am_st al R) : 52 ∈ al := h.1 52 (List.mem_of_getElem? (i := 50) rfl)
theorem ba_53 {al : List Nat} {R : Nat → Nat → Option Nat} (h : am_st al R) : 53 ∈ al := h.1 53 (List.mem_of_getElem? (i := 51) rfl)
theorem ba_160 {al : List Nat} {R : Nat → Nat → Option Nat} (h : am_st al R) : 160 ∈ al := h.1 160 (List.mem_of_getElem? (i := 52) rfl)
theorem ba_161 {al : List Nat} {R : Nat → Nat → Option Nat} (h : am_st al R) : 161 ∈ al := h.1 161 (List.mem_of_getElem? (i := 53) rfl)
theorem ba_162 {al : List Nat} {R : Nat → Nat → Option Nat} (h : am_st al R) : 162 ∈ al := h.1 162 (List.mem_of_getElem? (i := 54) rfl)
theorem ba_164 {al : List Nat} {R : Nat → Nat → Option Nat} (h : am_st al R) : 164 ∈ al := h.1 164 (List.mem_of_getElem? (i := 55) rfl)
theorem ba_165 {al : List Nat} {R : Nat → Nat → Option Nat} (h : am_st al R) : 165 ∈ al := h.1 165 (List.mem_of_getElem? (i := 56) rfl)
theorem ba_166 {al : List Nat} {R : Nat → Nat → Option Nat} (h : am_st al R) : 166 ∈ al := h.1 166 (List.mem_of_getElem? (i := 57) rfl)
theorem ba_167 {al : List Nat} {R : Nat → Nat → Option Nat} (h : am_st al R) : 167 ∈ al := h.1 167 (List.mem_of_getElem? (i := 58) rfl)
theorem ba_168 {al : List Nat} {R : Nat → Nat → Option Nat} (h : am_st al R) : 168 ∈ al := h.1 168 (List.mem_of_getElem? (i := 59) rfl)
theorem ba_169 {al : List Nat} {R : Nat → Nat → Option Nat} (h : am_st al R) : 169 ∈ al := h.1 169 (List.mem_of_getElem? (i := 60) rfl)
theorem ba_170 {al : List Nat} {R : Nat → Nat → Option Nat} (h : am_st al R) : 170 ∈ al := h.1 170 (List.mem_of_getElem? (i := 61) rfl)
theorem ba_171 {al : List Nat} {R : Nat → Nat → Option Nat} (h : am_st al R) : 171 ∈ al := h.1 171 (List.mem_of_getElem? (i := 62) rfl)
theorem ba_174 {al : List Nat} {R : Nat → Nat → Option Nat} (h : am_st al R) : 174 ∈ al := h.1 174 (List.mem_of_getElem? (i := 63) rfl)
theorem ba_175 {al : List Nat} {R : Nat → Nat → Option Nat} (h : am_st al R) : 175 ∈ al := h.1 175 (List.mem_of_getElem? (i := 64) rfl)
theorem ba_176 {al : List Nat} {R : Nat → Nat → Option Nat} (h : am_st al R) : 176 ∈ al := h.1 176 (List.mem_of_getElem? (i := 65) rfl)
theorem ba_177 {al : List Nat} {R : Nat → Nat → Option Nat} (h : am_st al R) : 177 ∈ al := h.1 177 (List.mem_of_getElem? (i := 66) rfl)
theorem ba_178 {al : List Nat} {R : Nat → Nat → Option Nat} (h : am_st al R) : 178 ∈ al := h.1 178 (List.mem_of_getElem? (i := 67) rfl)
theorem ba_179 {al : List Nat} {R : Nat → Nat → Option Nat} (h : am_st al R) : 179 ∈ al := h.1 179 (List.mem_of_getElem? (i := 68) rfl)
theorem ba_180 {al : List Nat} {R : Nat → Nat → Option Nat} (h : am_st al R) : 180 ∈ al := h.1 180 (List.mem_of_getElem? (i := 69) rfl)
theorem ba_181 {al : List Nat} {R : Nat → Nat → Option Nat} (h : am_st al R) : 181 ∈ al := h.1 181 (List.mem_of_getElem? (i := 70) rfl)
theorem ba_184 {al : List Nat} {R : Nat → Nat → Option Nat} (h : am_st al R) : 184 ∈ al := h.1 184 (List.mem_of_getElem? (i := 71) rfl)
theorem ba_185 {al : List Nat} {R : Nat → Nat → Option Nat} (h : am_st al R) : 185 ∈ al := h.1 185 (List.mem_of_getElem? (i := 72) rfl)
theorem ba_190 {al : List Nat} {R : Nat → Nat → Option Nat} (h : am_st al R) : 190 ∈ al := h.1 190 (List.mem_of_getElem? (i := 73) rfl)
theorem ba_191 {al : List Nat} {R : Nat → Nat → Option Nat} (h : am_st al R) : 191 ∈ al := h.1 191 (List.mem_of_getElem? (i := 74) rfl)
theorem ba_192 {al : List Nat} {R : Nat → Nat → Option Nat} (h : am_st al R) : 192 ∈ al := h.1 192 (List.mem_of_getElem? (i := 75) rfl)
theorem ba_193 {al : List Nat} {R : Nat → Nat → Option Nat} (h : am_st al R) : 193 ∈ al := h.1 193 (List.mem_of_getElem? (i := 76) rfl)
theorem ba_194 {al : List Nat} {R : Nat → Nat → Option Nat} (h : am_st al R) : 194 ∈ al := h.1 194 (List.mem_of_getElem? (i := 77) rfl)
theorem ba_195 {al : List Nat} {R : Nat → Nat → Option Nat} (h : am_st al R) : 195 ∈ al := h.1 195 (List.mem_of_getElem? (i := 78) rfl)
theorem ba_196 {al : List Nat} {R : Nat → Nat → Option Nat} (h : am_st al R) : 196 ∈ al := h.1 196 (List.mem_of_getElem? (i := 79) rfl)
theorem ba_197 {al : List Nat} {R : Nat → Nat → Option Nat} (h : am_st al R) : 197 ∈ al := h.1 197 (List.mem_of_getElem? (i := 80) rfl)
theorem ba_198 {al : List Nat} {R : Nat → Nat → Option Nat} (h : am_st al R) : 198 ∈ al := h.1 198 (List.mem_of_getElem? (i := 81) rfl)
theorem ba_199 {al : List Nat} {R : Nat → Nat → Option Nat} (h : am_st al R) : 199 ∈ al := h.1 199 (List.mem_of_getElem? (i := 82) rfl)
theorem ba_200 {al : List Nat} {R : Nat → Nat → Option Nat} (h : am_st al R) : 200 ∈ al := h.1 200 (List.mem_of_getElem? (i := 83) rfl)
theorem ba_201 {al : List Nat} {R : Nat → Nat → Option Nat} (h : am_st al R) : 201 ∈ al := h.1 201 (List.mem_of_getElem? (i := 84) rfl)
theorem ba_202 {al : List Nat} {R : Nat → Nat → Option Nat} (h : am_st al R) : 202 ∈ al := h.1 202 (List.mem_of_getElem? (i := 85) rfl)
theorem sr_0_0 {al : List Nat} {R : Nat → Nat → Option Nat} (h : am_st al R) : R 0 0 = some 10 := h.2 (0, 0, 10) (List.mem_of_getElem? (i := 0) rfl)
theorem sr_0_1 {al : List Nat} {R : Nat → Nat → Option Nat} (h : am_st al R) : R 0 1 = some 1 := h.2 (0, 1, 1) (List.mem_of_getElem? (i := 1) rfl)
theorem sr_0_2 {al : List Nat} {R : Nat → Nat → Option Nat} (h : am_st al R) : R 0 2 = some 2 := h.2 (0, 2, 2) (List.mem_of_getElem? (i := 2) rfl)
theorem sr_0_3 {al : List Nat} {R : Nat → Nat → Option Nat} (h : am_st al R) : R 0 3 = some 7 := h.2 (0, 3, 7) (List.mem_of_getElem? (i := 3) rfl)
theorem sr_0_4 {al : List Nat} {R : Nat → Nat → Option Nat} (h : am_st al R) : R 0 4 = some 160 := h.2 (0, 4, 160) (List.mem_of_getElem? (i := 4) rfl)
theorem sr_0_5 {al : List Nat} {R : Nat → Nat → Option Nat} (h : am_st al R) : R 0 5 = some 164 := h.2 (0, 5, 164) (List.mem_of_getElem? (i := 5) rfl)
theorem sr_0_6 {al : List Nat} {R : Nat → Nat → Option Nat} (h : am_st al R) : R 0 6 = some 174 := h.2 (0, 6, 174) (List.mem_of_getElem? (i := 6) rfl)
theorem sr_0_7 {al : List Nat} {R : Nat → Nat → Option Nat} (h : am_st al R) : R 0 7 = some 184 := h.2 (0, 7, 184) (List.mem_of_getElem? (i := 7) rfl)
theorem sr_2_0 {al : List Nat} {R : Nat → Nat → Option Nat} (h : am_st al R) : R 2 0 = some 3 := h.2 (2, 0, 3) (List.mem_of_getElem? (i := 8) rfl)
theorem sr_2_1 {al : List Nat} {R : Nat → Nat → Option Nat} (h : am_st al R) : R 2 1 = some 4 := h.2 (2, 1, 4) (List.mem_of_getElem? (i := 9) rfl)
theorem sr_2_2 {al : List Nat} {R : Nat → Nat → Option Nat} (h : am_st al R) : R 2 2 = some 5 := h.2 (2, 2, 5) (List.mem_of_getElem? (i := 10) rfl)
theorem sr_2_3 {al : List Nat} {R : Nat → Nat → Option Nat} (h : am_st al R) : R 2 3 = some 6 := h.2 (2, 3, 6) (List.mem_of_getElem? (i := 11) rfl)
theorem sr_10_0 {al : List Nat} {R : Nat → Nat → Option Nat} (h : am_st al R) : R 10 0 = some 11 := h.2 (10, 0, 11) (List.mem_of_getElem? (i := 12) rfl)
theorem sr_10_1 {al : List Nat} {R : Nat → Nat → Option Nat} (h : am_st al R) : R 10 1 = some 12 := h.2 (10, 1, 12) (List.mem_of_getElem? (i := 13) rfl)
theorem sr_10_2 {al : List Nat} {R : Nat → Nat → Option Nat} (h : am_st al R) : R 10 2 = some 13 := h.2 (10, 2, 13) (List.mem_of_getElem? (i := 14) rfl)
theorem sr_10_3 {al : List Nat} {R : Nat → Nat → Option Nat} (h : am_st al R) : R 10 3 = some 14 := h.2 (10, 3, 14) (List.mem_of_getElem? (i := 15) rfl)
theorem sr_10_4 {al : List Nat} {R : Nat → Nat → Option Nat} (h : am_st al R) : R 10 4 = some 15 := h.2 (10, 4, 15) (List.mem_of_getElem? (i := 16) rfl)
theorem sr_11_0 {al : List Nat} {R : Nat → Nat → Option Nat} (h : am_st al R) : R 11 0 = some 16 := h.2 (11, 0, 16) (List.mem_of_getElem? (i := 17) rfl)
theorem sr_11_1 {al : List Nat} {R : Nat → Nat → Option Nat} (h : am_st al R) : R 11 1 = some 17 := h.2 (11, 1, 17) (List.mem_of_getElem? (i := 18) rfl)
theorem sr_11_2 {al : List Nat} {R : Nat → Nat → Option Nat} (h : am_st al R) : R 11 2 = some 18 := h.2 (11, 2, 18) (List.mem_of_getElem? (i := 19) rfl)
theorem sr_11_4 {al : List Nat} {R : Nat → Nat → Option Nat} (h : am_st al R) : R 11 4 = some 19 := h.2 (11, 4, 19) (List.mem_of_getElem? (i := 20) rfl)
theorem sr_11_5 {al : List Nat} {R : Nat → Nat → Option Nat} (h : am_st al R) : R 11 5 = some 20 := h.2 (11, 5, 20) (List.mem_of_getElem? (i := 21) rfl)
theorem sr_11_6 {al : List Nat} {R : Nat → Nat → Option Nat} (h : am_st al R) : R 11 6 = some 21 := h.2 (11, 6, 21) (List.mem_of_getElem? (i := 22) rfl)
theorem sr_11_14 {al : List Nat} {R : Nat → Nat → Option Nat} (h : am_st al R) : R 11 14 = some 22 := h.2 (11, 14, 22) (List.mem_of_getElem? (i := 23) rfl)
theorem sr_11_15 {al : List Nat} {R : Nat → Nat → Option Nat} (h : am_st al R) : R 11 15 = some 23 := h.2 (11, 15, 23) (List.mem_of_getElem? (i := 24) rfl)
theorem sr_11_16 {al : List Nat} {R : Nat → Nat → Option Nat} (h : am_st al R) : R 11 16 = some 24 := h.2 (11, 16, 24) (List.mem_of_getElem? (i := 25) rfl)
theorem sr_11_17 {al : List Nat} {R : Nat → Nat → Option Nat} (h : am_st al R) : R 11 17 = some 25 := h.2 (11, 17, 25) (List.mem_of_getElem? (i := 26) rfl)
theorem sr_11_18 {al : List Nat} {R : Nat → Nat → Option Nat} (h : am_st al R) : R 11 18 = some 26 := h.2 (11, 18, 26) (List.mem_of_getElem? (i := 27) rfl)
theorem sr_11_19 {al : List Nat} {R : Nat → Nat → Option Nat} (h : am_st al R) : R 11 19 = some 27 := h.2 (11, 19, 27) (List.mem_of_getElem? (i := 28) rfl)
theorem sr_12_0 {al : List Nat} {R : Nat → Nat → Option Nat} (h : am_st al R) : R 12 0 = some 28 := h.2 (12, 0, 28) (List.mem_of_getElem? (i := 29) rfl)
theorem sr_12_1 {al : List Nat} {R : Nat → Nat → Option Nat} (h : am_st al R) : R 12 1 = some 29 := h.2 (12, 1, 29) (List.mem_of_getElem? (i := 30) rfl)
theorem sr_12_2 {al : List Nat} {R : Nat → Nat → Option Nat} (h : am_st al R) : R 12 2 = some 30 := h.2 (12, 2, 30) (List.mem_of_getElem? (i := 31) rfl)
theorem sr_12_3 {al : List Nat} {R : Nat → Nat → Option Nat} (h : am_st al R) : R 12 3 = some 31 := h.2 (12, 3, 31) (List.mem_of_getElem? (i := 32) rfl)
theorem sr_12_4 {al : List Nat} {R : Nat → Nat → Option Nat} (h : am_st al R) : R 12 4 = some 32 := h.2 (12, 4, 32) (List.mem_of_getElem? (i := 33) rfl)
theorem sr_12_5 {al : List Nat} {R : Nat → Nat → Option Nat} (h : am_st al R) : R 12 5 = some 33 := h.2 (12, 5, 33) (List.mem_of_getElem? (i := 34) rfl)
theorem sr_12_6 {al : List Nat} {R : Nat → Nat → Option Nat} (h : am_st al R) : R 12 6 = some 34 := h.2 (12, 6, 34) (List.mem_of_getElem? (i := 35) rfl)
theorem sr_12_8 {al : List Nat} {R : Nat → Nat → Option Nat} (h : am_st al R) : R 12 8 = some 35 := h.2 (12, 8, 35) (List.mem_of_getElem? (i := 36) rfl)
theorem sr_12_9 {al : List Nat} {R : Nat → Nat → Option Nat} (h : am_st al R) : R 12 9 = some 36 := h.2 (12, 9, 36) (List.mem_of_getElem? (i := 37) rfl)
theorem sr_12_11 {al : List Nat} {R : Nat → Nat → Option Nat} (h : am_st al R) : R 12 11 = some 37 := h.2 (12, 11, 37) (List.mem_of_getElem? (i := 38) rfl)
theorem sr_12_12 {al : List Nat} {R : Nat → Nat → Option Nat} (h : am_st al R) : R 12 12 = some 38 := h.2 (12, 12, 38) (List.mem_of_getElem? (i := 39) rfl)
theorem sr_13_0 {al : List Nat} {R : Nat → Nat → Option Nat} (h : am_st al R) : R 13 0 = some 39 := h.2 (13, 0, 39) (List.mem_of_getElem? (i := 40) rfl)
theorem sr_13_1 {al : List Nat} {R : Nat → Nat → Option Nat} (h : am_st al R) : R 13 1 = some 40 := h.2 (13, 1, 40) (List.mem_of_getElem? (i := 41) rfl)
theorem sr_13_2 {al : List Nat} {R : Nat → Nat → Option Nat} (h : am_st al R) : R 13 2 = some 41 := h.2 (13, 2, 41) (List.mem_of_getElem? (i := 42) rfl)
theorem sr_13_3 {al : List Nat} {R : Nat → Nat → Option Nat} (h : am_st al R) : R 13 3 = some 42 := h.2 (13, 3, 42) (List.mem_of_getElem? (i := 43) rfl)
theorem sr_13_4 {al : List Nat} {R : Nat → Nat → Option Nat} (h : am_st al R) : R 13 4 = some 43 := h.2 (13, 4, 43) (List.mem_of_getElem? (i := 44) rfl)
theorem sr_13_8 {al : List Nat} {R : Nat → Nat → Option Nat} (h : am_st al R) : R 13 8 = some 44 := h.2 (13, 8, 44) (List.mem_of_getElem? (i := 45) rfl)
theorem sr_13_9 {al : List Nat} {R : Nat → Nat → Option Nat} (h : am_st al R) : R 13 9 = some 45 := h.2 (13, 9, 45) (List.mem_of_getElem? (i := 46) rfl)
theorem sr_13_10 {al : List Nat} {R : Nat → Nat → Option Nat} (h : am_st al R) : R 13 10 = some 46 := h.2 (13, 10, 46) (List.mem_of_getElem? (i := 47) rfl)
theorem sr_13_12 {al : List Nat} {R : Nat → Nat → Option Nat} (h : am_st al R) : R 13 12 = some 47 := h.2 (13, 12, 47) (List.mem_of_getElem? (i := 48) rfl)
theorem sr_14_0 {al : List Nat} {R : Nat → Nat → Option Nat} (h : am_st al R) : R 14 0 = some 48 := h.2 (14, 0, 48) (List.mem_of_getElem? (i := 49) rfl)
theorem sr_14_1 {al : List Nat} {R : Nat → Nat → Option Nat} (h : am_st al R) : R 14 1 = some 49 := h.2 (14, 1, 49) (List.mem_of_getElem? (i := 50) rfl)
theorem sr_15_0 {al : List Nat} {R : Nat → Nat → Option Nat} (h : am_st al R) : R 15 0 = some 50 := h.2 (15, 0, 50) (List.mem_of_getElem? (i := 51) rfl)
theorem sr_15_1 {al : List Nat} {R : Nat → Nat → Option Nat} (h : am_st al R) : R 15 1 = some 51 := h.2 (15, 1, 51) (List.mem_of_getElem? (i := 52) rfl)
theorem sr_15_2 {al : List Nat} {R : Nat → Nat → Option Nat} (h : am_st al R) : R 15 2 = some 52 := h.2 (15, 2, 52) (List.mem_of_getElem? (i := 53) rfl)
theorem sr_15_4 {al : List Nat} {R : Nat → Nat → Option Nat} (h : am_st al R) : R 15 4 = some 53 := h.2 (15, 4, 53) (List.mem_of_getElem? (i := 54) rfl)
theorem sr_160_0 {al : List Nat} {R : Nat → Nat → Option Nat} (h : am_st al R) : R 160 0 = some 161 := h.2 (160, 0, 161) (List.mem_of_getElem? (i := 55) rfl)
theorem sr_160_1 {al : List Nat} {R : Nat → Nat → Option Nat} (h : am_st al R) : R 160 1 = some 162 := h.2 (160, 1, 162) (List.mem_of_getElem? (i := 56) rfl)
theorem sr_164_1 {al : List Nat} {R : Nat → Nat → Option Nat} (h : am_st al R) : R 164 1 = some 165 := h.2 (164, 1, 165) (List.mem_of_getElem? (i := 57) rfl)
theorem sr_164_2 {al : List Nat} {R : Nat → Nat → Option Nat} (h : am_st al R) : R 164 2 = some 166 := h.2 (164, 2, 166) (List.mem_of_getElem? (i := 58) rfl)
theorem sr_164_3 {al : List Nat} {R : Nat → Nat → Option Nat} (h : am_st al R) : R 164 3 = some 167 := h.2 (164, 3, 167) (List.mem_of_getElem? (i := 59) rfl)
theorem sr_164_4 {al : List Nat} {R : Nat → Nat → Option Nat} (h : am_st al R) : R 164 4 = some 168 := h.2 (164, 4, 168) (List.mem_of_getElem? (i := 60) rfl)
theorem sr_164_5 {al : List Nat} {R : Nat → Nat → Option Nat} (h : am_st al R) : R 164 5 = some 169 := h.2 (164, 5, 169) (List.mem_of_getElem? (i := 61) rfl)
theorem sr_164_6 {al : List Nat} {R : Nat → Nat → Option Nat} (h : am_st al R) : R 164 6 = some 170 := h.2 (164, 6, 170) (List.mem_of_getElem? (i := 62) rfl)
theorem sr_164_7 {al : List Nat} {R : Nat → Nat → Option Nat} (h : am_st al R) : R 164 7 = some 171 := h.2 (164, 7, 171) (List.mem_of_getElem? (i := 63) rfl)
theorem sr_174_1 {al : List Nat} {R : Nat → Nat → Option Nat} (h : am_st al R) : R 174 1 = some 175 := h.2 (174, 1, 175) (List.mem_of_getElem? (i := 64) rfl)
theorem sr_174_2 {al : List Nat} {R : Nat → Nat → Option Nat} (h : am_st al R) : R 174 2 = some 176 := h.2 (174, 2, 176) (List.mem_of_getElem? (i := 65) rfl)
theorem sr_174_3 {al : List Nat} {R : Nat → Nat → Option Nat} (h : am_st al R) : R 174 3 = some 177 := h.2 (174, 3, 177) (List.mem_of_getElem? (i := 66) rfl)
theorem sr_174_4 {al : List Nat} {R : Nat → Nat → Option Nat} (h : am_st al R) : R 174 4 = some 178 := h.2 (174, 4, 178) (List.mem_of_getElem? (i := 67) rfl)
theorem sr_174_5 {al : List Nat} {R : Nat → Nat → Option Nat} (h : am_st al R) : R 174 5 = some 179 := h.2 (174, 5, 179) (List.mem_of_getElem? (i := 68) rfl)
theorem sr_174_6 {al : List Nat} {R : Nat → Nat → Option Nat} (h : am_st al R) : R 174 6 = some 180 := h.2 (174, 6, 180) (List.mem_of_getElem? (i := 69) rfl)
theorem sr_174_7 {al : List Nat} {R : Nat → Nat → Option Nat} (h : am_st al R) : R 174 7 = some 181 := h.2 (174, 7, 181) (List.mem_of_getElem? (i := 70) rfl)
theorem sr_184_0 {al : List Nat} {R : Nat → Nat → Option Nat} (h : am_st al R) : R 184 0 = some 185 := h.2 (184, 0, 185) (List.mem_of_getElem? (i := 71) rfl)
theorem sr_184_1 {al : List Nat} {R : Nat → Nat → Option Nat} (h : am_st al R) : R 184 1 = some 15 := h.2 (184, 1, 15) (List.mem_of_getElem? (i := 72) rfl)
theorem sr_190_0 {al : List Nat} {R : Nat → Nat → Option Nat} (h : am_st al R) : R 190 0 = some 191 := h.2 (190, 0, 191) (List.mem_of_getElem? (i := 73) rfl)
theorem sr_190_1 {al : List Nat} {R : Nat → Nat → Option Nat} (h : am_st al R) : R 190 1 = some 192 := h.2 (190, 1, 192) (List.mem_of_getElem? (i := 74) rfl)
theorem sr_190_2 {al : List Nat} {R : Nat → Nat → Option Nat} (h : am_st al R) : R 190 2 = some 193 := h.2 (190, 2, 193) (List.mem_of_getElem? (i := 75) rfl)
theorem sr_190_5 {al : List Nat} {R : Nat → Nat → Option Nat} (h : am_st al R) : R 190 5 = some 194 := h.2 (190, 5, 194) (List.mem_of_getElem? (i := 76) rfl)
theorem sr_190_6 {al : List Nat} {R : Nat → Nat → Option Nat} (h : am_st al R) : R 190 6 = some 195 := h.2 (190, 6, 195) (List.mem_of_getElem? (i := 77) rfl)
theorem sr_190_7 {al : List Nat} {R : Nat → Nat → Option Nat} (h : am_st al R) : R 190 7 = some 196 := h.2 (190, 7, 196) (List.mem_of_getElem? (i := 78) rfl)
theorem sr_190_8 {al : List Nat} {R : Nat → Nat → Option Nat} (h : am_st al R) : R 190 8 = some 197 := h.2 (190, 8, 197) (List.mem_of_getElem? (i := 79) rfl)
theorem sr_190_9 {al : List Nat} {R : Nat → Nat → Option Nat} (h : am_st al R) : R 190 9 = some 198 := h.2 (190, 9, 198) (List.mem_of_getElem? (i := 80) rfl)
theorem sr_190_13 {al : List Nat} {R : Nat → Nat → Option Nat} (h : am_st al R) : R 190 13 = some 199 := h.2 (190, 13, 199) (List.mem_of_getElem? (i := 81) rfl)
theorem sr_190_15 {al : List Nat} {R : Nat → Nat → Option Nat} (h : am_st al R) : R 190 15 = some 200 := h.2 (190, 15, 200) (List.mem_of_getElem? (i := 82) rfl)
theorem sr_190_17 {al : List Nat} {R : Nat → Nat → Option Nat} (h : am_st al R) : R 190 17 = some 201 := h.2 (190, 17, 201) (List.mem_of_getElem? (i := 83) rfl)
theorem sr_190_19 {al : List Nat} {R : Nat → Nat → Option Nat} (h : am_st al R) : R 190 19 = some 202 := h.2 (190, 19, 202) (List.mem_of_getElem? (i := 84) rfl)
def am_ba1 : List Nat := [60, 61, 62, 63, 64, 65, 66, 67, 68, 69, 70, 71, 72, 73, 74, 75, 76, 77, 78, 79, 80, 81, 82, 83, 84, 85, 86, 87, 88, 89, 90, 91, 92, 93, 94, 95, 96, 97, 98, 99, 100, 101, 102, 103]
def am_sr1 : List (Nat × Nat × Nat) := [(60, 0, 61), (60, 1, 62), (60, 2, 63), (60, 3, 64), (60, 4, 65), (61, 0, 66), (61, 1, 67), (61, 2, 68), (61, 4, 69), (61, 5, 70), (61, 6, 71), (61, 14, 72), (61, 15, 73), (61, 16, 74), (61, 17, 75), (61, 18, 76), (61, 19, 77), (62, 0, 78), (62, 1, 79), (62, 2, 80), (62, 3, 81), (62, 4, 82), (62, 5, 83), (62, 6, 84), (62, 8, 85), (62, 9, 86), (62, 11, 87), (62, 12, 88), (63, 0, 89), (63, 1, 90), (63, 2, 91), (63, 3, 92), (63, 4, 93), (63, 8, 94), (63, 9, 95), (63, 10, 96), (63, 12, 97), (64, 0, 98), (64, 1, 99), (65, 0, 100), (65, 1, 101), (65, 2, 102), (65, 4, 103)]
def am_st1 (al : List Nat) (R : Nat → Nat → Option Nat) : Prop := (∀ k ∈ am_ba1, k ∈ al) ∧ ∀ q ∈ am_sr1, R q.1 q.2.1 = some q.2.2
theorem ba_60 {al : List Nat} {R : Nat → Nat → Option Nat} (h : am_st1 al R) : 60 ∈ al := h.1 60 (List.mem_of_getElem? (i := 0) rfl)
theorem ba_61 {al : List Nat} {R : Nat → Nat → Option Nat} (h : am_st1 al R) : 61 ∈ al := h.1 61 (List.mem_of_getElem? (i := 1) rfl)
theorem ba_62 {al : List Nat} {R : Nat → Nat → Option Nat} (h : am_st1 al R) : 62 ∈ al := h.1 62 (List.mem_of_getElem? (i := 2) rfl)
theorem ba_63 {al : List Nat} {R : Nat → Nat → Option Nat} (h : am_st1 al R) : 63 ∈ al := h.1 63 (List.mem_of_getElem? (i := 3) rfl)
theorem ba_64 {al : List Nat} {R : Nat → Nat → Option Nat} (h : am_st1 al R) : 64 ∈ al := h.1 64 (List.mem_of_getElem? (i := 4) rfl)
theorem ba_65 {al : List Nat} {R : Nat → Nat → Option Nat} (h : am_st1 al R) : 65 ∈ al := h.1 65 (List.mem_of_getElem? (i := 5) rfl)
theorem ba_66 {al : List Nat} {R : Nat → Nat → Option Nat} (h : am_st1 al R) : 66 ∈ al := h.1 66 (List.mem_of_getElem? (i := 6) rfl)
theorem ba_67 {al : List Nat} {R : Nat → Nat → Option Nat} (h : am_st1 al R) : 67 ∈ al := h.1 67 (List.mem_of_getElem? (i := 7) rfl)
theorem ba_68 {al : List Nat} {R : Nat → Nat → Option Nat} (h : am_st1 al R) : 68 ∈ al := h.1 68 (List.mem_of_getElem? (i := 8) rfl)
theorem ba_69 {al : List Nat} {R : Nat → Nat → Option Nat} (h : am_st1 al R) : 69 ∈ al := h.1 69 (List.mem_of_getElem? (i := 9) rfl)
theorem ba_70 {al : List Nat} {R : Nat → Nat → Option Nat} (h : am_st1 al R) : 70 ∈ al := h.1 70 (List.mem_of_getElem? (i := 10) rfl)
theorem ba_71 {al : List Nat} {R : Nat → Nat → Option Nat} (h : am_st1 al R) : 71 ∈ al := h.1 71 (List.mem_of_getElem? (i := 11) rfl)
theorem ba_72 {al : List Nat} {R : Nat → Nat → Option Nat} (h : am_st1 al R) : 72 ∈ al := h.1 72 (List.mem_of_getElem? (i := 12) rfl)
theorem ba_73 {al : List Nat} {R : Nat → Nat → Option Nat} (h : am_st1 al R) : 73 ∈ al := h.1 73 (List.mem_of_getElem? (i := 13) rfl)
theorem ba_74 {al : List Nat} {R : Nat → Nat → Option Nat} (h : am_st1 al R) : 74 ∈ al := h.1 74 (List.mem_of_getElem? (i := 14) rfl)
theorem ba_75 {al : List Nat} {R : Nat → Nat → Option Nat} (h : am_st1 al R) : 75 ∈ al := h.1 75 (List.mem_of_getElem? (i := 15) rfl)
theorem ba_76 {al : List Nat} {R : Nat → Nat → Option Nat} (h : am_st1 al R) : 76 ∈ al := h.1 76 (List.mem_of_getElem? (i := 16) rfl)
theorem ba_77 {al : List Nat} {R : Nat → Nat → Option Nat} (h : am_st1 al R) : 77 ∈ al := h.1 77 (List.mem_of_getElem? (i := 17) rfl)
theorem ba_78 {al : List Nat} {R : Nat → Nat → Option Nat} (h : am_st1 al R) : 78 ∈ al := h.1 78 (List.mem_of_getElem? (i := 18) rfl)
theorem ba_79 {al : List Nat} {R : Nat → Nat → Option Nat} (h : am_st1 al R) : 79 ∈ al := h.1 79 (List.mem_of_getElem? (i := 19) rfl)
theorem ba_80 {al : List Nat} {R : Nat → Nat → Option Nat} (h : am_st1 al R) : 80 ∈ al := h.1 80 (List.mem_of_getElem? (i := 20) rfl)
theorem ba_81 {al : List Nat} {R : Nat → Nat → Option Nat} (h : am_st1 al R) : 81 ∈ al := h.1 81 (List.mem_of_getElem? (i := 21) rfl)
theorem ba_82 {al : List Nat} {R : Nat → Nat → Option Nat} (h : am_st1 al R) : 82 ∈ al := h.1 82 (List.mem_of_getElem? (i := 22) rfl)
theorem ba_83 {al : List Nat} {R : Nat → Nat → Option Nat} (h : am_st1 al R) : 83 ∈ al := h.1 83 (List.mem_of_getElem? (i := 23) rfl)
theorem ba_84 {al : List Nat} {R : Nat → Nat → Option Nat} (h : am_st1 al R) : 84 ∈ al := h.1 84 (List.mem_of_getElem? (i := 24) rfl)
theorem ba_85 {al : List Nat} {R : Nat → Nat → Option Nat} (h : am_st1 al R) : 85 ∈ al := h.1 85 (List.mem_of_getElem? (i := 25) rfl)
theorem ba_86 {al : List Nat} {R : Nat → Nat → Option Nat} (h : am_st1 al R) : 86 ∈ al := h.1 86 (List.mem_of_getElem? (i := 26) rfl)
theorem ba_87 {al : List Nat} {R : Nat → Nat → Option Nat} (h : am_st1 al R) : 87 ∈ al := h.1 87 (List.mem_of_getElem? (i := 27) rfl)
theorem ba_88 {al : List Nat} {R : Nat → Nat → Option Nat} (h : am_st1 al R) : 88 ∈ al := h.1 88 (List.mem_of_getElem? (i := 28) rfl)
theorem ba_89 {al : List Nat} {R : Nat → Nat → Option Nat} (h : am_st1 al R) : 89 ∈ al := h.1 89 (List.mem_of_getElem? (i := 29) rfl)
theorem ba_90 {al : List Nat} {R : Nat → Nat → Option Nat} (h : am_st1 al R) : 90 ∈ al := h.1 90 (List.mem_of_getElem? (i := 30) rfl)
theorem ba_91 {al : List Nat} {R : Nat → Nat → Option Nat} (h : am_st1 al R) : 91 ∈ al := h.1 91 (List.mem_of_getElem? (i := 31) rfl)
theorem ba_92 {al : List Nat} {R : Nat → Nat → Option Nat} (h : am_st1 al R) : 92 ∈ al := h.1 92 (List.mem_of_getElem? (i := 32) rfl)
theorem ba_93 {al : List Nat} {R : Nat → Nat → Option Nat} (h : am_st1 al R) : 93 ∈ al := h.1 93 (List.mem_of_getElem? (i := 33) rfl)
theorem ba_94 {al : List Nat} {R : Nat → Nat → Option Nat} (h : am_st1 al R) : 94 ∈ al := h.1 94 (List.mem_of_getElem? (i := 34) rfl)
theorem ba_95 {al : List Nat} {R : Nat → Nat → Option Nat} (h : am_st1 al R) : 95 ∈ al := h.1 95 (List.mem_of_getElem? (i := 35) rfl)
theorem ba_96 {al : List Nat} {R : Nat → Nat → Option Nat} (h : am_st1 al R) : 96 ∈ al := h.1 96 (List.mem_of_getElem? (i := 36) rfl)
theorem ba_97 {al : List Nat} {R : Nat → Nat → Option Nat} (h : am_st1 al R) : 97 ∈ al := h.1 97 (List.mem_of_getElem? (i := 37) rfl)
theorem ba_98 {al : List Nat} {R : Nat → Nat → Option Nat} (h : am_st1 al R) : 98 ∈ al := h.1 98 (List.mem_of_getElem? (i := 38) rfl)
theorem ba_99 {al : List Nat} {R : Nat → Nat → Option Nat} (h : am_st1 al R) : 99 ∈ al := h.1 99 (List.mem_of_getElem? (i := 39) rfl)
theorem ba_100 {al : List Nat} {R : Nat → Nat → Option Nat} (h : am_st1 al R) : 100 ∈ al := h.1 100 (List.mem_of_getElem? (i := 40) rfl)
theorem ba_101 {al : List Nat} {R : Nat → Nat → Option Nat} (h : am_st1 al R) : 101 ∈ al := h.1 101 (List.mem_of_getElem? (i := 41) rfl)
theorem ba_102 {al : List Nat} {R : Nat → Nat → Option Nat} (h : am_st1 al R) : 102 ∈ al := h.1 102 (List.mem_of_getElem? (i := 42) rfl)
theorem ba_103 {al : List Nat} {R : Nat → Nat → Option Nat} (h : am_st1 al R) : 103 ∈ al := h.1 103 (List.mem_of_getElem? (i := 43) rfl)
theorem sr_60_0 {al : List Nat} {R : Nat → Nat → Option Nat} (h : am_st1 al R) : R 60 0 = some 61 := h.2 (60, 0, 61) (List.mem_of_getElem? (i := 0) rfl)
theorem sr_60_1 {al : List Nat} {R : Nat → Nat → Option Nat} (h : am_st1 al R) : R 60 1 = some 62 := h.2 (60, 1, 62) (List.mem_of_getElem? (i := 1) rfl)
theorem sr_60_2 {al : List Nat} {R : Nat → Nat → Option Nat} (h : am_st1 al R) : R 60 2 = some 63 := h.2 (60, 2, 63) (List.mem_of_getElem? (i := 2) rfl)
theorem sr_60_3 {al : List Nat} {R : Nat → Nat → Option Nat} (h : am_st1 al R) : R 60 3 = some 64 := h.2 (60, 3, 64) (List.mem_of_getElem? (i := 3) rfl)
theorem sr_60_4 {al : List Nat} {R : Nat → Nat → Option Nat} (h : am_st1 al R) : R 60 4 = some 65 := h.2 (60, 4, 65) (List.mem_of_getElem? (i := 4) rfl)
theorem sr_61_0 {al : List Nat} {R : Nat → Nat → Option Nat} (h : am_st1 al R) : R 61 0 = some 66 := h.2 (61, 0, 66) (List.mem_of_getElem? (i := 5) rfl)
theorem sr_61_1 {al : List Nat} {R : Nat → Nat → Option Nat} (h : am_st1 al R) : R 61 1 = some 67 := h.2 (61, 1, 67) (List.mem_of_getElem? (i := 6) rfl)
theorem sr_61_2 {al : List Nat} {R : Nat → Nat → Option Nat} (h : am_st1 al R) : R 61 2 = some 68 := h.2 (61, 2, 68) (List.mem_of_getElem? (i := 7) rfl)
theorem sr_61_4 {al : List Nat} {R : Nat → Nat → Option Nat} (h : am_st1 al R) : R 61 4 = some 69 := h.2 (61, 4, 69) (List.mem_of_getElem? (i := 8) rfl)
theorem sr_61_5 {al : List Nat} {R : Nat → Nat → Option Nat} (h : am_st1 al R) : R 61 5 = some 70 := h.2 (61, 5, 70) (List.mem_of_getElem? (i := 9) rfl)
theorem sr_61_6 {al : List Nat} {R : Nat → Nat → Option Nat} (h : am_st1 al R) : R 61 6 = some 71 := h.2 (61, 6, 71) (List.mem_of_getElem? (i := 10) rfl)
theorem sr_61_14 {al : List Nat} {R : Nat → Nat → Option Nat} (h : am_st1 al R) : R 61 14 = some 72 := h.2 (61, 14, 72) (List.mem_of_getElem? (i := 11) rfl)
theorem sr_61_15 {al : List Nat} {R : Nat → Nat → Option Nat} (h : am_st1 al R) : R 61 15 = some 73 := h.2 (61, 15, 73) (List.mem_of_getElem? (i := 12) rfl)
theorem sr_61_16 {al : List Nat} {R : Nat → Nat → Option Nat} (h : am_st1 al R) : R 61 16 = some 74 := h.2 (61, 16, 74) (List.mem_of_getElem? (i := 13) rfl)
theorem sr_61_17 {al : List Nat} {R : Nat → Nat → Option Nat} (h : am_st1 al R) : R 61 17 = some 75 := h.2 (61, 17, 75) (List.mem_of_getElem? (i := 14) rfl)
theorem sr_61_18 {al : List Nat} {R : Nat → Nat → Option Nat} (h : am_st1 al R) : R 61 18 = some 76 := h.2 (61, 18, 76) (List.mem_of_getElem? (i := 15) rfl)
theorem sr_61_19 {al : List Nat} {R : Nat → Nat → Option Nat} (h : am_st1 al R) : R 61 19 = some 77 := h.2 (61, 19, 77) (List.mem_of_getElem? (i := 16) rfl)
theorem sr_62_0 {al : List Nat} {R : Nat → Nat → Option Nat} (h : am_st1 al R) : R 62 0 = some 78 := h.2 (62, 0, 78) (List.mem_of_getElem? (i := 17) rfl)
theorem sr_62_1 {al : List Nat} {R : Nat → Nat → Option Nat} (h : am_st1 al R) : R 62 1 = some 79 := h.2 (62, 1, 79) (List.mem_of_getElem? (i := 18) rfl)
theorem sr_62_2 {al : List Nat} {R : Nat → Nat → Option Nat} (h : am_st1 al R) : R 62 2 = some 80 := h.2 (62, 2, 80) (List.mem_of_getElem? (i := 19) rfl)
theorem sr_62_3 {al : List Nat} {R : Nat → Nat → Option Nat} (h : am_st1 al R) : R 62 3 = some 81 := h.2 (62, 3, 81) (List.mem_of_getElem? (i := 20) rfl)
theorem sr_62_4 {al : List Nat} {R : Nat → Nat → Option Nat} (h : am_st1 al R) : R 62 4 = some 82 := h.2 (62, 4, 82) (List.mem_of_getElem? (i := 21) rfl)
theorem sr_62_5 {al : List Nat} {R : Nat → Nat → Option Nat} (h : am_st1 al R) : R 62 5 = some 83 := h.2 (62, 5, 83) (List.mem_of_getElem? (i := 22) rfl)
theorem sr_62_6 {al : List Nat} {R : Nat → Nat → Option Nat} (h : am_st1 al R) : R 62 6 = some 84 := h.2 (62, 6, 84) (List.mem_of_getElem? (i := 23) rfl)
theorem sr_62_8 {al : List Nat} {R : Nat → Nat → Option Nat} (h : am_st1 al R) : R 62 8 = some 85 := h.2 (62, 8, 85) (List.mem_of_getElem? (i := 24) rfl)
theorem sr_62_9 {al : List Nat} {R : Nat → Nat → Option Nat} (h : am_st1 al R) : R 62 9 = some 86 := h.2 (62, 9, 86) (List.mem_of_getElem? (i := 25) rfl)
theorem sr_62_11 {al : List Nat} {R : Nat → Nat → Option Nat} (h : am_st1 al R) : R 62 11 = some 87 := h.2 (62, 11, 87) (List.mem_of_getElem? (i := 26) rfl)
theorem sr_62_12 {al : List Nat} {R : Nat → Nat → Option Nat} (h : am_st1 al R) : R 62 12 = some 88 := h.2 (62, 12, 88) (List.mem_of_getElem? (i := 27) rfl)
theorem sr_63_0 {al : List Nat} {R : Nat → Nat → Option Nat} (h : am_st1 al R) : R 63 0 = some 89 := h.2 (63, 0, 89) (List.mem_of_getElem? (i := 28) rfl)
theorem sr_63_1 {al : List Nat} {R : Nat → Nat → Option Nat} (h : am_st1 al R) : R 63 1 = some 90 := h.2 (63, 1, 90) (List.mem_of_getElem? (i := 29) rfl)
theorem sr_63_2 {al : List Nat} {R : Nat → Nat → Option Nat} (h : am_st1 al R) : R 63 2 = some 91 := h.2 (63, 2, 91) (List.mem_of_getElem? (i := 30) rfl)
theorem sr_63_3 {al : List Nat} {R : Nat → Nat → Option Nat} (h : am_st1 al R) : R 63 3 = some 92 := h.2 (63, 3, 92) (List.mem_of_getElem? (i := 31) rfl)
theorem sr_63_4 {al : List Nat} {R : Nat → Nat → Option Nat} (h : am_st1 al R) : R 63 4 = some 93 := h.2 (63, 4, 93) (List.mem_of_getElem? (i := 32) rfl)
theorem sr_63_8 {al : List Nat} {R : Nat → Nat → Option Nat} (h : am_st1 al R) : R 63 8 = some 94 := h.2 (63, 8, 94) (List.mem_of_getElem? (i := 33) rfl)
theorem sr_63_9 {al : List Nat} {R : Nat → Nat → Option Nat} (h : am_st1 al R) : R 63 9 = some 95 := h.2 (63, 9, 95) (List.mem_of_getElem? (i := 34) rfl)
theorem sr_63_10 {al : List Nat} {R : Nat → Nat → Option Nat} (h : am_st1 al R) : R 63 10 = some 96 := h.2 (63, 10, 96) (List.mem_of_getElem? (i := 35) rfl)
theorem sr_63_12 {al : List Nat} {R : Nat → Nat → Option Nat} (h : am_st1 al R) : R 63 12 = some 97 := h.2 (63, 12, 97) (List.mem_of_getElem? (i := 36) rfl)
theorem sr_64_0 {al : List Nat} {R : Nat → Nat → Option Nat} (h : am_st1 al R) : R 64 0 = some 98 := h.2 (64, 0, 98) (List.mem_of_getElem? (i := 37) rfl)
theorem sr_64_1 {al : List Nat} {R : Nat → Nat → Option Nat} (h : am_st1 al R) : R 64 1 = some 99 := h.2 (64, 1, 99) (List.mem_of_getElem? (i := 38) rfl)
theorem sr_65_0 {al : List Nat} {R : Nat → Nat → Option Nat} (h : am_st1 al R) : R 65 0 = some 100 := h.2 (65, 0, 100) (List.mem_of_getElem? (i := 39) rfl)
theorem sr_65_1 {al : List Nat} {R : Nat → Nat → Option Nat} (h : am_st1 al R) : R 65 1 = some 101 := h.2 (65, 1, 101) (List.mem_of_getElem? (i := 40) rfl)
theorem sr_65_2 {al : List Nat} {R : Nat → Nat → Option Nat} (h : am_st1 al R) : R 65 2 = some 102 := h.2 (65, 2, 102) (List.mem_of_getElem? (i := 41) rfl)
theorem sr_65_4 {al : List Nat} {R : Nat → Nat → Option Nat} (h : am_st1 al R) : R 65 4 = some 103 := h.2 (65, 4, 103) (List.mem_of_getElem? (i := 42) rfl)
def am_ba2 : List Nat := [110, 111, 112, 113, 114, 115, 116, 117, 118, 119, 120, 121, 122, 123, 124, 125, 126, 127, 128, 129, 130, 131, 132, 133, 134, 135, 136, 137, 138, 139, 140, 141, 142, 143, 144, 145, 146, 147, 148, 149, 150, 151, 152, 153]
def am_sr2 : List (Nat × Nat × Nat) := [(110, 0, 111), (110, 1, 112), (110, 2, 113), (110, 3, 114), (110, 4, 115), (111, 0, 116), (111, 1, 117), (111, 2, 118), (111, 4, 119), (111, 5, 120), (111, 6, 121), (111, 14, 122), (111, 15, 123), (111, 16, 124), (111, 17, 125), (111, 18, 126), (111, 19, 127), (112, 0, 128), (112, 1, 129), (112, 2, 130), (112, 3, 131), (112, 4, 132), (112, 5, 133), (112, 6, 134), (112, 8, 135), (112, 9, 136), (112, 11, 137), (112, 12, 138), (113, 0, 139), (113, 1, 140), (113, 2, 141), (113, 3, 142), (113, 4, 143), (113, 8, 144), (113, 9, 145), (113, 10, 146), (113, 12, 147), (114, 0, 148), (114, 1, 149), (115, 0, 150), (115, 1, 151), (115, 2, 152), (115, 4, 153)]
def am_st2 (al : List Nat) (R : Nat → Nat → Option Nat) : Prop := (∀ k ∈ am_ba2, k ∈ al) ∧ ∀ q ∈ am_sr2, R q.1 q.2.1 = some q.2.2
theorem ba_110 {al : List Nat} {R : Nat → Nat → Option Nat} (h : am_st2 al R) : 110 ∈ al := h.1 110 (List.mem_of_getElem? (i := 0) rfl)
theorem ba_111 {al : List Nat} {R : Nat → Nat → Option Nat} (h : am_st2 al R) : 111 ∈ al := h.1 111 (List.mem_of_getElem? (i := 1) rfl)
theorem ba_112 {al : List Nat} {R : Nat → Nat → Option Nat} (h : am_st2 al R) : 112 ∈ al := h.1 112 (List.mem_of_getElem? (i := 2) rfl)
theorem ba_113 {al : List Nat} {R : Nat → Nat → Option Nat} (h : am_st2 al R) : 113 ∈ al := h.1 113 (List.mem_of_getElem? (i := 3) rfl)
theorem ba_114 {al : List Nat} {R : Nat → Nat → Option Nat} (h : am_st2 al R) : 114 ∈ al := h.1 114 (List.mem_of_getElem? (i := 4) rfl)
theorem ba_115 {al : List Nat} {R : Nat → Nat → Option Nat} (h : am_st2 al R) : 115 ∈ al := h.1 115 (List.mem_of_getElem? (i := 5) rfl)
theorem ba_116 {al : List Nat} {R : Nat → Nat → Option Nat} (h : am_st2 al R) : 116 ∈ al := h.1 116 (List.mem_of_getElem? (i := 6) rfl)
theorem ba_117 {al : List Nat} {R : Nat → Nat → Option Nat} (h : am_st2 al R) : 117 ∈ al := h.1 117 (List.mem_of_getElem? (i := 7) rfl)
theorem ba_118 {al : List Nat} {R : Nat → Nat → Option Nat} (h : am_st2 al R) : 118 ∈ al := h.1 118 (List.mem_of_getElem? (i := 8) rfl)
theorem ba_119 {al : List Nat} {R : Nat → Nat → Option Nat} (h : am_st2 al R) : 119 ∈ al := h.1 119 (List.mem_of_getElem? (i := 9) rfl)
theorem ba_120 {al : List Nat} {R : Nat → Nat → Option Nat} (h : am_st2 al R) : 120 ∈ al := h.1 120 (List.mem_of_getElem? (i := 10) rfl)
theorem ba_121 {al : List Nat} {R : Nat → Nat → Option Nat} (h : am_st2 al R) : 121 ∈ al := h.1 121 (List.mem_of_getElem? (i := 11) rfl)
theorem ba_122 {al : List Nat} {R : Nat → Nat → Option Nat} (h : am_st2 al R) : 122 ∈ al := h.1 122 (List.mem_of_getElem? (i := 12) rfl)
theorem ba_123 {al : List Nat} {R : Nat → Nat → Option Nat} (h : am_st2 al R) : 123 ∈ al := h.1 123 (List.mem_of_getElem? (i := 13) rfl)
theorem ba_124 {al : List Nat} {R : Nat → Nat → Option Nat} (h : am_st2 al R) : 124 ∈ al := h.1 124 (List.mem_of_getElem? (i := 14) rfl)
theorem ba_125 {al : List Nat} {R : Nat → Nat → Option Nat} (h : am_st2 al R) : 125 ∈ al := h.1 125 (List.mem_of_getElem? (i := 15) rfl)
theorem ba_126 {al : List Nat} {R : Nat → Nat → Option Nat} (h : am_st2 al R) : 126 ∈ al := h.1 126 (List.mem_of_getElem? (i := 16) rfl)
theorem ba_127 {al : List Nat} {R : Nat → Nat → Option Nat} (h : am_st2 al R) : 127 ∈ al := h.1 127 (List.mem_of_getElem? (i := 17) rfl)
theorem ba_128 {al : List Nat} {R : Nat → Nat → Option Nat} (h : am_st2 al R) : 128 ∈ al := h.1 128 (List.mem_of_getElem? (i := 18) rfl)
theorem ba_129 {al : List Nat} {R : Nat → Nat → Option Nat} (h : am_st2 al R) : 129 ∈ al := h.1 129 (List.mem_of_getElem? (i := 19) rfl)
theorem ba_130 {al : List Nat} {R : Nat → Nat → Option Nat} (h : am_st2 al R) : 130 ∈ al := h.1 130 (List.mem_of_getElem? (i := 20) rfl)
theorem ba_131 {al : List Nat} {R : Nat → Nat → Option Nat} (h : am_st2 al R) : 131 ∈ al := h.1 131 (List.mem_of_getElem? (i := 21) rfl)
theorem ba_132 {al : List Nat} {R : Nat → Nat → Option Nat} (h : am_st2 al R) : 132 ∈ al := h.1 132 (List.mem_of_getElem? (i := 22) rfl)
theorem ba_133 {al : List Nat} {R : Nat → Nat → Option Nat} (h : am_st2 al R) : 133 ∈ al := h.1 133 (List.mem_of_getElem? (i := 23) rfl)
theorem ba_134 {al : List Nat} {R : Nat → Nat → Option Nat} (h : am_st2 al R) : 134 ∈ al := h.1 134 (List.mem_of_getElem? (i := 24) rfl)
theorem ba_135 {al : List Nat} {R : Nat → Nat → Option Nat} (h : am_st2 al R) : 135 ∈ al := h.1 135 (List.mem_of_getElem? (i := 25) rfl)
theorem ba_136 {al : List Nat} {R : Nat → Nat → Option Nat} (h : am_st2 al R) : 136 ∈ al := h.1 136 (List.mem_of_getElem? (i := 26) rfl)
theorem ba_137 {al : List Nat} {R : Nat → Nat → Option Nat} (h : am_st2 al R) : 137 ∈ al := h.1 137 (List.mem_of_getElem? (i := 27) rfl)
theorem ba_138 {al : List Nat} {R : Nat → Nat → Option Nat} (h : am_st2 al R) : 138 ∈ al := h.1 138 (List.mem_of_getElem? (i := 28) rfl)
theorem ba_139 {al : List Nat} {R : Nat → Nat → Option Nat} (h : am_st2 al R) : 139 ∈ al := h.1 139 (List.mem_of_getElem? (i := 29) rfl)
theorem ba_140 {al : List Nat} {R : Nat → Nat → Option Nat} (h : am_st2 al R) : 140 ∈ al := h.1 140 (List.mem_of_getElem? (i := 30) rfl)
theorem ba_141 {al : List Nat} {R : Nat → Nat → Option Nat} (h : am_st2 al R) : 141 ∈ al := h.1 141 (List.mem_of_getElem? (i := 31) rfl)
theorem ba_142 {al : List Nat} {R : Nat → Nat → Option Nat} (h : am_st2 al R) : 142 ∈ al := h.1 142 (List.mem_of_getElem? (i := 32) rfl)
theorem ba_143 {al : List Nat} {R : Nat → Nat → Option Nat} (h : am_st2 al R) : 143 ∈ al := h.1 143 (List.mem_of_getElem? (i := 33) rfl)
theorem ba_144 {al : List Nat} {R : Nat → Nat → Option Nat} (h : am_st2 al R) : 144 ∈ al := h.1 144 (List.mem_of_getElem? (i := 34) rfl)
theorem ba_145 {al : List Nat} {R : Nat → Nat → Option Nat} (h : am_st2 al R) : 145 ∈ al := h.1 145 (List.mem_of_getElem? (i := 35) rfl)
theorem ba_146 {al : List Nat} {R : Nat → Nat → Option Nat} (h : am_st2 al R) : 146 ∈ al := h.1 146 (List.mem_of_getElem? (i := 36) rfl)
theorem ba_147 {al : List Nat} {R : Nat → Nat → Option Nat} (h : am_st2 al R) : 147 ∈ al := h.1 147 (List.mem_of_getElem? (i := 37) rfl)
theorem ba_148 {al : List Nat} {R : Nat → Nat → Option Nat} (h : am_st2 al R) : 148 ∈ al := h.1 148 (List.mem_of_getElem? (i := 38) rfl)
theorem ba_149 {al : List Nat} {R : Nat → Nat → Option Nat} (h : am_st2 al R) : 149 ∈ al := h.1 149 (List.mem_of_getElem? (i := 39) rfl)
theorem ba_150 {al : List Nat} {R : Nat → Nat → Option Nat} (h : am_st2 al R) : 150 ∈ al := h.1 150 (List.mem_of_getElem? (i := 40) rfl)
theorem ba_151 {al : List Nat} {R : Nat → Nat → Option Nat} (h : am_st2 al R) : 151 ∈ al := h.1 151 (List.mem_of_getElem? (i := 41) rfl)
theorem ba_152 {al : List Nat} {R : Nat → Nat → Option Nat} (h : am_st2 al R) : 152 ∈ al := h.1 152 (List.mem_of_getElem? (i := 42) rfl)
theorem ba_153 {al : List Nat} {R : Nat → Nat → Option Nat} (h : am_st2 al R) : 153 ∈ al := h.1 153 (List.mem_of_getElem? (i := 43) rfl)
theorem sr_110_0 {al : List Nat} {R : Nat → Nat → Option Nat} (h : am_st2 al R) : R 110 0 = some 111 := h.2 (110, 0, 111) (List.mem_of_getElem? (i := 0) rfl)
theorem sr_110_1 {al : List Nat} {R : Nat → Nat → Option Nat} (h : am_st2 al R) : R 110 1 = some 112 := h.2 (110, 1, 112) (List.mem_of_getElem? (i := 1) rfl)
theorem sr_110_2 {al : List Nat} {R : Nat → Nat → Option Nat} (h : am_st2 al R) : R 110 2 = some 113 := h.2 (110, 2, 113) (List.mem_of_getElem? (i := 2) rfl)
theorem sr_110_3 {al : List Nat} {R : Nat → Nat → Option Nat} (h : am_st2 al R) : R 110 3 = some 114 := h.2 (110, 3, 114) (List.mem_of_getElem? (i := 3) rfl)
theorem sr_110_4 {al : List Nat} {R : Nat → Nat → Option Nat} (h : am_st2 al R) : R 110 4 = some 115 := h.2 (110, 4, 115) (List.mem_of_getElem? (i := 4) rfl)
theorem sr_111_0 {al : List Nat} {R : Nat → Nat → Option Nat} (h : am_st2 al R) : R 111 0 = some 116 := h.2 (111, 0, 116) (List.mem_of_getElem? (i := 5) rfl)
theorem sr_111_1 {al : List Nat} {R : Nat → Nat → Option Nat} (h : am_st2 al R) : R 111 1 = some 117 := h.2 (111, 1, 117) (List.mem_of_getElem? (i := 6) rfl)
theorem sr_111_2 {al : List Nat} {R : Nat → Nat → Option Nat} (h : am_st2 al R) : R 111 2 = some 118 := h.2 (111, 2, 118) (List.mem_of_getElem? (i := 7) rfl)
theorem sr_111_4 {al : List Nat} {R : Nat → Nat → Option Nat} (h : am_st2 al R) : R 111 4 = some 119 := h.2 (111, 4, 119) (List.mem_of_getElem? (i := 8) rfl)
theorem sr_111_5 {al : List Nat} {R : Nat → Nat → Option Nat} (h : am_st2 al R) : R 111 5 = some 120 := h.2 (111, 5, 120) (List.mem_of_getElem? (i := 9) rfl)
theorem sr_111_6 {al : List Nat} {R : Nat → Nat → Option Nat} (h : am_st2 al R) : R 111 6 = some 121 := h.2 (111, 6, 121) (List.mem_of_getElem? (i := 10) rfl)
theorem sr_111_14 {al : List Nat} {R : Nat → Nat → Option Nat} (h : am_st2 al R) : R 111 14 = some 122 := h.2 (111, 14, 122) (List.mem_of_getElem? (i := 11) rfl)
theorem sr_111_15 {al : List Nat} {R : Nat → Nat → Option Nat} (h : am_st2 al R) : R 111 15 = some 123 := h.2 (111, 15, 123) (List.mem_of_getElem? (i := 12) rfl)
theorem sr_111_16 {al : List Nat} {R : Nat → Nat → Option Nat} (h : am_st2 al R) : R 111 16 = some 124 := h.2 (111, 16, 124) (List.mem_of_getElem? (i := 13) rfl)
theorem sr_111_17 {al : List Nat} {R : Nat → Nat → Option Nat} (h : am_st2 al R) : R 111 17 = some 125 := h.2 (111, 17, 125) (List.mem_of_getElem? (i := 14) rfl)
theorem sr_111_18 {al : List Nat} {R : Nat → Nat → Option Nat} (h : am_st2 al R) : R 111 18 = some 126 := h.2 (111, 18, 126) (List.mem_of_getElem? (i := 15) rfl)
theorem sr_111_19 {al : List Nat} {R : Nat → Nat → Option Nat} (h : am_st2 al R) : R 111 19 = some 127 := h.2 (111, 19, 127) (List.mem_of_getElem? (i := 16) rfl)
theorem sr_112_0 {al : List Nat} {R : Nat → Nat → Option Nat} (h : am_st2 al R) : R 112 0 = some 128 := h.2 (112, 0, 128) (List.mem_of_getElem? (i := 17) rfl)
theorem sr_112_1 {al : List Nat} {R : Nat → Nat → Option Nat} (h : am_st2 al R) : R 112 1 = some 129 := h.2 (112, 1, 129) (List.mem_of_getElem? (i := 18) rfl)
theorem sr_112_2 {al : List Nat} {R : Nat → Nat → Option Nat} (h : am_st2 al R) : R 112 2 = some 130 := h.2 (112, 2, 130) (List.mem_of_getElem? (i := 19) rfl)
theorem sr_112_3 {al : List Nat} {R : Nat → Nat → Option Nat} (h : am_st2 al R) : R 112 3 = some 131 := h.2 (112, 3, 131) (List.mem_of_getElem? (i := 20) rfl)
theorem sr_112_4 {al : List Nat} {R : Nat → Nat → Option Nat} (h : am_st2 al R) : R 112 4 = some 132 := h.2 (112, 4, 132) (List.mem_of_getElem? (i := 21) rfl)
theorem sr_112_5 {al : List Nat} {R : Nat → Nat → Option Nat} (h : am_st2 al R) : R 112 5 = some 133 := h.2 (112, 5, 133) (List.mem_of_getElem? (i := 22) rfl)
theorem sr_112_6 {al : List Nat} {R : Nat → Nat → Option Nat} (h : am_st2 al R) : R 112 6 = some 134 := h.2 (112, 6, 134) (List.mem_of_getElem? (i := 23) rfl)
theorem sr_112_8 {al : List Nat} {R : Nat → Nat → Option Nat} (h : am_st2 al R) : R 112 8 = some 135 := h.2 (112, 8, 135) (List.mem_of_getElem? (i := 24) rfl)
theorem sr_112_9 {al : List Nat} {R : Nat → Nat → Option Nat} (h : am_st2 al R) : R 112 9 = some 136 := h.2 (112, 9, 136) (List.mem_of_getElem? (i := 25) rfl)
theorem sr_112_11 {al : List Nat} {R : Nat → Nat → Option Nat} (h : am_st2 al R) : R 112 11 = some 137 := h.2 (112, 11, 137) (List.mem_of_getElem? (i := 26) rfl)
theorem sr_112_12 {al : List Nat} {R : Nat → Nat → Option Nat} (h : am_st2 al R) : R 112 12 = some 138 := h.2 (112, 12, 138) (List.mem_of_getElem? (i := 27) rfl)
theorem sr_113_0 {al : List Nat} {R : Nat → Nat → Option Nat} (h : am_st2 al R) : R 113 0 = some 139 := h.2 (113, 0, 139) (List.mem_of_getElem? (i := 28) rfl)
theorem sr_113_1 {al : List Nat} {R : Nat → Nat → Option Nat} (h : am_st2 al R) : R 113 1 = some 140 := h.2 (113, 1, 140) (List.mem_of_getElem? (i := 29) rfl)
theorem sr_113_2 {al : List Nat} {R : Nat → Nat → Option Nat} (h : am_st2 al R) : R 113 2 = some 141 := h.2 (113, 2, 141) (List.mem_of_getElem? (i := 30) rfl)
theorem sr_113_3 {al : List Nat} {R : Nat → Nat → Option Nat} (h : am_st2 al R) : R 113 3 = some 142 := h.2 (113, 3, 142) (List.mem_of_getElem? (i := 31) rfl)
theorem sr_113_4 {al : List Nat} {R : Nat → Nat → Option Nat} (h : am_st2 al R) : R 113 4 = some 143 := h.2 (113, 4, 143) (List.mem_of_getElem? (i := 32) rfl)
theorem sr_113_8 {al : List Nat} {R : Nat → Nat → Option Nat} (h : am_st2 al R) : R 113 8 = some 144 := h.2 (113, 8, 144) (List.mem_of_getElem? (i := 33) rfl)
theorem sr_113_9 {al : List Nat} {R : Nat → Nat → Option Nat} (h : am_st2 al R) : R 113 9 = some 145 := h.2 (113, 9, 145) (List.mem_of_getElem? (i := 34) rfl)
theorem sr_113_10 {al : List Nat} {R : Nat → Nat → Option Nat} (h : am_st2 al R) : R 113 10 = some 146 := h.2 (113, 10, 146) (List.mem_of_getElem? (i := 35) rfl)
theorem sr_113_12 {al : List Nat} {R : Nat → Nat → Option Nat} (h : am_st2 al R) : R 113 12 = some 147 := h.2 (113, 12, 147) (List.mem_of_getElem? (i := 36) rfl)
theorem sr_114_0 {al : List Nat} {R : Nat → Nat → Option Nat} (h : am_st2 al R) : R 114 0 = some 148 := h.2 (114, 0, 148) (List.mem_of_getElem? (i := 37) rfl)
theorem sr_114_1 {al : List Nat} {R : Nat → Nat → Option Nat} (h : am_st2 al R) : R 114 1 = some 149 := h.2 (114, 1, 149) (List.mem_of_getElem? (i := 38) rfl)
theorem sr_115_0 {al : List Nat} {R : Nat → Nat → Option Nat} (h : am_st2 al R) : R 115 0 = some 150 := h.2 (115, 0, 150) (List.mem_of_getElem? (i := 39) rfl)
theorem sr_115_1 {al : List Nat} {R : Nat → Nat → Option Nat} (h : am_st2 al R) : R 115 1 = some 151 := h.2 (115, 1, 151) (List.mem_of_getElem? (i := 40) rfl)
theorem sr_115_2 {al : List Nat} {R : Nat → Nat → Option Nat} (h : am_st2 al R) : R 115 2 = some 152 := h.2 (115, 2, 152) (List.mem_of_getElem? (i := 41) rfl)
theorem sr_115_4 {al : List Nat} {R : Nat → Nat → Option Nat} (h : am_st2 al R) : R 115 4 = some 153 := h.2 (115, 4, 153) (List.mem_of_getElem? (i := 42) rfl)
end
section
/-! THE MACHINE IN PLACES: a world of numbered places (their kinds and lengths stand in am_lay), contents in three functions: whole numbers, long ones, references (places again) -/
abbrev am_H : Type := (Nat → Nat → Int32) × (Nat → Nat → Int64) × (Nat → Nat → Option Nat)
abbrev am_M : Type := MethodName × ByteArray × Nat × Option FieldType
abbrev am_G : Type := List Nat × Nat × Nat
abbrev am_X : Type := Nat × Nat × Nat × (Nat → Prop)
abbrev am_P : Type := Option Value → am_H → List Nat → Prop
def am_cv (ad : Nat → Nat) (v : Value) : Value := match v with
  | .ref k => .ref (ad k)
  | v => v
def am_cl (ad : Nat → Nat) (l : List (Nat × Value)) : List (Nat × Value) := l.map fun q => (q.1, am_cv ad q.2)
def am_fv (ad : Nat → Nat) (h : am_H) (k : Nat) (ty : FieldType) (j : Nat) : Value := match ty with
  | .long => .long (h.2.1 k j)
  | .object _ => va_rf ((h.2.2 k j).map ad)
  | .array _ => va_rf ((h.2.2 k j).map ad)
  | _ => .int (h.1 k j)
def am_ar (ad : Nat → Nat) (h : am_H) (k : Nat) (ty : FieldType) (n : Nat) : vp_A := match ty with
  | .long => (n, .inr (.inl (h.2.1 k)))
  | .object _ => (n, .inr (.inr (.inr (.inr fun j => (h.2.2 k j).map ad))))
  | _ => (n, .inl (h.1 k))
def am_ce (ca : FieldType → ClassId) (ad : Nat → Nat) (h : am_H) (k : Nat) : va_E := match am_lay k with
  | .inl (ty, n) => .inl (ca ty, am_ar ad h k ty n)
  | .inr ci => .inr (ci, (List.range (am_N ci)).map fun j => am_fv ad h k (am_ty ci j) j)
def am_wl (ca : FieldType → ClassId) (ad : Nat → Nat) (al : List Nat) (h : am_H) : va_W := al.map fun k => (ad k, am_ce ca ad h k)
def am_TY (ca : FieldType → ClassId) : List (ClassId × FieldType) := [(ca .int, .int), (ca .long, .long), (ca .boolean, .boolean), (ca (.object RX10), .object RX10)]
def am_tb : List Cond := lw_tbl.filter goodWord
def am_ws (M : am_M) : List Cond := Cond.code M.1 M.2.1 M.2.2.1 M.2.2.2 :: am_tb
def am_ag (Z : Nat → Prop) (ad ad0 : Nat → Nat) : Prop := ∀ k, (k = 900 ∨ Z k) → ad k = ad0 k
def am_nest : List (String × Nat × MethodName × String) := [("SteadyFund", 9, ⟨"SteadyFund$World", "<init>", "()V"⟩, "SteadyFund"), ("SteadyFund$World", 9, ⟨"SteadyFund$Ledger", "<init>", "()V"⟩, "SteadyFund"), ("SteadyFund$World", 18, ⟨"SteadyFund$Paper", "<init>", "()V"⟩, "SteadyFund"), ("SteadyFund$World", 32, ⟨"SteadyFund$Houses", "<init>", "()V"⟩, "SteadyFund"), ("SteadyFund$World", 39, ⟨"SteadyFund$Letters", "<init>", "()V"⟩, "SteadyFund"), ("SteadyFund", 22, ⟨"SteadyFund$SealedRecord", "<init>", "()V"⟩, "SteadyFund"), ("SteadyFund", 29, ⟨"SteadyFund$Fraction", "<init>", "()V"⟩, "SteadyFund"), ("SteadyFund", 36, ⟨"SteadyFund$Tide", "<init>", "()V"⟩, "SteadyFund"), ("SteadyFund$Ledger", 59, ⟨"SteadyFund", "within", "(III)Z"⟩, "SteadyFund"), ("SteadyFund$Fraction", 20, ⟨"SteadyFund", "cut", "(JJ)J"⟩, "SteadyFund"), ("SteadyFund$Claims", 81, ⟨"SteadyFund", "cut", "(JJ)J"⟩, "SteadyFund"), ("SteadyFund$Tide", 43, ⟨"SteadyFund", "cut", "(JJ)J"⟩, "SteadyFund"), ("SteadyFund$Clearing", 87, ⟨"SteadyFund", "cut", "(JJ)J"⟩, "SteadyFund"), ("SteadyFund$RuleReader", 91, ⟨"SteadyFund", "cut", "(JJ)J"⟩, "SteadyFund")]
/-- what stands outside of the world: the letters' names (place 900), a switch of the texts', rows of worlds -/
def am_F (ad : Nat → Nat) (A : Nat → Prop) (U : State) (H : Heap) : Prop := va_AO "SteadyFund$World" U ∧ vk_R "SteadyFund$RuleReader" 105 "csioqrm" (ad 900) U ∧ (∃ adV : Nat → Nat, vk_S 1 [7] [[99, 115, 105, 111, 113, 114, 109]] (fun _ => ad 900) adV A U H) ∧ va_Z "java/lang/String" "COMPACT_STRINGS" "Z" (.int 1) A U H ∧ ∀ q ∈ am_nest, va_Nw (.methodLinkNest q.1 q.2.1 q.2.2.1 q.2.2.2) U
def am_rm (d mc ms : Nat) : Room := { frames := d, cells := mc, slots := ms, locals := 40 * d }
def am_Qc (D : va_G) (ca : FieldType → ClassId) (ad0 : Nat → Nat) (Z : Nat → Prop) (A : Nat → Prop) (Q : am_P) : Array Value → State → Outcome → State → Prop := fun _ st o t =>
  (∃ (r : Option Value) (h : am_H) (al : List Nat) (ad : Nat → Nat), o = .returned (r.map (am_cv ad)) ∧ Q r h al ∧ al.Nodup ∧ am_ag Z ad ad0 ∧ va_P D vwCl (am_wl ca ad al h) t.heap ∧ va_D A (am_wl ca ad al h)) ∧ va_F A st t
def am_CX (M : am_M) (p : Program) (s : State) (m : MethodId) (args : Array Value) (meth : Method) (c : Code) (D : va_G) (ca : FieldType → ClassId) (ad0 : Nat → Nat) (A : Nat → Prop) : Prop :=
  CallFix p m c M.2.1 M.2.2.1 s args (am_ws M) M.1.cls ∧ meth.sig.returnType = M.2.2.2 ∧ meth.locks = false ∧ va_K D vwCl (am_TY ca) s ∧ (∀ q, s.heap.size ≤ q → A q) ∧ meth.name = M.1.name ∧ am_F ad0 A s s.heap
def am_DY (M : am_M) (s : State) (D : va_G) (ca : FieldType → ClassId) (ad0 : Nat → Nat) (Z : Nat → Prop) (A : Nat → Prop) (al : List Nat) (h : am_H) (ad : Nat → Nat) (H : Heap) (locs : List Loc) : Prop :=
  al.Nodup ∧ am_ag Z ad ad0 ∧ va_P D vwCl (am_wl ca ad al h) H ∧ va_D A (am_wl ca ad al h) ∧ va_S A s.heap H locs
/-- from this place of the code, with these locals and this stack, in this world, the method comes to its end, with Q -/
def am_OK (M : am_M) (X : am_X) (Q : am_P) (g : am_G) (h : am_H) (pc : Nat) (l : List (Nat × Value)) (st : List Value) : Prop :=
  ∀ (p : Program) (lc : Launch) (e : Env) (s : State) (m : MethodId) (args : Array Value) (below : List Frame) (meth : Method) (c : Code) (D : va_G) (ca : FieldType → ClassId) (ad0 : Nat → Nat) (A : Nat → Prop), am_CX M p s m args meth c D ca ad0 A →
    ∀ (ad : Nat → Nat) (H : Heap) (locs : List Loc) (ls : Array Slot), am_DY M s D ca ad0 X.2.2.2 A g.1 h ad H locs → lv_has ls M.2.2.1 (am_cl ad l) →
      W p lc e (am_rm X.1 X.2.1 X.2.2.1) s m args below meth c H locs g.2.1 g.2.2 (MQ below (am_Qc D ca ad0 X.2.2.2 A Q) args s X.2.1 X.2.2.1 A) (F0 m pc ls (st.map (am_cv ad)))
/-- a method's contract: from this world with these arguments it ends, with Q -/
def am_C (M : am_M) (d mc ms : Nat) (Z : Nat → Prop) (al : List Nat) (as : List Value) (h : am_H) (Q : am_P) : Prop :=
  ∀ (lc : Launch) (D : va_G) (ca : FieldType → ClassId) (ad : Nat → Nat) (sz : Nat), al.Nodup → Met lc M.1 (am_ws M) (am_rm d mc ms) (va_Pc (as.map (am_cv ad)) (fun U => U.heap.size = sz ∧ va_P D vwCl (am_wl ca ad al h) U.heap ∧ va_K D vwCl (am_TY ca) U ∧ va_D (fun _ => True) (am_wl ca ad al h) ∧ am_F ad (va_A (am_wl ca ad al h) sz) U U.heap)) (am_Qc D ca ad Z (va_A (am_wl ca ad al h) sz) Q) mc ms (va_A (am_wl ca ad al h) sz)
theorem am_cl_at {ad : Nat → Nat} {l : List (Nat × Value)} {k i : Nat} {v : Value} (h : l[k]? = some (i, v)) : (am_cl ad l)[k]? = some (i, am_cv ad v) := by
  simp [am_cl, h]
theorem am_cv_cat (ad : Nat → Nat) (v : Value) : (am_cv ad v).category = v.category := by cases v <;> rfl
theorem am_cl_put (ad : Nat → Nat) (i : Nat) (v : Value) (f : Nat → Nat → Bool) (l : List (Nat × Value)) : am_cl ad ((i, v) :: l.filter (fun q => f q.1 q.2.category)) = (i, am_cv ad v) :: (am_cl ad l).filter (fun q => f q.1 q.2.category) := by
  simp only [am_cl, List.map_cons, List.filter_map, List.cons.injEq, true_and]
  congr 1
  apply List.filter_congr
  intro q _
  simp only [Function.comp_apply, am_cv_cat]
/-- locals behind a store of one word, of two -/
def am_p1 (i : Nat) (v : Value) (l : List (Nat × Value)) : List (Nat × Value) := (i, v) :: l.filter (fun q => !(q.1 == i) && !(q.1 + 1 == i && q.2.category == 2))
def am_p2 (i : Nat) (v : Value) (l : List (Nat × Value)) : List (Nat × Value) := (i, v) :: l.filter (fun q => !(q.1 == i) && (!(q.1 == i + 1) && !(q.1 + 1 == i && q.2.category == 2)))
theorem am_cl_p1 (ad : Nat → Nat) (i : Nat) (v : Value) (l : List (Nat × Value)) : (i, am_cv ad v) :: (am_cl ad l).filter (fun q => !(q.1 == i) && !(q.1 + 1 == i && q.2.category == 2)) = am_cl ad (am_p1 i v l) := (am_cl_put ad i v (fun a b => !(a == i) && !(a + 1 == i && b == 2)) l).symm
theorem am_cl_p2 (ad : Nat → Nat) (i : Nat) (v : Value) (l : List (Nat × Value)) : (i, am_cv ad v) :: (am_cl ad l).filter (fun q => !(q.1 == i) && (!(q.1 == i + 1) && !(q.1 + 1 == i && q.2.category == 2))) = am_cl ad (am_p2 i v l) := (am_cl_put ad i v (fun a b => !(a == i) && (!(a == i + 1) && !(a + 1 == i && b == 2))) l).symm
section AM1
variable {M : am_M} {X : am_X} {Q : am_P} {g : am_G} {h : am_H} {pc : Nat} {l : List (Nat × Value)} {st : List Value}
theorem am_iconst {n : Int} {v : Int32} (hv : Int32.ofInt n = v) (hd : decode M.2.1 pc = .ok (.iconst n, 1)) (k : am_OK M X Q g h (pc + 1) l (.int v :: st)) : am_OK M X Q g h pc l st :=
  fun p lc e s m args below meth c D ca ad0 A cx ad H locs ls dy hl => lv_iconst cx.1.1 cx.1.2.1 hd hv (k p lc e s m args below meth c D ca ad0 A cx ad H locs ls dy hl)
theorem am_bipush {n : Int} {v : Int32} (hv : (Int8.ofInt n).toInt32 = v) (hd : decode M.2.1 pc = .ok (.bipush n, 2)) (k : am_OK M X Q g h (pc + 2) l (.int v :: st)) : am_OK M X Q g h pc l st :=
  fun p lc e s m args below meth c D ca ad0 A cx ad H locs ls dy hl => lv_bipush cx.1.1 cx.1.2.1 hd hv (k p lc e s m args below meth c D ca ad0 A cx ad H locs ls dy hl)
theorem am_sipush {n : Int} {v : Int32} (hv : (Int16.ofInt n).toInt32 = v) (hd : decode M.2.1 pc = .ok (.sipush n, 3)) (k : am_OK M X Q g h (pc + 3) l (.int v :: st)) : am_OK M X Q g h pc l st :=
  fun p lc e s m args below meth c D ca ad0 A cx ad H locs ls dy hl => lv_sipush cx.1.1 cx.1.2.1 hd hv (k p lc e s m args below meth c D ca ad0 A cx ad H locs ls dy hl)
theorem am_lconst {n : Fin 2} {v : Int64} (hv : Int64.ofNat (n : Nat) = v) (hd : decode M.2.1 pc = .ok (.lconst n, 1)) (k : am_OK M X Q g h (pc + 1) l (.long v :: st)) : am_OK M X Q g h pc l st :=
  fun p lc e s m args below meth c D ca ad0 A cx ad H locs ls dy hl => lv_lconst cx.1.1 cx.1.2.1 hd hv (k p lc e s m args below meth c D ca ad0 A cx ad H locs ls dy hl)
theorem am_tbl {w : Cond} (hw : w ∈ lw_tbl) (hg : goodWord w = true := by rfl) : w ∈ am_ws M := List.mem_cons_of_mem _ (List.mem_filter.mpr ⟨hw, hg⟩)
theorem am_ldc {index : Nat} {v : Int32} (hw : Cond.constant M.1.cls index v ∈ lw_tbl) (hd : decode M.2.1 pc = .ok (.ldc index, 2)) (k : am_OK M X Q g h (pc + 2) l (.int v :: st)) : am_OK M X Q g h pc l st :=
  fun p lc e s m args below meth c D ca ad0 A cx ad H locs ls dy hl => lv_ldc cx.1.1 cx.1.2.1 cx.1.2.2.2.1 (cx.1.2.2.2.2 _ (am_tbl hw)) hd (k p lc e s m args below meth c D ca ad0 A cx ad H locs ls dy hl)
theorem am_ldc2 {index : Nat} {v : Int64} (hw : Cond.constantLong M.1.cls index v ∈ lw_tbl) (hd : decode M.2.1 pc = .ok (.ldc2_w index, 3)) (k : am_OK M X Q g h (pc + 3) l (.long v :: st)) : am_OK M X Q g h pc l st :=
  fun p lc e s m args below meth c D ca ad0 A cx ad H locs ls dy hl => lv_ldc2 cx.1.1 cx.1.2.1 cx.1.2.2.2.1 (cx.1.2.2.2.2 _ (am_tbl hw)) hd (k p lc e s m args below meth c D ca ad0 A cx ad H locs ls dy hl)
theorem am_iload_n (j : Nat) {n : Fin 4} {i : Nat} {x : Int32} (hi : (n : Nat) = i) (hk : l[j]? = some (i, .int x)) (hd : decode M.2.1 pc = .ok (.iload_n n, 1)) (k : am_OK M X Q g h (pc + 1) l (.int x :: st)) : am_OK M X Q g h pc l st :=
  fun p lc e s m args below meth c D ca ad0 A cx ad H locs ls dy hl => lv_iload_n cx.1.1 cx.1.2.1 hd hi (lv_at hl j (am_cl_at hk)) (k p lc e s m args below meth c D ca ad0 A cx ad H locs ls dy hl)
theorem am_iload (j : Nat) {i : Nat} {x : Int32} (hk : l[j]? = some (i, .int x)) (hd : decode M.2.1 pc = .ok (.iload i, 2)) (k : am_OK M X Q g h (pc + 2) l (.int x :: st)) : am_OK M X Q g h pc l st :=
  fun p lc e s m args below meth c D ca ad0 A cx ad H locs ls dy hl => lv_iload cx.1.1 cx.1.2.1 hd (lv_at hl j (am_cl_at hk)) (k p lc e s m args below meth c D ca ad0 A cx ad H locs ls dy hl)
theorem am_lload_n (j : Nat) {n : Fin 4} {i : Nat} {x : Int64} (hi : (n : Nat) = i) (hk : l[j]? = some (i, .long x)) (hd : decode M.2.1 pc = .ok (.lload_n n, 1)) (k : am_OK M X Q g h (pc + 1) l (.long x :: st)) : am_OK M X Q g h pc l st :=
  fun p lc e s m args below meth c D ca ad0 A cx ad H locs ls dy hl => lv_lload_n cx.1.1 cx.1.2.1 hd hi (lv_at hl j (am_cl_at hk)) (k p lc e s m args below meth c D ca ad0 A cx ad H locs ls dy hl)
theorem am_lload (j : Nat) {i : Nat} {x : Int64} (hk : l[j]? = some (i, .long x)) (hd : decode M.2.1 pc = .ok (.lload i, 2)) (k : am_OK M X Q g h (pc + 2) l (.long x :: st)) : am_OK M X Q g h pc l st :=
  fun p lc e s m args below meth c D ca ad0 A cx ad H locs ls dy hl => lv_lload cx.1.1 cx.1.2.1 hd (lv_at hl j (am_cl_at hk)) (k p lc e s m args below meth c D ca ad0 A cx ad H locs ls dy hl)
theorem am_aload_n (j : Nat) {n : Fin 4} {i x : Nat} (hi : (n : Nat) = i) (hk : l[j]? = some (i, .ref x)) (hd : decode M.2.1 pc = .ok (.aload_n n, 1)) (k : am_OK M X Q g h (pc + 1) l (.ref x :: st)) : am_OK M X Q g h pc l st :=
  fun p lc e s m args below meth c D ca ad0 A cx ad H locs ls dy hl => lv_aload_n cx.1.1 cx.1.2.1 hd hi (lv_at hl j (am_cl_at hk)) (k p lc e s m args below meth c D ca ad0 A cx ad H locs ls dy hl)
theorem am_aload (j : Nat) {i x : Nat} (hk : l[j]? = some (i, .ref x)) (hd : decode M.2.1 pc = .ok (.aload i, 2)) (k : am_OK M X Q g h (pc + 2) l (.ref x :: st)) : am_OK M X Q g h pc l st :=
  fun p lc e s m args below meth c D ca ad0 A cx ad H locs ls dy hl => lv_aload cx.1.1 cx.1.2.1 hd (lv_at hl j (am_cl_at hk)) (k p lc e s m args below meth c D ca ad0 A cx ad H locs ls dy hl)
theorem am_istore_n {n : Fin 4} {i : Nat} {x : Int32} {l' : List (Nat × Value)} (hi : (n : Nat) = i) (hn : i < M.2.2.1) (hl' : am_p1 i (.int x) l = l') (hd : decode M.2.1 pc = .ok (.istore_n n, 1)) (k : am_OK M X Q g h (pc + 1) l' st) : am_OK M X Q g h pc l (.int x :: st) :=
  fun p lc e s m args below meth c D ca ad0 A cx ad H locs ls dy hl => lv_istore_n cx.1.1 cx.1.2.1 hd hi hl hn ((am_cl_p1 ad i (.int x) l).trans (congrArg _ hl')) (fun ls' hl => k p lc e s m args below meth c D ca ad0 A cx ad H locs ls' dy hl)
theorem am_istore {i : Nat} {x : Int32} {l' : List (Nat × Value)} (hn : i < M.2.2.1) (hl' : am_p1 i (.int x) l = l') (hd : decode M.2.1 pc = .ok (.istore i, 2)) (k : am_OK M X Q g h (pc + 2) l' st) : am_OK M X Q g h pc l (.int x :: st) :=
  fun p lc e s m args below meth c D ca ad0 A cx ad H locs ls dy hl => lv_istore cx.1.1 cx.1.2.1 hd hl hn ((am_cl_p1 ad i (.int x) l).trans (congrArg _ hl')) (fun ls' hl => k p lc e s m args below meth c D ca ad0 A cx ad H locs ls' dy hl)
theorem am_astore_n {n : Fin 4} {i x : Nat} {l' : List (Nat × Value)} (hi : (n : Nat) = i) (hn : i < M.2.2.1) (hl' : am_p1 i (.ref x) l = l') (hd : decode M.2.1 pc = .ok (.astore_n n, 1)) (k : am_OK M X Q g h (pc + 1) l' st) : am_OK M X Q g h pc l (.ref x :: st) :=
  fun p lc e s m args below meth c D ca ad0 A cx ad H locs ls dy hl => lv_astore_n cx.1.1 cx.1.2.1 hd hi hl hn ((am_cl_p1 ad i (.ref x) l).trans (congrArg _ hl')) (fun ls' hl => k p lc e s m args below meth c D ca ad0 A cx ad H locs ls' dy hl)
theorem am_astore {i x : Nat} {l' : List (Nat × Value)} (hn : i < M.2.2.1) (hl' : am_p1 i (.ref x) l = l') (hd : decode M.2.1 pc = .ok (.astore i, 2)) (k : am_OK M X Q g h (pc + 2) l' st) : am_OK M X Q g h pc l (.ref x :: st) :=
  fun p lc e s m args below meth c D ca ad0 A cx ad H locs ls dy hl => lv_astore cx.1.1 cx.1.2.1 hd hl hn ((am_cl_p1 ad i (.ref x) l).trans (congrArg _ hl')) (fun ls' hl => k p lc e s m args below meth c D ca ad0 A cx ad H locs ls' dy hl)
theorem am_lstore_n {n : Fin 4} {i : Nat} {x : Int64} {l' : List (Nat × Value)} (hi : (n : Nat) = i) (hn : i + 1 < M.2.2.1) (hl' : am_p2 i (.long x) l = l') (hd : decode M.2.1 pc = .ok (.lstore_n n, 1)) (k : am_OK M X Q g h (pc + 1) l' st) : am_OK M X Q g h pc l (.long x :: st) :=
  fun p lc e s m args below meth c D ca ad0 A cx ad H locs ls dy hl => lv_lstore_n cx.1.1 cx.1.2.1 hd hi hl hn ((am_cl_p2 ad i (.long x) l).trans (congrArg _ hl')) (fun ls' hl => k p lc e s m args below meth c D ca ad0 A cx ad H locs ls' dy hl)
theorem am_lstore {i : Nat} {x : Int64} {l' : List (Nat × Value)} (hn : i + 1 < M.2.2.1) (hl' : am_p2 i (.long x) l = l') (hd : decode M.2.1 pc = .ok (.lstore i, 2)) (k : am_OK M X Q g h (pc + 2) l' st) : am_OK M X Q g h pc l (.long x :: st) :=
  fun p lc e s m args below meth c D ca ad0 A cx ad H locs ls dy hl => lv_lstore cx.1.1 cx.1.2.1 hd hl hn ((am_cl_p2 ad i (.long x) l).trans (congrArg _ hl')) (fun ls' hl => k p lc e s m args below meth c D ca ad0 A cx ad H locs ls' dy hl)
theorem am_iinc (j : Nat) {i : Nat} {n : Int} {x v : Int32} {l' : List (Nat × Value)} (hk : l[j]? = some (i, .int x)) (hv : x + Int32.ofInt n = v) (hn : i < M.2.2.1) (hl' : am_p1 i (.int v) l = l') (hd : decode M.2.1 pc = .ok (.iinc i n, 3)) (k : am_OK M X Q g h (pc + 3) l' st) : am_OK M X Q g h pc l st :=
  fun p lc e s m args below meth c D ca ad0 A cx ad H locs ls dy hl => lv_iinc cx.1.1 cx.1.2.1 hd hl (am_cl_at hk) hv hn ((am_cl_p1 ad i (.int v) l).trans (congrArg _ hl')) (fun ls' hl => k p lc e s m args below meth c D ca ad0 A cx ad H locs ls' dy hl)
theorem am_sub (ks : List Nat) {l' : List (Nat × Value)} (hs : lv_pick l ks = l') (k : am_OK M X Q g h pc l' st) : am_OK M X Q g h pc l st :=
  fun p lc e s m args below meth c D ca ad0 A cx ad H locs ls dy hl => k p lc e s m args below meth c D ca ad0 A cx ad H locs ls dy (lv_sub hl ks (by rw [← hs]; simp only [lv_pick, am_cl, List.map_filterMap, List.getElem?_map]))
end AM1
end
section
section AM2
variable {M : am_M} {X : am_X} {Q : am_P} {g : am_G} {h : am_H} {pc : Nat} {l : List (Nat × Value)} {st : List Value}
theorem am_iadd {x y : Int32} (hd : decode M.2.1 pc = .ok (.iadd, 1)) (k : am_OK M X Q g h (pc + 1) l (.int (x + y) :: st)) : am_OK M X Q g h pc l (.int y :: .int x :: st) :=
  fun p lc e s m args below meth c D ca ad0 A cx ad H locs ls dy hl => lv_iadd cx.1.1 cx.1.2.1 hd (k p lc e s m args below meth c D ca ad0 A cx ad H locs ls dy hl)
theorem am_isub {x y : Int32} (hd : decode M.2.1 pc = .ok (.isub, 1)) (k : am_OK M X Q g h (pc + 1) l (.int (x - y) :: st)) : am_OK M X Q g h pc l (.int y :: .int x :: st) :=
  fun p lc e s m args below meth c D ca ad0 A cx ad H locs ls dy hl => lv_isub cx.1.1 cx.1.2.1 hd (k p lc e s m args below meth c D ca ad0 A cx ad H locs ls dy hl)
theorem am_imul {x y : Int32} (hd : decode M.2.1 pc = .ok (.imul, 1)) (k : am_OK M X Q g h (pc + 1) l (.int (x * y) :: st)) : am_OK M X Q g h pc l (.int y :: .int x :: st) :=
  fun p lc e s m args below meth c D ca ad0 A cx ad H locs ls dy hl => lv_imul cx.1.1 cx.1.2.1 hd (k p lc e s m args below meth c D ca ad0 A cx ad H locs ls dy hl)
theorem am_iand {x y : Int32} (hd : decode M.2.1 pc = .ok (.iand, 1)) (k : am_OK M X Q g h (pc + 1) l (.int (x &&& y) :: st)) : am_OK M X Q g h pc l (.int y :: .int x :: st) :=
  fun p lc e s m args below meth c D ca ad0 A cx ad H locs ls dy hl => lv_iand cx.1.1 cx.1.2.1 hd (k p lc e s m args below meth c D ca ad0 A cx ad H locs ls dy hl)
theorem am_ior {x y : Int32} (hd : decode M.2.1 pc = .ok (.ior, 1)) (k : am_OK M X Q g h (pc + 1) l (.int (x ||| y) :: st)) : am_OK M X Q g h pc l (.int y :: .int x :: st) :=
  fun p lc e s m args below meth c D ca ad0 A cx ad H locs ls dy hl => lv_ior cx.1.1 cx.1.2.1 hd (k p lc e s m args below meth c D ca ad0 A cx ad H locs ls dy hl)
theorem am_ixor {x y : Int32} (hd : decode M.2.1 pc = .ok (.ixor, 1)) (k : am_OK M X Q g h (pc + 1) l (.int (x ^^^ y) :: st)) : am_OK M X Q g h pc l (.int y :: .int x :: st) :=
  fun p lc e s m args below meth c D ca ad0 A cx ad H locs ls dy hl => lv_ixor cx.1.1 cx.1.2.1 hd (k p lc e s m args below meth c D ca ad0 A cx ad H locs ls dy hl)
theorem am_ishl {x y : Int32} (hd : decode M.2.1 pc = .ok (.ishl, 1)) (k : am_OK M X Q g h (pc + 1) l (.int (x <<< (y &&& 31)) :: st)) : am_OK M X Q g h pc l (.int y :: .int x :: st) :=
  fun p lc e s m args below meth c D ca ad0 A cx ad H locs ls dy hl => lv_ishl cx.1.1 cx.1.2.1 hd (k p lc e s m args below meth c D ca ad0 A cx ad H locs ls dy hl)
theorem am_ishr {x y : Int32} (hd : decode M.2.1 pc = .ok (.ishr, 1)) (k : am_OK M X Q g h (pc + 1) l (.int (x >>> (y &&& 31)) :: st)) : am_OK M X Q g h pc l (.int y :: .int x :: st) :=
  fun p lc e s m args below meth c D ca ad0 A cx ad H locs ls dy hl => lv_ishr cx.1.1 cx.1.2.1 hd (k p lc e s m args below meth c D ca ad0 A cx ad H locs ls dy hl)
theorem am_ladd {x y : Int64} (hd : decode M.2.1 pc = .ok (.ladd, 1)) (k : am_OK M X Q g h (pc + 1) l (.long (x + y) :: st)) : am_OK M X Q g h pc l (.long y :: .long x :: st) :=
  fun p lc e s m args below meth c D ca ad0 A cx ad H locs ls dy hl => lv_ladd cx.1.1 cx.1.2.1 hd (k p lc e s m args below meth c D ca ad0 A cx ad H locs ls dy hl)
theorem am_lsub {x y : Int64} (hd : decode M.2.1 pc = .ok (.lsub, 1)) (k : am_OK M X Q g h (pc + 1) l (.long (x - y) :: st)) : am_OK M X Q g h pc l (.long y :: .long x :: st) :=
  fun p lc e s m args below meth c D ca ad0 A cx ad H locs ls dy hl => lv_lsub cx.1.1 cx.1.2.1 hd (k p lc e s m args below meth c D ca ad0 A cx ad H locs ls dy hl)
theorem am_lmul {x y : Int64} (hd : decode M.2.1 pc = .ok (.lmul, 1)) (k : am_OK M X Q g h (pc + 1) l (.long (x * y) :: st)) : am_OK M X Q g h pc l (.long y :: .long x :: st) :=
  fun p lc e s m args below meth c D ca ad0 A cx ad H locs ls dy hl => lv_lmul cx.1.1 cx.1.2.1 hd (k p lc e s m args below meth c D ca ad0 A cx ad H locs ls dy hl)
theorem am_land {x y : Int64} (hd : decode M.2.1 pc = .ok (.land, 1)) (k : am_OK M X Q g h (pc + 1) l (.long (x &&& y) :: st)) : am_OK M X Q g h pc l (.long y :: .long x :: st) :=
  fun p lc e s m args below meth c D ca ad0 A cx ad H locs ls dy hl => lv_land cx.1.1 cx.1.2.1 hd (k p lc e s m args below meth c D ca ad0 A cx ad H locs ls dy hl)
theorem am_lor {x y : Int64} (hd : decode M.2.1 pc = .ok (.lor, 1)) (k : am_OK M X Q g h (pc + 1) l (.long (x ||| y) :: st)) : am_OK M X Q g h pc l (.long y :: .long x :: st) :=
  fun p lc e s m args below meth c D ca ad0 A cx ad H locs ls dy hl => lv_lor cx.1.1 cx.1.2.1 hd (k p lc e s m args below meth c D ca ad0 A cx ad H locs ls dy hl)
theorem am_ldiv {x y : Int64} (hne : ¬ y = 0) (hd : decode M.2.1 pc = .ok (.ldiv, 1)) (k : am_OK M X Q g h (pc + 1) l (.long (x / y) :: st)) : am_OK M X Q g h pc l (.long y :: .long x :: st) :=
  fun p lc e s m args below meth c D ca ad0 A cx ad H locs ls dy hl => lv_ldiv cx.1.1 cx.1.2.1 hd hne (k p lc e s m args below meth c D ca ad0 A cx ad H locs ls dy hl)
theorem am_lrem {x y : Int64} (hne : ¬ y = 0) (hd : decode M.2.1 pc = .ok (.lrem, 1)) (k : am_OK M X Q g h (pc + 1) l (.long (x - x / y * y) :: st)) : am_OK M X Q g h pc l (.long y :: .long x :: st) :=
  fun p lc e s m args below meth c D ca ad0 A cx ad H locs ls dy hl => lv_lrem cx.1.1 cx.1.2.1 hd hne (k p lc e s m args below meth c D ca ad0 A cx ad H locs ls dy hl)
theorem am_ineg {x : Int32} (hd : decode M.2.1 pc = .ok (.ineg, 1)) (k : am_OK M X Q g h (pc + 1) l (.int (-x) :: st)) : am_OK M X Q g h pc l (.int x :: st) :=
  fun p lc e s m args below meth c D ca ad0 A cx ad H locs ls dy hl => lv_ineg cx.1.1 cx.1.2.1 hd (k p lc e s m args below meth c D ca ad0 A cx ad H locs ls dy hl)
theorem am_lneg {x : Int64} (hd : decode M.2.1 pc = .ok (.lneg, 1)) (k : am_OK M X Q g h (pc + 1) l (.long (-x) :: st)) : am_OK M X Q g h pc l (.long x :: st) :=
  fun p lc e s m args below meth c D ca ad0 A cx ad H locs ls dy hl => lv_lneg cx.1.1 cx.1.2.1 hd (k p lc e s m args below meth c D ca ad0 A cx ad H locs ls dy hl)
theorem am_i2l {x : Int32} (hd : decode M.2.1 pc = .ok (.i2l, 1)) (k : am_OK M X Q g h (pc + 1) l (.long (x.toInt64) :: st)) : am_OK M X Q g h pc l (.int x :: st) :=
  fun p lc e s m args below meth c D ca ad0 A cx ad H locs ls dy hl => lv_i2l cx.1.1 cx.1.2.1 hd rfl (k p lc e s m args below meth c D ca ad0 A cx ad H locs ls dy hl)
theorem am_l2i {x : Int64} (hd : decode M.2.1 pc = .ok (.l2i, 1)) (k : am_OK M X Q g h (pc + 1) l (.int (x.toInt32) :: st)) : am_OK M X Q g h pc l (.long x :: st) :=
  fun p lc e s m args below meth c D ca ad0 A cx ad H locs ls dy hl => lv_l2i cx.1.1 cx.1.2.1 hd rfl (k p lc e s m args below meth c D ca ad0 A cx ad H locs ls dy hl)
theorem am_i2c {x : Int32} (hd : decode M.2.1 pc = .ok (.i2c, 1)) (k : am_OK M X Q g h (pc + 1) l (.int ((x.toUInt32 % 65536).toInt32) :: st)) : am_OK M X Q g h pc l (.int x :: st) :=
  fun p lc e s m args below meth c D ca ad0 A cx ad H locs ls dy hl => lv_i2c cx.1.1 cx.1.2.1 hd rfl (k p lc e s m args below meth c D ca ad0 A cx ad H locs ls dy hl)
theorem am_lshl {x : Int64} {y : Int32} (hd : decode M.2.1 pc = .ok (.lshl, 1)) (k : am_OK M X Q g h (pc + 1) l (.long (x <<< (y.toInt64 &&& 63)) :: st)) : am_OK M X Q g h pc l (.int y :: .long x :: st) :=
  fun p lc e s m args below meth c D ca ad0 A cx ad H locs ls dy hl => lv_lshl cx.1.1 cx.1.2.1 hd rfl (k p lc e s m args below meth c D ca ad0 A cx ad H locs ls dy hl)
theorem am_lshr {x : Int64} {y : Int32} (hd : decode M.2.1 pc = .ok (.lshr, 1)) (k : am_OK M X Q g h (pc + 1) l (.long (x >>> (y.toInt64 &&& 63)) :: st)) : am_OK M X Q g h pc l (.int y :: .long x :: st) :=
  fun p lc e s m args below meth c D ca ad0 A cx ad H locs ls dy hl => lv_lshr cx.1.1 cx.1.2.1 hd rfl (k p lc e s m args below meth c D ca ad0 A cx ad H locs ls dy hl)
theorem am_dup {v : Value} (hv : v.category = 1) (hd : decode M.2.1 pc = .ok (.dup, 1)) (k : am_OK M X Q g h (pc + 1) l (v :: v :: st)) : am_OK M X Q g h pc l (v :: st) :=
  fun p lc e s m args below meth c D ca ad0 A cx ad H locs ls dy hl => lv_dup cx.1.1 cx.1.2.1 hd ((am_cv_cat ad v).trans hv) (k p lc e s m args below meth c D ca ad0 A cx ad H locs ls dy hl)
theorem am_pop {v : Value} (hv : v.category = 1) (hd : decode M.2.1 pc = .ok (.pop, 1)) (k : am_OK M X Q g h (pc + 1) l st) : am_OK M X Q g h pc l (v :: st) :=
  fun p lc e s m args below meth c D ca ad0 A cx ad H locs ls dy hl => lv_pop cx.1.1 cx.1.2.1 hd ((am_cv_cat ad v).trans hv) (k p lc e s m args below meth c D ca ad0 A cx ad H locs ls dy hl)
theorem am_pop2 {v : Value} (hv : v.category = 2) (hd : decode M.2.1 pc = .ok (.pop2, 1)) (k : am_OK M X Q g h (pc + 1) l st) : am_OK M X Q g h pc l (v :: st) :=
  fun p lc e s m args below meth c D ca ad0 A cx ad H locs ls dy hl => lv_pop2_2 cx.1.1 cx.1.2.1 hd ((am_cv_cat ad v).trans hv) (k p lc e s m args below meth c D ca ad0 A cx ad H locs ls dy hl)
theorem am_dup2 {v w : Value} (hv : v.category = 1) (hw : w.category = 1) (hd : decode M.2.1 pc = .ok (.dup2, 1)) (k : am_OK M X Q g h (pc + 1) l (v :: w :: v :: w :: st)) : am_OK M X Q g h pc l (v :: w :: st) :=
  fun p lc e s m args below meth c D ca ad0 A cx ad H locs ls dy hl => lv_dup2_11 cx.1.1 cx.1.2.1 hd ((am_cv_cat ad v).trans hv) ((am_cv_cat ad w).trans hw) (k p lc e s m args below meth c D ca ad0 A cx ad H locs ls dy hl)
theorem am_dup2l {v : Value} (hv : v.category = 2) (hd : decode M.2.1 pc = .ok (.dup2, 1)) (k : am_OK M X Q g h (pc + 1) l (v :: v :: st)) : am_OK M X Q g h pc l (v :: st) :=
  fun p lc e s m args below meth c D ca ad0 A cx ad H locs ls dy hl => lv_dup2_2 cx.1.1 cx.1.2.1 hd ((am_cv_cat ad v).trans hv) (k p lc e s m args below meth c D ca ad0 A cx ad H locs ls dy hl)
theorem am_icmp_eq {x y : Int32} {off : Int} {tgt : Nat} (ht : (pc : Int) + off = (tgt : Int)) (hd : decode M.2.1 pc = .ok (.if_icmp .eq off, 3)) (kt : x = y → am_OK M X Q g h tgt l st) (kf : ¬ x = y → am_OK M X Q g h (pc + 3) l st) : am_OK M X Q g h pc l (.int y :: .int x :: st) :=
  fun p lc e s m args below meth c D ca ad0 A cx ad H locs ls dy hl => lv_icmp_eq cx.1.1 cx.1.2.1 hd ht (fun c9 => kt c9 p lc e s m args below meth c D ca ad0 A cx ad H locs ls dy hl) (fun c9 => kf c9 p lc e s m args below meth c D ca ad0 A cx ad H locs ls dy hl)
theorem am_if_eq {x : Int32} {off : Int} {tgt : Nat} (ht : (pc : Int) + off = (tgt : Int)) (hd : decode M.2.1 pc = .ok (.ifCond .eq off, 3)) (kt : x = 0 → am_OK M X Q g h tgt l st) (kf : ¬ x = 0 → am_OK M X Q g h (pc + 3) l st) : am_OK M X Q g h pc l (.int x :: st) :=
  fun p lc e s m args below meth c D ca ad0 A cx ad H locs ls dy hl => lv_if_eq cx.1.1 cx.1.2.1 hd ht (fun c9 => kt c9 p lc e s m args below meth c D ca ad0 A cx ad H locs ls dy hl) (fun c9 => kf c9 p lc e s m args below meth c D ca ad0 A cx ad H locs ls dy hl)
theorem am_icmp_ne {x y : Int32} {off : Int} {tgt : Nat} (ht : (pc : Int) + off = (tgt : Int)) (hd : decode M.2.1 pc = .ok (.if_icmp .ne off, 3)) (kt : ¬ x = y → am_OK M X Q g h tgt l st) (kf : x = y → am_OK M X Q g h (pc + 3) l st) : am_OK M X Q g h pc l (.int y :: .int x :: st) :=
  fun p lc e s m args below meth c D ca ad0 A cx ad H locs ls dy hl => lv_icmp_ne cx.1.1 cx.1.2.1 hd ht (fun c9 => kt c9 p lc e s m args below meth c D ca ad0 A cx ad H locs ls dy hl) (fun c9 => kf c9 p lc e s m args below meth c D ca ad0 A cx ad H locs ls dy hl)
theorem am_if_ne {x : Int32} {off : Int} {tgt : Nat} (ht : (pc : Int) + off = (tgt : Int)) (hd : decode M.2.1 pc = .ok (.ifCond .ne off, 3)) (kt : ¬ x = 0 → am_OK M X Q g h tgt l st) (kf : x = 0 → am_OK M X Q g h (pc + 3) l st) : am_OK M X Q g h pc l (.int x :: st) :=
  fun p lc e s m args below meth c D ca ad0 A cx ad H locs ls dy hl => lv_if_ne cx.1.1 cx.1.2.1 hd ht (fun c9 => kt c9 p lc e s m args below meth c D ca ad0 A cx ad H locs ls dy hl) (fun c9 => kf c9 p lc e s m args below meth c D ca ad0 A cx ad H locs ls dy hl)
theorem am_icmp_lt {x y : Int32} {off : Int} {tgt : Nat} (ht : (pc : Int) + off = (tgt : Int)) (hd : decode M.2.1 pc = .ok (.if_icmp .lt off, 3)) (kt : x < y → am_OK M X Q g h tgt l st) (kf : ¬ x < y → am_OK M X Q g h (pc + 3) l st) : am_OK M X Q g h pc l (.int y :: .int x :: st) :=
  fun p lc e s m args below meth c D ca ad0 A cx ad H locs ls dy hl => lv_icmp_lt cx.1.1 cx.1.2.1 hd ht (fun c9 => kt c9 p lc e s m args below meth c D ca ad0 A cx ad H locs ls dy hl) (fun c9 => kf c9 p lc e s m args below meth c D ca ad0 A cx ad H locs ls dy hl)
theorem am_if_lt {x : Int32} {off : Int} {tgt : Nat} (ht : (pc : Int) + off = (tgt : Int)) (hd : decode M.2.1 pc = .ok (.ifCond .lt off, 3)) (kt : x < 0 → am_OK M X Q g h tgt l st) (kf : ¬ x < 0 → am_OK M X Q g h (pc + 3) l st) : am_OK M X Q g h pc l (.int x :: st) :=
  fun p lc e s m args below meth c D ca ad0 A cx ad H locs ls dy hl => lv_if_lt cx.1.1 cx.1.2.1 hd ht (fun c9 => kt c9 p lc e s m args below meth c D ca ad0 A cx ad H locs ls dy hl) (fun c9 => kf c9 p lc e s m args below meth c D ca ad0 A cx ad H locs ls dy hl)
theorem am_icmp_ge {x y : Int32} {off : Int} {tgt : Nat} (ht : (pc : Int) + off = (tgt : Int)) (hd : decode M.2.1 pc = .ok (.if_icmp .ge off, 3)) (kt : y ≤ x → am_OK M X Q g h tgt l st) (kf : ¬ y ≤ x → am_OK M X Q g h (pc + 3) l st) : am_OK M X Q g h pc l (.int y :: .int x :: st) :=
  fun p lc e s m args below meth c D ca ad0 A cx ad H locs ls dy hl => lv_icmp_ge cx.1.1 cx.1.2.1 hd ht (fun c9 => kt c9 p lc e s m args below meth c D ca ad0 A cx ad H locs ls dy hl) (fun c9 => kf c9 p lc e s m args below meth c D ca ad0 A cx ad H locs ls dy hl)
theorem am_if_ge {x : Int32} {off : Int} {tgt : Nat} (ht : (pc : Int) + off = (tgt : Int)) (hd : decode M.2.1 pc = .ok (.ifCond .ge off, 3)) (kt : 0 ≤ x → am_OK M X Q g h tgt l st) (kf : ¬ 0 ≤ x → am_OK M X Q g h (pc + 3) l st) : am_OK M X Q g h pc l (.int x :: st) :=
  fun p lc e s m args below meth c D ca ad0 A cx ad H locs ls dy hl => lv_if_ge cx.1.1 cx.1.2.1 hd ht (fun c9 => kt c9 p lc e s m args below meth c D ca ad0 A cx ad H locs ls dy hl) (fun c9 => kf c9 p lc e s m args below meth c D ca ad0 A cx ad H locs ls dy hl)
theorem am_icmp_gt {x y : Int32} {off : Int} {tgt : Nat} (ht : (pc : Int) + off = (tgt : Int)) (hd : decode M.2.1 pc = .ok (.if_icmp .gt off, 3)) (kt : y < x → am_OK M X Q g h tgt l st) (kf : ¬ y < x → am_OK M X Q g h (pc + 3) l st) : am_OK M X Q g h pc l (.int y :: .int x :: st) :=
  fun p lc e s m args below meth c D ca ad0 A cx ad H locs ls dy hl => lv_icmp_gt cx.1.1 cx.1.2.1 hd ht (fun c9 => kt c9 p lc e s m args below meth c D ca ad0 A cx ad H locs ls dy hl) (fun c9 => kf c9 p lc e s m args below meth c D ca ad0 A cx ad H locs ls dy hl)
theorem am_if_gt {x : Int32} {off : Int} {tgt : Nat} (ht : (pc : Int) + off = (tgt : Int)) (hd : decode M.2.1 pc = .ok (.ifCond .gt off, 3)) (kt : 0 < x → am_OK M X Q g h tgt l st) (kf : ¬ 0 < x → am_OK M X Q g h (pc + 3) l st) : am_OK M X Q g h pc l (.int x :: st) :=
  fun p lc e s m args below meth c D ca ad0 A cx ad H locs ls dy hl => lv_if_gt cx.1.1 cx.1.2.1 hd ht (fun c9 => kt c9 p lc e s m args below meth c D ca ad0 A cx ad H locs ls dy hl) (fun c9 => kf c9 p lc e s m args below meth c D ca ad0 A cx ad H locs ls dy hl)
theorem am_icmp_le {x y : Int32} {off : Int} {tgt : Nat} (ht : (pc : Int) + off = (tgt : Int)) (hd : decode M.2.1 pc = .ok (.if_icmp .le off, 3)) (kt : x ≤ y → am_OK M X Q g h tgt l st) (kf : ¬ x ≤ y → am_OK M X Q g h (pc + 3) l st) : am_OK M X Q g h pc l (.int y :: .int x :: st) :=
  fun p lc e s m args below meth c D ca ad0 A cx ad H locs ls dy hl => lv_icmp_le cx.1.1 cx.1.2.1 hd ht (fun c9 => kt c9 p lc e s m args below meth c D ca ad0 A cx ad H locs ls dy hl) (fun c9 => kf c9 p lc e s m args below meth c D ca ad0 A cx ad H locs ls dy hl)
theorem am_if_le {x : Int32} {off : Int} {tgt : Nat} (ht : (pc : Int) + off = (tgt : Int)) (hd : decode M.2.1 pc = .ok (.ifCond .le off, 3)) (kt : x ≤ 0 → am_OK M X Q g h tgt l st) (kf : ¬ x ≤ 0 → am_OK M X Q g h (pc + 3) l st) : am_OK M X Q g h pc l (.int x :: st) :=
  fun p lc e s m args below meth c D ca ad0 A cx ad H locs ls dy hl => lv_if_le cx.1.1 cx.1.2.1 hd ht (fun c9 => kt c9 p lc e s m args below meth c D ca ad0 A cx ad H locs ls dy hl) (fun c9 => kf c9 p lc e s m args below meth c D ca ad0 A cx ad H locs ls dy hl)
theorem am_goto {off : Int} {tgt : Nat} (ht : (pc : Int) + off = (tgt : Int)) (hd : decode M.2.1 pc = .ok (.goto off, 3)) (k : am_OK M X Q g h tgt l st) : am_OK M X Q g h pc l st :=
  fun p lc e s m args below meth c D ca ad0 A cx ad H locs ls dy hl => lv_goto cx.1.1 cx.1.2.1 hd ht (k p lc e s m args below meth c D ca ad0 A cx ad H locs ls dy hl)
theorem am_lcmp {x y : Int64} (hd : decode M.2.1 pc = .ok (.lcmp, 1)) (k : am_OK M X Q g h (pc + 1) l (.int (lg_cmp x y) :: st)) : am_OK M X Q g h pc l (.long y :: .long x :: st) :=
  fun p lc e s m args below meth c D ca ad0 A cx ad H locs ls dy hl => W.lcmp cx.1.1 cx.1.2.1 hd (k p lc e s m args below meth c D ca ad0 A cx ad H locs ls dy hl)
theorem am_lcmp_eq {x y : Int64} {off : Int} {tgt pc1 : Nat} (hd0 : decode M.2.1 pc = .ok (.lcmp, 1)) (h1 : pc + 1 = pc1) (ht : (pc1 : Int) + off = (tgt : Int)) (hd : decode M.2.1 pc1 = .ok (.ifCond .eq off, 3)) (kt : x = y → am_OK M X Q g h tgt l st) (kf : ¬ x = y → am_OK M X Q g h (pc1 + 3) l st) : am_OK M X Q g h pc l (.long y :: .long x :: st) := by
  subst h1
  exact am_lcmp hd0 (am_if_eq ht hd (fun c9 => kt ((lg_cmp_eq x y).mp c9)) (fun c9 => kf ((not_congr (lg_cmp_eq x y)).mp c9)))
theorem am_lcmp_ne {x y : Int64} {off : Int} {tgt pc1 : Nat} (hd0 : decode M.2.1 pc = .ok (.lcmp, 1)) (h1 : pc + 1 = pc1) (ht : (pc1 : Int) + off = (tgt : Int)) (hd : decode M.2.1 pc1 = .ok (.ifCond .ne off, 3)) (kt : ¬ x = y → am_OK M X Q g h tgt l st) (kf : x = y → am_OK M X Q g h (pc1 + 3) l st) : am_OK M X Q g h pc l (.long y :: .long x :: st) := by
  subst h1
  exact am_lcmp hd0 (am_if_ne ht hd (fun c9 => kt ((not_congr (lg_cmp_eq x y)).mp c9)) (fun c9 => kf ((lg_cmp_eq x y).mp c9)))
theorem am_lcmp_lt {x y : Int64} {off : Int} {tgt pc1 : Nat} (hd0 : decode M.2.1 pc = .ok (.lcmp, 1)) (h1 : pc + 1 = pc1) (ht : (pc1 : Int) + off = (tgt : Int)) (hd : decode M.2.1 pc1 = .ok (.ifCond .lt off, 3)) (kt : x < y → am_OK M X Q g h tgt l st) (kf : ¬ x < y → am_OK M X Q g h (pc1 + 3) l st) : am_OK M X Q g h pc l (.long y :: .long x :: st) := by
  subst h1
  exact am_lcmp hd0 (am_if_lt ht hd (fun c9 => kt ((lg_cmp_lt x y).mp c9)) (fun c9 => kf ((not_congr (lg_cmp_lt x y)).mp c9)))
theorem am_lcmp_ge {x y : Int64} {off : Int} {tgt pc1 : Nat} (hd0 : decode M.2.1 pc = .ok (.lcmp, 1)) (h1 : pc + 1 = pc1) (ht : (pc1 : Int) + off = (tgt : Int)) (hd : decode M.2.1 pc1 = .ok (.ifCond .ge off, 3)) (kt : y ≤ x → am_OK M X Q g h tgt l st) (kf : ¬ y ≤ x → am_OK M X Q g h (pc1 + 3) l st) : am_OK M X Q g h pc l (.long y :: .long x :: st) := by
  subst h1
  exact am_lcmp hd0 (am_if_ge ht hd (fun c9 => kt ((lg_cmp_ge x y).mp c9)) (fun c9 => kf ((not_congr (lg_cmp_ge x y)).mp c9)))
theorem am_lcmp_gt {x y : Int64} {off : Int} {tgt pc1 : Nat} (hd0 : decode M.2.1 pc = .ok (.lcmp, 1)) (h1 : pc + 1 = pc1) (ht : (pc1 : Int) + off = (tgt : Int)) (hd : decode M.2.1 pc1 = .ok (.ifCond .gt off, 3)) (kt : y < x → am_OK M X Q g h tgt l st) (kf : ¬ y < x → am_OK M X Q g h (pc1 + 3) l st) : am_OK M X Q g h pc l (.long y :: .long x :: st) := by
  subst h1
  exact am_lcmp hd0 (am_if_gt ht hd (fun c9 => kt ((lg_cmp_gt x y).mp c9)) (fun c9 => kf ((not_congr (lg_cmp_gt x y)).mp c9)))
theorem am_lcmp_le {x y : Int64} {off : Int} {tgt pc1 : Nat} (hd0 : decode M.2.1 pc = .ok (.lcmp, 1)) (h1 : pc + 1 = pc1) (ht : (pc1 : Int) + off = (tgt : Int)) (hd : decode M.2.1 pc1 = .ok (.ifCond .le off, 3)) (kt : x ≤ y → am_OK M X Q g h tgt l st) (kf : ¬ x ≤ y → am_OK M X Q g h (pc1 + 3) l st) : am_OK M X Q g h pc l (.long y :: .long x :: st) := by
  subst h1
  exact am_lcmp hd0 (am_if_le ht hd (fun c9 => kt ((lg_cmp_le x y).mp c9)) (fun c9 => kf ((not_congr (lg_cmp_le x y)).mp c9)))
theorem am_ifnull0 {off : Int} {tgt : Nat} (ht : (pc : Int) + off = (tgt : Int)) (hd : decode M.2.1 pc = .ok (.ifnull off, 3)) (k : am_OK M X Q g h tgt l st) : am_OK M X Q g h pc l (.null :: st) :=
  fun p lc e s m args below meth c D ca ad0 A cx ad H locs ls dy hl => lv_ifnullN cx.1.1 cx.1.2.1 hd ht (k p lc e s m args below meth c D ca ad0 A cx ad H locs ls dy hl)
theorem am_ifnull1 {x : Nat} {off : Int} (hd : decode M.2.1 pc = .ok (.ifnull off, 3)) (k : am_OK M X Q g h (pc + 3) l st) : am_OK M X Q g h pc l (.ref x :: st) :=
  fun p lc e s m args below meth c D ca ad0 A cx ad H locs ls dy hl => lv_ifnull cx.1.1 cx.1.2.1 hd (k p lc e s m args below meth c D ca ad0 A cx ad H locs ls dy hl)
theorem am_ifnonnull1 {x : Nat} {off : Int} {tgt : Nat} (ht : (pc : Int) + off = (tgt : Int)) (hd : decode M.2.1 pc = .ok (.ifnonnull off, 3)) (k : am_OK M X Q g h tgt l st) : am_OK M X Q g h pc l (.ref x :: st) :=
  fun p lc e s m args below meth c D ca ad0 A cx ad H locs ls dy hl => lv_ifnonnull cx.1.1 cx.1.2.1 hd ht (k p lc e s m args below meth c D ca ad0 A cx ad H locs ls dy hl)
theorem am_ifnonnull0 {off : Int} (hd : decode M.2.1 pc = .ok (.ifnonnull off, 3)) (k : am_OK M X Q g h (pc + 3) l st) : am_OK M X Q g h pc l (.null :: st) :=
  fun p lc e s m args below meth c D ca ad0 A cx ad H locs ls dy hl => lv_ifnonnullN cx.1.1 cx.1.2.1 hd (k p lc e s m args below meth c D ca ad0 A cx ad H locs ls dy hl)
theorem am_lookup {dflt : Int} {ps : Array (Int × Int)} {len : Nat} {x : Int32} {off : Int} {tgt : Nat} (hp : (ps.toList.zip (ps.toList.drop 1)).all (fun (a, next) => a.1 < next.1) = true) (ho : Op.lookupswitch.offset ps.toList dflt x.toInt = off) (ht : (pc : Int) + off = (tgt : Int)) (hd : decode M.2.1 pc = .ok (.lookupswitch dflt ps, len)) (k : am_OK M X Q g h tgt l st) : am_OK M X Q g h pc l (.int x :: st) :=
  fun p lc e s m args below meth c D ca ad0 A cx ad H locs ls dy hl => lv_lookup cx.1.1 cx.1.2.1 hd hp ho ht (k p lc e s m args below meth c D ca ad0 A cx ad H locs ls dy hl)
theorem am_tableIn {dflt lo hi : Int} {offs : Array Int} {len : Nat} {x : Int32} {off : Int} {tgt : Nat} (h1 : ¬ x.toInt < lo) (h2 : ¬ hi < x.toInt) (ho : offs[(x.toInt - lo).toNat]? = some off) (ht : (pc : Int) + off = (tgt : Int)) (hd : decode M.2.1 pc = .ok (.tableswitch dflt lo hi offs, len)) (k : am_OK M X Q g h tgt l st) : am_OK M X Q g h pc l (.int x :: st) :=
  fun p lc e s m args below meth c D ca ad0 A cx ad H locs ls dy hl => lv_tableIn cx.1.1 cx.1.2.1 hd h1 h2 ho ht (k p lc e s m args below meth c D ca ad0 A cx ad H locs ls dy hl)
theorem am_tableOut {dflt lo hi : Int} {offs : Array Int} {len : Nat} {x : Int32} {tgt : Nat} (h1 : x.toInt < lo ∨ hi < x.toInt) (ht : (pc : Int) + dflt = (tgt : Int)) (hd : decode M.2.1 pc = .ok (.tableswitch dflt lo hi offs, len)) (k : am_OK M X Q g h tgt l st) : am_OK M X Q g h pc l (.int x :: st) :=
  fun p lc e s m args below meth c D ca ad0 A cx ad H locs ls dy hl => lv_tableOut cx.1.1 cx.1.2.1 hd h1 ht (k p lc e s m args below meth c D ca ad0 A cx ad H locs ls dy hl)
end AM2
end
section
/-! the world's rows: fields, arrays; returns; a contract's start -/
def am_u {α : Type} (f : Nat → Nat → α) (k j : Nat) (v : α) : Nat → Nat → α := fun a b => if a = k then (if b = j then v else f a b) else f a b
/-- nothing but what stands at (a, j) may differ -/
def am_but (h h' : am_H) (a j : Nat) : Prop := ∀ k i, (k ≠ a ∨ i ≠ j) → h'.1 k i = h.1 k i ∧ h'.2.1 k i = h.2.1 k i ∧ h'.2.2 k i = h.2.2 k i
theorem am_u_ne {α : Type} (f : Nat → Nat → α) {k j : Nat} {v : α} {a b : Nat} (h : a ≠ k ∨ b ≠ j) : am_u f k j v a b = f a b := by
  unfold am_u
  by_cases h1 : a = k
  · rw [if_pos h1, if_neg (h.resolve_left (fun q => q h1))]
  · rw [if_neg h1]
theorem am_u_eq {α : Type} (f : Nat → Nat → α) (k j : Nat) (v : α) : am_u f k j v k j = v := by
  unfold am_u
  rw [if_pos rfl, if_pos rfl]
theorem am_but_i {I : Nat → Nat → Int32} {L : Nat → Nat → Int64} {R : Nat → Nat → Option Nat} {a j : Nat} {x : Int32} : am_but (I, L, R) (am_u I a j x, L, R) a j := fun _ _ h => ⟨am_u_ne I h, rfl, rfl⟩
theorem am_but_l {I : Nat → Nat → Int32} {L : Nat → Nat → Int64} {R : Nat → Nat → Option Nat} {a j : Nat} {x : Int64} : am_but (I, L, R) (I, am_u L a j x, R) a j := fun _ _ h => ⟨rfl, am_u_ne L h, rfl⟩
theorem am_but_r {I : Nat → Nat → Int32} {L : Nat → Nat → Int64} {R : Nat → Nat → Option Nat} {a j : Nat} {x : Option Nat} : am_but (I, L, R) (I, L, am_u R a j x) a j := fun _ _ h => ⟨rfl, rfl, am_u_ne R h⟩
theorem am_fv_same {ad : Nat → Nat} {h h' : am_H} {k i : Nat} {ty : FieldType} (e : h'.1 k i = h.1 k i ∧ h'.2.1 k i = h.2.1 k i ∧ h'.2.2 k i = h.2.2 k i) : am_fv ad h' k ty i = am_fv ad h k ty i := by
  unfold am_fv
  cases ty <;> simp only [e.1, e.2.1, e.2.2]
theorem am_ce_same {ca : FieldType → ClassId} {ad : Nat → Nat} {h h' : am_H} {k : Nat} (e : ∀ i, h'.1 k i = h.1 k i ∧ h'.2.1 k i = h.2.1 k i ∧ h'.2.2 k i = h.2.2 k i) : am_ce ca ad h' k = am_ce ca ad h k := by
  have e1 : h'.1 k = h.1 k := funext fun i => (e i).1
  have e2 : h'.2.1 k = h.2.1 k := funext fun i => (e i).2.1
  have e3 : h'.2.2 k = h.2.2 k := funext fun i => (e i).2.2
  unfold am_ce
  cases am_lay k with
  | inl q =>
    obtain ⟨ty, n⟩ := q
    cases ty <;> simp only [am_ar, e1, e2, e3]
  | inr ci =>
    simp only [am_fv_same (e _)]
theorem am_wl_at {ca : FieldType → ClassId} {ad : Nat → Nat} {al : List Nat} {h : am_H} {a : Nat} (ha : a ∈ al) : ∃ q0 : Nat, al[q0]? = some a ∧ (am_wl ca ad al h)[q0]? = some (ad a, am_ce ca ad h a) := by
  obtain ⟨q0, hq⟩ := List.getElem?_of_mem ha
  exact ⟨q0, hq, by simp [am_wl, hq]⟩
theorem am_wl_set {ca : FieldType → ClassId} {ad : Nat → Nat} {al : List Nat} {h h' : am_H} {a q0 : Nat} (hn : al.Nodup) (hq : al[q0]? = some a) (e : ∀ k, k ≠ a → am_ce ca ad h' k = am_ce ca ad h k) : (am_wl ca ad al h).set q0 (ad a, am_ce ca ad h' a) = am_wl ca ad al h' := by
  apply List.ext_getElem?
  intro i
  simp only [am_wl]
  by_cases hi : i = q0
  · subst hi
    rw [List.getElem?_set_self (by rw [List.length_map]; exact (List.getElem?_eq_some_iff.mp hq).1), List.getElem?_map, hq]
    rfl
  · rw [List.getElem?_set_ne (Ne.symm hi), List.getElem?_map, List.getElem?_map]
    cases hk : al[i]? with
    | none => rfl
    | some k =>
      have hka : k ≠ a := by
        intro q
        subst q
        obtain ⟨h1, h2⟩ := List.getElem?_eq_some_iff.mp hk
        obtain ⟨h3, h4⟩ := List.getElem?_eq_some_iff.mp hq
        exact hi ((List.getElem_inj (h₀ := h1) (h₁ := h3) hn).mp (h2.trans h4.symm))
      simp only [Option.map_some, e k hka]
theorem am_ce_o {ca : FieldType → ClassId} {ad : Nat → Nat} {h : am_H} {a ci : Nat} (hy : am_lay a = .inr ci) : am_ce ca ad h a = .inr (ci, (List.range (am_N ci)).map fun j => am_fv ad h a (am_ty ci j) j) := by
  unfold am_ce
  rw [hy]
theorem am_ce_a {ca : FieldType → ClassId} {ad : Nat → Nat} {h : am_H} {a n : Nat} {ty : FieldType} (hy : am_lay a = .inl (ty, n)) : am_ce ca ad h a = .inl (ca ty, am_ar ad h a ty n) := by
  unfold am_ce
  rw [hy]
theorem am_but_ce {ca : FieldType → ClassId} {ad : Nat → Nat} {h h' : am_H} {a j : Nat} (e : am_but h h' a j) : ∀ k, k ≠ a → am_ce ca ad h' k = am_ce ca ad h k := fun _ hk => am_ce_same fun _ => e _ _ (Or.inl hk)
theorem am_fs_set {ad : Nat → Nat} {h h' : am_H} {a ci N j : Nat} {v : Value} (e : am_but h h' a j) (hv : am_fv ad h' a (am_ty ci j) j = v) : ((List.range N).map fun i => am_fv ad h a (am_ty ci i) i).set j v = (List.range N).map fun i => am_fv ad h' a (am_ty ci i) i := by
  apply List.ext_getElem?
  intro i
  by_cases hi : i = j
  · subst hi
    by_cases hl : i < N
    · rw [List.getElem?_set_self (by simpa using hl), List.getElem?_map, List.getElem?_range hl]
      simp [hv]
    · rw [List.getElem?_eq_none (by simpa using hl), List.getElem?_eq_none (by simpa using hl)]
  · rw [List.getElem?_set_ne (Ne.symm hi), List.getElem?_map, List.getElem?_map]
    cases hk : (List.range N)[i]? with
    | none => rfl
    | some k =>
      obtain ⟨h1, h2⟩ := List.getElem?_eq_some_iff.mp hk
      have h3 : k = i := by rw [← h2]; simp
      subst h3
      simp only [Option.map_some, am_fv_same (e a k (Or.inr hi))]
theorem am_uws {C : String} {T : u_T} {N : Nat} {w : Cond} (h : w ∈ u_ws C T N) : goodWord w = true := by
  obtain ⟨k, -, rfl⟩ := List.mem_map.mp h
  unfold u_lay
  split <;> rfl
section AM3
variable {M : am_M} {X : am_X} {Q : am_P} {g : am_G} {h : am_H} {pc : Nat} {l : List (Nat × Value)} {st : List Value}
theorem am_get {a ci j index : Nat} {C : String} {T : u_T} {N : Nat} {w : Value} (hc : am_cls ci C T N) (hy : am_lay a = .inr ci) (ha : a ∈ g.1) (hj : j < N) (hw : ∀ ad, am_fv ad h a (am_ty ci j) j = am_cv ad w) (hlk : Cond.fieldLink M.1.cls index (T j).1 (T j).2.1 (T j).2.2.1 ∈ lw_tbl) (hd : decode M.2.1 pc = .ok (.getfield index, 3)) (k : am_OK M X Q g h (pc + 3) l (w :: st)) : am_OK M X Q g h pc l (.ref a :: st) := by
  intro p lc e s m args below meth c D ca ad0 A cx ad H locs ls dy hl
  obtain ⟨q0, hq, he⟩ := am_wl_at (ca := ca) (ad := ad) (h := h) ha
  rw [am_ce_o hy, hc.2.1] at he
  refine va_get (D := D) (v := am_cv ad w) cx.1.1 cx.1.2.1 (Ts := am_ws M) cx.1.2.2.2.2 (fun w hw => am_tbl (hc.2.2.2.2 w hw) (am_uws hw)) cx.1.2.2.2.1 cx.2.2.2.1 dy.2.2.1 q0 he hc.1 j hj (cx.1.2.2.2.2 _ (am_tbl hlk)) (fun _ h9 => h9) ?_ hd (k p lc e s m args below meth c D ca ad0 A cx ad H locs ls dy hl)
  rw [List.getElem?_map, List.getElem?_range hj]
  simp [hw ad]
theorem am_put {h' : am_H} {a ci j index : Nat} {C : String} {T : u_T} {N : Nat} {w : Value} (hc : am_cls ci C T N) (hy : am_lay a = .inr ci) (ha : a ∈ g.1) (hj : j < N) (hb : am_but h h' a j) (hw : ∀ ad, am_fv ad h' a (am_ty ci j) j = am_cv ad w) (hfin : (T j).2.2.2 = false) (hfit : ∀ ad, narrow (am_ty ci j) (am_cv ad w) = am_cv ad w ∧ fits (am_ty ci j) (am_cv ad w) = true) (hlk : Cond.fieldLink M.1.cls index (T j).1 (T j).2.1 (T j).2.2.1 ∈ lw_tbl) (hd : decode M.2.1 pc = .ok (.putfield index, 3)) (k : am_OK M X Q g h' (pc + 3) l st) : am_OK M X Q g h pc l (w :: .ref a :: st) := by
  intro p lc e s m args below meth c D ca ad0 A cx ad H locs ls dy hl
  obtain ⟨q0, hq, he⟩ := am_wl_at (ca := ca) (ad := ad) (h := h) ha
  rw [am_ce_o hy, hc.2.1] at he
  refine va_put (D := D) cx.1.1 cx.1.2.1 (Ts := am_ws M) cx.1.2.2.2.2 (fun w hw => am_tbl (hc.2.2.2.2 w hw) (am_uws hw)) (am_ty ci) hc.2.2.1 hc.2.2.2.1 cx.1.2.2.2.1 cx.2.2.2.1 dy.2.2.1 dy.2.2.2.1 dy.2.2.2.2 q0 he hc.1 j hj (cx.1.2.2.2.2 _ (am_tbl hlk)) (fun _ h9 => h9) hfin (hc.2.2.1 j hj) (hfit ad).1 (hfit ad).2 (by simpa using hj) hd (fun H1 locs1 hP1 hD1 hS1 => ?_)
  have hset : (am_wl ca ad g.1 h).set q0 (ad a, .inr (ci, ((List.range N).map fun i => am_fv ad h a (am_ty ci i) i).set j (am_cv ad w))) = am_wl ca ad g.1 h' := by
    rw [am_fs_set hb (hw ad), ← hc.2.1, ← am_ce_o hy]
    exact am_wl_set dy.1 hq (am_but_ce hb)
  rw [hset] at hP1 hD1
  exact k p lc e s m args below meth c D ca ad0 A cx ad H1 locs1 ls ⟨dy.1, dy.2.1, hP1, hD1, hS1⟩ hl
theorem am_iald {a n : Nat} {i : Int32} (hy : am_lay a = .inl (.int, n)) (ha : a ∈ g.1) (hin : vp_in i n) (hd : decode M.2.1 pc = .ok (.iaload, 1)) (k : am_OK M X Q g h (pc + 1) l (.int (h.1 a i.toNatClampNeg) :: st)) : am_OK M X Q g h pc l (.int i :: .ref a :: st) := by
  intro p lc e s m args below meth c D ca ad0 A cx ad H locs ls dy hl
  obtain ⟨q0, hq, he⟩ := am_wl_at (ca := ca) (ad := ad) (h := h) ha
  rw [am_ce_a hy] at he
  exact va_iald cx.1.1 cx.1.2.1 cx.2.2.2.1 dy.2.2.1 q0 0 he rfl hin hd (k p lc e s m args below meth c D ca ad0 A cx ad H locs ls dy hl)
theorem am_zald {a n : Nat} {i : Int32} (hy : am_lay a = .inl (.boolean, n)) (ha : a ∈ g.1) (hin : vp_in i n) (hd : decode M.2.1 pc = .ok (.baload, 1)) (k : am_OK M X Q g h (pc + 1) l (.int (h.1 a i.toNatClampNeg) :: st)) : am_OK M X Q g h pc l (.int i :: .ref a :: st) := by
  intro p lc e s m args below meth c D ca ad0 A cx ad H locs ls dy hl
  obtain ⟨q0, hq, he⟩ := am_wl_at (ca := ca) (ad := ad) (h := h) ha
  rw [am_ce_a hy] at he
  exact va_zald cx.1.1 cx.1.2.1 cx.2.2.2.1 dy.2.2.1 q0 2 he rfl hin hd (k p lc e s m args below meth c D ca ad0 A cx ad H locs ls dy hl)
theorem am_lald {a n : Nat} {i : Int32} (hy : am_lay a = .inl (.long, n)) (ha : a ∈ g.1) (hin : vp_in i n) (hd : decode M.2.1 pc = .ok (.laload, 1)) (k : am_OK M X Q g h (pc + 1) l (.long (h.2.1 a i.toNatClampNeg) :: st)) : am_OK M X Q g h pc l (.int i :: .ref a :: st) := by
  intro p lc e s m args below meth c D ca ad0 A cx ad H locs ls dy hl
  obtain ⟨q0, hq, he⟩ := am_wl_at (ca := ca) (ad := ad) (h := h) ha
  rw [am_ce_a hy] at he
  exact va_lald cx.1.1 cx.1.2.1 cx.2.2.2.1 dy.2.2.1 q0 1 he rfl hin hd (k p lc e s m args below meth c D ca ad0 A cx ad H locs ls dy hl)
theorem am_arr_set {ca : FieldType → ClassId} {ad : Nat → Nat} {al : List Nat} {h h' : am_H} {a q0 n : Nat} {ty : FieldType} {x : vp_A} (hy : am_lay a = .inl (ty, n)) (hn : al.Nodup) (hq : al[q0]? = some a) (e : ∀ k, k ≠ a → am_ce ca ad h' k = am_ce ca ad h k) (hx : x = am_ar ad h' a ty n) : (am_wl ca ad al h).set q0 (ad a, .inl (ca ty, x)) = am_wl ca ad al h' := by
  rw [hx, ← am_ce_a hy]
  exact am_wl_set hn hq e
theorem am_u_at {α : Type} (f : Nat → Nat → α) (k j : Nat) (v : α) : am_u f k j v k = fun b => if b = j then v else f k b := by
  funext b
  simp [am_u]
theorem am_iast {I : Nat → Nat → Int32} {L : Nat → Nat → Int64} {R : Nat → Nat → Option Nat} {a n : Nat} {i x : Int32} (hy : am_lay a = .inl (.int, n)) (ha : a ∈ g.1) (hin : vp_in i n) (hd : decode M.2.1 pc = .ok (.iastore, 1)) (k : am_OK M X Q g (am_u I a i.toNatClampNeg x, L, R) (pc + 1) l st) : am_OK M X Q g (I, L, R) pc l (.int x :: .int i :: .ref a :: st) := by
  intro p lc e s m args below meth c D ca ad0 A cx ad H locs ls dy hl
  obtain ⟨q0, hq, he⟩ := am_wl_at (ca := ca) (ad := ad) (h := (I, L, R)) ha
  rw [am_ce_a hy] at he
  refine va_iast cx.1.1 cx.1.2.1 cx.2.2.2.1 dy.2.2.1 dy.2.2.2.1 dy.2.2.2.2 q0 0 he rfl hin hd (fun H1 locs1 hP1 hD1 hS1 => ?_)
  rw [am_arr_set (h' := (am_u I a i.toNatClampNeg x, L, R)) hy dy.1 hq (am_but_ce am_but_i) (by simp only [am_ar, am_u_at]; rfl)] at hP1 hD1
  exact k p lc e s m args below meth c D ca ad0 A cx ad H1 locs1 ls ⟨dy.1, dy.2.1, hP1, hD1, hS1⟩ hl
theorem am_zast {I : Nat → Nat → Int32} {L : Nat → Nat → Int64} {R : Nat → Nat → Option Nat} {a n : Nat} {i x : Int32} (hy : am_lay a = .inl (.boolean, n)) (ha : a ∈ g.1) (hin : vp_in i n) (hx : vp_nar .boolean x = x) (hd : decode M.2.1 pc = .ok (.bastore, 1)) (k : am_OK M X Q g (am_u I a i.toNatClampNeg x, L, R) (pc + 1) l st) : am_OK M X Q g (I, L, R) pc l (.int x :: .int i :: .ref a :: st) := by
  intro p lc e s m args below meth c D ca ad0 A cx ad H locs ls dy hl
  obtain ⟨q0, hq, he⟩ := am_wl_at (ca := ca) (ad := ad) (h := (I, L, R)) ha
  rw [am_ce_a hy] at he
  refine va_zast cx.1.1 cx.1.2.1 cx.2.2.2.1 dy.2.2.1 dy.2.2.2.1 dy.2.2.2.2 q0 2 he rfl hin hd (fun H1 locs1 hP1 hD1 hS1 => ?_)
  rw [hx, am_arr_set (h' := (am_u I a i.toNatClampNeg x, L, R)) hy dy.1 hq (am_but_ce am_but_i) (by simp only [am_ar, am_u_at]; rfl)] at hP1
  rw [hx, am_arr_set (h' := (am_u I a i.toNatClampNeg x, L, R)) hy dy.1 hq (am_but_ce am_but_i) (by simp only [am_ar, am_u_at]; rfl)] at hD1
  exact k p lc e s m args below meth c D ca ad0 A cx ad H1 locs1 ls ⟨dy.1, dy.2.1, hP1, hD1, hS1⟩ hl
theorem am_last {I : Nat → Nat → Int32} {L : Nat → Nat → Int64} {R : Nat → Nat → Option Nat} {a n : Nat} {i : Int32} {x : Int64} (hy : am_lay a = .inl (.long, n)) (ha : a ∈ g.1) (hin : vp_in i n) (hd : decode M.2.1 pc = .ok (.lastore, 1)) (k : am_OK M X Q g (I, am_u L a i.toNatClampNeg x, R) (pc + 1) l st) : am_OK M X Q g (I, L, R) pc l (.long x :: .int i :: .ref a :: st) := by
  intro p lc e s m args below meth c D ca ad0 A cx ad H locs ls dy hl
  obtain ⟨q0, hq, he⟩ := am_wl_at (ca := ca) (ad := ad) (h := (I, L, R)) ha
  rw [am_ce_a hy] at he
  refine va_last cx.1.1 cx.1.2.1 cx.2.2.2.1 dy.2.2.1 dy.2.2.2.1 dy.2.2.2.2 q0 1 he rfl hin hd (fun H1 locs1 hP1 hD1 hS1 => ?_)
  rw [am_arr_set (h' := (I, am_u L a i.toNatClampNeg x, R)) hy dy.1 hq (am_but_ce am_but_l) (by simp only [am_ar, am_u_at]; rfl)] at hP1 hD1
  exact k p lc e s m args below meth c D ca ad0 A cx ad H1 locs1 ls ⟨dy.1, dy.2.1, hP1, hD1, hS1⟩ hl
theorem am_fin {D : va_G} {ca : FieldType → ClassId} {ad0 ad : Nat → Nat} {A : Nat → Prop} {s t : State} {args : Array Value} {H : Heap} {locs : List Loc} {r : Option Value} (dy : am_DY M s D ca ad0 X.2.2.2 A g.1 h ad H locs) (ht : t.heap = H) (hq : Q r h g.1) : am_Qc D ca ad0 X.2.2.2 A Q args s (.returned (r.map (am_cv ad))) t :=
  ⟨⟨r, h, g.1, ad, rfl, hq, dy.1, dy.2.1, by rw [ht]; exact dy.2.2.1, dy.2.2.2.1⟩, dy.2.2.2.2.F ht⟩
theorem am_iret {x : Int32} {ty : FieldType} (hr : M.2.2.2 = some ty) (hn : narrow ty (.int x) = .int x) (h1 : g.2.1 ≤ X.2.1) (h2 : g.2.2 ≤ X.2.2.1) (hd : decode M.2.1 pc = .ok (.ireturn, 1)) (hq : Q (some (.int x)) h g.1) : am_OK M X Q g h pc l [.int x] := by
  intro p lc e s m args below meth c D ca ad0 A cx ad H locs ls dy hl
  exact W.widen h1 h2 (W.zret cx.1.1 cx.1.2.1 (cx.2.1.trans hr) hn (fun t ht _ => am_fin dy ht hq) (fun q hq => dy.2.2.2.2.2.2 q hq) hd (hlocks := cx.2.2.1))
theorem am_lret {x : Int64} (hr : M.2.2.2 = some .long) (h1 : g.2.1 ≤ X.2.1) (h2 : g.2.2 ≤ X.2.2.1) (hd : decode M.2.1 pc = .ok (.lreturn, 1)) (hq : Q (some (.long x)) h g.1) : am_OK M X Q g h pc l [.long x] := by
  intro p lc e s m args below meth c D ca ad0 A cx ad H locs ls dy hl
  exact W.widen h1 h2 (W.lret cx.1.1 cx.1.2.1 (cx.2.1.trans hr) (fun t ht _ => am_fin dy ht hq) (fun q hq => dy.2.2.2.2.2.2 q hq) hd (hlocks := cx.2.2.1))
theorem am_vret (hr : M.2.2.2 = none) (h1 : g.2.1 ≤ X.2.1) (h2 : g.2.2 ≤ X.2.2.1) (hd : decode M.2.1 pc = .ok (.return_, 1)) (hq : Q none h g.1) : am_OK M X Q g h pc l [] := by
  intro p lc e s m args below meth c D ca ad0 A cx ad H locs ls dy hl
  exact W.widen h1 h2 (W.vret cx.1.1 cx.1.2.1 (cx.2.1.trans hr) (fun t ht _ => am_fin dy ht hq) (fun q hq => dy.2.2.2.2.2.2 q hq) hd (hlocks := cx.2.2.1))
theorem am_aret {a : Nat} {C : String} (hr : M.2.2.2 = some (.object C)) (h1 : g.2.1 ≤ X.2.1) (h2 : g.2.2 ≤ X.2.2.1) (hd : decode M.2.1 pc = .ok (.areturn, 1)) (hq : Q (some (.ref a)) h g.1) : am_OK M X Q g h pc l [.ref a] := by
  intro p lc e s m args below meth c D ca ad0 A cx ad H locs ls dy hl
  exact W.widen h1 h2 (W.aret cx.1.1 cx.1.2.1 (cx.2.1.trans hr) (Or.inl ⟨C, rfl⟩) (Or.inr ⟨_, rfl⟩) (fun t ht _ => am_fin dy ht hq) (fun q hq => dy.2.2.2.2.2.2 q hq) hd (hlocks := cx.2.2.1))
end AM3
end
section
/-! calls; a contract's start; what the tables say of all words -/
theorem am_F.kept {ad0 ad : Nat → Nat} {A B : Nat → Prop} {s U : State} {H0 H : Heap} (h : am_F ad0 A s H0) (hW : s.WarmedH U.vm) (h9 : ad 900 = ad0 900) (hq : ∀ a : Nat, a < H0.size → ¬ A a → H[a]? = H0[a]?) (hB : ∀ q, B q → A q) : am_F ad B U H := by
  obtain ⟨h1, h2, ⟨aV, h3⟩, h4, h5⟩ := h
  refine ⟨va_AO.moved hW.alike h1, by rw [h9]; exact h2.warm hW, ⟨aV, ?_⟩, ((h4.moved hW.alike).kept hq).narrow hB, fun q hq => (h5 q hq).warmM hW⟩
  rw [h9]
  exact ((h3.moved hW.alike).kept hq).narrow hB
theorem am_F.same {ad : Nat → Nat} {A : Nat → Prop} {u U : State} {H : Heap} (h : am_F ad A u H) (hv : U.vm = u.vm) : am_F ad A U H := by
  obtain ⟨h1, h2, ⟨aV, h3⟩, h4, h5⟩ := h
  have ha : u.vm.Alike U.vm := by rw [hv]; exact Vm.Alike.refl _
  exact ⟨va_AO.moved ha h1, h2.same hv, ⟨aV, h3.moved ha⟩, h4.moved ha, fun q hq => (h5 q hq).same rfl hv.symm⟩
theorem am_goodIn {M N : am_M} (h : Cond.code N.1 N.2.1 N.2.2.1 N.2.2.2 ∈ lw_tbl) : GoodIn (am_ws M) (am_ws N) := by
  intro w hw
  have hw' : w ∈ lw_tbl ∧ goodWord w = true := by
    rcases List.mem_cons.mp hw with e | e
    · rw [e]; exact ⟨h, rfl⟩
    · exact List.mem_filter.mp e
  exact ⟨am_tbl hw'.1 hw'.2, good_of_word hw'.2⟩
theorem am_args_cl (ad : Nat → Nat) : ∀ (as : List Value) (i : Nat), lv_args i (as.map (am_cv ad)) = am_cl ad (lv_args i as) := by
  intro as
  induction as with
  | nil => intro i; rfl
  | cons v t ih =>
    intro i
    show (i, am_cv ad v) :: lv_args (if (am_cv ad v).category = 2 then i + 2 else i + 1) (t.map (am_cv ad)) = _
    rw [ih, am_cv_cat]
    rfl
theorem am_sl_len (ad : Nat → Nat) (as : List Value) : (lg_sl (as.map (am_cv ad))).length = (lg_sl as).length := by
  induction as with
  | nil => rfl
  | cons v t ih =>
    simp only [lg_sl, List.map_cons, List.flatMap_cons, List.length_append, am_cv_cat] at ih ⊢
    rw [ih]
    split <;> rfl
theorem am_intro {M : am_M} {d mc ms : Nat} {Z : Nat → Prop} {al : List Nat} {as : List Value} {h : am_H} {Q : am_P} (hy : plainName M.1.cls = true) (hs : (lg_sl as).length ≤ M.2.2.1) (k : am_OK M (d, mc, ms, Z) Q (al, 0, 0) h 0 (lv_args 0 as) []) : am_C M d mc ms Z al as h Q := by
  intro lc D ca ad sz hn
  refine Met.ofW (cc := M.2.1) (maxL := M.2.2.1) (ret := M.2.2.2) hy rfl ?_
  intro p e s m args below meth c s₁ B hml hv
  obtain ⟨rfl, hsz, hP, hK, hD0, hF⟩ := hv
  have hts := atoms_spec (ws := am_ws M) B.pre
  have hown : s.vm.findClass M.1.cls = some m.cls := findClass_of_methodNamed B.named
  subst hsz
  have hD := hD0.self (sz := s.heap.size)
  have hl := lv_entry (as.map (am_cv ad)) (n := M.2.2.1) (by rw [am_sl_len]; exact hs)
  rw [lg_entry_eq]
  rw [am_args_cl] at hl
  exact k p lc e s m _ below meth c D ca ad _ ⟨⟨B.exec, B.bytes, hml, hown, hts⟩, B.returns, B.notSynchronized, hK, fun q h => Or.inr h, (name_of_methodNamed B.named B.method).1, hF⟩ ad _ [] _ ⟨hn, fun _ _ => rfl, hP, hD, va_S.rf⟩ hl
section AM4
variable {M : am_M} {X : am_X} {Q : am_P} {g : am_G} {h : am_H} {pc : Nat} {l : List (Nat × Value)} {st : List Value}
/-- what a caller needs of the callee's post: references on its stack and in its locals stay what they are -/
def am_keep (Z : Nat → Prop) (l : List (Nat × Value)) (st : List Value) : Prop := (∀ q ∈ l, ∀ k, q.2 = .ref k → Z k) ∧ ∀ v ∈ st, ∀ k, v = .ref k → Z k
theorem am_cv_keep {ad ad' : Nat → Nat} {Z : Nat → Prop} (ha : am_ag Z ad' ad) {v : Value} (hv : ∀ k, v = .ref k → Z k) : am_cv ad' v = am_cv ad v := by
  cases v with
  | ref k => simp only [am_cv, ha k (Or.inr (hv k rfl))]
  | _ => rfl
theorem am_inA {p : Program} {s : State} {m : MethodId} {args : Array Value} {meth : Method} {c : Code} {D : va_G} {ca : FieldType → ClassId} {ad0 : Nat → Nat} {A : Nat → Prop} (cx : am_CX M p s m args meth c D ca ad0 A) {ad : Nat → Nat} {H : Heap} {locs : List Loc} {Z : Nat → Prop} {al : List Nat} (dy : am_DY M s D ca ad0 Z A al h ad H locs) : ∀ q, va_A (am_wl ca ad al h) H.size q → A q := by
  intro q hq
  rcases hq with ⟨k, e, hq⟩ | hq
  · exact dy.2.2.2.1.2 k (q, e) hq
  · exact cx.2.2.2.2.1 q (Nat.le_trans dy.2.2.2.2.1 hq)
theorem am_FU {p : Program} {s U : State} {m : MethodId} {args : Array Value} {meth : Method} {c : Code} {D : va_G} {ca : FieldType → ClassId} {ad0 : Nat → Nat} {A : Nat → Prop} (cx : am_CX M p s m args meth c D ca ad0 A) {ad : Nat → Nat} {H : Heap} {locs : List Loc} {Z : Nat → Prop} {al : List Nat} (dy : am_DY M s D ca ad0 Z A al h ad H locs) (hU : U.heap = H) (hW : s.WarmedH U.vm) : am_F ad (va_A (am_wl ca ad al h) H.size) U U.heap :=
  am_F.kept cx.2.2.2.2.2.2 hW (dy.2.1 900 (Or.inl rfl)) (fun q h1 h2 => by rw [hU]; exact dy.2.2.2.2.2.1 q h1 h2) (am_inA cx dy)
theorem am_back {Z' : Nat → Prop} {mc' ms' : Nat} {st0 : List Value} {Q' : am_P} (hkeep : am_keep Z' l st) (hZ : ∀ k, X.2.2.2 k → Z' k)
    (k : ∀ (r : Option Value) (h' : am_H) (al' : List Nat), Q' r h' al' → am_OK M X Q (al', g.2.1 + mc', g.2.2 + ms') h' (pc + 3) l (r.toList ++ st))
    {p : Program} {lc : Launch} {e : Env} {s : State} {m : MethodId} {args : Array Value} {below : List Frame} {meth : Method} {c : Code} {D : va_G} {ca : FieldType → ClassId} {ad0 : Nat → Nat} {A : Nat → Prop} (cx : am_CX M p s m args meth c D ca ad0 A) {ad : Nat → Nat} {H : Heap} {locs : List Loc} {ls : Array Slot} {a : Array Value}
    (dy : am_DY M s D ca ad0 X.2.2.2 A g.1 h ad H locs) (hl : lv_has ls M.2.2.1 (am_cl ad l))
    (hr : va_Run p lc e (am_rm X.1 X.2.1 X.2.2.1) s m args below meth c H locs g.2.1 g.2.2 mc' ms' (F0 m pc ls st0) (st.map (am_cv ad)) (am_Qc D ca ad Z' (va_A (am_wl ca ad g.1 h) H.size) Q' a) (va_A (am_wl ca ad g.1 h) H.size)) :
    W p lc e (am_rm X.1 X.2.1 X.2.2.1) s m args below meth c H locs g.2.1 g.2.2 (MQ below (am_Qc D ca ad0 X.2.2.2 A Q) args s X.2.1 X.2.2.1 A) (F0 m pc ls st0) := by
  intro T hT XS
  obtain ⟨v, st₀, t, T', L, h0, X', hL, e1, e2, ⟨⟨r, h', al', ad', hv, hq, hnd, hag, hP', hD'⟩, hz, hk⟩, stp⟩ := hr T hT XS
  cases hv
  rw [h0] at hz hk
  have hF := am_inA cx dy
  have hcl : am_cl ad' l = am_cl ad l := by
    unfold am_cl
    apply List.map_congr_left
    intro q hq
    rw [am_cv_keep hag (hkeep.1 q hq)]
  have hst : st.map (am_cv ad') = st.map (am_cv ad) := List.map_congr_left fun v hv => am_cv_keep hag (hkeep.2 v hv)
  have hstk : (Option.map (am_cv ad') r).toList ++ st.map (am_cv ad) = (r.toList ++ st).map (am_cv ad') := by
    rw [← hst]
    cases r <;> rfl
  obtain ⟨t2, a1, b1⟩ := k r h' al' hq p lc e s m args below meth c D ca ad0 A cx ad' T'.heap (locs ++ L) ls
    ⟨hnd, fun k hk => (hag k (hk.imp_right (hZ k))).trans (dy.2.1 k hk), by rw [e1]; exact hP', hD'.weaken (fun k q _ hq => hF q.1 hq),
      ⟨Nat.le_trans dy.2.2.2.2.1 (by rw [e1]; exact hz), fun q h1 h2 => by rw [e1, hk q (Nat.lt_of_lt_of_le h1 dy.2.2.2.2.1) (fun z => h2 (hF q z))]; exact dy.2.2.2.2.2.1 q h1 h2, fun q hq => by
        rcases List.mem_append.mp hq with h | h
        · exact dy.2.2.2.2.2.2 q h
        · exact hF _ (hL q h)⟩⟩ (by rw [hcl]; exact hl) T' rfl X'
  rw [← hstk] at a1
  exact ⟨t2, stp t2 a1, b1⟩
theorem am_blind {D : va_G} {ca : FieldType → ClassId} {ad : Nat → Nat} {al : List Nat} {av : List Value} {sz : Nat} : FrameBlind (va_Pc av (fun U => U.heap.size = sz ∧ va_P D vwCl (am_wl ca ad al h) U.heap ∧ va_K D vwCl (am_TY ca) U ∧ va_D (fun _ => True) (am_wl ca ad al h) ∧ am_F ad (va_A (am_wl ca ad al h) sz) U U.heap)) :=
  fun a U g mk q => by obtain ⟨q0, q1, qP, qK, qD, qF⟩ := q; exact ⟨q0, q1, qP, va_K.moved (u := U) (U := U.calling g mk a) (Vm.Alike.refl U.vm) qK, qD, qF.same rfl⟩
/-- what a call's word list, its number of arguments, its room must be -/
def am_cwd (N : am_M) (n : Nat) : Prop := Cond.code N.1 N.2.1 N.2.2.1 N.2.2.2 ∈ lw_tbl ∧ Cond.initialized N.1.cls ∈ lw_tbl ∧ (N.1.cls ≠ "java/lang/invoke/MethodHandle" ∧ N.1.cls ≠ "java/lang/invoke/VarHandle" ∧ (parseMethodDescriptor N.1.desc).map (fun d => d.parameters.length) = some n) ∧ N.2.2.1 ≤ 20
theorem am_callB {N : am_M} {d' mc' ms' n index : Nat} (hw : am_cwd N n) (hlk : Cond.methodLink M.1.cls index N.1 ∈ lw_tbl) (hd : d' + 1 ≤ X.1)
    {p : Program} {s : State} {m : MethodId} {args : Array Value} {meth : Method} {c : Code} {D : va_G} {ca : FieldType → ClassId} {ad0 : Nat → Nat} {A : Nat → Prop} (cx : am_CX M p s m args meth c D ca ad0 A) :
    CallB (am_rm X.1 X.2.1 X.2.2.1) s args M.1.cls index N.1 N.2.1 N.2.2.1 N.2.2.2 (am_ws N) (am_rm d' mc' ms') mc' ms' n := by
  refine callB_of (Ts := am_ws M) n cx.1.2.2.2.2 (am_goodIn hw.1) rfl rfl rfl (cx.1.2.2.2.2 _ (am_tbl hw.2.1)) (cx.1.2.2.2.2 _ (am_tbl hlk)) hw.2.2.1 ⟨hd, ?_⟩
  show 8 + (N.2.2.1 + 11) + 40 * d' ≤ 40 * X.1
  have := hw.2.2.2
  omega
theorem am_invV {N : am_M} {Z' : Nat → Prop} {d' mc' ms' n index b ci : Nat} {C : String} {T : u_T} {NN : Nat} {as : List Value} {Q' : am_P} (hM : am_C N d' mc' ms' Z' g.1 (.ref b :: as) h Q') (hw : am_cwd N n) (hlk : Cond.methodLink M.1.cls index N.1 ∈ lw_tbl) (hin : Cond.instanceMethod N.1 ∈ lw_tbl) (hse : Cond.selects N.1.cls N.1 N.1 ∈ lw_tbl) (hcl : am_cls ci C T NN) (hC : N.1.cls = C) (hy : am_lay b = .inr ci) (hb : b ∈ g.1) (hn : as.length = n) (hd' : d' + 1 ≤ X.1) (hmc : g.2.1 + mc' ≤ X.2.1) (hms : g.2.2 + ms' ≤ X.2.2.1)
    (hst : (st.map fun v => v.category).sum ≤ 8) (hkeep : am_keep Z' l st) (hZ : ∀ k, X.2.2.2 k → Z' k) (hd : decode M.2.1 pc = .ok (.invokevirtual index, 3))
    (k : ∀ (r : Option Value) (h' : am_H) (al' : List Nat), Q' r h' al' → am_OK M X Q (al', g.2.1 + mc', g.2.2 + ms') h' (pc + 3) l (r.toList ++ st)) : am_OK M X Q g h pc l (as.reverse ++ .ref b :: st) := by
  intro p lc e s m args below meth c D ca ad0 A cx ad H locs ls dy hl
  obtain ⟨q0, hq, he⟩ := am_wl_at (ca := ca) (ad := ad) (h := h) hb
  rw [am_ce_o hy] at he
  have hts := cx.1.2.2.2.2
  refine am_back hkeep hZ k cx dy hl (va_runV (C := C) (b := ad b) (As := as.map (am_cv ad)) cx.1 (hM lc D ca ad H.size dy.1) ⟨am_callB hw hlk hd' cx, hts _ (am_tbl hin), hts _ (am_tbl (by rw [← hC]; exact hse))⟩ ⟨am_blind, va_recv cx.2.2.2.1 dy.2.2.1 hcl.1 he, fun U hU hW => ⟨by simp [am_cv], by rw [hU], by rw [hU]; exact dy.2.2.1, va_K.moved hW.alike cx.2.2.2.1, dy.2.2.2.1.weaken (fun _ _ _ _ => trivial), am_FU cx dy hU hW⟩⟩ rfl (by simp [hn]) hl.1 (by simp [am_cv]) (lv_room (by simpa [am_cv_cat, Function.comp_def] using hst)) hd ⟨hmc, hms⟩)
theorem am_invS {N : am_M} {Z' : Nat → Prop} {d' mc' ms' n index : Nat} {as : List Value} {Q' : am_P} (hM : am_C N d' mc' ms' Z' g.1 as h Q') (hw : am_cwd N n) (hlk : Cond.methodLink M.1.cls index N.1 ∈ lw_tbl) (hsta : Cond.static N.1 ∈ lw_tbl) (hn : as.length = n) (hd' : d' + 1 ≤ X.1) (hmc : g.2.1 + mc' ≤ X.2.1) (hms : g.2.2 + ms' ≤ X.2.2.1)
    (hst : (st.map fun v => v.category).sum ≤ 8) (hkeep : am_keep Z' l st) (hZ : ∀ k, X.2.2.2 k → Z' k) (hd : decode M.2.1 pc = .ok (.invokestatic index, 3))
    (k : ∀ (r : Option Value) (h' : am_H) (al' : List Nat), Q' r h' al' → am_OK M X Q (al', g.2.1 + mc', g.2.2 + ms') h' (pc + 3) l (r.toList ++ st)) : am_OK M X Q g h pc l (as.reverse ++ st) := by
  intro p lc e s m args below meth c D ca ad0 A cx ad H locs ls dy hl
  have hts := cx.1.2.2.2.2
  refine am_back hkeep hZ k cx dy hl (va_runS (As := as.map (am_cv ad)) cx.1 (hM lc D ca ad H.size dy.1) ⟨am_callB hw hlk hd' cx, hts _ (am_tbl hsta)⟩ ⟨am_blind, fun U hU hW => ⟨by simp, by rw [hU], by rw [hU]; exact dy.2.2.1, va_K.moved hW.alike cx.2.2.2.1, dy.2.2.2.1.weaken (fun _ _ _ _ => trivial), am_FU cx dy hU hW⟩⟩ rfl (by simp [hn]) hl.1 (by simp) (lv_room (by simpa [am_cv_cat, Function.comp_def] using hst)) hd ⟨hmc, hms⟩)
theorem am_invI {N : am_M} {Z' : Nat → Prop} {d' mc' ms' n index b : Nat} {as : List Value} {Q' : am_P} (hM : am_C N d' mc' ms' Z' g.1 (.ref b :: as) h Q') (hw : am_cwd N n) (hret : N.2.2.2 = none) (hlk : Cond.methodLink M.1.cls index N.1 ∈ lw_tbl) (hin : Cond.instanceMethod N.1 ∈ lw_tbl) (hy1 : N.1.name = "<init>") (hn : as.length = n) (hd' : d' + 1 ≤ X.1) (hmc : g.2.1 + mc' ≤ X.2.1) (hms : g.2.2 + ms' ≤ X.2.2.1)
    (hst : (st.map fun v => v.category).sum ≤ 8) (hkeep : am_keep Z' l st) (hZ : ∀ k, X.2.2.2 k → Z' k) (hd : decode M.2.1 pc = .ok (.invokespecial index, 3))
    (k : ∀ (r : Option Value) (h' : am_H) (al' : List Nat), Q' r h' al' → am_OK M X Q (al', g.2.1 + mc', g.2.2 + ms') h' (pc + 3) l (r.toList ++ st)) : am_OK M X Q g h pc l (as.reverse ++ .ref b :: st) := by
  intro p lc e s m args below meth c D ca ad0 A cx ad H locs ls dy hl
  have hts := cx.1.2.2.2.2
  have hB := am_callB (mc' := mc') (ms' := ms') hw hlk hd' cx
  rw [hret] at hB
  refine am_back hkeep hZ k cx dy hl (va_runI (b := ad b) (As := as.map (am_cv ad)) cx.1 (hM lc D ca ad H.size dy.1) ⟨hB, hy1, hts _ (am_tbl hin)⟩ ⟨am_blind, fun U hU hW => ⟨by simp [am_cv], by rw [hU], by rw [hU]; exact dy.2.2.1, va_K.moved hW.alike cx.2.2.2.1, dy.2.2.2.1.weaken (fun _ _ _ _ => trivial), am_FU cx dy hU hW⟩⟩ rfl (by simp [hn]) hl.1 (by simp [am_cv]) (lv_room (by simpa [am_cv_cat, Function.comp_def] using hst)) hd ⟨hmc, hms⟩)
end AM4
end
section
/-! what the fund's code asks of the JDK; objects and rows that are made -/
def am_cp {α : Type} (f : Nat → Nat → α) (dst src n : Nat) : Nat → Nat → α := fun a b => if a = dst then (if b < n then f src b else f dst b) else f a b
def am_z {α : Type} (z : α) (f : Nat → Nat → α) (k : Nat) : Nat → Nat → α := fun a b => if a = k then z else f a b
def am_nr (R : Nat → Nat → Option Nat) (k : Nat) : Prop := ∀ a j, R a j ≠ some k
theorem am_nr_u {R : Nat → Nat → Option Nat} {k a j b : Nat} (h : am_nr R k) (hb : b ≠ k) : am_nr (am_u R a j (some b)) k := by
  intro x y
  unfold am_u
  split
  · split
    · intro q; exact hb (Option.some.inj q)
    · exact h x y
  · exact h x y
theorem am_nr_z {R : Nat → Nat → Option Nat} {k a : Nat} (h : am_nr R k) : am_nr (am_z none R a) k := by
  intro x y
  unfold am_z
  split
  · intro q; cases q
  · exact h x y
theorem am_map_ne {o : Option Nat} {ad : Nat → Nat} {k q : Nat} (h : o ≠ some k) : o.map (fun j => if j = k then q else ad j) = o.map ad := by
  cases o with
  | none => rfl
  | some j => simp only [Option.map_some, if_neg (fun e => h (congrArg some e))]
theorem am_fv_ad {ad : Nat → Nat} {h : am_H} {k q a j : Nat} {ty : FieldType} (hR : am_nr h.2.2 k) : am_fv (fun j => if j = k then q else ad j) h a ty j = am_fv ad h a ty j := by
  unfold am_fv
  cases ty <;> simp only [am_map_ne (hR _ _)]
theorem am_ce_ad {ca : FieldType → ClassId} {ad : Nat → Nat} {h : am_H} {k q a : Nat} (hR : am_nr h.2.2 k) : am_ce ca (fun j => if j = k then q else ad j) h a = am_ce ca ad h a := by
  unfold am_ce
  cases am_lay a with
  | inl x =>
    obtain ⟨ty, n⟩ := x
    cases ty <;> simp only [am_ar, am_map_ne (hR _ _)]
  | inr ci => simp only [am_fv_ad hR]
theorem am_wl_ad {ca : FieldType → ClassId} {ad : Nat → Nat} {al : List Nat} {h h' : am_H} {k q : Nat} (hk : k ∉ al) (hR : am_nr h.2.2 k) (he : ∀ a, a ≠ k → am_ce ca (fun j => if j = k then q else ad j) h' a = am_ce ca (fun j => if j = k then q else ad j) h a) : am_wl ca (fun j => if j = k then q else ad j) al h' = am_wl ca ad al h := by
  unfold am_wl
  apply List.map_congr_left
  intro a ha
  have hak : a ≠ k := fun e => hk (e ▸ ha)
  simp only [he a hak, am_ce_ad hR, if_neg hak]
section AM5
variable {M : am_M} {X : am_X} {Q : am_P} {g : am_G} {h : am_H} {pc : Nat} {l : List (Nat × Value)} {st : List Value}
theorem am_objInit {a index : Nat} (hlk : Cond.methodLink M.1.cls index Lib.objectInit ∈ lw_tbl) (hin : Cond.instanceMethod Lib.objectInit ∈ lw_tbl) (hco : Cond.code Lib.objectInit ⟨#[0xb1]⟩ 1 none ∈ lw_tbl) (hst : (st.map fun v => v.category).sum ≤ 8) (hx : 1 ≤ X.1) (hd : decode M.2.1 pc = .ok (.invokespecial index, 3)) (k : am_OK M X Q g h (pc + 3) l st) : am_OK M X Q g h pc l (.ref a :: st) := by
  intro p lc e s m args below meth c D ca ad0 A cx ad H locs ls dy hl
  have hts := cx.1.2.2.2.2
  refine W.objInit cx.1.1 cx.1.2.1 cx.1.2.2.2.1 (hts _ (am_tbl hlk)) (hts _ (am_tbl hin)) (hts _ (am_tbl hco)) rfl (by rw [cx.1.2.2.1]; exact hl.1) rfl hd hx ?_ (k p lc e s m args below meth c D ca ad0 A cx ad H locs ls dy hl)
  have := lv_room (pc := pc) (m := m) (ls := ls) (rest := []) (st := st.map (am_cv ad)) (by simpa [am_cv_cat, Function.comp_def] using hst)
  show _ + 12 ≤ 40 * X.1
  simp [am_cv_cat, Function.comp_def, JFrame.monitorRoom] at this ⊢
  omega
theorem am_maxl {x y : Int64} {index : Nat} (hlk : Cond.methodLink M.1.cls index Lib.MathLoose.max_long.x ∈ lw_tbl) (hsta : Cond.static Lib.MathLoose.max_long.x ∈ lw_tbl) (hini : Cond.initialized "java/lang/Math" ∈ lw_tbl) (hco : Cond.code Lib.MathLoose.max_long.x Lib.MathLoose.max_long.code 4 (some .long) ∈ lw_tbl) (hst : (st.map fun v => v.category).sum ≤ 8) (hx : 1 ≤ X.1) (h1 : g.2.1 ≤ X.2.1) (h2 : g.2.2 ≤ X.2.2.1) (hd : decode M.2.1 pc = .ok (.invokestatic index, 3)) (k : am_OK M X Q g h (pc + 3) l (.long (if y < x then x else y) :: st)) : am_OK M X Q g h pc l (.long y :: .long x :: st) := by
  intro p lc e s m args below meth c D ca ad0 A cx ad H locs ls dy hl
  have hts := cx.1.2.2.2.2
  refine va_mmax_long cx.1.1 cx.1.2.1 (by rw [cx.1.2.2.1]; exact hl.1.symm) cx.1.2.2.2.1 (hts _ (am_tbl hlk)) (hts _ (am_tbl hsta)) (hts _ (am_tbl hini)) (hts _ (am_tbl hco)) hx ?_ h1 h2 hd (k p lc e s m args below meth c D ca ad0 A cx ad H locs ls dy hl)
  show _ + 15 ≤ 40 * X.1
  simp [am_cv_cat, Function.comp_def] at hst ⊢
  omega
theorem am_minl {x y : Int64} {index : Nat} (hlk : Cond.methodLink M.1.cls index Lib.MathLoose.min_long.x ∈ lw_tbl) (hsta : Cond.static Lib.MathLoose.min_long.x ∈ lw_tbl) (hini : Cond.initialized "java/lang/Math" ∈ lw_tbl) (hco : Cond.code Lib.MathLoose.min_long.x Lib.MathLoose.min_long.code 4 (some .long) ∈ lw_tbl) (hst : (st.map fun v => v.category).sum ≤ 8) (hx : 1 ≤ X.1) (h1 : g.2.1 ≤ X.2.1) (h2 : g.2.2 ≤ X.2.2.1) (hd : decode M.2.1 pc = .ok (.invokestatic index, 3)) (k : am_OK M X Q g h (pc + 3) l (.long (if y < x then y else x) :: st)) : am_OK M X Q g h pc l (.long y :: .long x :: st) := by
  intro p lc e s m args below meth c D ca ad0 A cx ad H locs ls dy hl
  have hts := cx.1.2.2.2.2
  refine va_mmin_long cx.1.1 cx.1.2.1 (by rw [cx.1.2.2.1]; exact hl.1.symm) cx.1.2.2.2.1 (hts _ (am_tbl hlk)) (hts _ (am_tbl hsta)) (hts _ (am_tbl hini)) (hts _ (am_tbl hco)) hx ?_ h1 h2 hd (k p lc e s m args below meth c D ca ad0 A cx ad H locs ls dy hl)
  show _ + 15 ≤ 40 * X.1
  simp [am_cv_cat, Function.comp_def] at hst ⊢
  omega
theorem am_copyi {I : Nat → Nat → Int32} {L : Nat → Nat → Int64} {R : Nat → Nat → Option Nat} {src dst n index : Nat} {N : Int32} (hs : am_lay src = .inl (.int, n)) (hds : am_lay dst = .inl (.int, n)) (ha : src ∈ g.1) (hb : dst ∈ g.1) (hN : ¬ N < 0) (hn : N.toNatClampNeg = n) (hlk : Cond.methodLink M.1.cls index arraycopyName ∈ lw_tbl) (hnat : Cond.native arraycopyName ∈ lw_tbl) (hsta : Cond.static arraycopyName ∈ lw_tbl) (hini : Cond.initialized "java/lang/System" ∈ lw_tbl) (hst : (st.map fun v => v.category).sum ≤ 8) (hx : 1 ≤ X.1) (hd : decode M.2.1 pc = .ok (.invokestatic index, 3))
    (k : am_OK M X Q g (am_cp I dst src n, L, R) (pc + 3) l st) : am_OK M X Q g (I, L, R) pc l (.int N :: .int 0 :: .ref dst :: .int 0 :: .ref src :: st) := by
  intro p lc e s m args below meth c D ca ad0 A cx ad H locs ls dy hl
  have hts := cx.1.2.2.2.2
  subst hn
  obtain ⟨q0, hq0, he0⟩ := am_wl_at (ca := ca) (ad := ad) (h := (I, L, R)) ha
  obtain ⟨q1, hq1, he1⟩ := am_wl_at (ca := ca) (ad := ad) (h := (I, L, R)) hb
  rw [am_ce_a hs] at he0
  rw [am_ce_a hds] at he1
  refine va_copyi cx.1.1 cx.1.2.1 (by rw [cx.1.2.2.1]; exact hl.1.symm) cx.1.2.2.2.1 (hts _ (am_tbl hlk)) (hts _ (am_tbl hnat)) (hts _ (am_tbl hsta)) (hts _ (am_tbl hini)) cx.2.2.2.1 dy.2.2.1 dy.2.2.2.1 dy.2.2.2.2 q0 q1 0 0 he0 he1 rfl rfl rfl (by decide) (by decide) hN (by rw [show (0 : Int32).toNatClampNeg = 0 from rfl]; omega) (by rw [show (0 : Int32).toNatClampNeg = 0 from rfl]; omega) (fun _ _ => rfl) hx ?_ hd (fun H1 locs1 hP1 hD1 hS1 => ?_)
  · show _ + _ ≤ 40 * X.1
    simp [am_cv_cat, Function.comp_def] at hst ⊢
    have h20 : nativeFrameWords "java/lang/System" "arraycopy" 5 + 11 ≤ 30 := by decide +kernel
    omega
  · have he : ∀ k, k ≠ dst → am_ce ca ad (am_cp I dst src N.toNatClampNeg, L, R) k = am_ce ca ad (I, L, R) k := fun k hk => am_ce_same fun i => ⟨by simp [am_cp, hk], rfl, rfl⟩
    have hx : ((N.toNatClampNeg, .inl (va_cpy (I src) (I dst) (0 : Int32).toNatClampNeg (0 : Int32).toNatClampNeg N.toNatClampNeg)) : vp_A) = am_ar ad (am_cp I dst src N.toNatClampNeg, L, R) dst .int N.toNatClampNeg := by
      simp only [am_ar, Prod.mk.injEq, true_and, Sum.inl.injEq]
      funext b
      simp [va_cpy, am_cp]
    have hset := am_arr_set (ca := ca) (ad := ad) (h := (I, L, R)) hds dy.1 hq1 he hx
    have hP2 := hset ▸ hP1
    have hD2 := hset ▸ hD1
    exact k p lc e s m args below meth c D ca ad0 A cx ad H1 locs1 ls ⟨dy.1, dy.2.1, hP2, hD2, hS1⟩ hl
theorem am_copyl {I : Nat → Nat → Int32} {L : Nat → Nat → Int64} {R : Nat → Nat → Option Nat} {src dst n index : Nat} {N : Int32} (hs : am_lay src = .inl (.long, n)) (hds : am_lay dst = .inl (.long, n)) (ha : src ∈ g.1) (hb : dst ∈ g.1) (hN : ¬ N < 0) (hn : N.toNatClampNeg = n) (hlk : Cond.methodLink M.1.cls index arraycopyName ∈ lw_tbl) (hnat : Cond.native arraycopyName ∈ lw_tbl) (hsta : Cond.static arraycopyName ∈ lw_tbl) (hini : Cond.initialized "java/lang/System" ∈ lw_tbl) (hst : (st.map fun v => v.category).sum ≤ 8) (hx : 1 ≤ X.1) (hd : decode M.2.1 pc = .ok (.invokestatic index, 3))
    (k : am_OK M X Q g (I, am_cp L dst src n, R) (pc + 3) l st) : am_OK M X Q g (I, L, R) pc l (.int N :: .int 0 :: .ref dst :: .int 0 :: .ref src :: st) := by
  intro p lc e s m args below meth c D ca ad0 A cx ad H locs ls dy hl
  have hts := cx.1.2.2.2.2
  subst hn
  obtain ⟨q0, hq0, he0⟩ := am_wl_at (ca := ca) (ad := ad) (h := (I, L, R)) ha
  obtain ⟨q1, hq1, he1⟩ := am_wl_at (ca := ca) (ad := ad) (h := (I, L, R)) hb
  rw [am_ce_a hs] at he0
  rw [am_ce_a hds] at he1
  refine va_copyl cx.1.1 cx.1.2.1 (by rw [cx.1.2.2.1]; exact hl.1.symm) cx.1.2.2.2.1 (hts _ (am_tbl hlk)) (hts _ (am_tbl hnat)) (hts _ (am_tbl hsta)) (hts _ (am_tbl hini)) cx.2.2.2.1 dy.2.2.1 dy.2.2.2.1 dy.2.2.2.2 q0 q1 1 1 he0 he1 rfl rfl rfl (by decide) (by decide) hN (by rw [show (0 : Int32).toNatClampNeg = 0 from rfl]; omega) (by rw [show (0 : Int32).toNatClampNeg = 0 from rfl]; omega) (fun _ _ => rfl) hx ?_ hd (fun H1 locs1 hP1 hD1 hS1 => ?_)
  · show _ + _ ≤ 40 * X.1
    simp [am_cv_cat, Function.comp_def] at hst ⊢
    have h20 : nativeFrameWords "java/lang/System" "arraycopy" 5 + 11 ≤ 30 := by decide +kernel
    omega
  · have he : ∀ k, k ≠ dst → am_ce ca ad (I, am_cp L dst src N.toNatClampNeg, R) k = am_ce ca ad (I, L, R) k := fun k hk => am_ce_same fun i => ⟨rfl, by simp [am_cp, hk], rfl⟩
    have hx : ((N.toNatClampNeg, .inr (.inl (va_cpy (L src) (L dst) (0 : Int32).toNatClampNeg (0 : Int32).toNatClampNeg N.toNatClampNeg))) : vp_A) = am_ar ad (I, am_cp L dst src N.toNatClampNeg, R) dst .long N.toNatClampNeg := by
      simp only [am_ar, Prod.mk.injEq, true_and, Sum.inl.injEq, Sum.inr.injEq]
      funext b
      simp [va_cpy, am_cp]
    have hset := am_arr_set (ca := ca) (ad := ad) (h := (I, L, R)) hds dy.1 hq1 he hx
    have hP2 := hset ▸ hP1
    have hD2 := hset ▸ hD1
    exact k p lc e s m args below meth c D ca ad0 A cx ad H1 locs1 ls ⟨dy.1, dy.2.1, hP2, hD2, hS1⟩ hl
end AM5
end
section
section AM6
variable {M : am_M} {X : am_X} {Q : am_P} {g : am_G} {h : am_H} {pc : Nat} {l : List (Nat × Value)} {st : List Value}
theorem am_callN {N : am_M} {d' mc' ms' n index : Nat} {host : String} (hw : am_cwd N n) (hlk : (M.1.cls, index, N.1, host) ∈ am_nest) (hd : d' + 1 ≤ X.1)
    {p : Program} {s : State} {m : MethodId} {args : Array Value} {meth : Method} {c : Code} {D : va_G} {ca : FieldType → ClassId} {ad0 : Nat → Nat} {A : Nat → Prop} (cx : am_CX M p s m args meth c D ca ad0 A) :
    va_CN (am_rm X.1 X.2.1 X.2.2.1) s args M.1.cls index N.1 host N.2.1 N.2.2.1 N.2.2.2 (am_ws N) (am_rm d' mc' ms') mc' ms' n := by
  refine va_cnB (Ts := am_ws M) n cx.1.2.2.2.2 (am_goodIn hw.1) rfl rfl rfl (cx.2.2.2.2.2.2.2.2.2.2 _ hlk) (cx.1.2.2.2.2 _ (am_tbl hw.2.1)) hw.2.2.1 ⟨hd, ?_⟩
  show 8 + (N.2.2.1 + 11) + 40 * d' ≤ 40 * X.1
  have := hw.2.2.2
  omega
theorem am_invSN {N : am_M} {Z' : Nat → Prop} {d' mc' ms' n index : Nat} {host : String} {as : List Value} {Q' : am_P} (hM : am_C N d' mc' ms' Z' g.1 as h Q') (hw : am_cwd N n) (hlk : (M.1.cls, index, N.1, host) ∈ am_nest) (hsta : Cond.static N.1 ∈ lw_tbl) (hn : as.length = n) (hd' : d' + 1 ≤ X.1) (hmc : g.2.1 + mc' ≤ X.2.1) (hms : g.2.2 + ms' ≤ X.2.2.1)
    (hst : (st.map fun v => v.category).sum ≤ 8) (hkeep : am_keep Z' l st) (hZ : ∀ k, X.2.2.2 k → Z' k) (hd : decode M.2.1 pc = .ok (.invokestatic index, 3))
    (k : ∀ (r : Option Value) (h' : am_H) (al' : List Nat), Q' r h' al' → am_OK M X Q (al', g.2.1 + mc', g.2.2 + ms') h' (pc + 3) l (r.toList ++ st)) : am_OK M X Q g h pc l (as.reverse ++ st) := by
  intro p lc e s m args below meth c D ca ad0 A cx ad H locs ls dy hl
  have hts := cx.1.2.2.2.2
  refine am_back hkeep hZ k cx dy hl (va_runSN (As := as.map (am_cv ad)) cx.1 (hM lc D ca ad H.size dy.1) ⟨am_callN hw hlk hd' cx, hts _ (am_tbl hsta), trivial⟩ ⟨am_blind, fun U hU hW => ⟨by simp, by rw [hU], by rw [hU]; exact dy.2.2.1, va_K.moved hW.alike cx.2.2.2.1, dy.2.2.2.1.weaken (fun _ _ _ _ => trivial), am_FU cx dy hU hW⟩⟩ rfl (by simp [hn]) hl.1 (by simp) (lv_room (by simpa [am_cv_cat, Function.comp_def] using hst)) hd ⟨hmc, hms⟩)
theorem am_invIN {N : am_M} {Z' : Nat → Prop} {d' mc' ms' n index b : Nat} {host : String} {as : List Value} {Q' : am_P} (hM : am_C N d' mc' ms' Z' g.1 (.ref b :: as) h Q') (hw : am_cwd N n) (hret : N.2.2.2 = none) (hlk : (M.1.cls, index, N.1, host) ∈ am_nest) (hin : Cond.instanceMethod N.1 ∈ lw_tbl) (hy1 : N.1.name = "<init>") (hn : as.length = n) (hd' : d' + 1 ≤ X.1) (hmc : g.2.1 + mc' ≤ X.2.1) (hms : g.2.2 + ms' ≤ X.2.2.1)
    (hst : (st.map fun v => v.category).sum ≤ 8) (hkeep : am_keep Z' l st) (hZ : ∀ k, X.2.2.2 k → Z' k) (hd : decode M.2.1 pc = .ok (.invokespecial index, 3))
    (k : ∀ (r : Option Value) (h' : am_H) (al' : List Nat), Q' r h' al' → am_OK M X Q (al', g.2.1 + mc', g.2.2 + ms') h' (pc + 3) l (r.toList ++ st)) : am_OK M X Q g h pc l (as.reverse ++ .ref b :: st) := by
  intro p lc e s m args below meth c D ca ad0 A cx ad H locs ls dy hl
  have hts := cx.1.2.2.2.2
  have hB := am_callN (mc' := mc') (ms' := ms') hw hlk hd' cx
  rw [hret] at hB
  refine am_back hkeep hZ k cx dy hl (va_runIN (b := ad b) (As := as.map (am_cv ad)) cx.1 (hM lc D ca ad H.size dy.1) ⟨hB, hy1, hts _ (am_tbl hin)⟩ ⟨am_blind, fun U hU hW => ⟨by simp [am_cv], by rw [hU], by rw [hU]; exact dy.2.2.1, va_K.moved hW.alike cx.2.2.2.1, dy.2.2.2.1.weaken (fun _ _ _ _ => trivial), am_FU cx dy hU hW⟩⟩ rfl (by simp [hn]) hl.1 (by simp [am_cv]) (lv_room (by simpa [am_cv_cat, Function.comp_def] using hst)) hd ⟨hmc, hms⟩)
theorem am_putF {h' : am_H} {a ci j index : Nat} {C : String} {T : u_T} {N : Nat} {w : Value} (hc : am_cls ci C T N) (hy : am_lay a = .inr ci) (ha : a ∈ g.1) (hj : j < N) (hb : am_but h h' a j) (hw : ∀ ad, am_fv ad h' a (am_ty ci j) j = am_cv ad w) (hfin : (T j).2.2.2 = true) (hni : M.1.name = "<init>") (hdecl : (T j).1 = M.1.cls) (hfit : ∀ ad, narrow (am_ty ci j) (am_cv ad w) = am_cv ad w ∧ fits (am_ty ci j) (am_cv ad w) = true) (hlk : Cond.fieldLink M.1.cls index (T j).1 (T j).2.1 (T j).2.2.1 ∈ lw_tbl) (hd : decode M.2.1 pc = .ok (.putfield index, 3)) (k : am_OK M X Q g h' (pc + 3) l st) : am_OK M X Q g h pc l (w :: .ref a :: st) := by
  intro p lc e s m args below meth c D ca ad0 A cx ad H locs ls dy hl
  obtain ⟨q0, hq, he⟩ := am_wl_at (ca := ca) (ad := ad) (h := h) ha
  rw [am_ce_o hy, hc.2.1] at he
  refine va_putF (D := D) cx.1.1 cx.1.2.1 (Ts := am_ws M) cx.1.2.2.2.2 (fun w hw => am_tbl (hc.2.2.2.2 w hw) (am_uws hw)) (am_ty ci) hc.2.2.1 hc.2.2.2.1 cx.1.2.2.2.1 cx.2.2.2.1 dy.2.2.1 dy.2.2.2.1 dy.2.2.2.2 q0 he hc.1 j hj (cx.1.2.2.2.2 _ (am_tbl hlk)) (fun _ h9 => h9) hfin (cx.2.2.2.2.2.1.trans hni) hdecl (hc.2.2.1 j hj) (hfit ad).1 (hfit ad).2 (by simpa using hj) hd (fun H1 locs1 hP1 hD1 hS1 => ?_)
  have hset : (am_wl ca ad g.1 h).set q0 (ad a, .inr (ci, ((List.range N).map fun i => am_fv ad h a (am_ty ci i) i).set j (am_cv ad w))) = am_wl ca ad g.1 h' := by
    rw [am_fs_set hb (hw ad), ← hc.2.1, ← am_ce_o hy]
    exact am_wl_set dy.1 hq (am_but_ce hb)
  rw [hset] at hP1 hD1
  exact k p lc e s m args below meth c D ca ad0 A cx ad H1 locs1 ls ⟨dy.1, dy.2.1, hP1, hD1, hS1⟩ hl
/-- references on the stack and in the locals are other places than k -/
def am_nor (k : Nat) (l : List (Nat × Value)) (st : List Value) : Prop := (∀ q ∈ l, q.2 ≠ .ref k) ∧ ∀ v ∈ st, v ≠ .ref k
theorem am_cv_ad {ad : Nat → Nat} {k q : Nat} {v : Value} (hv : v ≠ .ref k) : am_cv (fun j => if j = k then q else ad j) v = am_cv ad v := by
  cases v with
  | ref a => simp only [am_cv, if_neg (fun e => hv (congrArg Value.ref e))]
  | _ => rfl
theorem am_dy_new {s : State} {D : va_G} {ca : FieldType → ClassId} {ad0 : Nat → Nat} {Z : Nat → Prop} {A : Nat → Prop} {al : List Nat} {h h' : am_H} {ad : Nat → Nat} {H H1 : Heap} {locs : List Loc} {k q : Nat} (dy : am_DY M s D ca ad0 Z A al h ad H locs) (hk : k ∉ al) (hk9 : k ≠ 900) (hZ : ¬ Z k) (hw : am_wl ca (fun j => if j = k then q else ad j) (al ++ [k]) h' = am_wl ca ad al h ++ [(q, am_ce ca (fun j => if j = k then q else ad j) h' k)]) (hP : va_P D vwCl (am_wl ca ad al h ++ [(q, am_ce ca (fun j => if j = k then q else ad j) h' k)]) H1) (hD : va_D A (am_wl ca ad al h ++ [(q, am_ce ca (fun j => if j = k then q else ad j) h' k)])) (hS : va_S A s.heap H1 locs) : am_DY M s D ca ad0 Z A (al ++ [k]) h' (fun j => if j = k then q else ad j) H1 locs := by
  refine ⟨?_, fun j hj => ?_, by rw [hw]; exact hP, by rw [hw]; exact hD, hS⟩
  · rw [List.nodup_append]
    refine ⟨dy.1, by simp, fun a ha b hb => ?_⟩
    rw [List.mem_singleton] at hb
    subst hb
    exact fun e => hk (e ▸ ha)
  · have hjk : j ≠ k := by
      rintro rfl
      rcases hj with e | e
      · exact hk9 e
      · exact hZ e
    simp only [if_neg hjk]
    exact dy.2.1 j hj
theorem am_cl_ad {ad : Nat → Nat} {k q : Nat} {l : List (Nat × Value)} (hl : ∀ q ∈ l, q.2 ≠ .ref k) : am_cl (fun j => if j = k then q else ad j) l = am_cl ad l := by
  unfold am_cl
  apply List.map_congr_left
  intro x hx
  rw [am_cv_ad (hl x hx)]
theorem am_st_ad {ad : Nat → Nat} {k q : Nat} {st : List Value} (hl : ∀ v ∈ st, v ≠ .ref k) : st.map (am_cv (fun j => if j = k then q else ad j)) = st.map (am_cv ad) := List.map_congr_left fun v hv => am_cv_ad (hl v hv)
theorem am_wl_push {ca : FieldType → ClassId} {ad : Nat → Nat} {al : List Nat} {h h' : am_H} {k q : Nat} (hk : k ∉ al) (hR : am_nr h.2.2 k) (hs : ∀ a, a ≠ k → ∀ i, h'.1 a i = h.1 a i ∧ h'.2.1 a i = h.2.1 a i ∧ h'.2.2 a i = h.2.2 a i) : am_wl ca (fun j => if j = k then q else ad j) (al ++ [k]) h' = am_wl ca ad al h ++ [(q, am_ce ca (fun j => if j = k then q else ad j) h' k)] := by
  have h1 := am_wl_ad (ca := ca) (ad := ad) (q := q) (h' := h') hk hR (fun a ha => am_ce_same (hs a ha))
  rw [← h1]
  simp [am_wl]
theorem am_z_same {I : Nat → Nat → Int32} {L : Nat → Nat → Int64} {R : Nat → Nat → Option Nat} {k : Nat} : ∀ a, a ≠ k → ∀ i, ((am_z 0 I k, am_z 0 L k, am_z none R k) : am_H).1 a i = ((I, L, R) : am_H).1 a i ∧ ((am_z 0 I k, am_z 0 L k, am_z none R k) : am_H).2.1 a i = ((I, L, R) : am_H).2.1 a i ∧ ((am_z 0 I k, am_z 0 L k, am_z none R k) : am_H).2.2 a i = ((I, L, R) : am_H).2.2 a i :=
  fun a ha i => ⟨by simp [am_z, ha], by simp [am_z, ha], by simp [am_z, ha]⟩
theorem am_new {I : Nat → Nat → Int32} {L : Nat → Nat → Int64} {R : Nat → Nat → Option Nat} (k : Nat) {ci index : Nat} {C : String} {T : u_T} {N : Nat} (hc : am_cls ci C T N) (hy : am_lay k = .inr ci) (hk : k ∉ g.1) (hk9 : k ≠ 900) (hZ : ¬ X.2.2.2 k) (hR : am_nr R k) (hno : am_nor k l st) (hty : ∀ j, j < N → am_ty ci j ≠ .float ∧ am_ty ci j ≠ .double)
    (hcl : Cond.classLink M.1.cls index C ∈ lw_tbl) (hinst : Cond.instantiable C N ∈ lw_tbl) (hini : Cond.initialized C ∈ lw_tbl) (h1 : g.2.1 + 1 ≤ X.2.1) (h2 : g.2.2 + N ≤ X.2.2.1) (hd : decode M.2.1 pc = .ok (.new index, 3))
    (kk : am_OK M X Q (g.1 ++ [k], g.2.1 + 1, g.2.2 + N) (am_z 0 I k, am_z 0 L k, am_z none R k) (pc + 3) l (.ref k :: st)) : am_OK M X Q g (I, L, R) pc l st := by
  intro p lc e s m args below meth c D ca ad0 A cx ad H locs ls dy hl
  have hts := cx.1.2.2.2.2
  refine va_new (fs := (List.range N).map fun j => am_fv ad (am_z 0 I k, am_z 0 L k, am_z none R k) k (am_ty ci j) j) cx.1.1 cx.1.2.1 hts (fun w hw => am_tbl (hc.2.2.2.2 w hw) (am_uws hw)) (am_ty ci) hc.2.2.1 cx.1.2.2.2.1 (hts _ (am_tbl hcl)) (hts _ (am_tbl hinst)) (hts _ (am_tbl hini)) cx.2.2.2.1 dy.2.2.1 dy.2.2.2.1 dy.2.2.2.2 cx.2.2.2.2.1 hc.1 (fun j hj => ?_) h1 h2 hd (fun q H1 hP hD hS => ?_)
  · have hz : vp_V ((List.range N).map fun j => am_fv ad (am_z 0 I k, am_z 0 L k, am_z none R k) k (am_ty ci j) j) j = am_fv ad (am_z 0 I k, am_z 0 L k, am_z none R k) k (am_ty ci j) j := by
      simp [vp_V, List.getD, List.getElem?_map, List.getElem?_range hj]
    rw [hz]
    have := hty j hj
    revert this
    cases am_ty ci j <;> intro this <;> simp_all [am_fv, am_z, defaultValue, va_rf]
  · have hce : am_ce ca (fun j => if j = k then q else ad j) (am_z 0 I k, am_z 0 L k, am_z none R k) k = .inr (ci, (List.range N).map fun j => am_fv ad (am_z 0 I k, am_z 0 L k, am_z none R k) k (am_ty ci j) j) := by
      rw [am_ce_o hy, hc.2.1]
      simp only [am_fv_ad (h := (am_z 0 I k, am_z 0 L k, am_z none R k)) (am_nr_z hR)]
    have hw := am_wl_push (ca := ca) (ad := ad) (q := q) hk (h := (I, L, R)) hR am_z_same
    have hdy := am_dy_new (h := (I, L, R)) (h' := (am_z 0 I k, am_z 0 L k, am_z none R k)) (q := q) dy hk hk9 hZ hw (by rw [hce]; exact hP) (by rw [hce]; exact hD) hS
    have hkk := kk p lc e s m args below meth c D ca ad0 A cx _ H1 locs ls hdy (by rw [am_cl_ad hno.1]; exact hl)
    rw [List.map_cons, am_st_ad hno.2] at hkk
    simpa [am_cv] using hkk
theorem am_newa {I : Nat → Nat → Int32} {L : Nat → Nat → Int64} {R : Nat → Nat → Option Nat} (k : Nat) {t0 n : Nat} {ty : FieldType} {aty : ArrayType} {x : Int32} (hy : am_lay k = .inl (ty, n)) (hat : newarray.typeOf aty = ty) (ht0 : ∀ ca : FieldType → ClassId, (am_TY ca)[t0]? = some (ca ty, ty)) (hpr : ty = .int ∨ ty = .long ∨ ty = .boolean) (hk : k ∉ g.1) (hk9 : k ≠ 900) (hZ : ¬ X.2.2.2 k) (hR : am_nr R k) (hno : am_nor k l st) (hx : ¬ x < 0) (hxn : x.toNatClampNeg = n) (hb : n * componentBytes ty ≤ 536870912)
    (harr : Cond.arrayClass ty ∈ lw_tbl) (h1 : g.2.1 + 1 ≤ X.2.1) (h2 : g.2.2 + n ≤ X.2.2.1) (hd : decode M.2.1 pc = .ok (.newarray aty, 2))
    (kk : am_OK M X Q (g.1 ++ [k], g.2.1 + 1, g.2.2 + n) (am_z 0 I k, am_z 0 L k, am_z none R k) (pc + 2) l (.ref k :: st)) : am_OK M X Q g (I, L, R) pc l (.int x :: st) := by
  intro p lc e s m args below meth c D ca ad0 A cx ad H locs ls dy hl
  have hts := cx.1.2.2.2.2
  refine va_newa (a0 := am_ar ad (am_z 0 I k, am_z 0 L k, am_z none R k) k ty n) cx.1.1 cx.1.2.1 (by rw [hat]; exact hts _ (am_tbl harr)) hat cx.2.2.2.1 dy.2.2.1 dy.2.2.2.1 dy.2.2.2.2 cx.2.2.2.2.1 (fun cA => ?_) hx hxn hb h1 h2 hd (fun q cA H1 hK hP hD hS => ?_)
  · rcases hpr with rfl | rfl | rfl <;> simp [am_ar, vp_cell, am_z, defaultValue]
  · have hcA : cA = ca ty := by
      have e1 := (hK.2 4 (cA, ty) rfl).2
      have e2 := (cx.2.2.2.1.2 t0 _ (ht0 ca)).2
      rcases hpr with rfl | rfl | rfl <;> exact Option.some.inj (e1.symm.trans e2)
    have hce : am_ce ca (fun j => if j = k then q else ad j) (am_z 0 I k, am_z 0 L k, am_z none R k) k = .inl (cA, am_ar ad (am_z 0 I k, am_z 0 L k, am_z none R k) k ty n) := by
      rw [am_ce_a hy, hcA]
      rcases hpr with rfl | rfl | rfl <;> rfl
    have hw := am_wl_push (ca := ca) (ad := ad) (q := q) hk (h := (I, L, R)) hR am_z_same
    have hdy := am_dy_new (h := (I, L, R)) (h' := (am_z 0 I k, am_z 0 L k, am_z none R k)) (q := q) dy hk hk9 hZ hw (by rw [hce]; exact hP) (by rw [hce]; exact hD) hS
    have hkk := kk p lc e s m args below meth c D ca ad0 A cx _ H1 locs ls hdy (by rw [am_cl_ad hno.1]; exact hl)
    rw [List.map_cons, am_st_ad hno.2] at hkk
    simpa [am_cv] using hkk
theorem am_newq {I : Nat → Nat → Int32} {L : Nat → Nat → Int64} {R : Nat → Nat → Option Nat} (k : Nat) {n index : Nat} {x : Int32} (hy : am_lay k = .inl (.object RX10, n)) (hk : k ∉ g.1) (hk9 : k ≠ 900) (hZ : ¬ X.2.2.2 k) (hR : am_nr R k) (hno : am_nor k l st) (hx : ¬ x < 0) (hxn : x.toNatClampNeg = n) (hb : n * 4 ≤ 536870912)
    (hcl : Cond.classLink M.1.cls index RX10 ∈ lw_tbl) (h1 : g.2.1 + 1 ≤ X.2.1) (h2 : g.2.2 + n ≤ X.2.2.1) (hd : decode M.2.1 pc = .ok (.anewarray index, 3))
    (kk : am_OK M X Q (g.1 ++ [k], g.2.1 + 1, g.2.2 + n) (am_z 0 I k, am_z 0 L k, am_z none R k) (pc + 3) l (.ref k :: st)) : am_OK M X Q g (I, L, R) pc l (.int x :: st) := by
  intro p lc e s m args below meth c D ca ad0 A cx ad H locs ls dy hl
  have hts := cx.1.2.2.2.2
  refine va_newq cx.1.1 cx.1.2.1 cx.1.2.2.2.1 (hts _ (am_tbl hcl)) cx.2.2.2.2.2.2.1 cx.2.2.2.1 dy.2.2.1 dy.2.2.2.1 dy.2.2.2.2 cx.2.2.2.2.1 hx hxn hb h1 h2 hd (fun q cA H1 hK hP hD hS => ?_)
  have hcA : cA = ca (.object RX10) := by
    obtain ⟨k1, c1, _, _, _, e1⟩ := (hK.2 4 (cA, .object RX10) rfl).2
    obtain ⟨k2, c2, _, _, _, e2⟩ := (cx.2.2.2.1.2 3 (ca (.object RX10), .object RX10) rfl).2
    exact Option.some.inj (e1.symm.trans e2)
  have hce : am_ce ca (fun j => if j = k then q else ad j) (am_z 0 I k, am_z 0 L k, am_z none R k) k = .inl (cA, n, .inr (.inr (.inr (.inr (fun _ => none))))) := by
    rw [am_ce_a hy, hcA]
    simp [am_ar, am_z]
  have hw := am_wl_push (ca := ca) (ad := ad) (q := q) hk (h := (I, L, R)) hR am_z_same
  have hdy := am_dy_new (h := (I, L, R)) (h' := (am_z 0 I k, am_z 0 L k, am_z none R k)) (q := q) dy hk hk9 hZ hw (by rw [hce]; exact hP) (by rw [hce]; exact hD) hS
  have hkk := kk p lc e s m args below meth c D ca ad0 A cx _ H1 locs ls hdy (by rw [am_cl_ad hno.1]; exact hl)
  rw [List.map_cons, am_st_ad hno.2] at hkk
  simpa [am_cv] using hkk
/-- a reference's value, in places -/
def am_rr (o : Option Nat) : Value := match o with
  | none => .null
  | some b => .ref b
theorem am_rr_cv (ad : Nat → Nat) (o : Option Nat) : am_cv ad (am_rr o) = va_rf (o.map ad) := by cases o <;> rfl
theorem am_aald {a n : Nat} {i : Int32} {C : String} (hC : C = RX10) (hy : am_lay a = .inl (.object C, n)) (ha : a ∈ g.1) (hin : vp_in i n) (hd : decode M.2.1 pc = .ok (.aaload, 1)) (k : am_OK M X Q g h (pc + 1) l (am_rr (h.2.2 a i.toNatClampNeg) :: st)) : am_OK M X Q g h pc l (.int i :: .ref a :: st) := by
  intro p lc e s m args below meth c D ca ad0 A cx ad H locs ls dy hl
  subst hC
  obtain ⟨q0, hq, he⟩ := am_wl_at (ca := ca) (ad := ad) (h := h) ha
  rw [am_ce_a hy] at he
  have hk := k p lc e s m args below meth c D ca ad0 A cx ad H locs ls dy hl
  rw [List.map_cons, am_rr_cv] at hk
  exact va_aldq cx.1.1 cx.1.2.1 cx.2.2.2.1 dy.2.2.1 q0 3 he rfl hin hd hk
theorem am_aast {I : Nat → Nat → Int32} {L : Nat → Nat → Int64} {R : Nat → Nat → Option Nat} {a b n : Nat} {i : Int32} (hy : am_lay a = .inl (.object RX10, n)) (ha : a ∈ g.1) (hyb : am_lay b = .inr 10) (hb : b ∈ g.1) (hin : vp_in i n) (hd : decode M.2.1 pc = .ok (.aastore, 1)) (k : am_OK M X Q g (I, L, am_u R a i.toNatClampNeg (some b)) (pc + 1) l st) : am_OK M X Q g (I, L, R) pc l (.ref b :: .int i :: .ref a :: st) := by
  intro p lc e s m args below meth c D ca ad0 A cx ad H locs ls dy hl
  obtain ⟨q0, hq, he⟩ := am_wl_at (ca := ca) (ad := ad) (h := (I, L, R)) ha
  obtain ⟨q1, hq1, he1⟩ := am_wl_at (ca := ca) (ad := ad) (h := (I, L, R)) hb
  rw [am_ce_a hy] at he
  rw [am_ce_o hyb] at he1
  refine va_astq (r := (RX10, TX10, 5)) cx.1.1 cx.1.2.1 cx.2.2.2.1 dy.2.2.1 dy.2.2.2.1 dy.2.2.2.2 q0 3 q1 10 he rfl he1 rfl hin hd (fun H1 locs1 hP1 hD1 hS1 => ?_)
  have hset := am_arr_set (ca := ca) (ad := ad) (h := (I, L, R)) (h' := (I, L, am_u R a i.toNatClampNeg (some b))) (x := (n, .inr (.inr (.inr (.inr (va_up (fun j => (R a j).map ad) i.toNatClampNeg (some (ad b)))))))) hy dy.1 hq (am_but_ce am_but_r) (by
    simp only [am_ar, am_u_at, Prod.mk.injEq, true_and, Sum.inr.injEq]
    funext j
    unfold va_up
    split <;> rfl)
  have hP2 := hset ▸ hP1
  have hD2 := hset ▸ hD1
  exact k p lc e s m args below meth c D ca ad0 A cx ad H1 locs1 ls ⟨dy.1, dy.2.1, hP2, hD2, hS1⟩ hl
end AM6
end
section
/-! the rows where nothing is made and references stand as they are: contents in two functions, I and L -/
abbrev am_I : Type := Nat → Nat → Int32
abbrev am_L : Type := Nat → Nat → Int64
abbrev am_R : Type := Nat → Nat → Option Nat
abbrev am_S : Type := Option Value → am_I → am_L → Prop
def am_up (al : List Nat) (R : am_R) (Q : am_S) : am_P := fun r h al' => al' = al ∧ ∃ (I' : am_I) (L' : am_L), h = (I', L', R) ∧ Q r I' L'
def am_B (M : am_M) (d : Nat) (Q : am_S) (I : am_I) (L : am_L) (pc : Nat) (l : List (Nat × Value)) (st : List Value) : Prop := ∀ (al : List Nat) (R : am_R), am_st al R → am_OK M (d, 0, 0, fun _ => True) (am_up al R Q) (al, 0, 0) (I, L, R) pc l st
def am_K (M : am_M) (d : Nat) (as : List Value) (I : am_I) (L : am_L) (Q : am_S) : Prop := ∀ (al : List Nat) (R : am_R), am_st al R → am_C M d 0 0 (fun _ => True) al as (I, L, R) (am_up al R Q)
theorem bm_intro {M : am_M} {d : Nat} {as : List Value} {I : am_I} {L : am_L} {Q : am_S} (hy : plainName M.1.cls = true) (hs : (lg_sl as).length ≤ M.2.2.1) (k : am_B M d Q I L 0 (lv_args 0 as) []) : am_K M d as I L Q := fun al R hs' => am_intro hy hs (k al R hs')
def am_dcs (cc : ByteArray) (l : List (Nat × Instr × Nat)) : Bool := l.all fun q => decide (decode cc q.1 = .ok (q.2.1, q.2.2))
theorem dg {cc : ByteArray} {l : List (Nat × Instr × Nat)} (h : am_dcs cc l = true) (i : Nat) {pc len : Nat} {ins : Instr} (hi : l[i]? = some (pc, ins, len)) : decode cc pc = .ok (ins, len) := of_decide_eq_true (List.all_eq_true.mp h (pc, ins, len) (List.mem_of_getElem? hi))
def am_fl (own : String) (index ci j : Nat) (C : String) (T : u_T) (N : Nat) : Prop := am_cls ci C T N ∧ j < N ∧ Cond.fieldLink own index (T j).1 (T j).2.1 (T j).2.2.1 ∈ lw_tbl
/-- shapes of a callee's end -/
def am_qf (v : Option Value) (I1 : am_I) (L1 : am_L) : am_S := fun r I L => r = v ∧ I = I1 ∧ L = L1
def am_qi (P : Int32 → am_I → am_L → Prop) : am_S := fun r I L => ∃ v : Int32, r = some (.int v) ∧ P v I L
def am_ql (P : Int64 → am_I → am_L → Prop) : am_S := fun r I L => ∃ v : Int64, r = some (.long v) ∧ P v I L
def am_qv (P : am_I → am_L → Prop) : am_S := fun r I L => r = none ∧ P I L
def am_qr (b : Nat) (P : am_I → am_L → Prop) : am_S := fun r I L => r = some (.ref b) ∧ P I L
theorem am_K.mono {M : am_M} {d : Nat} {as : List Value} {I : am_I} {L : am_L} {Q Q' : am_S} (h : am_K M d as I L Q) (hq : ∀ r I' L', Q r I' L' → Q' r I' L') : am_K M d as I L Q' := by
  intro al R hs lc D ca ad sz hn p e ha hc hk s m args below hf hfit hp ht
  obtain ⟨n, o, h1, h2, h3, ⟨⟨r, h', al', ad', e1, ⟨e2, I', L', e3, e4⟩, e5⟩, h6⟩, h5⟩ := h al R hs lc D ca ad sz hn p e ha hc hk s m args below hf hfit hp ht
  exact ⟨n, o, h1, h2, h3, ⟨⟨r, h', al', ad', e1, ⟨e2, I', L', e3, hq _ _ _ e4⟩, e5⟩, h6⟩, h5⟩
section BM
variable {M : am_M} {d : Nat} {Q : am_S} {I : am_I} {L : am_L} {pc : Nat} {l : List (Nat × Value)} {st : List Value}
theorem am_B.w {l' : List (Nat × Value)} {st' : List Value} {pc' : Nat} {I' : am_I} {L' : am_L} (h : am_B M d Q I L pc l st) (e1 : pc = pc') (e2 : l = l') (e3 : st = st') (e4 : I = I') (e5 : L = L') : am_B M d Q I' L' pc' l' st' := by
  subst e1; subst e2; subst e3; subst e4; subst e5; exact h
theorem bm_iconst {n : Int} {v : Int32} (hv : Int32.ofInt n = v) (hd : decode M.2.1 pc = .ok (.iconst n, 1)) (k : am_B M d Q I L (pc + 1) l (.int v :: st)) : am_B M d Q I L pc l st :=
  fun al R hs => am_iconst hv hd (k al R hs)
theorem bm_bipush {n : Int} {v : Int32} (hv : (Int8.ofInt n).toInt32 = v) (hd : decode M.2.1 pc = .ok (.bipush n, 2)) (k : am_B M d Q I L (pc + 2) l (.int v :: st)) : am_B M d Q I L pc l st :=
  fun al R hs => am_bipush hv hd (k al R hs)
theorem bm_sipush {n : Int} {v : Int32} (hv : (Int16.ofInt n).toInt32 = v) (hd : decode M.2.1 pc = .ok (.sipush n, 3)) (k : am_B M d Q I L (pc + 3) l (.int v :: st)) : am_B M d Q I L pc l st :=
  fun al R hs => am_sipush hv hd (k al R hs)
theorem bm_lconst {n : Fin 2} {v : Int64} (hv : Int64.ofNat (n : Nat) = v) (hd : decode M.2.1 pc = .ok (.lconst n, 1)) (k : am_B M d Q I L (pc + 1) l (.long v :: st)) : am_B M d Q I L pc l st :=
  fun al R hs => am_lconst hv hd (k al R hs)
theorem bm_ldc {index : Nat} {v : Int32} (hw : Cond.constant M.1.cls index v ∈ lw_tbl) (hd : decode M.2.1 pc = .ok (.ldc index, 2)) (k : am_B M d Q I L (pc + 2) l (.int v :: st)) : am_B M d Q I L pc l st :=
  fun al R hs => am_ldc hw hd (k al R hs)
theorem bm_ldc2 {index : Nat} {v : Int64} (hw : Cond.constantLong M.1.cls index v ∈ lw_tbl) (hd : decode M.2.1 pc = .ok (.ldc2_w index, 3)) (k : am_B M d Q I L (pc + 3) l (.long v :: st)) : am_B M d Q I L pc l st :=
  fun al R hs => am_ldc2 hw hd (k al R hs)
theorem bm_iload_n (j : Nat) {n : Fin 4} {i : Nat} {x : Int32} (hi : (n : Nat) = i) (hk : l[j]? = some (i, .int x)) (hd : decode M.2.1 pc = .ok (.iload_n n, 1)) (k : am_B M d Q I L (pc + 1) l (.int x :: st)) : am_B M d Q I L pc l st :=
  fun al R hs => am_iload_n j hi hk hd (k al R hs)
theorem bm_iload (j : Nat) {i : Nat} {x : Int32} (hk : l[j]? = some (i, .int x)) (hd : decode M.2.1 pc = .ok (.iload i, 2)) (k : am_B M d Q I L (pc + 2) l (.int x :: st)) : am_B M d Q I L pc l st :=
  fun al R hs => am_iload j hk hd (k al R hs)
theorem bm_istore_n {n : Fin 4} {i : Nat} {x : Int32} {l1 : List (Nat × Value)} (hi : (n : Nat) = i) (hn : i < M.2.2.1) (hl : am_p1 i (.int x) l = l1) (hd : decode M.2.1 pc = .ok (.istore_n n, 1)) (k : am_B M d Q I L (pc + 1) l1 st) : am_B M d Q I L pc l (.int x :: st) :=
  fun al R hs => am_istore_n hi hn hl hd (k al R hs)
theorem bm_istore {i : Nat} {x : Int32} {l1 : List (Nat × Value)} (hn : i < M.2.2.1) (hl : am_p1 i (.int x) l = l1) (hd : decode M.2.1 pc = .ok (.istore i, 2)) (k : am_B M d Q I L (pc + 2) l1 st) : am_B M d Q I L pc l (.int x :: st) :=
  fun al R hs => am_istore hn hl hd (k al R hs)
theorem bm_lload_n (j : Nat) {n : Fin 4} {i : Nat} {x : Int64} (hi : (n : Nat) = i) (hk : l[j]? = some (i, .long x)) (hd : decode M.2.1 pc = .ok (.lload_n n, 1)) (k : am_B M d Q I L (pc + 1) l (.long x :: st)) : am_B M d Q I L pc l st :=
  fun al R hs => am_lload_n j hi hk hd (k al R hs)
theorem bm_lload (j : Nat) {i : Nat} {x : Int64} (hk : l[j]? = some (i, .long x)) (hd : decode M.2.1 pc = .ok (.lload i, 2)) (k : am_B M d Q I L (pc + 2) l (.long x :: st)) : am_B M d Q I L pc l st :=
  fun al R hs => am_lload j hk hd (k al R hs)
theorem bm_lstore_n {n : Fin 4} {i : Nat} {x : Int64} {l1 : List (Nat × Value)} (hi : (n : Nat) = i) (hn : i + 1 < M.2.2.1) (hl : am_p2 i (.long x) l = l1) (hd : decode M.2.1 pc = .ok (.lstore_n n, 1)) (k : am_B M d Q I L (pc + 1) l1 st) : am_B M d Q I L pc l (.long x :: st) :=
  fun al R hs => am_lstore_n hi hn hl hd (k al R hs)
theorem bm_lstore {i : Nat} {x : Int64} {l1 : List (Nat × Value)} (hn : i + 1 < M.2.2.1) (hl : am_p2 i (.long x) l = l1) (hd : decode M.2.1 pc = .ok (.lstore i, 2)) (k : am_B M d Q I L (pc + 2) l1 st) : am_B M d Q I L pc l (.long x :: st) :=
  fun al R hs => am_lstore hn hl hd (k al R hs)
theorem bm_aload_n (j : Nat) {n : Fin 4} {i : Nat} {x : Nat} (hi : (n : Nat) = i) (hk : l[j]? = some (i, .ref x)) (hd : decode M.2.1 pc = .ok (.aload_n n, 1)) (k : am_B M d Q I L (pc + 1) l (.ref x :: st)) : am_B M d Q I L pc l st :=
  fun al R hs => am_aload_n j hi hk hd (k al R hs)
theorem bm_aload (j : Nat) {i : Nat} {x : Nat} (hk : l[j]? = some (i, .ref x)) (hd : decode M.2.1 pc = .ok (.aload i, 2)) (k : am_B M d Q I L (pc + 2) l (.ref x :: st)) : am_B M d Q I L pc l st :=
  fun al R hs => am_aload j hk hd (k al R hs)
theorem bm_astore_n {n : Fin 4} {i : Nat} {x : Nat} {l1 : List (Nat × Value)} (hi : (n : Nat) = i) (hn : i < M.2.2.1) (hl : am_p1 i (.ref x) l = l1) (hd : decode M.2.1 pc = .ok (.astore_n n, 1)) (k : am_B M d Q I L (pc + 1) l1 st) : am_B M d Q I L pc l (.ref x :: st) :=
  fun al R hs => am_astore_n hi hn hl hd (k al R hs)
theorem bm_astore {i : Nat} {x : Nat} {l1 : List (Nat × Value)} (hn : i < M.2.2.1) (hl : am_p1 i (.ref x) l = l1) (hd : decode M.2.1 pc = .ok (.astore i, 2)) (k : am_B M d Q I L (pc + 2) l1 st) : am_B M d Q I L pc l (.ref x :: st) :=
  fun al R hs => am_astore hn hl hd (k al R hs)
theorem bm_iinc (j : Nat) {i : Nat} {n : Int} {x v : Int32} {l1 : List (Nat × Value)} (hk : l[j]? = some (i, .int x)) (hv : x + Int32.ofInt n = v) (hn : i < M.2.2.1) (hl : am_p1 i (.int v) l = l1) (hd : decode M.2.1 pc = .ok (.iinc i n, 3)) (k : am_B M d Q I L (pc + 3) l1 st) : am_B M d Q I L pc l st :=
  fun al R hs => am_iinc j hk hv hn hl hd (k al R hs)
theorem bm_sub (ks : List Nat) {l1 : List (Nat × Value)} (hp : lv_pick l ks = l1) (k : am_B M d Q I L pc l1 st) : am_B M d Q I L pc l st :=
  fun al R hs => am_sub ks hp (k al R hs)
theorem bm_iadd {x y : Int32} (hd : decode M.2.1 pc = .ok (.iadd, 1)) (k : am_B M d Q I L (pc + 1) l (.int (x + y) :: st)) : am_B M d Q I L pc l (.int y :: .int x :: st) :=
  fun al R hs => am_iadd hd (k al R hs)
theorem bm_isub {x y : Int32} (hd : decode M.2.1 pc = .ok (.isub, 1)) (k : am_B M d Q I L (pc + 1) l (.int (x - y) :: st)) : am_B M d Q I L pc l (.int y :: .int x :: st) :=
  fun al R hs => am_isub hd (k al R hs)
theorem bm_imul {x y : Int32} (hd : decode M.2.1 pc = .ok (.imul, 1)) (k : am_B M d Q I L (pc + 1) l (.int (x * y) :: st)) : am_B M d Q I L pc l (.int y :: .int x :: st) :=
  fun al R hs => am_imul hd (k al R hs)
theorem bm_iand {x y : Int32} (hd : decode M.2.1 pc = .ok (.iand, 1)) (k : am_B M d Q I L (pc + 1) l (.int (x &&& y) :: st)) : am_B M d Q I L pc l (.int y :: .int x :: st) :=
  fun al R hs => am_iand hd (k al R hs)
theorem bm_ior {x y : Int32} (hd : decode M.2.1 pc = .ok (.ior, 1)) (k : am_B M d Q I L (pc + 1) l (.int (x ||| y) :: st)) : am_B M d Q I L pc l (.int y :: .int x :: st) :=
  fun al R hs => am_ior hd (k al R hs)
theorem bm_ixor {x y : Int32} (hd : decode M.2.1 pc = .ok (.ixor, 1)) (k : am_B M d Q I L (pc + 1) l (.int (x ^^^ y) :: st)) : am_B M d Q I L pc l (.int y :: .int x :: st) :=
  fun al R hs => am_ixor hd (k al R hs)
theorem bm_ishl {x y : Int32} (hd : decode M.2.1 pc = .ok (.ishl, 1)) (k : am_B M d Q I L (pc + 1) l (.int (x <<< (y &&& 31)) :: st)) : am_B M d Q I L pc l (.int y :: .int x :: st) :=
  fun al R hs => am_ishl hd (k al R hs)
theorem bm_ishr {x y : Int32} (hd : decode M.2.1 pc = .ok (.ishr, 1)) (k : am_B M d Q I L (pc + 1) l (.int (x >>> (y &&& 31)) :: st)) : am_B M d Q I L pc l (.int y :: .int x :: st) :=
  fun al R hs => am_ishr hd (k al R hs)
theorem bm_ladd {x y : Int64} (hd : decode M.2.1 pc = .ok (.ladd, 1)) (k : am_B M d Q I L (pc + 1) l (.long (x + y) :: st)) : am_B M d Q I L pc l (.long y :: .long x :: st) :=
  fun al R hs => am_ladd hd (k al R hs)
theorem bm_lsub {x y : Int64} (hd : decode M.2.1 pc = .ok (.lsub, 1)) (k : am_B M d Q I L (pc + 1) l (.long (x - y) :: st)) : am_B M d Q I L pc l (.long y :: .long x :: st) :=
  fun al R hs => am_lsub hd (k al R hs)
theorem bm_lmul {x y : Int64} (hd : decode M.2.1 pc = .ok (.lmul, 1)) (k : am_B M d Q I L (pc + 1) l (.long (x * y) :: st)) : am_B M d Q I L pc l (.long y :: .long x :: st) :=
  fun al R hs => am_lmul hd (k al R hs)
theorem bm_land {x y : Int64} (hd : decode M.2.1 pc = .ok (.land, 1)) (k : am_B M d Q I L (pc + 1) l (.long (x &&& y) :: st)) : am_B M d Q I L pc l (.long y :: .long x :: st) :=
  fun al R hs => am_land hd (k al R hs)
theorem bm_lor {x y : Int64} (hd : decode M.2.1 pc = .ok (.lor, 1)) (k : am_B M d Q I L (pc + 1) l (.long (x ||| y) :: st)) : am_B M d Q I L pc l (.long y :: .long x :: st) :=
  fun al R hs => am_lor hd (k al R hs)
theorem bm_ldiv {x y : Int64} (hne : ¬ y = 0) (hd : decode M.2.1 pc = .ok (.ldiv, 1)) (k : am_B M d Q I L (pc + 1) l (.long (x / y) :: st)) : am_B M d Q I L pc l (.long y :: .long x :: st) :=
  fun al R hs => am_ldiv hne hd (k al R hs)
theorem bm_lrem {x y : Int64} (hne : ¬ y = 0) (hd : decode M.2.1 pc = .ok (.lrem, 1)) (k : am_B M d Q I L (pc + 1) l (.long (x - x / y * y) :: st)) : am_B M d Q I L pc l (.long y :: .long x :: st) :=
  fun al R hs => am_lrem hne hd (k al R hs)
theorem bm_ineg {x : Int32} (hd : decode M.2.1 pc = .ok (.ineg, 1)) (k : am_B M d Q I L (pc + 1) l (.int (-x) :: st)) : am_B M d Q I L pc l (.int x :: st) :=
  fun al R hs => am_ineg hd (k al R hs)
theorem bm_lneg {x : Int64} (hd : decode M.2.1 pc = .ok (.lneg, 1)) (k : am_B M d Q I L (pc + 1) l (.long (-x) :: st)) : am_B M d Q I L pc l (.long x :: st) :=
  fun al R hs => am_lneg hd (k al R hs)
theorem bm_i2l {x : Int32} (hd : decode M.2.1 pc = .ok (.i2l, 1)) (k : am_B M d Q I L (pc + 1) l (.long (x.toInt64) :: st)) : am_B M d Q I L pc l (.int x :: st) :=
  fun al R hs => am_i2l hd (k al R hs)
theorem bm_l2i {x : Int64} (hd : decode M.2.1 pc = .ok (.l2i, 1)) (k : am_B M d Q I L (pc + 1) l (.int (x.toInt32) :: st)) : am_B M d Q I L pc l (.long x :: st) :=
  fun al R hs => am_l2i hd (k al R hs)
theorem bm_i2c {x : Int32} (hd : decode M.2.1 pc = .ok (.i2c, 1)) (k : am_B M d Q I L (pc + 1) l (.int ((x.toUInt32 % 65536).toInt32) :: st)) : am_B M d Q I L pc l (.int x :: st) :=
  fun al R hs => am_i2c hd (k al R hs)
theorem bm_lshl {x : Int64} {y : Int32} (hd : decode M.2.1 pc = .ok (.lshl, 1)) (k : am_B M d Q I L (pc + 1) l (.long (x <<< (y.toInt64 &&& 63)) :: st)) : am_B M d Q I L pc l (.int y :: .long x :: st) :=
  fun al R hs => am_lshl hd (k al R hs)
theorem bm_lshr {x : Int64} {y : Int32} (hd : decode M.2.1 pc = .ok (.lshr, 1)) (k : am_B M d Q I L (pc + 1) l (.long (x >>> (y.toInt64 &&& 63)) :: st)) : am_B M d Q I L pc l (.int y :: .long x :: st) :=
  fun al R hs => am_lshr hd (k al R hs)
theorem bm_dup {v : Value} (hv : v.category = 1) (hd : decode M.2.1 pc = .ok (.dup, 1)) (k : am_B M d Q I L (pc + 1) l (v :: v :: st)) : am_B M d Q I L pc l (v :: st) :=
  fun al R hs => am_dup hv hd (k al R hs)
theorem bm_pop {v : Value} (hv : v.category = 1) (hd : decode M.2.1 pc = .ok (.pop, 1)) (k : am_B M d Q I L (pc + 1) l st) : am_B M d Q I L pc l (v :: st) :=
  fun al R hs => am_pop hv hd (k al R hs)
theorem bm_pop2 {v : Value} (hv : v.category = 2) (hd : decode M.2.1 pc = .ok (.pop2, 1)) (k : am_B M d Q I L (pc + 1) l st) : am_B M d Q I L pc l (v :: st) :=
  fun al R hs => am_pop2 hv hd (k al R hs)
theorem bm_dup2 {v w : Value} (hv : v.category = 1) (hw : w.category = 1) (hd : decode M.2.1 pc = .ok (.dup2, 1)) (k : am_B M d Q I L (pc + 1) l (v :: w :: v :: w :: st)) : am_B M d Q I L pc l (v :: w :: st) :=
  fun al R hs => am_dup2 hv hw hd (k al R hs)
theorem bm_dup2l {v : Value} (hv : v.category = 2) (hd : decode M.2.1 pc = .ok (.dup2, 1)) (k : am_B M d Q I L (pc + 1) l (v :: v :: st)) : am_B M d Q I L pc l (v :: st) :=
  fun al R hs => am_dup2l hv hd (k al R hs)
theorem bm_goto {off : Int} {tgt : Nat} (ht : (pc : Int) + off = (tgt : Int)) (hd : decode M.2.1 pc = .ok (.goto off, 3)) (k : am_B M d Q I L tgt l st) : am_B M d Q I L pc l st :=
  fun al R hs => am_goto ht hd (k al R hs)
theorem bm_lcmp {x y : Int64} (hd : decode M.2.1 pc = .ok (.lcmp, 1)) (k : am_B M d Q I L (pc + 1) l (.int (lg_cmp x y) :: st)) : am_B M d Q I L pc l (.long y :: .long x :: st) :=
  fun al R hs => am_lcmp hd (k al R hs)
theorem bm_lookup {dflt : Int} {ps : Array (Int × Int)} {len : Nat} {x : Int32} {off : Int} {tgt : Nat} (hp : (ps.toList.zip (ps.toList.drop 1)).all (fun (a, next) => a.1 < next.1) = true) (ho : Op.lookupswitch.offset ps.toList dflt x.toInt = off) (ht : (pc : Int) + off = (tgt : Int)) (hd : decode M.2.1 pc = .ok (.lookupswitch dflt ps, len)) (k : am_B M d Q I L tgt l st) : am_B M d Q I L pc l (.int x :: st) :=
  fun al R hs => am_lookup hp ho ht hd (k al R hs)
theorem bm_tableIn {dflt lo hi : Int} {offs : Array Int} {len : Nat} {x : Int32} {off : Int} {tgt : Nat} (h1 : ¬ x.toInt < lo) (h2 : ¬ hi < x.toInt) (ho : offs[(x.toInt - lo).toNat]? = some off) (ht : (pc : Int) + off = (tgt : Int)) (hd : decode M.2.1 pc = .ok (.tableswitch dflt lo hi offs, len)) (k : am_B M d Q I L tgt l st) : am_B M d Q I L pc l (.int x :: st) :=
  fun al R hs => am_tableIn h1 h2 ho ht hd (k al R hs)
theorem bm_tableOut {dflt lo hi : Int} {offs : Array Int} {len : Nat} {x : Int32} {tgt : Nat} (h1 : x.toInt < lo ∨ hi < x.toInt) (ht : (pc : Int) + dflt = (tgt : Int)) (hd : decode M.2.1 pc = .ok (.tableswitch dflt lo hi offs, len)) (k : am_B M d Q I L tgt l st) : am_B M d Q I L pc l (.int x :: st) :=
  fun al R hs => am_tableOut h1 ht hd (k al R hs)
theorem bm_icmp_eq {x y : Int32} {off : Int} {tgt : Nat} (ht : (pc : Int) + off = (tgt : Int)) (hd : decode M.2.1 pc = .ok (.if_icmp .eq off, 3)) (kt : x = y → am_B M d Q I L tgt l st) (kf : ¬ x = y → am_B M d Q I L (pc + 3) l st) : am_B M d Q I L pc l (.int y :: .int x :: st) :=
  fun al R hs => am_icmp_eq ht hd (fun c => kt c al R hs) (fun c => kf c al R hs)
theorem bm_if_eq {x : Int32} {off : Int} {tgt : Nat} (ht : (pc : Int) + off = (tgt : Int)) (hd : decode M.2.1 pc = .ok (.ifCond .eq off, 3)) (kt : x = 0 → am_B M d Q I L tgt l st) (kf : ¬ x = 0 → am_B M d Q I L (pc + 3) l st) : am_B M d Q I L pc l (.int x :: st) :=
  fun al R hs => am_if_eq ht hd (fun c => kt c al R hs) (fun c => kf c al R hs)
theorem bm_lcmp_eq {x y : Int64} {off : Int} {tgt pc1 : Nat} (hd0 : decode M.2.1 pc = .ok (.lcmp, 1)) (h1 : pc + 1 = pc1) (ht : (pc1 : Int) + off = (tgt : Int)) (hd : decode M.2.1 pc1 = .ok (.ifCond .eq off, 3)) (kt : x = y → am_B M d Q I L tgt l st) (kf : ¬ x = y → am_B M d Q I L (pc1 + 3) l st) : am_B M d Q I L pc l (.long y :: .long x :: st) :=
  fun al R hs => am_lcmp_eq hd0 h1 ht hd (fun c => kt c al R hs) (fun c => kf c al R hs)
theorem bm_icmp_ne {x y : Int32} {off : Int} {tgt : Nat} (ht : (pc : Int) + off = (tgt : Int)) (hd : decode M.2.1 pc = .ok (.if_icmp .ne off, 3)) (kt : ¬ x = y → am_B M d Q I L tgt l st) (kf : x = y → am_B M d Q I L (pc + 3) l st) : am_B M d Q I L pc l (.int y :: .int x :: st) :=
  fun al R hs => am_icmp_ne ht hd (fun c => kt c al R hs) (fun c => kf c al R hs)
theorem bm_if_ne {x : Int32} {off : Int} {tgt : Nat} (ht : (pc : Int) + off = (tgt : Int)) (hd : decode M.2.1 pc = .ok (.ifCond .ne off, 3)) (kt : ¬ x = 0 → am_B M d Q I L tgt l st) (kf : x = 0 → am_B M d Q I L (pc + 3) l st) : am_B M d Q I L pc l (.int x :: st) :=
  fun al R hs => am_if_ne ht hd (fun c => kt c al R hs) (fun c => kf c al R hs)
theorem bm_lcmp_ne {x y : Int64} {off : Int} {tgt pc1 : Nat} (hd0 : decode M.2.1 pc = .ok (.lcmp, 1)) (h1 : pc + 1 = pc1) (ht : (pc1 : Int) + off = (tgt : Int)) (hd : decode M.2.1 pc1 = .ok (.ifCond .ne off, 3)) (kt : ¬ x = y → am_B M d Q I L tgt l st) (kf : x = y → am_B M d Q I L (pc1 + 3) l st) : am_B M d Q I L pc l (.long y :: .long x :: st) :=
  fun al R hs => am_lcmp_ne hd0 h1 ht hd (fun c => kt c al R hs) (fun c => kf c al R hs)
theorem bm_icmp_lt {x y : Int32} {off : Int} {tgt : Nat} (ht : (pc : Int) + off = (tgt : Int)) (hd : decode M.2.1 pc = .ok (.if_icmp .lt off, 3)) (kt : x < y → am_B M d Q I L tgt l st) (kf : ¬ x < y → am_B M d Q I L (pc + 3) l st) : am_B M d Q I L pc l (.int y :: .int x :: st) :=
  fun al R hs => am_icmp_lt ht hd (fun c => kt c al R hs) (fun c => kf c al R hs)
theorem bm_if_lt {x : Int32} {off : Int} {tgt : Nat} (ht : (pc : Int) + off = (tgt : Int)) (hd : decode M.2.1 pc = .ok (.ifCond .lt off, 3)) (kt : x < 0 → am_B M d Q I L tgt l st) (kf : ¬ x < 0 → am_B M d Q I L (pc + 3) l st) : am_B M d Q I L pc l (.int x :: st) :=
  fun al R hs => am_if_lt ht hd (fun c => kt c al R hs) (fun c => kf c al R hs)
theorem bm_lcmp_lt {x y : Int64} {off : Int} {tgt pc1 : Nat} (hd0 : decode M.2.1 pc = .ok (.lcmp, 1)) (h1 : pc + 1 = pc1) (ht : (pc1 : Int) + off = (tgt : Int)) (hd : decode M.2.1 pc1 = .ok (.ifCond .lt off, 3)) (kt : x < y → am_B M d Q I L tgt l st) (kf : ¬ x < y → am_B M d Q I L (pc1 + 3) l st) : am_B M d Q I L pc l (.long y :: .long x :: st) :=
  fun al R hs => am_lcmp_lt hd0 h1 ht hd (fun c => kt c al R hs) (fun c => kf c al R hs)
theorem bm_icmp_ge {x y : Int32} {off : Int} {tgt : Nat} (ht : (pc : Int) + off = (tgt : Int)) (hd : decode M.2.1 pc = .ok (.if_icmp .ge off, 3)) (kt : y ≤ x → am_B M d Q I L tgt l st) (kf : ¬ y ≤ x → am_B M d Q I L (pc + 3) l st) : am_B M d Q I L pc l (.int y :: .int x :: st) :=
  fun al R hs => am_icmp_ge ht hd (fun c => kt c al R hs) (fun c => kf c al R hs)
theorem bm_if_ge {x : Int32} {off : Int} {tgt : Nat} (ht : (pc : Int) + off = (tgt : Int)) (hd : decode M.2.1 pc = .ok (.ifCond .ge off, 3)) (kt : 0 ≤ x → am_B M d Q I L tgt l st) (kf : ¬ 0 ≤ x → am_B M d Q I L (pc + 3) l st) : am_B M d Q I L pc l (.int x :: st) :=
  fun al R hs => am_if_ge ht hd (fun c => kt c al R hs) (fun c => kf c al R hs)
theorem bm_lcmp_ge {x y : Int64} {off : Int} {tgt pc1 : Nat} (hd0 : decode M.2.1 pc = .ok (.lcmp, 1)) (h1 : pc + 1 = pc1) (ht : (pc1 : Int) + off = (tgt : Int)) (hd : decode M.2.1 pc1 = .ok (.ifCond .ge off, 3)) (kt : y ≤ x → am_B M d Q I L tgt l st) (kf : ¬ y ≤ x → am_B M d Q I L (pc1 + 3) l st) : am_B M d Q I L pc l (.long y :: .long x :: st) :=
  fun al R hs => am_lcmp_ge hd0 h1 ht hd (fun c => kt c al R hs) (fun c => kf c al R hs)
theorem bm_icmp_gt {x y : Int32} {off : Int} {tgt : Nat} (ht : (pc : Int) + off = (tgt : Int)) (hd : decode M.2.1 pc = .ok (.if_icmp .gt off, 3)) (kt : y < x → am_B M d Q I L tgt l st) (kf : ¬ y < x → am_B M d Q I L (pc + 3) l st) : am_B M d Q I L pc l (.int y :: .int x :: st) :=
  fun al R hs => am_icmp_gt ht hd (fun c => kt c al R hs) (fun c => kf c al R hs)
theorem bm_if_gt {x : Int32} {off : Int} {tgt : Nat} (ht : (pc : Int) + off = (tgt : Int)) (hd : decode M.2.1 pc = .ok (.ifCond .gt off, 3)) (kt : 0 < x → am_B M d Q I L tgt l st) (kf : ¬ 0 < x → am_B M d Q I L (pc + 3) l st) : am_B M d Q I L pc l (.int x :: st) :=
  fun al R hs => am_if_gt ht hd (fun c => kt c al R hs) (fun c => kf c al R hs)
theorem bm_lcmp_gt {x y : Int64} {off : Int} {tgt pc1 : Nat} (hd0 : decode M.2.1 pc = .ok (.lcmp, 1)) (h1 : pc + 1 = pc1) (ht : (pc1 : Int) + off = (tgt : Int)) (hd : decode M.2.1 pc1 = .ok (.ifCond .gt off, 3)) (kt : y < x → am_B M d Q I L tgt l st) (kf : ¬ y < x → am_B M d Q I L (pc1 + 3) l st) : am_B M d Q I L pc l (.long y :: .long x :: st) :=
  fun al R hs => am_lcmp_gt hd0 h1 ht hd (fun c => kt c al R hs) (fun c => kf c al R hs)
theorem bm_icmp_le {x y : Int32} {off : Int} {tgt : Nat} (ht : (pc : Int) + off = (tgt : Int)) (hd : decode M.2.1 pc = .ok (.if_icmp .le off, 3)) (kt : x ≤ y → am_B M d Q I L tgt l st) (kf : ¬ x ≤ y → am_B M d Q I L (pc + 3) l st) : am_B M d Q I L pc l (.int y :: .int x :: st) :=
  fun al R hs => am_icmp_le ht hd (fun c => kt c al R hs) (fun c => kf c al R hs)
theorem bm_if_le {x : Int32} {off : Int} {tgt : Nat} (ht : (pc : Int) + off = (tgt : Int)) (hd : decode M.2.1 pc = .ok (.ifCond .le off, 3)) (kt : x ≤ 0 → am_B M d Q I L tgt l st) (kf : ¬ x ≤ 0 → am_B M d Q I L (pc + 3) l st) : am_B M d Q I L pc l (.int x :: st) :=
  fun al R hs => am_if_le ht hd (fun c => kt c al R hs) (fun c => kf c al R hs)
theorem bm_lcmp_le {x y : Int64} {off : Int} {tgt pc1 : Nat} (hd0 : decode M.2.1 pc = .ok (.lcmp, 1)) (h1 : pc + 1 = pc1) (ht : (pc1 : Int) + off = (tgt : Int)) (hd : decode M.2.1 pc1 = .ok (.ifCond .le off, 3)) (kt : x ≤ y → am_B M d Q I L tgt l st) (kf : ¬ x ≤ y → am_B M d Q I L (pc1 + 3) l st) : am_B M d Q I L pc l (.long y :: .long x :: st) :=
  fun al R hs => am_lcmp_le hd0 h1 ht hd (fun c => kt c al R hs) (fun c => kf c al R hs)
theorem am_tr (P : Prop) [Decidable P] : (if P then (1 : Int32) else 0) = 0 ↔ ¬ P := by
  by_cases h : P
  · simp [h]
  · simp [h]
theorem bm_ift_eq {P : Prop} {dp : Decidable P} {off : Int} {tgt : Nat} (ht : (pc : Int) + off = (tgt : Int)) (hd : decode M.2.1 pc = .ok (.ifCond .eq off, 3)) (kt : ¬ P → am_B M d Q I L tgt l st) (kf : P → am_B M d Q I L (pc + 3) l st) : am_B M d Q I L pc l (.int (@ite _ P dp 1 0) :: st) :=
  bm_if_eq ht hd (fun c => kt ((am_tr P).mp c)) (fun c => kf (Classical.not_not.mp (fun h => c ((am_tr P).mpr h))))
theorem bm_ift_ne {P : Prop} {dp : Decidable P} {off : Int} {tgt : Nat} (ht : (pc : Int) + off = (tgt : Int)) (hd : decode M.2.1 pc = .ok (.ifCond .ne off, 3)) (kt : P → am_B M d Q I L tgt l st) (kf : ¬ P → am_B M d Q I L (pc + 3) l st) : am_B M d Q I L pc l (.int (@ite _ P dp 1 0) :: st) :=
  bm_if_ne ht hd (fun c => kt (Classical.not_not.mp (fun h => c ((am_tr P).mpr h)))) (fun c => kf ((am_tr P).mp c))
theorem bm_geti {a ci j index N : Nat} {C : String} {T : u_T} {x : Int32} (hf : am_fl M.1.cls index ci j C T N) (hy : am_lay a = .inr ci) (ha : ∀ (al : List Nat) (R : am_R), am_st al R → a ∈ al) (hw : am_ty ci j = .int ∨ am_ty ci j = .boolean) (hx : I a j = x) (hd : decode M.2.1 pc = .ok (.getfield index, 3)) (k : am_B M d Q I L (pc + 3) l (.int x :: st)) : am_B M d Q I L pc l (.ref a :: st) :=
  fun al R hs => am_get hf.1 hy (ha al R hs) hf.2.1 (w := .int x) (fun ad => by rw [← hx]; rcases hw with e | e <;> rw [e] <;> rfl) hf.2.2 hd (k al R hs)
theorem bm_getl {a ci j index N : Nat} {C : String} {T : u_T} {x : Int64} (hf : am_fl M.1.cls index ci j C T N) (hy : am_lay a = .inr ci) (ha : ∀ (al : List Nat) (R : am_R), am_st al R → a ∈ al) (hw : am_ty ci j = .long) (hx : L a j = x) (hd : decode M.2.1 pc = .ok (.getfield index, 3)) (k : am_B M d Q I L (pc + 3) l (.long x :: st)) : am_B M d Q I L pc l (.ref a :: st) :=
  fun al R hs => am_get hf.1 hy (ha al R hs) hf.2.1 (w := .long x) (fun ad => by rw [← hx, hw]; rfl) hf.2.2 hd (k al R hs)
theorem bm_getr {a b ci j index N : Nat} {C : String} {T : u_T} (hf : am_fl M.1.cls index ci j C T N) (hy : am_lay a = .inr ci) (ha : ∀ (al : List Nat) (R : am_R), am_st al R → a ∈ al) (hw : (∃ t, am_ty ci j = .array t) ∨ ∃ t, am_ty ci j = .object t) (hx : ∀ (al : List Nat) (R : am_R), am_st al R → R a j = some b) (hd : decode M.2.1 pc = .ok (.getfield index, 3)) (k : am_B M d Q I L (pc + 3) l (.ref b :: st)) : am_B M d Q I L pc l (.ref a :: st) :=
  fun al R hs => am_get hf.1 hy (ha al R hs) hf.2.1 (w := .ref b) (fun ad => by rcases hw with ⟨t, e⟩ | ⟨t, e⟩ <;> rw [e] <;> simp only [am_fv, hx al R hs] <;> rfl) hf.2.2 hd (k al R hs)
theorem bm_puti {a ci j index N : Nat} {C : String} {T : u_T} {x : Int32} (hf : am_fl M.1.cls index ci j C T N) (hy : am_lay a = .inr ci) (ha : ∀ (al : List Nat) (R : am_R), am_st al R → a ∈ al) (hw : am_ty ci j = .int) (hfin : (T j).2.2.2 = false) (hd : decode M.2.1 pc = .ok (.putfield index, 3)) (k : am_B M d Q (am_u I a j x) L (pc + 3) l st) : am_B M d Q I L pc l (.int x :: .ref a :: st) :=
  fun al R hs => am_put (h' := (am_u I a j x, L, R)) hf.1 hy (ha al R hs) hf.2.1 am_but_i (w := .int x) (fun ad => by rw [hw]; simp only [am_fv, am_u_eq]; rfl) hfin (fun ad => by rw [hw]; exact ⟨rfl, rfl⟩) hf.2.2 hd (k al R hs)
theorem bm_putz {a ci j index N : Nat} {C : String} {T : u_T} {x : Int32} (hf : am_fl M.1.cls index ci j C T N) (hy : am_lay a = .inr ci) (ha : ∀ (al : List Nat) (R : am_R), am_st al R → a ∈ al) (hw : am_ty ci j = .boolean) (hfin : (T j).2.2.2 = false) (h01 : x = 0 ∨ x = 1) (hd : decode M.2.1 pc = .ok (.putfield index, 3)) (k : am_B M d Q (am_u I a j x) L (pc + 3) l st) : am_B M d Q I L pc l (.int x :: .ref a :: st) :=
  fun al R hs => am_put (h' := (am_u I a j x, L, R)) hf.1 hy (ha al R hs) hf.2.1 am_but_i (w := .int x) (fun ad => by rw [hw]; simp only [am_fv, am_u_eq]; rfl) hfin (fun ad => by rw [hw]; rcases h01 with e | e <;> rw [e] <;> exact ⟨rfl, rfl⟩) hf.2.2 hd (k al R hs)
theorem bm_putl {a ci j index N : Nat} {C : String} {T : u_T} {x : Int64} (hf : am_fl M.1.cls index ci j C T N) (hy : am_lay a = .inr ci) (ha : ∀ (al : List Nat) (R : am_R), am_st al R → a ∈ al) (hw : am_ty ci j = .long) (hfin : (T j).2.2.2 = false) (hd : decode M.2.1 pc = .ok (.putfield index, 3)) (k : am_B M d Q I (am_u L a j x) (pc + 3) l st) : am_B M d Q I L pc l (.long x :: .ref a :: st) :=
  fun al R hs => am_put (h' := (I, am_u L a j x, R)) hf.1 hy (ha al R hs) hf.2.1 am_but_l (w := .long x) (fun ad => by rw [hw]; simp only [am_fv, am_u_eq]; rfl) hfin (fun ad => by rw [hw]; exact ⟨rfl, rfl⟩) hf.2.2 hd (k al R hs)
theorem bm_iald {a n : Nat} {i : Int32} {x : Int32} (hy : am_lay a = .inl (.int, n)) (ha : ∀ (al : List Nat) (R : am_R), am_st al R → a ∈ al) (hin : vp_in i n) (hx : I a i.toNatClampNeg = x) (hd : decode M.2.1 pc = .ok (.iaload, 1)) (k : am_B M d Q I L (pc + 1) l (.int x :: st)) : am_B M d Q I L pc l (.int i :: .ref a :: st) :=
  fun al R hs => am_iald hy (ha al R hs) hin hd (by subst hx; exact k al R hs)
theorem bm_zald {a n : Nat} {i : Int32} {x : Int32} (hy : am_lay a = .inl (.boolean, n)) (ha : ∀ (al : List Nat) (R : am_R), am_st al R → a ∈ al) (hin : vp_in i n) (hx : I a i.toNatClampNeg = x) (hd : decode M.2.1 pc = .ok (.baload, 1)) (k : am_B M d Q I L (pc + 1) l (.int x :: st)) : am_B M d Q I L pc l (.int i :: .ref a :: st) :=
  fun al R hs => am_zald hy (ha al R hs) hin hd (by subst hx; exact k al R hs)
theorem bm_lald {a n : Nat} {i : Int32} {x : Int64} (hy : am_lay a = .inl (.long, n)) (ha : ∀ (al : List Nat) (R : am_R), am_st al R → a ∈ al) (hin : vp_in i n) (hx : L a i.toNatClampNeg = x) (hd : decode M.2.1 pc = .ok (.laload, 1)) (k : am_B M d Q I L (pc + 1) l (.long x :: st)) : am_B M d Q I L pc l (.int i :: .ref a :: st) :=
  fun al R hs => am_lald hy (ha al R hs) hin hd (by subst hx; exact k al R hs)
theorem bm_iast {a n : Nat} {i : Int32} {x : Int32} (hy : am_lay a = .inl (.int, n)) (ha : ∀ (al : List Nat) (R : am_R), am_st al R → a ∈ al) (hin : vp_in i n) (hd : decode M.2.1 pc = .ok (.iastore, 1)) (k : am_B M d Q (am_u I a i.toNatClampNeg x) L (pc + 1) l st) : am_B M d Q I L pc l (.int x :: .int i :: .ref a :: st) :=
  fun al R hs => am_iast hy (ha al R hs) hin hd (k al R hs)
theorem bm_zast {a n : Nat} {i : Int32} {x : Int32} (hy : am_lay a = .inl (.boolean, n)) (ha : ∀ (al : List Nat) (R : am_R), am_st al R → a ∈ al) (hin : vp_in i n) (h01 : vp_nar .boolean x = x) (hd : decode M.2.1 pc = .ok (.bastore, 1)) (k : am_B M d Q (am_u I a i.toNatClampNeg x) L (pc + 1) l st) : am_B M d Q I L pc l (.int x :: .int i :: .ref a :: st) :=
  fun al R hs => am_zast hy (ha al R hs) hin h01 hd (k al R hs)
theorem bm_last {a n : Nat} {i : Int32} {x : Int64} (hy : am_lay a = .inl (.long, n)) (ha : ∀ (al : List Nat) (R : am_R), am_st al R → a ∈ al) (hin : vp_in i n) (hd : decode M.2.1 pc = .ok (.lastore, 1)) (k : am_B M d Q I (am_u L a i.toNatClampNeg x) (pc + 1) l st) : am_B M d Q I L pc l (.long x :: .int i :: .ref a :: st) :=
  fun al R hs => am_last hy (ha al R hs) hin hd (k al R hs)
theorem bm_iret {x : Int32} {ty : FieldType} (hr : M.2.2.2 = some ty) (hn : narrow ty (.int x) = .int x) (hd : decode M.2.1 pc = .ok (.ireturn, 1)) (hq : Q (some (.int x)) I L) : am_B M d Q I L pc l [.int x] :=
  fun al R hs => am_iret hr hn (Nat.le_refl _) (Nat.le_refl _) hd ⟨rfl, I, L, rfl, hq⟩
theorem bm_lret {x : Int64} (hr : M.2.2.2 = some .long) (hd : decode M.2.1 pc = .ok (.lreturn, 1)) (hq : Q (some (.long x)) I L) : am_B M d Q I L pc l [.long x] :=
  fun al R hs => am_lret hr (Nat.le_refl _) (Nat.le_refl _) hd ⟨rfl, I, L, rfl, hq⟩
theorem bm_vret (hr : M.2.2.2 = none) (hd : decode M.2.1 pc = .ok (.return_, 1)) (hq : Q none I L) : am_B M d Q I L pc l [] :=
  fun al R hs => am_vret hr (Nat.le_refl _) (Nat.le_refl _) hd ⟨rfl, I, L, rfl, hq⟩
theorem bm_aret {a : Nat} {C : String} (hr : M.2.2.2 = some (.object C)) (hd : decode M.2.1 pc = .ok (.areturn, 1)) (hq : Q (some (.ref a)) I L) : am_B M d Q I L pc l [.ref a] :=
  fun al R hs => am_aret hr (Nat.le_refl _) (Nat.le_refl _) hd ⟨rfl, I, L, rfl, hq⟩
theorem bm_invV {N : am_M} {d1 n index b ci NN : Nat} {C : String} {T : u_T} {as : List Value} {Q1 : am_S} (hK : am_K N d1 (.ref b :: as) I L Q1) (hw : am_cwd N n) (hlk : Cond.methodLink M.1.cls index N.1 ∈ lw_tbl) (hin : Cond.instanceMethod N.1 ∈ lw_tbl) (hse : Cond.selects N.1.cls N.1 N.1 ∈ lw_tbl) (hcl : am_cls ci C T NN) (hC : N.1.cls = C) (hy : am_lay b = .inr ci) (hb : ∀ (al : List Nat) (R : am_R), am_st al R → b ∈ al) (hn : as.length = n) (hd1 : d1 + 1 ≤ d) (hst : (st.map fun v => v.category).sum ≤ 8) (hd : decode M.2.1 pc = .ok (.invokevirtual index, 3)) (k : ∀ (r : Option Value) (I1 : am_I) (L1 : am_L), Q1 r I1 L1 → am_B M d Q I1 L1 (pc + 3) l (r.toList ++ st)) : am_B M d Q I L pc l (as.reverse ++ .ref b :: st) :=
  fun al R hs => am_invV (hK al R hs) hw hlk hin hse hcl hC hy (hb al R hs) hn hd1 (Nat.le_refl _) (Nat.le_refl _) hst ⟨fun _ _ _ _ => trivial, fun _ _ _ _ => trivial⟩ (fun _ _ => trivial) hd (fun r h1 al1 hq => by obtain ⟨rfl, I1, L1, rfl, hq⟩ := hq; exact k r I1 L1 hq al1 R hs)
theorem bm_invS {N : am_M} {d1 n index : Nat} {as : List Value} {Q1 : am_S} (hK : am_K N d1 as I L Q1) (hw : am_cwd N n) (hlk : Cond.methodLink M.1.cls index N.1 ∈ lw_tbl) (hsta : Cond.static N.1 ∈ lw_tbl) (hn : as.length = n) (hd1 : d1 + 1 ≤ d) (hst : (st.map fun v => v.category).sum ≤ 8) (hd : decode M.2.1 pc = .ok (.invokestatic index, 3)) (k : ∀ (r : Option Value) (I1 : am_I) (L1 : am_L), Q1 r I1 L1 → am_B M d Q I1 L1 (pc + 3) l (r.toList ++ st)) : am_B M d Q I L pc l (as.reverse ++ st) :=
  fun al R hs => am_invS (hK al R hs) hw hlk hsta hn hd1 (Nat.le_refl _) (Nat.le_refl _) hst ⟨fun _ _ _ _ => trivial, fun _ _ _ _ => trivial⟩ (fun _ _ => trivial) hd (fun r h1 al1 hq => by obtain ⟨rfl, I1, L1, rfl, hq⟩ := hq; exact k r I1 L1 hq al1 R hs)
theorem bm_invSN {N : am_M} {d1 n index : Nat} {host : String} {as : List Value} {Q1 : am_S} (hK : am_K N d1 as I L Q1) (hw : am_cwd N n) (hlk : (M.1.cls, index, N.1, host) ∈ am_nest) (hsta : Cond.static N.1 ∈ lw_tbl) (hn : as.length = n) (hd1 : d1 + 1 ≤ d) (hst : (st.map fun v => v.category).sum ≤ 8) (hd : decode M.2.1 pc = .ok (.invokestatic index, 3)) (k : ∀ (r : Option Value) (I1 : am_I) (L1 : am_L), Q1 r I1 L1 → am_B M d Q I1 L1 (pc + 3) l (r.toList ++ st)) : am_B M d Q I L pc l (as.reverse ++ st) :=
  fun al R hs => am_invSN (hK al R hs) hw hlk hsta hn hd1 (Nat.le_refl _) (Nat.le_refl _) hst ⟨fun _ _ _ _ => trivial, fun _ _ _ _ => trivial⟩ (fun _ _ => trivial) hd (fun r h1 al1 hq => by obtain ⟨rfl, I1, L1, rfl, hq⟩ := hq; exact k r I1 L1 hq al1 R hs)
theorem am_wmax : Cond.static Lib.MathLoose.max_long.x ∈ lw_tbl ∧ Cond.initialized "java/lang/Math" ∈ lw_tbl ∧ Cond.code Lib.MathLoose.max_long.x Lib.MathLoose.max_long.code 4 (some .long) ∈ lw_tbl := ⟨by decide +kernel, by decide +kernel, by decide +kernel⟩
theorem bm_maxl {x y : Int64} {index : Nat} (hlk : Cond.methodLink M.1.cls index Lib.MathLoose.max_long.x ∈ lw_tbl) (hst : (st.map fun v => v.category).sum ≤ 8) (hx : 1 ≤ d) (hd : decode M.2.1 pc = .ok (.invokestatic index, 3)) (k : am_B M d Q I L (pc + 3) l (.long (if y < x then x else y) :: st)) : am_B M d Q I L pc l (.long y :: .long x :: st) :=
  fun al R hs => am_maxl hlk am_wmax.1 am_wmax.2.1 am_wmax.2.2 hst hx (Nat.le_refl _) (Nat.le_refl _) hd (k al R hs)
theorem am_wmin : Cond.static Lib.MathLoose.min_long.x ∈ lw_tbl ∧ Cond.initialized "java/lang/Math" ∈ lw_tbl ∧ Cond.code Lib.MathLoose.min_long.x Lib.MathLoose.min_long.code 4 (some .long) ∈ lw_tbl := ⟨by decide +kernel, by decide +kernel, by decide +kernel⟩
theorem bm_minl {x y : Int64} {index : Nat} (hlk : Cond.methodLink M.1.cls index Lib.MathLoose.min_long.x ∈ lw_tbl) (hst : (st.map fun v => v.category).sum ≤ 8) (hx : 1 ≤ d) (hd : decode M.2.1 pc = .ok (.invokestatic index, 3)) (k : am_B M d Q I L (pc + 3) l (.long (if y < x then y else x) :: st)) : am_B M d Q I L pc l (.long y :: .long x :: st) :=
  fun al R hs => am_minl hlk am_wmin.1 am_wmin.2.1 am_wmin.2.2 hst hx (Nat.le_refl _) (Nat.le_refl _) hd (k al R hs)
theorem am_wcopy : Cond.native arraycopyName ∈ lw_tbl ∧ Cond.static arraycopyName ∈ lw_tbl ∧ Cond.initialized "java/lang/System" ∈ lw_tbl := ⟨by decide +kernel, by decide +kernel, by decide +kernel⟩
theorem bm_copyi {src dst n index : Nat} {N : Int32} (hs1 : am_lay src = .inl (.int, n)) (hs2 : am_lay dst = .inl (.int, n)) (ha : ∀ (al : List Nat) (R : am_R), am_st al R → src ∈ al) (hb : ∀ (al : List Nat) (R : am_R), am_st al R → dst ∈ al) (hN : ¬ N < 0) (hn : N.toNatClampNeg = n) (hlk : Cond.methodLink M.1.cls index arraycopyName ∈ lw_tbl) (hst : (st.map fun v => v.category).sum ≤ 8) (hx : 1 ≤ d) (hd : decode M.2.1 pc = .ok (.invokestatic index, 3)) (k : am_B M d Q (am_cp I dst src n) L (pc + 3) l st) : am_B M d Q I L pc l (.int N :: .int 0 :: .ref dst :: .int 0 :: .ref src :: st) :=
  fun al R hs => am_copyi hs1 hs2 (ha al R hs) (hb al R hs) hN hn hlk am_wcopy.1 am_wcopy.2.1 am_wcopy.2.2 hst hx hd (k al R hs)
theorem bm_copyl {src dst n index : Nat} {N : Int32} (hs1 : am_lay src = .inl (.long, n)) (hs2 : am_lay dst = .inl (.long, n)) (ha : ∀ (al : List Nat) (R : am_R), am_st al R → src ∈ al) (hb : ∀ (al : List Nat) (R : am_R), am_st al R → dst ∈ al) (hN : ¬ N < 0) (hn : N.toNatClampNeg = n) (hlk : Cond.methodLink M.1.cls index arraycopyName ∈ lw_tbl) (hst : (st.map fun v => v.category).sum ≤ 8) (hx : 1 ≤ d) (hd : decode M.2.1 pc = .ok (.invokestatic index, 3)) (k : am_B M d Q I (am_cp L dst src n) (pc + 3) l st) : am_B M d Q I L pc l (.int N :: .int 0 :: .ref dst :: .int 0 :: .ref src :: st) :=
  fun al R hs => am_copyl hs1 hs2 (ha al R hs) (hb al R hs) hN hn hlk am_wcopy.1 am_wcopy.2.1 am_wcopy.2.2 hst hx hd (k al R hs)
end BM
end
