section
-- ===== PART A: goes FIRST, ahead of the names: the tables' words, and 'selects' of the private methods out of them =====
/-- a private method of a class that the tables say can be made, by its rows of tables_1 -/
def lw_okq (q : MethodName × Nat) : Prop := (q.1.cls ≠ "java/lang/invoke/MethodHandle" ∧ q.1.cls ≠ "java/lang/invoke/VarHandle") ∧ Cond.instantiable q.1.cls q.2 ∈ tables_1 ∧ Cond.privateMethod q.1 ∈ tables_1 ∧ Cond.instanceMethod q.1 ∈ tables_1
theorem lw_p0 : lw_okq (⟨"SteadyFund$Claims", "indexedOf", "(LSteadyFund$Ledger;I)J"⟩, 13) := ⟨⟨by decide +kernel, by decide +kernel⟩, List.mem_of_getElem? (i := 189) (by decide +kernel), List.mem_of_getElem? (i := 638) (by decide +kernel), List.mem_of_getElem? (i := 639) (by decide +kernel)⟩
theorem lw_p1 : lw_okq (⟨"SteadyFund$Tide", "lookAt", "(LSteadyFund$Ledger;)V"⟩, 4) := ⟨⟨by decide +kernel, by decide +kernel⟩, List.mem_of_getElem? (i := 362) (by decide +kernel), List.mem_of_getElem? (i := 662) (by decide +kernel), List.mem_of_getElem? (i := 663) (by decide +kernel)⟩
theorem lw_p2 : lw_okq (⟨"SteadyFund$Claims", "leadOn", "(I)V"⟩, 13) := ⟨⟨by decide +kernel, by decide +kernel⟩, List.mem_of_getElem? (i := 189) (by decide +kernel), List.mem_of_getElem? (i := 715) (by decide +kernel), List.mem_of_getElem? (i := 716) (by decide +kernel)⟩
theorem lw_p3 : lw_okq (⟨"SteadyFund", "agreed", "(I)LSteadyFund$Clearing;"⟩, 8) := ⟨⟨by decide +kernel, by decide +kernel⟩, List.mem_of_getElem? (i := 24) (by decide +kernel), List.mem_of_getElem? (i := 735) (by decide +kernel), List.mem_of_getElem? (i := 736) (by decide +kernel)⟩
theorem lw_p4 : lw_okq (⟨"SteadyFund$Clearing", "learn", "(LSteadyFund$World;)Z"⟩, 9) := ⟨⟨by decide +kernel, by decide +kernel⟩, List.mem_of_getElem? (i := 383) (by decide +kernel), List.mem_of_getElem? (i := 743) (by decide +kernel), List.mem_of_getElem? (i := 744) (by decide +kernel)⟩
theorem lw_p5 : lw_okq (⟨"SteadyFund$Clearing", "begin", "()V"⟩, 9) := ⟨⟨by decide +kernel, by decide +kernel⟩, List.mem_of_getElem? (i := 383) (by decide +kernel), List.mem_of_getElem? (i := 753) (by decide +kernel), List.mem_of_getElem? (i := 754) (by decide +kernel)⟩
theorem lw_p6 : lw_okq (⟨"SteadyFund$Clearing", "handOn", "(I)V"⟩, 9) := ⟨⟨by decide +kernel, by decide +kernel⟩, List.mem_of_getElem? (i := 383) (by decide +kernel), List.mem_of_getElem? (i := 760) (by decide +kernel), List.mem_of_getElem? (i := 761) (by decide +kernel)⟩
theorem lw_p7 : lw_okq (⟨"SteadyFund$Clearing", "changesInRound", "()Z"⟩, 9) := ⟨⟨by decide +kernel, by decide +kernel⟩, List.mem_of_getElem? (i := 383) (by decide +kernel), List.mem_of_getElem? (i := 766) (by decide +kernel), List.mem_of_getElem? (i := 767) (by decide +kernel)⟩
theorem lw_p8 : lw_okq (⟨"SteadyFund$RuleReader", "anyHolds", "(I)J"⟩, 5) := ⟨⟨by decide +kernel, by decide +kernel⟩, List.mem_of_getElem? (i := 419) (by decide +kernel), List.mem_of_getElem? (i := 807) (by decide +kernel), List.mem_of_getElem? (i := 808) (by decide +kernel)⟩
theorem lw_p9 : lw_okq (⟨"SteadyFund$RuleReader", "allHold", "(I)J"⟩, 5) := ⟨⟨by decide +kernel, by decide +kernel⟩, List.mem_of_getElem? (i := 419) (by decide +kernel), List.mem_of_getElem? (i := 811) (by decide +kernel), List.mem_of_getElem? (i := 812) (by decide +kernel)⟩
theorem lw_p10 : lw_okq (⟨"SteadyFund$RuleReader", "held", "(I)J"⟩, 5) := ⟨⟨by decide +kernel, by decide +kernel⟩, List.mem_of_getElem? (i := 419) (by decide +kernel), List.mem_of_getElem? (i := 815) (by decide +kernel), List.mem_of_getElem? (i := 816) (by decide +kernel)⟩
theorem lw_p11 : lw_okq (⟨"SteadyFund$RuleReader", "added", "(I)J"⟩, 5) := ⟨⟨by decide +kernel, by decide +kernel⟩, List.mem_of_getElem? (i := 419) (by decide +kernel), List.mem_of_getElem? (i := 819) (by decide +kernel), List.mem_of_getElem? (i := 820) (by decide +kernel)⟩
theorem lw_p12 : lw_okq (⟨"SteadyFund$RuleReader", "multiplied", "(I)J"⟩, 5) := ⟨⟨by decide +kernel, by decide +kernel⟩, List.mem_of_getElem? (i := 419) (by decide +kernel), List.mem_of_getElem? (i := 823) (by decide +kernel), List.mem_of_getElem? (i := 824) (by decide +kernel)⟩
theorem lw_p13 : lw_okq (⟨"SteadyFund$RuleReader", "unit", "(I)J"⟩, 5) := ⟨⟨by decide +kernel, by decide +kernel⟩, List.mem_of_getElem? (i := 419) (by decide +kernel), List.mem_of_getElem? (i := 827) (by decide +kernel), List.mem_of_getElem? (i := 828) (by decide +kernel)⟩
theorem lw_p14 : lw_okq (⟨"SteadyFund$RuleReader", "next", "()I"⟩, 5) := ⟨⟨by decide +kernel, by decide +kernel⟩, List.mem_of_getElem? (i := 419) (by decide +kernel), List.mem_of_getElem? (i := 831) (by decide +kernel), List.mem_of_getElem? (i := 832) (by decide +kernel)⟩
theorem lw_p15 : lw_okq (⟨"SteadyFund$RuleReader", "refuse", "(I)J"⟩, 5) := ⟨⟨by decide +kernel, by decide +kernel⟩, List.mem_of_getElem? (i := 419) (by decide +kernel), List.mem_of_getElem? (i := 835) (by decide +kernel), List.mem_of_getElem? (i := 836) (by decide +kernel)⟩
def lw_privs_1 : List (MethodName × Nat) := [(⟨"SteadyFund$Claims", "indexedOf", "(LSteadyFund$Ledger;I)J"⟩, 13), (⟨"SteadyFund$Tide", "lookAt", "(LSteadyFund$Ledger;)V"⟩, 4), (⟨"SteadyFund$Claims", "leadOn", "(I)V"⟩, 13), (⟨"SteadyFund", "agreed", "(I)LSteadyFund$Clearing;"⟩, 8), (⟨"SteadyFund$Clearing", "learn", "(LSteadyFund$World;)Z"⟩, 9), (⟨"SteadyFund$Clearing", "begin", "()V"⟩, 9), (⟨"SteadyFund$Clearing", "handOn", "(I)V"⟩, 9), (⟨"SteadyFund$Clearing", "changesInRound", "()Z"⟩, 9), (⟨"SteadyFund$RuleReader", "anyHolds", "(I)J"⟩, 5), (⟨"SteadyFund$RuleReader", "allHold", "(I)J"⟩, 5), (⟨"SteadyFund$RuleReader", "held", "(I)J"⟩, 5), (⟨"SteadyFund$RuleReader", "added", "(I)J"⟩, 5), (⟨"SteadyFund$RuleReader", "multiplied", "(I)J"⟩, 5), (⟨"SteadyFund$RuleReader", "unit", "(I)J"⟩, 5), (⟨"SteadyFund$RuleReader", "next", "()I"⟩, 5), (⟨"SteadyFund$RuleReader", "refuse", "(I)J"⟩, 5)]
theorem lw_r1 : ∀ q ∈ lw_privs_1, lw_okq q := List.forall_mem_cons.mpr ⟨lw_p0, List.forall_mem_cons.mpr ⟨lw_p1, List.forall_mem_cons.mpr ⟨lw_p2, List.forall_mem_cons.mpr ⟨lw_p3, List.forall_mem_cons.mpr ⟨lw_p4, List.forall_mem_cons.mpr ⟨lw_p5, List.forall_mem_cons.mpr ⟨lw_p6, List.forall_mem_cons.mpr ⟨lw_p7, List.forall_mem_cons.mpr ⟨lw_p8, List.forall_mem_cons.mpr ⟨lw_p9, List.forall_mem_cons.mpr ⟨lw_p10, List.forall_mem_cons.mpr ⟨lw_p11, List.forall_mem_cons.mpr ⟨lw_p12, List.forall_mem_cons.mpr ⟨lw_p13, List.forall_mem_cons.mpr ⟨lw_p14, List.forall_mem_cons.mpr ⟨lw_p15, fun _ h => absurd h List.not_mem_nil⟩⟩⟩⟩⟩⟩⟩⟩⟩⟩⟩⟩⟩⟩⟩⟩
theorem lw_p16 : lw_okq (⟨"SteadyFund$RuleReader", "number", "()J"⟩, 5) := ⟨⟨by decide +kernel, by decide +kernel⟩, List.mem_of_getElem? (i := 419) (by decide +kernel), List.mem_of_getElem? (i := 842) (by decide +kernel), List.mem_of_getElem? (i := 843) (by decide +kernel)⟩
theorem lw_p17 : lw_okq (⟨"SteadyFund$RuleReader", "inBrackets", "(I)J"⟩, 5) := ⟨⟨by decide +kernel, by decide +kernel⟩, List.mem_of_getElem? (i := 419) (by decide +kernel), List.mem_of_getElem? (i := 848) (by decide +kernel), List.mem_of_getElem? (i := 849) (by decide +kernel)⟩
theorem lw_p18 : lw_okq (⟨"SteadyFund$RuleReader", "takes", "(C)Z"⟩, 5) := ⟨⟨by decide +kernel, by decide +kernel⟩, List.mem_of_getElem? (i := 419) (by decide +kernel), List.mem_of_getElem? (i := 852) (by decide +kernel), List.mem_of_getElem? (i := 853) (by decide +kernel)⟩
theorem lw_p19 : lw_okq (⟨"SteadyFund$Paper", "lookWhoCould", "()V"⟩, 13) := ⟨⟨by decide +kernel, by decide +kernel⟩, List.mem_of_getElem? (i := 137) (by decide +kernel), List.mem_of_getElem? (i := 994) (by decide +kernel), List.mem_of_getElem? (i := 995) (by decide +kernel)⟩
theorem lw_p20 : lw_okq (⟨"SteadyFund$Paper", "printsAll", "(I)Z"⟩, 13) := ⟨⟨by decide +kernel, by decide +kernel⟩, List.mem_of_getElem? (i := 137) (by decide +kernel), List.mem_of_getElem? (i := 998) (by decide +kernel), List.mem_of_getElem? (i := 999) (by decide +kernel)⟩
theorem lw_p21 : lw_okq (⟨"SteadyFund$Claims", "monthsOf", "(I)I"⟩, 13) := ⟨⟨by decide +kernel, by decide +kernel⟩, List.mem_of_getElem? (i := 189) (by decide +kernel), List.mem_of_getElem? (i := 1024) (by decide +kernel), List.mem_of_getElem? (i := 1025) (by decide +kernel)⟩
theorem lw_p22 : lw_okq (⟨"SteadyFund$SealedRecord", "sealed", "(II)I"⟩, 7) := ⟨⟨by decide +kernel, by decide +kernel⟩, List.mem_of_getElem? (i := 317) (by decide +kernel), List.mem_of_getElem? (i := 1044) (by decide +kernel), List.mem_of_getElem? (i := 1045) (by decide +kernel)⟩
theorem lw_p23 : lw_okq (⟨"SteadyFund$SealedRecord", "lookWhichFit", "(II)I"⟩, 7) := ⟨⟨by decide +kernel, by decide +kernel⟩, List.mem_of_getElem? (i := 317) (by decide +kernel), List.mem_of_getElem? (i := 1060) (by decide +kernel), List.mem_of_getElem? (i := 1061) (by decide +kernel)⟩
theorem lw_p24 : lw_okq (⟨"SteadyFundModel", "got", "(I)I"⟩, 23) := ⟨⟨by decide +kernel, by decide +kernel⟩, List.mem_of_getElem? (i := 1160) (by decide +kernel), List.mem_of_getElem? (i := 1248) (by decide +kernel), List.mem_of_getElem? (i := 1249) (by decide +kernel)⟩
theorem lw_p25 : lw_okq (⟨"SteadyFundModel", "has", "(II)Z"⟩, 23) := ⟨⟨by decide +kernel, by decide +kernel⟩, List.mem_of_getElem? (i := 1160) (by decide +kernel), List.mem_of_getElem? (i := 1262) (by decide +kernel), List.mem_of_getElem? (i := 1263) (by decide +kernel)⟩
theorem lw_p26 : lw_okq (⟨"SteadyFundModel", "isFallen", "()Z"⟩, 23) := ⟨⟨by decide +kernel, by decide +kernel⟩, List.mem_of_getElem? (i := 1160) (by decide +kernel), List.mem_of_getElem? (i := 1270) (by decide +kernel), List.mem_of_getElem? (i := 1271) (by decide +kernel)⟩
theorem lw_p27 : lw_okq (⟨"SteadyFundModel", "addRow", "(IJ)V"⟩, 23) := ⟨⟨by decide +kernel, by decide +kernel⟩, List.mem_of_getElem? (i := 1160) (by decide +kernel), List.mem_of_getElem? (i := 1274) (by decide +kernel), List.mem_of_getElem? (i := 1275) (by decide +kernel)⟩
theorem lw_p28 : lw_okq (⟨"SteadyFundModel", "allShown", "()J"⟩, 23) := ⟨⟨by decide +kernel, by decide +kernel⟩, List.mem_of_getElem? (i := 1160) (by decide +kernel), List.mem_of_getElem? (i := 1288) (by decide +kernel), List.mem_of_getElem? (i := 1289) (by decide +kernel)⟩
theorem lw_p29 : lw_okq (⟨"SteadyFundModel", "went", "(IIIZ)J"⟩, 23) := ⟨⟨by decide +kernel, by decide +kernel⟩, List.mem_of_getElem? (i := 1160) (by decide +kernel), List.mem_of_getElem? (i := 1300) (by decide +kernel), List.mem_of_getElem? (i := 1301) (by decide +kernel)⟩
theorem lw_p30 : lw_okq (⟨"SteadyFundModel", "wrongOf", "(I)I"⟩, 23) := ⟨⟨by decide +kernel, by decide +kernel⟩, List.mem_of_getElem? (i := 1160) (by decide +kernel), List.mem_of_getElem? (i := 1336) (by decide +kernel), List.mem_of_getElem? (i := 1337) (by decide +kernel)⟩
theorem lw_p31 : lw_okq (⟨"SteadyFundModel", "tell", "(JJ)V"⟩, 23) := ⟨⟨by decide +kernel, by decide +kernel⟩, List.mem_of_getElem? (i := 1160) (by decide +kernel), List.mem_of_getElem? (i := 1359) (by decide +kernel), List.mem_of_getElem? (i := 1360) (by decide +kernel)⟩
def lw_privs_2 : List (MethodName × Nat) := [(⟨"SteadyFund$RuleReader", "number", "()J"⟩, 5), (⟨"SteadyFund$RuleReader", "inBrackets", "(I)J"⟩, 5), (⟨"SteadyFund$RuleReader", "takes", "(C)Z"⟩, 5), (⟨"SteadyFund$Paper", "lookWhoCould", "()V"⟩, 13), (⟨"SteadyFund$Paper", "printsAll", "(I)Z"⟩, 13), (⟨"SteadyFund$Claims", "monthsOf", "(I)I"⟩, 13), (⟨"SteadyFund$SealedRecord", "sealed", "(II)I"⟩, 7), (⟨"SteadyFund$SealedRecord", "lookWhichFit", "(II)I"⟩, 7), (⟨"SteadyFundModel", "got", "(I)I"⟩, 23), (⟨"SteadyFundModel", "has", "(II)Z"⟩, 23), (⟨"SteadyFundModel", "isFallen", "()Z"⟩, 23), (⟨"SteadyFundModel", "addRow", "(IJ)V"⟩, 23), (⟨"SteadyFundModel", "allShown", "()J"⟩, 23), (⟨"SteadyFundModel", "went", "(IIIZ)J"⟩, 23), (⟨"SteadyFundModel", "wrongOf", "(I)I"⟩, 23), (⟨"SteadyFundModel", "tell", "(JJ)V"⟩, 23)]
theorem lw_r2 : ∀ q ∈ lw_privs_2, lw_okq q := List.forall_mem_cons.mpr ⟨lw_p16, List.forall_mem_cons.mpr ⟨lw_p17, List.forall_mem_cons.mpr ⟨lw_p18, List.forall_mem_cons.mpr ⟨lw_p19, List.forall_mem_cons.mpr ⟨lw_p20, List.forall_mem_cons.mpr ⟨lw_p21, List.forall_mem_cons.mpr ⟨lw_p22, List.forall_mem_cons.mpr ⟨lw_p23, List.forall_mem_cons.mpr ⟨lw_p24, List.forall_mem_cons.mpr ⟨lw_p25, List.forall_mem_cons.mpr ⟨lw_p26, List.forall_mem_cons.mpr ⟨lw_p27, List.forall_mem_cons.mpr ⟨lw_p28, List.forall_mem_cons.mpr ⟨lw_p29, List.forall_mem_cons.mpr ⟨lw_p30, List.forall_mem_cons.mpr ⟨lw_p31, fun _ h => absurd h List.not_mem_nil⟩⟩⟩⟩⟩⟩⟩⟩⟩⟩⟩⟩⟩⟩⟩⟩
theorem lw_p32 : lw_okq (⟨"SteadyFundModel", "allCounts", "(I)J"⟩, 23) := ⟨⟨by decide +kernel, by decide +kernel⟩, List.mem_of_getElem? (i := 1160) (by decide +kernel), List.mem_of_getElem? (i := 1383) (by decide +kernel), List.mem_of_getElem? (i := 1384) (by decide +kernel)⟩
theorem lw_p33 : lw_okq (⟨"SteadyFundModel", "countOf", "(II)J"⟩, 23) := ⟨⟨by decide +kernel, by decide +kernel⟩, List.mem_of_getElem? (i := 1160) (by decide +kernel), List.mem_of_getElem? (i := 1387) (by decide +kernel), List.mem_of_getElem? (i := 1388) (by decide +kernel)⟩
theorem lw_p34 : lw_okq (⟨"SteadyFundModel", "dealtTo", "(IIJ)J"⟩, 23) := ⟨⟨by decide +kernel, by decide +kernel⟩, List.mem_of_getElem? (i := 1160) (by decide +kernel), List.mem_of_getElem? (i := 1399) (by decide +kernel), List.mem_of_getElem? (i := 1400) (by decide +kernel)⟩
theorem lw_p35 : lw_okq (⟨"SteadyFundModel", "findTide", "(J)V"⟩, 23) := ⟨⟨by decide +kernel, by decide +kernel⟩, List.mem_of_getElem? (i := 1160) (by decide +kernel), List.mem_of_getElem? (i := 1403) (by decide +kernel), List.mem_of_getElem? (i := 1404) (by decide +kernel)⟩
theorem lw_p36 : lw_okq (⟨"SteadyFundModel", "wetBy", "(I)J"⟩, 23) := ⟨⟨by decide +kernel, by decide +kernel⟩, List.mem_of_getElem? (i := 1160) (by decide +kernel), List.mem_of_getElem? (i := 1407) (by decide +kernel), List.mem_of_getElem? (i := 1408) (by decide +kernel)⟩
theorem lw_p37 : lw_okq (⟨"SteadyFundModel", "putIn", "(I)J"⟩, 23) := ⟨⟨by decide +kernel, by decide +kernel⟩, List.mem_of_getElem? (i := 1160) (by decide +kernel), List.mem_of_getElem? (i := 1411) (by decide +kernel), List.mem_of_getElem? (i := 1412) (by decide +kernel)⟩
theorem lw_p38 : lw_okq (⟨"SteadyFundModel", "drawn", "(I)J"⟩, 23) := ⟨⟨by decide +kernel, by decide +kernel⟩, List.mem_of_getElem? (i := 1160) (by decide +kernel), List.mem_of_getElem? (i := 1415) (by decide +kernel), List.mem_of_getElem? (i := 1416) (by decide +kernel)⟩
theorem lw_p39 : lw_okq (⟨"SteadyFundModel", "lowest", "(I)I"⟩, 23) := ⟨⟨by decide +kernel, by decide +kernel⟩, List.mem_of_getElem? (i := 1160) (by decide +kernel), List.mem_of_getElem? (i := 1419) (by decide +kernel), List.mem_of_getElem? (i := 1420) (by decide +kernel)⟩
theorem lw_p40 : lw_okq (⟨"SteadyFundModel", "toTake", "(I)J"⟩, 23) := ⟨⟨by decide +kernel, by decide +kernel⟩, List.mem_of_getElem? (i := 1160) (by decide +kernel), List.mem_of_getElem? (i := 1443) (by decide +kernel), List.mem_of_getElem? (i := 1444) (by decide +kernel)⟩
theorem lw_p41 : lw_okq (⟨"SteadyFundModel", "findPays", "(Z)V"⟩, 23) := ⟨⟨by decide +kernel, by decide +kernel⟩, List.mem_of_getElem? (i := 1160) (by decide +kernel), List.mem_of_getElem? (i := 1466) (by decide +kernel), List.mem_of_getElem? (i := 1467) (by decide +kernel)⟩
theorem lw_p42 : lw_okq (⟨"SteadyFundModel", "reads", "()Z"⟩, 23) := ⟨⟨by decide +kernel, by decide +kernel⟩, List.mem_of_getElem? (i := 1160) (by decide +kernel), List.mem_of_getElem? (i := 1491) (by decide +kernel), List.mem_of_getElem? (i := 1492) (by decide +kernel)⟩
theorem lw_p43 : lw_okq (⟨"SteadyFundModel", "ahead", "()I"⟩, 23) := ⟨⟨by decide +kernel, by decide +kernel⟩, List.mem_of_getElem? (i := 1160) (by decide +kernel), List.mem_of_getElem? (i := 1495) (by decide +kernel), List.mem_of_getElem? (i := 1496) (by decide +kernel)⟩
theorem lw_p44 : lw_okq (⟨"SteadyFundModel", "digits", "()J"⟩, 23) := ⟨⟨by decide +kernel, by decide +kernel⟩, List.mem_of_getElem? (i := 1160) (by decide +kernel), List.mem_of_getElem? (i := 1502) (by decide +kernel), List.mem_of_getElem? (i := 1503) (by decide +kernel)⟩
theorem lw_p45 : lw_okq (⟨"SteadyFundModel", "stands", "(J)V"⟩, 23) := ⟨⟨by decide +kernel, by decide +kernel⟩, List.mem_of_getElem? (i := 1160) (by decide +kernel), List.mem_of_getElem? (i := 1506) (by decide +kernel), List.mem_of_getElem? (i := 1507) (by decide +kernel)⟩
theorem lw_p46 : lw_okq (⟨"SteadyFundModel", "worksDown", "(I)V"⟩, 23) := ⟨⟨by decide +kernel, by decide +kernel⟩, List.mem_of_getElem? (i := 1160) (by decide +kernel), List.mem_of_getElem? (i := 1513) (by decide +kernel), List.mem_of_getElem? (i := 1514) (by decide +kernel)⟩
theorem lw_p47 : lw_okq (⟨"SteadyFundModel", "works", "()V"⟩, 23) := ⟨⟨by decide +kernel, by decide +kernel⟩, List.mem_of_getElem? (i := 1160) (by decide +kernel), List.mem_of_getElem? (i := 1520) (by decide +kernel), List.mem_of_getElem? (i := 1521) (by decide +kernel)⟩
def lw_privs_3 : List (MethodName × Nat) := [(⟨"SteadyFundModel", "allCounts", "(I)J"⟩, 23), (⟨"SteadyFundModel", "countOf", "(II)J"⟩, 23), (⟨"SteadyFundModel", "dealtTo", "(IIJ)J"⟩, 23), (⟨"SteadyFundModel", "findTide", "(J)V"⟩, 23), (⟨"SteadyFundModel", "wetBy", "(I)J"⟩, 23), (⟨"SteadyFundModel", "putIn", "(I)J"⟩, 23), (⟨"SteadyFundModel", "drawn", "(I)J"⟩, 23), (⟨"SteadyFundModel", "lowest", "(I)I"⟩, 23), (⟨"SteadyFundModel", "toTake", "(I)J"⟩, 23), (⟨"SteadyFundModel", "findPays", "(Z)V"⟩, 23), (⟨"SteadyFundModel", "reads", "()Z"⟩, 23), (⟨"SteadyFundModel", "ahead", "()I"⟩, 23), (⟨"SteadyFundModel", "digits", "()J"⟩, 23), (⟨"SteadyFundModel", "stands", "(J)V"⟩, 23), (⟨"SteadyFundModel", "worksDown", "(I)V"⟩, 23), (⟨"SteadyFundModel", "works", "()V"⟩, 23)]
theorem lw_r3 : ∀ q ∈ lw_privs_3, lw_okq q := List.forall_mem_cons.mpr ⟨lw_p32, List.forall_mem_cons.mpr ⟨lw_p33, List.forall_mem_cons.mpr ⟨lw_p34, List.forall_mem_cons.mpr ⟨lw_p35, List.forall_mem_cons.mpr ⟨lw_p36, List.forall_mem_cons.mpr ⟨lw_p37, List.forall_mem_cons.mpr ⟨lw_p38, List.forall_mem_cons.mpr ⟨lw_p39, List.forall_mem_cons.mpr ⟨lw_p40, List.forall_mem_cons.mpr ⟨lw_p41, List.forall_mem_cons.mpr ⟨lw_p42, List.forall_mem_cons.mpr ⟨lw_p43, List.forall_mem_cons.mpr ⟨lw_p44, List.forall_mem_cons.mpr ⟨lw_p45, List.forall_mem_cons.mpr ⟨lw_p46, List.forall_mem_cons.mpr ⟨lw_p47, fun _ h => absurd h List.not_mem_nil⟩⟩⟩⟩⟩⟩⟩⟩⟩⟩⟩⟩⟩⟩⟩⟩
theorem lw_p48 : lw_okq (⟨"SteadyFundModel", "lay", "(I)V"⟩, 23) := ⟨⟨by decide +kernel, by decide +kernel⟩, List.mem_of_getElem? (i := 1160) (by decide +kernel), List.mem_of_getElem? (i := 1529) (by decide +kernel), List.mem_of_getElem? (i := 1530) (by decide +kernel)⟩
theorem lw_p49 : lw_okq (⟨"SteadyFundModel", "doesHave", "(I)Z"⟩, 23) := ⟨⟨by decide +kernel, by decide +kernel⟩, List.mem_of_getElem? (i := 1160) (by decide +kernel), List.mem_of_getElem? (i := 1550) (by decide +kernel), List.mem_of_getElem? (i := 1551) (by decide +kernel)⟩
theorem lw_p50 : lw_okq (⟨"SteadyFundModel", "mayHave", "(I)I"⟩, 23) := ⟨⟨by decide +kernel, by decide +kernel⟩, List.mem_of_getElem? (i := 1160) (by decide +kernel), List.mem_of_getElem? (i := 1554) (by decide +kernel), List.mem_of_getElem? (i := 1555) (by decide +kernel)⟩
theorem lw_p51 : lw_okq (⟨"SteadyFundModel", "sealOf", "(II)I"⟩, 23) := ⟨⟨by decide +kernel, by decide +kernel⟩, List.mem_of_getElem? (i := 1160) (by decide +kernel), List.mem_of_getElem? (i := 1571) (by decide +kernel), List.mem_of_getElem? (i := 1572) (by decide +kernel)⟩
theorem lw_p52 : lw_okq (⟨"SteadyFundModel", "sums", "(JII)J"⟩, 23) := ⟨⟨by decide +kernel, by decide +kernel⟩, List.mem_of_getElem? (i := 1160) (by decide +kernel), List.mem_of_getElem? (i := 1609) (by decide +kernel), List.mem_of_getElem? (i := 1610) (by decide +kernel)⟩
def lw_privs_4 : List (MethodName × Nat) := [(⟨"SteadyFundModel", "lay", "(I)V"⟩, 23), (⟨"SteadyFundModel", "doesHave", "(I)Z"⟩, 23), (⟨"SteadyFundModel", "mayHave", "(I)I"⟩, 23), (⟨"SteadyFundModel", "sealOf", "(II)I"⟩, 23), (⟨"SteadyFundModel", "sums", "(JII)J"⟩, 23)]
theorem lw_r4 : ∀ q ∈ lw_privs_4, lw_okq q := List.forall_mem_cons.mpr ⟨lw_p48, List.forall_mem_cons.mpr ⟨lw_p49, List.forall_mem_cons.mpr ⟨lw_p50, List.forall_mem_cons.mpr ⟨lw_p51, List.forall_mem_cons.mpr ⟨lw_p52, fun _ h => absurd h List.not_mem_nil⟩⟩⟩⟩⟩
def lw_privs : List (MethodName × Nat) := lw_privs_1 ++ (lw_privs_2 ++ (lw_privs_3 ++ (lw_privs_4)))
def lw_tbl : List Cond := k2_sels lw_privs ++ tables_1
theorem lw_privs_ok : ∀ q ∈ lw_privs, lw_okq q := by
  show ∀ q ∈ lw_privs_1 ++ (lw_privs_2 ++ (lw_privs_3 ++ (lw_privs_4))), lw_okq q
  exact List.forall_mem_append.mpr ⟨lw_r1, List.forall_mem_append.mpr ⟨lw_r2, List.forall_mem_append.mpr ⟨lw_r3, lw_r4⟩⟩⟩
def RX0 : String := "SteadyFund$Claims"
def TX0 : u_T := fun k => match k with
  | 0 => ("SteadyFund$Claims", "indexOf", "[I", true)
  | 1 => ("SteadyFund$Claims", "giver", "[I", true)
  | 2 => ("SteadyFund$Claims", "taker", "[I", true)
  | 3 => ("SteadyFund$Claims", "giftMonth", "[I", true)
  | 4 => ("SteadyFund$Claims", "giftSum", "[I", true)
  | 5 => ("SteadyFund$Claims", "gifts", "I", false)
  | 6 => ("SteadyFund$Claims", "yearsOfGood", "I", false)
  | 7 => ("SteadyFund$Claims", "yearsOfBad", "I", false)
  | 8 => ("SteadyFund$Claims", "brings", "[I", true)
  | 9 => ("SteadyFund$Claims", "cost", "[I", true)
  | 10 => ("SteadyFund$Claims", "suitMonths", "[I", true)
  | 11 => ("SteadyFund$Claims", "suits", "I", false)
  | _ => ("SteadyFund$Claims", "with", "[J", true)
def tyX0 : Nat → FieldType := fun k => match k with
  | 0 => .array .int
  | 1 => .array .int
  | 2 => .array .int
  | 3 => .array .int
  | 4 => .array .int
  | 5 => .int
  | 6 => .int
  | 7 => .int
  | 8 => .array .int
  | 9 => .array .int
  | 10 => .array .int
  | 11 => .int
  | _ => .array .long
theorem nmX0 : ∀ a, a < 13 → ∀ b, b < 13 → a ≠ b → (TX0 a).2.1 ≠ (TX0 b).2.1 := by decide +kernel
theorem tyX0_ok : ∀ k, k < 13 → parseFieldDescriptor (TX0 k).2.2.1 = some (tyX0 k) := by decide +kernel
def RX1 : String := "SteadyFund$Clearing"
def TX1 : u_T := fun k => match k with
  | 0 => ("SteadyFund$Clearing", "fromAll", "Z", true)
  | 1 => ("SteadyFund$Clearing", "coins", "[J", true)
  | 2 => ("SteadyFund$Clearing", "owed", "[I", true)
  | 3 => ("SteadyFund$Clearing", "dues", "[J", true)
  | 4 => ("SteadyFund$Clearing", "gets", "[J", true)
  | 5 => ("SteadyFund$Clearing", "next", "[J", true)
  | 6 => ("SteadyFund$Clearing", "share", "[J", true)
  | 7 => ("SteadyFund$Clearing", "pay", "[J", true)
  | _ => ("SteadyFund$Clearing", "changes", "I", false)
def tyX1 : Nat → FieldType := fun k => match k with
  | 0 => .boolean
  | 1 => .array .long
  | 2 => .array .int
  | 3 => .array .long
  | 4 => .array .long
  | 5 => .array .long
  | 6 => .array .long
  | 7 => .array .long
  | _ => .int
theorem nmX1 : ∀ a, a < 9 → ∀ b, b < 9 → a ≠ b → (TX1 a).2.1 ≠ (TX1 b).2.1 := by decide +kernel
theorem tyX1_ok : ∀ k, k < 9 → parseFieldDescriptor (TX1 k).2.2.1 = some (tyX1 k) := by decide +kernel
def RX2 : String := "SteadyFund$Fraction"
def TX2 : u_T := fun k => match k with
  | 0 => ("SteadyFund$Fraction", "above", "J", false)
  | _ => ("SteadyFund$Fraction", "below", "J", false)
def tyX2 : Nat → FieldType := fun k => match k with
  | 0 => .long
  | _ => .long
theorem nmX2 : ∀ a, a < 2 → ∀ b, b < 2 → a ≠ b → (TX2 a).2.1 ≠ (TX2 b).2.1 := by decide +kernel
theorem tyX2_ok : ∀ k, k < 2 → parseFieldDescriptor (TX2 k).2.2.1 = some (tyX2 k) := by decide +kernel
def RX3 : String := "SteadyFund$Houses"
def TX3 : u_T := fun k => match k with
  | 0 => ("SteadyFund$Houses", "own", "[I", true)
  | 1 => ("SteadyFund$Houses", "owed", "[I", true)
  | _ => ("SteadyFund$Houses", "isStruck", "Z", false)
def tyX3 : Nat → FieldType := fun k => match k with
  | 0 => .array .int
  | 1 => .array .int
  | _ => .boolean
theorem nmX3 : ∀ a, a < 3 → ∀ b, b < 3 → a ≠ b → (TX3 a).2.1 ≠ (TX3 b).2.1 := by decide +kernel
theorem tyX3_ok : ∀ k, k < 3 → parseFieldDescriptor (TX3 k).2.2.1 = some (tyX3 k) := by decide +kernel
def RX4 : String := "SteadyFund$Ledger"
def TX4 : u_T := fun k => match k with
  | 0 => ("SteadyFund$Ledger", "house", "[I", true)
  | 1 => ("SteadyFund$Ledger", "faith", "[I", true)
  | 2 => ("SteadyFund$Ledger", "shownTo", "[J", true)
  | 3 => ("SteadyFund$Ledger", "persons", "I", false)
  | 4 => ("SteadyFund$Ledger", "rowPerson", "[I", true)
  | 5 => ("SteadyFund$Ledger", "rowMonth", "[I", true)
  | 6 => ("SteadyFund$Ledger", "rowSum", "[I", true)
  | 7 => ("SteadyFund$Ledger", "rows", "I", false)
  | 8 => ("SteadyFund$Ledger", "now", "I", false)
  | 9 => ("SteadyFund$Ledger", "fee", "I", false)
  | 10 => ("SteadyFund$Ledger", "rate", "I", false)
  | 11 => ("SteadyFund$Ledger", "coins", "J", false)
  | 12 => ("SteadyFund$Ledger", "feesGone", "J", false)
  | 13 => ("SteadyFund$Ledger", "fell", "I", false)
  | 14 => ("SteadyFund$Ledger", "coinsAtEnd", "[J", true)
  | 15 => ("SteadyFund$Ledger", "shownAtEnd", "[J", true)
  | 16 => ("SteadyFund$Ledger", "leastIn", "[I", true)
  | 17 => ("SteadyFund$Ledger", "mostIn", "[I", true)
  | 18 => ("SteadyFund$Ledger", "leastOut", "[I", true)
  | _ => ("SteadyFund$Ledger", "mostOut", "[I", true)
def tyX4 : Nat → FieldType := fun k => match k with
  | 0 => .array .int
  | 1 => .array .int
  | 2 => .array .long
  | 3 => .int
  | 4 => .array .int
  | 5 => .array .int
  | 6 => .array .int
  | 7 => .int
  | 8 => .int
  | 9 => .int
  | 10 => .int
  | 11 => .long
  | 12 => .long
  | 13 => .int
  | 14 => .array .long
  | 15 => .array .long
  | 16 => .array .int
  | 17 => .array .int
  | 18 => .array .int
  | _ => .array .int
theorem nmX4 : ∀ a, a < 20 → ∀ b, b < 20 → a ≠ b → (TX4 a).2.1 ≠ (TX4 b).2.1 := by decide +kernel
theorem tyX4_ok : ∀ k, k < 20 → parseFieldDescriptor (TX4 k).2.2.1 = some (tyX4 k) := by decide +kernel
def RX5 : String := "SteadyFund$Letters"
def TX5 : u_T := fun k => match k with
  | 0 => ("SteadyFund$Letters", "office", "[I", true)
  | 1 => ("SteadyFund$Letters", "asked", "[I", true)
  | 2 => ("SteadyFund$Letters", "read", "[I", true)
  | 3 => ("SteadyFund$Letters", "size", "I", false)
  | 4 => ("SteadyFund$Letters", "rules", "[I", true)
  | _ => ("SteadyFund$Letters", "length", "I", false)
def tyX5 : Nat → FieldType := fun k => match k with
  | 0 => .array .int
  | 1 => .array .int
  | 2 => .array .int
  | 3 => .int
  | 4 => .array .int
  | _ => .int
theorem nmX5 : ∀ a, a < 6 → ∀ b, b < 6 → a ≠ b → (TX5 a).2.1 ≠ (TX5 b).2.1 := by decide +kernel
theorem tyX5_ok : ∀ k, k < 6 → parseFieldDescriptor (TX5 k).2.2.1 = some (tyX5 k) := by decide +kernel
def RX6 : String := "SteadyFund$Paper"
def TX6 : u_T := fun k => match k with
  | 0 => ("SteadyFund$Paper", "low", "[I", true)
  | 1 => ("SteadyFund$Paper", "high", "[I", true)
  | 2 => ("SteadyFund$Paper", "sold", "[I", true)
  | 3 => ("SteadyFund$Paper", "tradeDay", "[I", true)
  | 4 => ("SteadyFund$Paper", "price", "[I", true)
  | 5 => ("SteadyFund$Paper", "amount", "[I", true)
  | 6 => ("SteadyFund$Paper", "tradeFloor", "[I", true)
  | 7 => ("SteadyFund$Paper", "trades", "I", false)
  | 8 => ("SteadyFund$Paper", "handDays", "[I", true)
  | 9 => ("SteadyFund$Paper", "handFloors", "[I", true)
  | 10 => ("SteadyFund$Paper", "hands", "I", false)
  | 11 => ("SteadyFund$Paper", "couldPrint", "[I", true)
  | _ => ("SteadyFund$Paper", "isWrong", "[Z", true)
def tyX6 : Nat → FieldType := fun k => match k with
  | 0 => .array .int
  | 1 => .array .int
  | 2 => .array .int
  | 3 => .array .int
  | 4 => .array .int
  | 5 => .array .int
  | 6 => .array .int
  | 7 => .int
  | 8 => .array .int
  | 9 => .array .int
  | 10 => .int
  | 11 => .array .int
  | _ => .array .boolean
theorem nmX6 : ∀ a, a < 13 → ∀ b, b < 13 → a ≠ b → (TX6 a).2.1 ≠ (TX6 b).2.1 := by decide +kernel
theorem tyX6_ok : ∀ k, k < 13 → parseFieldDescriptor (TX6 k).2.2.1 = some (tyX6 k) := by decide +kernel
def RX7 : String := "SteadyFund$RuleReader"
def TX7 : u_T := fun k => match k with
  | 0 => ("SteadyFund$RuleReader", "named", "[J", true)
  | 1 => ("SteadyFund$RuleReader", "text", "LSteadyFund$Letters;", true)
  | 2 => ("SteadyFund$RuleReader", "place", "I", false)
  | 3 => ("SteadyFund$RuleReader", "open", "I", false)
  | _ => ("SteadyFund$RuleReader", "found", "I", false)
def tyX7 : Nat → FieldType := fun k => match k with
  | 0 => .array .long
  | 1 => .object "SteadyFund$Letters"
  | 2 => .int
  | 3 => .int
  | _ => .int
theorem nmX7 : ∀ a, a < 5 → ∀ b, b < 5 → a ≠ b → (TX7 a).2.1 ≠ (TX7 b).2.1 := by decide +kernel
theorem tyX7_ok : ∀ k, k < 5 → parseFieldDescriptor (TX7 k).2.2.1 = some (tyX7 k) := by decide +kernel
def RX8 : String := "SteadyFund$SealedRecord"
def TX8 : u_T := fun k => match k with
  | 0 => ("SteadyFund$SealedRecord", "person", "[I", true)
  | 1 => ("SteadyFund$SealedRecord", "month", "[I", true)
  | 2 => ("SteadyFund$SealedRecord", "sum", "[I", true)
  | 3 => ("SteadyFund$SealedRecord", "fits", "[Z", true)
  | 4 => ("SteadyFund$SealedRecord", "rows", "I", false)
  | 5 => ("SteadyFund$SealedRecord", "sealH", "I", false)
  | _ => ("SteadyFund$SealedRecord", "sealG", "I", false)
def tyX8 : Nat → FieldType := fun k => match k with
  | 0 => .array .int
  | 1 => .array .int
  | 2 => .array .int
  | 3 => .array .boolean
  | 4 => .int
  | 5 => .int
  | _ => .int
theorem nmX8 : ∀ a, a < 7 → ∀ b, b < 7 → a ≠ b → (TX8 a).2.1 ≠ (TX8 b).2.1 := by decide +kernel
theorem tyX8_ok : ∀ k, k < 7 → parseFieldDescriptor (TX8 k).2.2.1 = some (tyX8 k) := by decide +kernel
def RX9 : String := "SteadyFund$Tide"
def TX9 : u_T := fun k => match k with
  | 0 => ("SteadyFund$Tide", "putIn", "[J", true)
  | 1 => ("SteadyFund$Tide", "drawn", "[J", true)
  | 2 => ("SteadyFund$Tide", "above", "J", false)
  | _ => ("SteadyFund$Tide", "below", "J", false)
def tyX9 : Nat → FieldType := fun k => match k with
  | 0 => .array .long
  | 1 => .array .long
  | 2 => .long
  | _ => .long
theorem nmX9 : ∀ a, a < 4 → ∀ b, b < 4 → a ≠ b → (TX9 a).2.1 ≠ (TX9 b).2.1 := by decide +kernel
theorem tyX9_ok : ∀ k, k < 4 → parseFieldDescriptor (TX9 k).2.2.1 = some (tyX9 k) := by decide +kernel
def RX10 : String := "SteadyFund$World"
def TX10 : u_T := fun k => match k with
  | 0 => ("SteadyFund$World", "ledger", "LSteadyFund$Ledger;", true)
  | 1 => ("SteadyFund$World", "paper", "LSteadyFund$Paper;", true)
  | 2 => ("SteadyFund$World", "claims", "LSteadyFund$Claims;", true)
  | 3 => ("SteadyFund$World", "houses", "LSteadyFund$Houses;", true)
  | _ => ("SteadyFund$World", "letters", "LSteadyFund$Letters;", true)
def tyX10 : Nat → FieldType := fun k => match k with
  | 0 => .object "SteadyFund$Ledger"
  | 1 => .object "SteadyFund$Paper"
  | 2 => .object "SteadyFund$Claims"
  | 3 => .object "SteadyFund$Houses"
  | _ => .object "SteadyFund$Letters"
theorem nmX10 : ∀ a, a < 5 → ∀ b, b < 5 → a ≠ b → (TX10 a).2.1 ≠ (TX10 b).2.1 := by decide +kernel
theorem tyX10_ok : ∀ k, k < 5 → parseFieldDescriptor (TX10 k).2.2.1 = some (tyX10 k) := by decide +kernel
def RX11 : String := "SteadyFund"
def TX11 : u_T := fun k => match k with
  | 0 => ("SteadyFund", "world", "LSteadyFund$World;", true)
  | 1 => ("SteadyFund", "images", "[LSteadyFund$World;", true)
  | 2 => ("SteadyFund", "kept", "LSteadyFund$SealedRecord;", true)
  | 3 => ("SteadyFund", "fraction", "LSteadyFund$Fraction;", true)
  | 4 => ("SteadyFund", "rising", "LSteadyFund$Tide;", true)
  | 5 => ("SteadyFund", "least", "LSteadyFund$Clearing;", true)
  | 6 => ("SteadyFund", "greatest", "LSteadyFund$Clearing;", true)
  | _ => ("SteadyFund", "reader", "LSteadyFund$RuleReader;", true)
def tyX11 : Nat → FieldType := fun k => match k with
  | 0 => .object "SteadyFund$World"
  | 1 => .array (.object "SteadyFund$World")
  | 2 => .object "SteadyFund$SealedRecord"
  | 3 => .object "SteadyFund$Fraction"
  | 4 => .object "SteadyFund$Tide"
  | 5 => .object "SteadyFund$Clearing"
  | 6 => .object "SteadyFund$Clearing"
  | _ => .object "SteadyFund$RuleReader"
theorem nmX11 : ∀ a, a < 8 → ∀ b, b < 8 → a ≠ b → (TX11 a).2.1 ≠ (TX11 b).2.1 := by decide +kernel
theorem tyX11_ok : ∀ k, k < 8 → parseFieldDescriptor (TX11 k).2.2.1 = some (tyX11 k) := by decide +kernel
def RX12 : String := "SteadyFundModel"
def TX12 : u_T := fun k => match k with
  | 0 => ("SteadyFundModel", "now", "[J", true)
  | 1 => ("SteadyFundModel", "kept", "[J", true)
  | 2 => ("SteadyFundModel", "isKept", "[Z", true)
  | 3 => ("SteadyFundModel", "over", "J", false)
  | 4 => ("SteadyFundModel", "under", "J", false)
  | 5 => ("SteadyFundModel", "backs", "[J", true)
  | 6 => ("SteadyFundModel", "own", "[J", true)
  | 7 => ("SteadyFundModel", "dues", "[J", true)
  | 8 => ("SteadyFundModel", "pays", "[J", true)
  | 9 => ("SteadyFundModel", "next", "[J", true)
  | 10 => ("SteadyFundModel", "rounds", "I", false)
  | 11 => ("SteadyFundModel", "at", "I", false)
  | 12 => ("SteadyFundModel", "fault", "I", false)
  | 13 => ("SteadyFundModel", "values", "[J", true)
  | 14 => ("SteadyFundModel", "valueMany", "I", false)
  | 15 => ("SteadyFundModel", "signs", "[I", true)
  | 16 => ("SteadyFundModel", "signMany", "I", false)
  | 17 => ("SteadyFundModel", "names", "[J", true)
  | 18 => ("SteadyFundModel", "told", "J", false)
  | 19 => ("SteadyFundModel", "record", "[I", true)
  | 20 => ("SteadyFundModel", "recorded", "I", false)
  | 21 => ("SteadyFundModel", "firstSeal", "I", false)
  | _ => ("SteadyFundModel", "otherSeal", "I", false)
def tyX12 : Nat → FieldType := fun k => match k with
  | 0 => .array .long
  | 1 => .array .long
  | 2 => .array .boolean
  | 3 => .long
  | 4 => .long
  | 5 => .array .long
  | 6 => .array .long
  | 7 => .array .long
  | 8 => .array .long
  | 9 => .array .long
  | 10 => .int
  | 11 => .int
  | 12 => .int
  | 13 => .array .long
  | 14 => .int
  | 15 => .array .int
  | 16 => .int
  | 17 => .array .long
  | 18 => .long
  | 19 => .array .int
  | 20 => .int
  | 21 => .int
  | _ => .int
theorem nmX12 : ∀ a, a < 23 → ∀ b, b < 23 → a ≠ b → (TX12 a).2.1 ≠ (TX12 b).2.1 := by decide +kernel
theorem tyX12_ok : ∀ k, k < 23 → parseFieldDescriptor (TX12 k).2.2.1 = some (tyX12 k) := by decide +kernel
abbrev vwCl : List vw_C := [(RX0, TX0, 13), (RX1, TX1, 9), (RX2, TX2, 2), (RX3, TX3, 3), (RX4, TX4, 20), (RX5, TX5, 6), (RX6, TX6, 13), (RX7, TX7, 5), (RX8, TX8, 7), (RX9, TX9, 4), (RX10, TX10, 5), (RX11, TX11, 8), (RX12, TX12, 23)]
def am_lays : List ((FieldType × Nat) ⊕ Nat) := [.inr 11, .inl ((.object RX10), 2), .inr 8, .inl (.int, 100), .inl (.int, 100), .inl (.int, 100), .inl (.boolean, 100), .inr 2, .inl (.int, 0), .inl (.int, 0), .inr 10, .inr 4, .inr 6, .inr 0, .inr 3, .inr 5, .inl (.int, 12), .inl (.int, 12), .inl (.long, 12), .inl (.int, 100), .inl (.int, 100), .inl (.int, 100), .inl (.long, 60), .inl (.long, 60), .inl (.int, 12), .inl (.int, 12), .inl (.int, 12), .inl (.int, 12), .inl (.int, 30), .inl (.int, 30), .inl (.int, 30), .inl (.int, 40), .inl (.int, 40), .inl (.int, 40), .inl (.int, 40), .inl (.int, 8), .inl (.int, 8), .inl (.int, 40), .inl (.boolean, 40), .inl (.int, 60), .inl (.int, 30), .inl (.int, 30), .inl (.int, 30), .inl (.int, 30), .inl (.int, 8), .inl (.int, 8), .inl (.int, 8), .inl (.long, 12), .inl (.int, 8), .inl (.int, 64), .inl (.int, 20), .inl (.int, 20), .inl (.int, 20), .inl (.int, 40), .inl (.int, 0), .inl (.int, 0), .inl (.int, 0), .inl (.int, 0), .inl (.int, 0), .inl (.int, 0), .inr 10, .inr 4, .inr 6, .inr 0, .inr 3, .inr 5, .inl (.int, 12), .inl (.int, 12), .inl (.long, 12), .inl (.int, 100), .inl (.int, 100), .inl (.int, 100), .inl (.long, 60), .inl (.long, 60), .inl (.int, 12), .inl (.int, 12), .inl (.int, 12), .inl (.int, 12), .inl (.int, 30), .inl (.int, 30), .inl (.int, 30), .inl (.int, 40), .inl (.int, 40), .inl (.int, 40), .inl (.int, 40), .inl (.int, 8), .inl (.int, 8), .inl (.int, 40), .inl (.boolean, 40), .inl (.int, 60), .inl (.int, 30), .inl (.int, 30), .inl (.int, 30), .inl (.int, 30), .inl (.int, 8), .inl (.int, 8), .inl (.int, 8), .inl (.long, 12), .inl (.int, 8), .inl (.int, 64), .inl (.int, 20), .inl (.int, 20), .inl (.int, 20), .inl (.int, 40), .inl (.int, 0), .inl (.int, 0), .inl (.int, 0), .inl (.int, 0), .inl (.int, 0), .inl (.int, 0), .inr 10, .inr 4, .inr 6, .inr 0, .inr 3, .inr 5, .inl (.int, 12), .inl (.int, 12), .inl (.long, 12), .inl (.int, 100), .inl (.int, 100), .inl (.int, 100), .inl (.long, 60), .inl (.long, 60), .inl (.int, 12), .inl (.int, 12), .inl (.int, 12), .inl (.int, 12), .inl (.int, 30), .inl (.int, 30), .inl (.int, 30), .inl (.int, 40), .inl (.int, 40), .inl (.int, 40), .inl (.int, 40), .inl (.int, 8), .inl (.int, 8), .inl (.int, 40), .inl (.boolean, 40), .inl (.int, 60), .inl (.int, 30), .inl (.int, 30), .inl (.int, 30), .inl (.int, 30), .inl (.int, 8), .inl (.int, 8), .inl (.int, 8), .inl (.long, 12), .inl (.int, 8), .inl (.int, 64), .inl (.int, 20), .inl (.int, 20), .inl (.int, 20), .inl (.int, 40), .inl (.int, 0), .inl (.int, 0), .inl (.int, 0), .inl (.int, 0), .inl (.int, 0), .inl (.int, 0), .inr 9, .inl (.long, 12), .inl (.long, 12), .inl (.int, 0), .inr 1, .inl (.long, 8), .inl (.int, 64), .inl (.long, 8), .inl (.long, 8), .inl (.long, 8), .inl (.long, 64), .inl (.long, 8), .inl (.int, 0), .inl (.int, 0), .inr 1, .inl (.long, 8), .inl (.int, 64), .inl (.long, 8), .inl (.long, 8), .inl (.long, 8), .inl (.long, 64), .inl (.long, 8), .inl (.int, 0), .inl (.int, 0), .inr 7, .inl (.long, 7), .inl (.int, 0), .inl (.int, 0), .inl (.int, 0), .inl (.int, 0), .inr 12, .inl (.long, 1200), .inl (.long, 2400), .inl (.boolean, 2), .inl (.long, 12), .inl (.long, 8), .inl (.long, 8), .inl (.long, 8), .inl (.long, 8), .inl (.long, 64), .inl (.int, 128), .inl (.long, 7), .inl (.int, 300)]
def am_lay (k : Nat) : (FieldType × Nat) ⊕ Nat := am_lays.getD k (.inl (.int, 0))
theorem ly_0 : am_lay 0 = .inr 11 := rfl
theorem ly_1 : am_lay 1 = .inl ((.object RX10), 2) := rfl
theorem ly_2 : am_lay 2 = .inr 8 := rfl
theorem ly_3 : am_lay 3 = .inl (.int, 100) := rfl
theorem ly_4 : am_lay 4 = .inl (.int, 100) := rfl
theorem ly_5 : am_lay 5 = .inl (.int, 100) := rfl
theorem ly_6 : am_lay 6 = .inl (.boolean, 100) := rfl
theorem ly_7 : am_lay 7 = .inr 2 := rfl
theorem ly_10 : am_lay 10 = .inr 10 := rfl
theorem ly_11 : am_lay 11 = .inr 4 := rfl
theorem ly_12 : am_lay 12 = .inr 6 := rfl
theorem ly_13 : am_lay 13 = .inr 0 := rfl
theorem ly_14 : am_lay 14 = .inr 3 := rfl
theorem ly_15 : am_lay 15 = .inr 5 := rfl
theorem ly_16 : am_lay 16 = .inl (.int, 12) := rfl
theorem ly_17 : am_lay 17 = .inl (.int, 12) := rfl
theorem ly_18 : am_lay 18 = .inl (.long, 12) := rfl
theorem ly_19 : am_lay 19 = .inl (.int, 100) := rfl
theorem ly_20 : am_lay 20 = .inl (.int, 100) := rfl
theorem ly_21 : am_lay 21 = .inl (.int, 100) := rfl
theorem ly_22 : am_lay 22 = .inl (.long, 60) := rfl
theorem ly_23 : am_lay 23 = .inl (.long, 60) := rfl
theorem ly_24 : am_lay 24 = .inl (.int, 12) := rfl
theorem ly_25 : am_lay 25 = .inl (.int, 12) := rfl
theorem ly_26 : am_lay 26 = .inl (.int, 12) := rfl
theorem ly_27 : am_lay 27 = .inl (.int, 12) := rfl
theorem ly_28 : am_lay 28 = .inl (.int, 30) := rfl
theorem ly_29 : am_lay 29 = .inl (.int, 30) := rfl
theorem ly_30 : am_lay 30 = .inl (.int, 30) := rfl
theorem ly_31 : am_lay 31 = .inl (.int, 40) := rfl
theorem ly_32 : am_lay 32 = .inl (.int, 40) := rfl
theorem ly_33 : am_lay 33 = .inl (.int, 40) := rfl
theorem ly_34 : am_lay 34 = .inl (.int, 40) := rfl
theorem ly_35 : am_lay 35 = .inl (.int, 8) := rfl
theorem ly_36 : am_lay 36 = .inl (.int, 8) := rfl
theorem ly_37 : am_lay 37 = .inl (.int, 40) := rfl
theorem ly_38 : am_lay 38 = .inl (.boolean, 40) := rfl
theorem ly_39 : am_lay 39 = .inl (.int, 60) := rfl
theorem ly_40 : am_lay 40 = .inl (.int, 30) := rfl
theorem ly_41 : am_lay 41 = .inl (.int, 30) := rfl
theorem ly_42 : am_lay 42 = .inl (.int, 30) := rfl
theorem ly_43 : am_lay 43 = .inl (.int, 30) := rfl
theorem ly_44 : am_lay 44 = .inl (.int, 8) := rfl
theorem ly_45 : am_lay 45 = .inl (.int, 8) := rfl
theorem ly_46 : am_lay 46 = .inl (.int, 8) := rfl
theorem ly_47 : am_lay 47 = .inl (.long, 12) := rfl
theorem ly_48 : am_lay 48 = .inl (.int, 8) := rfl
theorem ly_49 : am_lay 49 = .inl (.int, 64) := rfl
theorem ly_50 : am_lay 50 = .inl (.int, 20) := rfl
theorem ly_51 : am_lay 51 = .inl (.int, 20) := rfl
theorem ly_52 : am_lay 52 = .inl (.int, 20) := rfl
theorem ly_53 : am_lay 53 = .inl (.int, 40) := rfl
theorem ly_60 : am_lay 60 = .inr 10 := rfl
theorem ly_61 : am_lay 61 = .inr 4 := rfl
theorem ly_62 : am_lay 62 = .inr 6 := rfl
theorem ly_63 : am_lay 63 = .inr 0 := rfl
theorem ly_64 : am_lay 64 = .inr 3 := rfl
theorem ly_65 : am_lay 65 = .inr 5 := rfl
theorem ly_66 : am_lay 66 = .inl (.int, 12) := rfl
theorem ly_67 : am_lay 67 = .inl (.int, 12) := rfl
theorem ly_68 : am_lay 68 = .inl (.long, 12) := rfl
theorem ly_69 : am_lay 69 = .inl (.int, 100) := rfl
theorem ly_70 : am_lay 70 = .inl (.int, 100) := rfl
theorem ly_71 : am_lay 71 = .inl (.int, 100) := rfl
theorem ly_72 : am_lay 72 = .inl (.long, 60) := rfl
theorem ly_73 : am_lay 73 = .inl (.long, 60) := rfl
theorem ly_74 : am_lay 74 = .inl (.int, 12) := rfl
theorem ly_75 : am_lay 75 = .inl (.int, 12) := rfl
theorem ly_76 : am_lay 76 = .inl (.int, 12) := rfl
theorem ly_77 : am_lay 77 = .inl (.int, 12) := rfl
theorem ly_78 : am_lay 78 = .inl (.int, 30) := rfl
theorem ly_79 : am_lay 79 = .inl (.int, 30) := rfl
theorem ly_80 : am_lay 80 = .inl (.int, 30) := rfl
theorem ly_81 : am_lay 81 = .inl (.int, 40) := rfl
theorem ly_82 : am_lay 82 = .inl (.int, 40) := rfl
theorem ly_83 : am_lay 83 = .inl (.int, 40) := rfl
theorem ly_84 : am_lay 84 = .inl (.int, 40) := rfl
theorem ly_85 : am_lay 85 = .inl (.int, 8) := rfl
theorem ly_86 : am_lay 86 = .inl (.int, 8) := rfl
theorem ly_87 : am_lay 87 = .inl (.int, 40) := rfl
theorem ly_88 : am_lay 88 = .inl (.boolean, 40) := rfl
theorem ly_89 : am_lay 89 = .inl (.int, 60) := rfl
theorem ly_90 : am_lay 90 = .inl (.int, 30) := rfl
theorem ly_91 : am_lay 91 = .inl (.int, 30) := rfl
theorem ly_92 : am_lay 92 = .inl (.int, 30) := rfl
theorem ly_93 : am_lay 93 = .inl (.int, 30) := rfl
theorem ly_94 : am_lay 94 = .inl (.int, 8) := rfl
theorem ly_95 : am_lay 95 = .inl (.int, 8) := rfl
theorem ly_96 : am_lay 96 = .inl (.int, 8) := rfl
theorem ly_97 : am_lay 97 = .inl (.long, 12) := rfl
theorem ly_98 : am_lay 98 = .inl (.int, 8) := rfl
theorem ly_99 : am_lay 99 = .inl (.int, 64) := rfl
theorem ly_100 : am_lay 100 = .inl (.int, 20) := rfl
theorem ly_101 : am_lay 101 = .inl (.int, 20) := rfl
theorem ly_102 : am_lay 102 = .inl (.int, 20) := rfl
theorem ly_103 : am_lay 103 = .inl (.int, 40) := rfl
theorem ly_110 : am_lay 110 = .inr 10 := rfl
theorem ly_111 : am_lay 111 = .inr 4 := rfl
theorem ly_112 : am_lay 112 = .inr 6 := rfl
theorem ly_113 : am_lay 113 = .inr 0 := rfl
theorem ly_114 : am_lay 114 = .inr 3 := rfl
theorem ly_115 : am_lay 115 = .inr 5 := rfl
theorem ly_116 : am_lay 116 = .inl (.int, 12) := rfl
theorem ly_117 : am_lay 117 = .inl (.int, 12) := rfl
theorem ly_118 : am_lay 118 = .inl (.long, 12) := rfl
theorem ly_119 : am_lay 119 = .inl (.int, 100) := rfl
theorem ly_120 : am_lay 120 = .inl (.int, 100) := rfl
theorem ly_121 : am_lay 121 = .inl (.int, 100) := rfl
theorem ly_122 : am_lay 122 = .inl (.long, 60) := rfl
theorem ly_123 : am_lay 123 = .inl (.long, 60) := rfl
theorem ly_124 : am_lay 124 = .inl (.int, 12) := rfl
theorem ly_125 : am_lay 125 = .inl (.int, 12) := rfl
theorem ly_126 : am_lay 126 = .inl (.int, 12) := rfl
theorem ly_127 : am_lay 127 = .inl (.int, 12) := rfl
theorem ly_128 : am_lay 128 = .inl (.int, 30) := rfl
theorem ly_129 : am_lay 129 = .inl (.int, 30) := rfl
theorem ly_130 : am_lay 130 = .inl (.int, 30) := rfl
theorem ly_131 : am_lay 131 = .inl (.int, 40) := rfl
theorem ly_132 : am_lay 132 = .inl (.int, 40) := rfl
theorem ly_133 : am_lay 133 = .inl (.int, 40) := rfl
theorem ly_134 : am_lay 134 = .inl (.int, 40) := rfl
theorem ly_135 : am_lay 135 = .inl (.int, 8) := rfl
theorem ly_136 : am_lay 136 = .inl (.int, 8) := rfl
theorem ly_137 : am_lay 137 = .inl (.int, 40) := rfl
theorem ly_138 : am_lay 138 = .inl (.boolean, 40) := rfl
theorem ly_139 : am_lay 139 = .inl (.int, 60) := rfl
theorem ly_140 : am_lay 140 = .inl (.int, 30) := rfl
theorem ly_141 : am_lay 141 = .inl (.int, 30) := rfl
theorem ly_142 : am_lay 142 = .inl (.int, 30) := rfl
theorem ly_143 : am_lay 143 = .inl (.int, 30) := rfl
theorem ly_144 : am_lay 144 = .inl (.int, 8) := rfl
theorem ly_145 : am_lay 145 = .inl (.int, 8) := rfl
theorem ly_146 : am_lay 146 = .inl (.int, 8) := rfl
theorem ly_147 : am_lay 147 = .inl (.long, 12) := rfl
theorem ly_148 : am_lay 148 = .inl (.int, 8) := rfl
theorem ly_149 : am_lay 149 = .inl (.int, 64) := rfl
theorem ly_150 : am_lay 150 = .inl (.int, 20) := rfl
theorem ly_151 : am_lay 151 = .inl (.int, 20) := rfl
theorem ly_152 : am_lay 152 = .inl (.int, 20) := rfl
theorem ly_153 : am_lay 153 = .inl (.int, 40) := rfl
theorem ly_160 : am_lay 160 = .inr 9 := rfl
theorem ly_161 : am_lay 161 = .inl (.long, 12) := rfl
theorem ly_162 : am_lay 162 = .inl (.long, 12) := rfl
theorem ly_164 : am_lay 164 = .inr 1 := rfl
theorem ly_165 : am_lay 165 = .inl (.long, 8) := rfl
theorem ly_166 : am_lay 166 = .inl (.int, 64) := rfl
theorem ly_167 : am_lay 167 = .inl (.long, 8) := rfl
theorem ly_168 : am_lay 168 = .inl (.long, 8) := rfl
theorem ly_169 : am_lay 169 = .inl (.long, 8) := rfl
theorem ly_170 : am_lay 170 = .inl (.long, 64) := rfl
theorem ly_171 : am_lay 171 = .inl (.long, 8) := rfl
theorem ly_174 : am_lay 174 = .inr 1 := rfl
theorem ly_175 : am_lay 175 = .inl (.long, 8) := rfl
theorem ly_176 : am_lay 176 = .inl (.int, 64) := rfl
theorem ly_177 : am_lay 177 = .inl (.long, 8) := rfl
theorem ly_178 : am_lay 178 = .inl (.long, 8) := rfl
theorem ly_179 : am_lay 179 = .inl (.long, 8) := rfl
theorem ly_180 : am_lay 180 = .inl (.long, 64) := rfl
theorem ly_181 : am_lay 181 = .inl (.long, 8) := rfl
theorem ly_184 : am_lay 184 = .inr 7 := rfl
theorem ly_185 : am_lay 185 = .inl (.long, 7) := rfl
theorem ly_190 : am_lay 190 = .inr 12 := rfl
theorem ly_191 : am_lay 191 = .inl (.long, 1200) := rfl
theorem ly_192 : am_lay 192 = .inl (.long, 2400) := rfl
theorem ly_193 : am_lay 193 = .inl (.boolean, 2) := rfl
theorem ly_194 : am_lay 194 = .inl (.long, 12) := rfl
theorem ly_195 : am_lay 195 = .inl (.long, 8) := rfl
theorem ly_196 : am_lay 196 = .inl (.long, 8) := rfl
theorem ly_197 : am_lay 197 = .inl (.long, 8) := rfl
theorem ly_198 : am_lay 198 = .inl (.long, 8) := rfl
theorem ly_199 : am_lay 199 = .inl (.long, 64) := rfl
theorem ly_200 : am_lay 200 = .inl (.int, 128) := rfl
theorem ly_201 : am_lay 201 = .inl (.long, 7) := rfl
theorem ly_202 : am_lay 202 = .inl (.int, 300) := rfl
def am_ty : Nat → Nat → FieldType := fun ci => match ci with
  | 0 => tyX0
  | 1 => tyX1
  | 2 => tyX2
  | 3 => tyX3
  | 4 => tyX4
  | 5 => tyX5
  | 6 => tyX6
  | 7 => tyX7
  | 8 => tyX8
  | 9 => tyX9
  | 10 => tyX10
  | 11 => tyX11
  | _ => tyX12
def am_N : Nat → Nat := fun ci => match ci with
  | 0 => 13
  | 1 => 9
  | 2 => 2
  | 3 => 3
  | 4 => 20
  | 5 => 6
  | 6 => 13
  | 7 => 5
  | 8 => 7
  | 9 => 4
  | 10 => 5
  | 11 => 8
  | _ => 23
def am_cls (ci : Nat) (C : String) (T : u_T) (N : Nat) : Prop := vwCl[ci]? = some (C, T, N) ∧ am_N ci = N ∧ (∀ k, k < N → parseFieldDescriptor (T k).2.2.1 = some (am_ty ci k)) ∧ (∀ a, a < N → ∀ b, b < N → a ≠ b → (T a).2.1 ≠ (T b).2.1) ∧ ∀ w ∈ u_ws C T N, w ∈ lw_tbl
theorem cls_0 : am_cls 0 RX0 TX0 13 := ⟨rfl, rfl, tyX0_ok, nmX0, by decide +kernel⟩
theorem cls_1 : am_cls 1 RX1 TX1 9 := ⟨rfl, rfl, tyX1_ok, nmX1, by decide +kernel⟩
theorem cls_2 : am_cls 2 RX2 TX2 2 := ⟨rfl, rfl, tyX2_ok, nmX2, by decide +kernel⟩
theorem cls_3 : am_cls 3 RX3 TX3 3 := ⟨rfl, rfl, tyX3_ok, nmX3, by decide +kernel⟩
theorem cls_4 : am_cls 4 RX4 TX4 20 := ⟨rfl, rfl, tyX4_ok, nmX4, by decide +kernel⟩
theorem cls_5 : am_cls 5 RX5 TX5 6 := ⟨rfl, rfl, tyX5_ok, nmX5, by decide +kernel⟩
theorem cls_6 : am_cls 6 RX6 TX6 13 := ⟨rfl, rfl, tyX6_ok, nmX6, by decide +kernel⟩
theorem cls_7 : am_cls 7 RX7 TX7 5 := ⟨rfl, rfl, tyX7_ok, nmX7, by decide +kernel⟩
theorem cls_8 : am_cls 8 RX8 TX8 7 := ⟨rfl, rfl, tyX8_ok, nmX8, by decide +kernel⟩
theorem cls_9 : am_cls 9 RX9 TX9 4 := ⟨rfl, rfl, tyX9_ok, nmX9, by decide +kernel⟩
theorem cls_10 : am_cls 10 RX10 TX10 5 := ⟨rfl, rfl, tyX10_ok, nmX10, by decide +kernel⟩
theorem cls_11 : am_cls 11 RX11 TX11 8 := ⟨rfl, rfl, tyX11_ok, nmX11, by decide +kernel⟩
theorem cls_12 : am_cls 12 RX12 TX12 23 := ⟨rfl, rfl, tyX12_ok, nmX12, by decide +kernel⟩
def am_ba : List Nat := [0, 1, 2, 3, 4, 5, 6, 7, 10, 11, 12, 13, 14, 15, 16, 17, 18, 19, 20, 21, 22, 23, 24, 25, 26, 27, 28, 29, 30, 31, 32, 33, 34, 35, 36, 37, 38, 39, 40, 41, 42, 43, 44, 45, 46, 47, 48, 49, 50, 51, 52, 53, 160, 161, 162, 164, 165, 166, 167, 168, 169, 170, 171, 174, 175, 176, 177, 178, 179, 180, 181, 184, 185, 190, 191, 192, 193, 194, 195, 196, 197, 198, 199, 200, 201, 202]
def am_sr : List (Nat × Nat × Nat) := [(0, 0, 10), (0, 1, 1), (0, 2, 2), (0, 3, 7), (0, 4, 160), (0, 5, 164), (0, 6, 174), (0, 7, 184), (2, 0, 3), (2, 1, 4), (2, 2, 5), (2, 3, 6), (10, 0, 11), (10, 1, 12), (10, 2, 13), (10, 3, 14), (10, 4, 15), (11, 0, 16), (11, 1, 17), (11, 2, 18), (11, 4, 19), (11, 5, 20), (11, 6, 21), (11, 14, 22), (11, 15, 23), (11, 16, 24), (11, 17, 25), (11, 18, 26), (11, 19, 27), (12, 0, 28), (12, 1, 29), (12, 2, 30), (12, 3, 31), (12, 4, 32), (12, 5, 33), (12, 6, 34), (12, 8, 35), (12, 9, 36), (12, 11, 37), (12, 12, 38), (13, 0, 39), (13, 1, 40), (13, 2, 41), (13, 3, 42), (13, 4, 43), (13, 8, 44), (13, 9, 45), (13, 10, 46), (13, 12, 47), (14, 0, 48), (14, 1, 49), (15, 0, 50), (15, 1, 51), (15, 2, 52), (15, 4, 53), (160, 0, 161), (160, 1, 162), (164, 1, 165), (164, 2, 166), (164, 3, 167), (164, 4, 168), (164, 5, 169), (164, 6, 170), (164, 7, 171), (174, 1, 175), (174, 2, 176), (174, 3, 177), (174, 4, 178), (174, 5, 179), (174, 6, 180), (174, 7, 181), (184, 0, 185), (184, 1, 15), (190, 0, 191), (190, 1, 192), (190, 2, 193), (190, 5, 194), (190, 6, 195), (190, 7, 196), (190, 8, 197), (190, 9, 198), (190, 13, 199), (190, 15, 200), (190, 17, 201), (190, 19, 202)]
def am_st (al : List Nat) (R : Nat → Nat → Option Nat) : Prop := (∀ k ∈ am_ba, k ∈ al) ∧ ∀ q ∈ am_sr, R q.1 q.2.1 = some q.2.2
theorem ba_0 {al : List Nat} {R : Nat → Nat → Option Nat} (h : am_st al R) : 0 ∈ al := h.1 0 (List.mem_of_getElem? (i := 0) rfl)
theorem ba_1 {al : List Nat} {R : Nat → Nat → Option Nat} (h : am_st al R) : 1 ∈ al := h.1 1 (List.mem_of_getElem? (i := 1) rfl)
theorem ba_2 {al : List Nat} {R : Nat → Nat → Option Nat} (h : am_st al R) : 2 ∈ al := h.1 2 (List.mem_of_getElem? (i := 2) rfl)
theorem ba_3 {al : List Nat} {R : Nat → Nat → Option Nat} (h : am_st al R) : 3 ∈ al := h.1 3 (List.mem_of_getElem? (i := 3) rfl)
theorem ba_4 {al : List Nat} {R : Nat → Nat → Option Nat} (h : am_st al R) : 4 ∈ al := h.1 4 (List.mem_of_getElem? (i := 4) rfl)
theorem ba_5 {al : List Nat} {R : Nat → Nat → Option Nat} (h : am_st al R) : 5 ∈ al := h.1 5 (List.mem_of_getElem? (i := 5) rfl)
theorem ba_6 {al : List Nat} {R : Nat → Nat → Option Nat} (h : am_st al R) : 6 ∈ al := h.1 6 (List.mem_of_getElem? (i := 6) rfl)
theorem ba_7 {al : List Nat} {R : Nat → Nat → Option Nat} (h : am_st al R) : 7 ∈ al := h.1 7 (List.mem_of_getElem? (i := 7) rfl)
theorem ba_10 {al : List Nat} {R : Nat → Nat → Option Nat} (h : am_st al R) : 10 ∈ al := h.1 10 (List.mem_of_getElem? (i := 8) rfl)
theorem ba_11 {al : List Nat} {R : Nat → Nat → Option Nat} (h : am_st al R) : 11 ∈ al := h.1 11 (List.mem_of_getElem? (i := 9) rfl)
theorem ba_12 {al : List Nat} {R : Nat → Nat → Option Nat} (h : am_st al R) : 12 ∈ al := h.1 12 (List.mem_of_getElem? (i := 10) rfl)
theorem ba_13 {al : List Nat} {R : Nat → Nat → Option Nat} (h : am_st al R) : 13 ∈ al := h.1 13 (List.mem_of_getElem? (i := 11) rfl)
theorem ba_14 {al : List Nat} {R : Nat → Nat → Option Nat} (h : am_st al R) : 14 ∈ al := h.1 14 (List.mem_of_getElem? (i := 12) rfl)
theorem ba_15 {al : List Nat} {R : Nat → Nat → Option Nat} (h : am_st al R) : 15 ∈ al := h.1 15 (List.mem_of_getElem? (i := 13) rfl)
theorem ba_16 {al : List Nat} {R : Nat → Nat → Option Nat} (h : am_st al R) : 16 ∈ al := h.1 16 (List.mem_of_getElem? (i := 14) rfl)
theorem ba_17 {al : List Nat} {R : Nat → Nat → Option Nat} (h : am_st al R) : 17 ∈ al := h.1 17 (List.mem_of_getElem? (i := 15) rfl)
theorem ba_18 {al : List Nat} {R : Nat → Nat → Option Nat} (h : am_st al R) : 18 ∈ al := h.1 18 (List.mem_of_getElem? (i := 16) rfl)
theorem ba_19 {al : List Nat} {R : Nat → Nat → Option Nat} (h : am_st al R) : 19 ∈ al := h.1 19 (List.mem_of_getElem? (i := 17) rfl)
theorem ba_20 {al : List Nat} {R : Nat → Nat → Option Nat} (h : am_st al R) : 20 ∈ al := h.1 20 (List.mem_of_getElem? (i := 18) rfl)
theorem ba_21 {al : List Nat} {R : Nat → Nat → Option Nat} (h : am_st al R) : 21 ∈ al := h.1 21 (List.mem_of_getElem? (i := 19) rfl)
theorem ba_22 {al : List Nat} {R : Nat → Nat → Option Nat} (h : am_st al R) : 22 ∈ al := h.1 22 (List.mem_of_getElem? (i := 20) rfl)
theorem ba_23 {al : List Nat} {R : Nat → Nat → Option Nat} (h : am_st al R) : 23 ∈ al := h.1 23 (List.mem_of_getElem? (i := 21) rfl)
theorem ba_24 {al : List Nat} {R : Nat → Nat → Option Nat} (h : am_st al R) : 24 ∈ al := h.1 24 (List.mem_of_getElem? (i := 22) rfl)
theorem ba_25 {al : List Nat} {R : Nat → Nat → Option Nat} (h : am_st al R) : 25 ∈ al := h.1 25 (List.mem_of_getElem? (i := 23) rfl)
theorem ba_26 {al : List Nat} {R : Nat → Nat → Option Nat} (h : am_st al R) : 26 ∈ al := h.1 26 (List.mem_of_getElem? (i := 24) rfl)
theorem ba_27 {al : List Nat} {R : Nat → Nat → Option Nat} (h : am_st al R) : 27 ∈ al := h.1 27 (List.mem_of_getElem? (i := 25) rfl)
theorem ba_28 {al : List Nat} {R : Nat → Nat → Option Nat} (h : am_st al R) : 28 ∈ al := h.1 28 (List.mem_of_getElem? (i := 26) rfl)
theorem ba_29 {al : List Nat} {R : Nat → Nat → Option Nat} (h : am_st al R) : 29 ∈ al := h.1 29 (List.mem_of_getElem? (i := 27) rfl)
theorem ba_30 {al : List Nat} {R : Nat → Nat → Option Nat} (h : am_st al R) : 30 ∈ al := h.1 30 (List.mem_of_getElem? (i := 28) rfl)
theorem ba_31 {al : List Nat} {R : Nat → Nat → Option Nat} (h : am_st al R) : 31 ∈ al := h.1 31 (List.mem_of_getElem? (i := 29) rfl)
theorem ba_32 {al : List Nat} {R : Nat → Nat → Option Nat} (h : am_st al R) : 32 ∈ al := h.1 32 (List.mem_of_getElem? (i := 30) rfl)
theorem ba_33 {al : List Nat} {R : Nat → Nat → Option Nat} (h : am_st al R) : 33 ∈ al := h.1 33 (List.mem_of_getElem? (i := 31) rfl)
theorem ba_34 {al : List Nat} {R : Nat → Nat → Option Nat} (h : am_st al R) : 34 ∈ al := h.1 34 (List.mem_of_getElem? (i := 32) rfl)
theorem ba_35 {al : List Nat} {R : Nat → Nat → Option Nat} (h : am_st al R) : 35 ∈ al := h.1 35 (List.mem_of_getElem? (i := 33) rfl)
theorem ba_36 {al : List Nat} {R : Nat → Nat → Option Nat} (h : am_st al R) : 36 ∈ al := h.1 36 (List.mem_of_getElem? (i := 34) rfl)
theorem ba_37 {al : List Nat} {R : Nat → Nat → Option Nat} (h : am_st al R) : 37 ∈ al := h.1 37 (List.mem_of_getElem? (i := 35) rfl)
theorem ba_38 {al : List Nat} {R : Nat → Nat → Option Nat} (h : am_st al R) : 38 ∈ al := h.1 38 (List.mem_of_getElem? (i := 36) rfl)
theorem ba_39 {al : List Nat} {R : Nat → Nat → Option Nat} (h : am_st al R) : 39 ∈ al := h.1 39 (List.mem_of_getElem? (i := 37) rfl)
theorem ba_40 {al : List Nat} {R : Nat → Nat → Option Nat} (h : am_st al R) : 40 ∈ al := h.1 40 (List.mem_of_getElem? (i := 38) rfl)
theorem ba_41 {al : List Nat} {R : Nat → Nat → Option Nat} (h : am_st al R) : 41 ∈ al := h.1 41 (List.mem_of_getElem? (i := 39) rfl)
theorem ba_42 {al : List Nat} {R : Nat → Nat → Option Nat} (h : am_st al R) : 42 ∈ al := h.1 42 (List.mem_of_getElem? (i := 40) rfl)
theorem ba_43 {al : List Nat} {R : Nat → Nat → Option Nat} (h : am_st al R) : 43 ∈ al := h.1 43 (List.mem_of_getElem? (i := 41) rfl)
theorem ba_44 {al : List Nat} {R : Nat → Nat → Option Nat} (h : am_st al R) : 44 ∈ al := h.1 44 (List.mem_of_getElem? (i := 42) rfl)
theorem ba_45 {al : List Nat} {R : Nat → Nat → Option Nat} (h : am_st al R) : 45 ∈ al := h.1 45 (List.mem_of_getElem? (i := 43) rfl)
theorem ba_46 {al : List Nat} {R : Nat → Nat → Option Nat} (h : am_st al R) : 46 ∈ al := h.1 46 (List.mem_of_getElem? (i := 44) rfl)
theorem ba_47 {al : List Nat} {R : Nat → Nat → Option Nat} (h : am_st al R) : 47 ∈ al := h.1 47 (List.mem_of_getElem? (i := 45) rfl)
theorem ba_48 {al : List Nat} {R : Nat → Nat → Option Nat} (h : am_st al R) : 48 ∈ al := h.1 48 (List.mem_of_getElem? (i := 46) rfl)
theorem ba_49 {al : List Nat} {R : Nat → Nat → Option Nat} (h : am_st al R) : 49 ∈ al := h.1 49 (List.mem_of_getElem? (i := 47) rfl)
theorem ba_50 {al : List Nat} {R : Nat → Nat → Option Nat} (h : am_st al R) : 50 ∈ al := h.1 50 (List.mem_of_getElem? (i := 48) rfl)
theorem ba_51 {al : List Nat} {R : Nat → Nat → Option Nat} (h : am_st al R) : 51 ∈ al := h.1 51 (List.mem_of_getElem? (i := 49) rfl)
theorem ba_52 {al : List Nat} {R : Nat → Nat → Option Nat} (h : am_st al R) : 52 ∈ al := h.1 52 (List.mem_of_getElem? (i := 50) rfl)
theorem ba_53 {al : List Nat} {R : Nat → Nat → Option Nat} (h : am_st al R) : 53 ∈ al := h.1 53 (List.mem_of_getElem? (i := 51) rfl)
theorem ba_160 {al : List Nat} {R : Nat → Nat → Option Nat} (h : am_st al R) : 160 ∈ al := h.1 160 (List.mem_of_getElem? (i := 52) rfl)
theorem ba_161 {al : List Nat} {R : Nat → Nat → Option Nat} (h : am_st al R) : 161 ∈ al := h.1 161 (List.mem_of_getElem? (i := 53) rfl)
theorem ba_162 {al : List Nat} {R : Nat → Nat → Option Nat} (h : am_st al R) : 162 ∈ al := h.1 162 (List.mem_of_getElem? (i := 54) rfl)
theorem ba_164 {al : List Nat} {R : Nat → Nat → Option Nat} (h : am_st al R) : 164 ∈ al := h.1 164 (List.mem_of_getElem? (i := 55) rfl)
theorem ba_165 {al : List Nat} {R : Nat → Nat → Option Nat} (h : am_st al R) : 165 ∈ al := h.1 165 (List.mem_of_getElem? (i := 56) rfl)
theorem ba_166 {al : List Nat} {R : Nat → Nat → Option Nat} (h : am_st al R) : 166 ∈ al := h.1 166 (List.mem_of_getElem? (i := 57) rfl)
theorem ba_167 {al : List Nat} {R : Nat → Nat → Option Nat} (h : am_st al R) : 167 ∈ al := h.1 167 (List.mem_of_getElem? (i := 58) rfl)
theorem ba_168 {al : List Nat} {R : Nat → Nat → Option Nat} (h : am_st al R) : 168 ∈ al := h.1 168 (List.mem_of_getElem? (i := 59) rfl)
theorem ba_169 {al : List Nat} {R : Nat → Nat → Option Nat} (h : am_st al R) : 169 ∈ al := h.1 169 (List.mem_of_getElem? (i := 60) rfl)
theorem ba_170 {al : List Nat} {R : Nat → Nat → Option Nat} (h : am_st al R) : 170 ∈ al := h.1 170 (List.mem_of_getElem? (i := 61) rfl)
theorem ba_171 {al : List Nat} {R : Nat → Nat → Option Nat} (h : am_st al R) : 171 ∈ al := h.1 171 (List.mem_of_getElem? (i := 62) rfl)
theorem ba_174 {al : List Nat} {R : Nat → Nat → Option Nat} (h : am_st al R) : 174 ∈ al := h.1 174 (List.mem_of_getElem? (i := 63) rfl)
theorem ba_175 {al : List Nat} {R : Nat → Nat → Option Nat} (h : am_st al R) : 175 ∈ al := h.1 175 (List.mem_of_getElem? (i := 64) rfl)
theorem ba_176 {al : List Nat} {R : Nat → Nat → Option Nat} (h : am_st al R) : 176 ∈ al := h.1 176 (List.mem_of_getElem? (i := 65) rfl)
theorem ba_177 {al : List Nat} {R : Nat → Nat → Option Nat} (h : am_st al R) : 177 ∈ al := h.1 177 (List.mem_of_getElem? (i := 66) rfl)
theorem ba_178 {al : List Nat} {R : Nat → Nat → Option Nat} (h : am_st al R) : 178 ∈ al := h.1 178 (List.mem_of_getElem? (i := 67) rfl)
theorem ba_179 {al : List Nat} {R : Nat → Nat → Option Nat} (h : am_st al R) : 179 ∈ al := h.1 179 (List.mem_of_getElem? (i := 68) rfl)
theorem ba_180 {al : List Nat} {R : Nat → Nat → Option Nat} (h : am_st al R) : 180 ∈ al := h.1 180 (List.mem_of_getElem? (i := 69) rfl)
theorem ba_181 {al : List Nat} {R : Nat → Nat → Option Nat} (h : am_st al R) : 181 ∈ al := h.1 181 (List.mem_of_getElem? (i := 70) rfl)
theorem ba_184 {al : List Nat} {R : Nat → Nat → Option Nat} (h : am_st al R) : 184 ∈ al := h.1 184 (List.mem_of_getElem? (i := 71) rfl)
theorem ba_185 {al : List Nat} {R : Nat → Nat → Option Nat} (h : am_st al R) : 185 ∈ al := h.1 185 (List.mem_of_getElem? (i := 72) rfl)
theorem ba_190 {al : List Nat} {R : Nat → Nat → Option Nat} (h : am_st al R) : 190 ∈ al := h.1 190 (List.mem_of_getElem? (i := 73) rfl)
theorem ba_191 {al : List Nat} {R : Nat → Nat → Option Nat} (h : am_st al R) : 191 ∈ al := h.1 191 (List.mem_of_getElem? (i := 74) rfl)
theorem ba_192 {al : List Nat} {R : Nat → Nat → Option Nat} (h : am_st al R) : 192 ∈ al := h.1 192 (List.mem_of_getElem? (i := 75) rfl)
theorem ba_193 {al : List Nat} {R : Nat → Nat → Option Nat} (h : am_st al R) : 193 ∈ al := h.1 193 (List.mem_of_getElem? (i := 76) rfl)
theorem ba_194 {al : List Nat} {R : Nat → Nat → Option Nat} (h : am_st al R) : 194 ∈ al := h.1 194 (List.mem_of_getElem? (i := 77) rfl)
theorem ba_195 {al : List Nat} {R : Nat → Nat → Option Nat} (h : am_st al R) : 195 ∈ al := h.1 195 (List.mem_of_getElem? (i := 78) rfl)
theorem ba_196 {al : List Nat} {R : Nat → Nat → Option Nat} (h : am_st al R) : 196 ∈ al := h.1 196 (List.mem_of_getElem? (i := 79) rfl)
theorem ba_197 {al : List Nat} {R : Nat → Nat → Option Nat} (h : am_st al R) : 197 ∈ al := h.1 197 (List.mem_of_getElem? (i := 80) rfl)
theorem ba_198 {al : List Nat} {R : Nat → Nat → Option Nat} (h : am_st al R) : 198 ∈ al := h.1 198 (List.mem_of_getElem? (i := 81) rfl)
theorem ba_199 {al : List Nat} {R : Nat → Nat → Option Nat} (h : am_st al R) : 199 ∈ al := h.1 199 (List.mem_of_getElem? (i := 82) rfl)
theorem ba_200 {al : List Nat} {R : Nat → Nat → Option Nat} (h : am_st al R) : 200 ∈ al := h.1 200 (List.mem_of_getElem? (i := 83) rfl)
theorem ba_201 {al : List Nat} {R : Nat → Nat → Option Nat} (h : am_st al R) : 201 ∈ al := h.1 201 (List.mem_of_getElem? (i := 84) rfl)
theorem ba_202 {al : List Nat} {R : Nat → Nat → Option Nat} (h : am_st al R) : 202 ∈ al := h.1 202 (List.mem_of_getElem? (i := 85) rfl)
theorem sr_0_0 {al : List Nat} {R : Nat → Nat → Option Nat} (h : am_st al R) : R 0 0 = some 10 := h.2 (0, 0, 10) (List.mem_of_getElem? (i := 0) rfl)
theorem sr_0_1 {al : List Nat} {R : Nat → Nat → Option Nat} (h : am_st al R) : R 0 1 = some 1 := h.2 (0, 1, 1) (List.mem_of_getElem? (i := 1) rfl)
theorem sr_0_2 {al : List Nat} {R : Nat → Nat → Option Nat} (h : am_st al R) : R 0 2 = some 2 := h.2 (0, 2, 2) (List.mem_of_getElem? (i := 2) rfl)
theorem sr_0_3 {al : List Nat} {R : Nat → Nat → Option Nat} (h : am_st al R) : R 0 3 = some 7 := h.2 (0, 3, 7) (List.mem_of_getElem? (i := 3) rfl)
theorem sr_0_4 {al : List Nat} {R : Nat → Nat → Option Nat} (h : am_st al R) : R 0 4 = some 160 := h.2 (0, 4, 160) (List.mem_of_getElem? (i := 4) rfl)
theorem sr_0_5 {al : List Nat} {R : Nat → Nat → Option Nat} (h : am_st al R) : R 0 5 = some 164 := h.2 (0, 5, 164) (List.mem_of_getElem? (i := 5) rfl)
theorem sr_0_6 {al : List Nat} {R : Nat → Nat → Option Nat} (h : am_st al R) : R 0 6 = some 174 := h.2 (0, 6, 174) (List.mem_of_getElem? (i := 6) rfl)
theorem sr_0_7 {al : List Nat} {R : Nat → Nat → Option Nat} (h : am_st al R) : R 0 7 = some 184 := h.2 (0, 7, 184) (List.mem_of_getElem? (i := 7) rfl)
theorem sr_2_0 {al : List Nat} {R : Nat → Nat → Option Nat} (h : am_st al R) : R 2 0 = some 3 := h.2 (2, 0, 3) (List.mem_of_getElem? (i := 8) rfl)
theorem sr_2_1 {al : List Nat} {R : Nat → Nat → Option Nat} (h : am_st al R) : R 2 1 = some 4 := h.2 (2, 1, 4) (List.mem_of_getElem? (i := 9) rfl)
theorem sr_2_2 {al : List Nat} {R : Nat → Nat → Option Nat} (h : am_st al R) : R 2 2 = some 5 := h.2 (2, 2, 5) (List.mem_of_getElem? (i := 10) rfl)
theorem sr_2_3 {al : List Nat} {R : Nat → Nat → Option Nat} (h : am_st al R) : R 2 3 = some 6 := h.2 (2, 3, 6) (List.mem_of_getElem? (i := 11) rfl)
theorem sr_10_0 {al : List Nat} {R : Nat → Nat → Option Nat} (h : am_st al R) : R 10 0 = some 11 := h.2 (10, 0, 11) (List.mem_of_getElem? (i := 12) rfl)
theorem sr_10_1 {al : List Nat} {R : Nat → Nat → Option Nat} (h : am_st al R) : R 10 1 = some 12 := h.2 (10, 1, 12) (List.mem_of_getElem? (i := 13) rfl)
theorem sr_10_2 {al : List Nat} {R : Nat → Nat → Option Nat} (h : am_st al R) : R 10 2 = some 13 := h.2 (10, 2, 13) (List.mem_of_getElem? (i := 14) rfl)
theorem sr_10_3 {al : List Nat} {R : Nat → Nat → Option Nat} (h : am_st al R) : R 10 3 = some 14 := h.2 (10, 3, 14) (List.mem_of_getElem? (i := 15) rfl)
theorem sr_10_4 {al : List Nat} {R : Nat → Nat → Option Nat} (h : am_st al R) : R 10 4 = some 15 := h.2 (10, 4, 15) (List.mem_of_getElem? (i := 16) rfl)
theorem sr_11_0 {al : List Nat} {R : Nat → Nat → Option Nat} (h : am_st al R) : R 11 0 = some 16 := h.2 (11, 0, 16) (List.mem_of_getElem? (i := 17) rfl)
theorem sr_11_1 {al : List Nat} {R : Nat → Nat → Option Nat} (h : am_st al R) : R 11 1 = some 17 := h.2 (11, 1, 17) (List.mem_of_getElem? (i := 18) rfl)
theorem sr_11_2 {al : List Nat} {R : Nat → Nat → Option Nat} (h : am_st al R) : R 11 2 = some 18 := h.2 (11, 2, 18) (List.mem_of_getElem? (i := 19) rfl)
theorem sr_11_4 {al : List Nat} {R : Nat → Nat → Option Nat} (h : am_st al R) : R 11 4 = some 19 := h.2 (11, 4, 19) (List.mem_of_getElem? (i := 20) rfl)
theorem sr_11_5 {al : List Nat} {R : Nat → Nat → Option Nat} (h : am_st al R) : R 11 5 = some 20 := h.2 (11, 5, 20) (List.mem_of_getElem? (i := 21) rfl)
theorem sr_11_6 {al : List Nat} {R : Nat → Nat → Option Nat} (h : am_st al R) : R 11 6 = some 21 := h.2 (11, 6, 21) (List.mem_of_getElem? (i := 22) rfl)
theorem sr_11_14 {al : List Nat} {R : Nat → Nat → Option Nat} (h : am_st al R) : R 11 14 = some 22 := h.2 (11, 14, 22) (List.mem_of_getElem? (i := 23) rfl)
theorem sr_11_15 {al : List Nat} {R : Nat → Nat → Option Nat} (h : am_st al R) : R 11 15 = some 23 := h.2 (11, 15, 23) (List.mem_of_getElem? (i := 24) rfl)
theorem sr_11_16 {al : List Nat} {R : Nat → Nat → Option Nat} (h : am_st al R) : R 11 16 = some 24 := h.2 (11, 16, 24) (List.mem_of_getElem? (i := 25) rfl)
theorem sr_11_17 {al : List Nat} {R : Nat → Nat → Option Nat} (h : am_st al R) : R 11 17 = some 25 := h.2 (11, 17, 25) (List.mem_of_getElem? (i := 26) rfl)
theorem sr_11_18 {al : List Nat} {R : Nat → Nat → Option Nat} (h : am_st al R) : R 11 18 = some 26 := h.2 (11, 18, 26) (List.mem_of_getElem? (i := 27) rfl)
theorem sr_11_19 {al : List Nat} {R : Nat → Nat → Option Nat} (h : am_st al R) : R 11 19 = some 27 := h.2 (11, 19, 27) (List.mem_of_getElem? (i := 28) rfl)
theorem sr_12_0 {al : List Nat} {R : Nat → Nat → Option Nat} (h : am_st al R) : R 12 0 = some 28 := h.2 (12, 0, 28) (List.mem_of_getElem? (i := 29) rfl)
theorem sr_12_1 {al : List Nat} {R : Nat → Nat → Option Nat} (h : am_st al R) : R 12 1 = some 29 := h.2 (12, 1, 29) (List.mem_of_getElem? (i := 30) rfl)
theorem sr_12_2 {al : List Nat} {R : Nat → Nat → Option Nat} (h : am_st al R) : R 12 2 = some 30 := h.2 (12, 2, 30) (List.mem_of_getElem? (i := 31) rfl)
theorem sr_12_3 {al : List Nat} {R : Nat → Nat → Option Nat} (h : am_st al R) : R 12 3 = some 31 := h.2 (12, 3, 31) (List.mem_of_getElem? (i := 32) rfl)
theorem sr_12_4 {al : List Nat} {R : Nat → Nat → Option Nat} (h : am_st al R) : R 12 4 = some 32 := h.2 (12, 4, 32) (List.mem_of_getElem? (i := 33) rfl)
theorem sr_12_5 {al : List Nat} {R : Nat → Nat → Option Nat} (h : am_st al R) : R 12 5 = some 33 := h.2 (12, 5, 33) (List.mem_of_getElem? (i := 34) rfl)
theorem sr_12_6 {al : List Nat} {R : Nat → Nat → Option Nat} (h : am_st al R) : R 12 6 = some 34 := h.2 (12, 6, 34) (List.mem_of_getElem? (i := 35) rfl)
theorem sr_12_8 {al : List Nat} {R : Nat → Nat → Option Nat} (h : am_st al R) : R 12 8 = some 35 := h.2 (12, 8, 35) (List.mem_of_getElem? (i := 36) rfl)
theorem sr_12_9 {al : List Nat} {R : Nat → Nat → Option Nat} (h : am_st al R) : R 12 9 = some 36 := h.2 (12, 9, 36) (List.mem_of_getElem? (i := 37) rfl)
theorem sr_12_11 {al : List Nat} {R : Nat → Nat → Option Nat} (h : am_st al R) : R 12 11 = some 37 := h.2 (12, 11, 37) (List.mem_of_getElem? (i := 38) rfl)
theorem sr_12_12 {al : List Nat} {R : Nat → Nat → Option Nat} (h : am_st al R) : R 12 12 = some 38 := h.2 (12, 12, 38) (List.mem_of_getElem? (i := 39) rfl)
theorem sr_13_0 {al : List Nat} {R : Nat → Nat → Option Nat} (h : am_st al R) : R 13 0 = some 39 := h.2 (13, 0, 39) (List.mem_of_getElem? (i := 40) rfl)
theorem sr_13_1 {al : List Nat} {R : Nat → Nat → Option Nat} (h : am_st al R) : R 13 1 = some 40 := h.2 (13, 1, 40) (List.mem_of_getElem? (i := 41) rfl)
theorem sr_13_2 {al : List Nat} {R : Nat → Nat → Option Nat} (h : am_st al R) : R 13 2 = some 41 := h.2 (13, 2, 41) (List.mem_of_getElem? (i := 42) rfl)
theorem sr_13_3 {al : List Nat} {R : Nat → Nat → Option Nat} (h : am_st al R) : R 13 3 = some 42 := h.2 (13, 3, 42) (List.mem_of_getElem? (i := 43) rfl)
theorem sr_13_4 {al : List Nat} {R : Nat → Nat → Option Nat} (h : am_st al R) : R 13 4 = some 43 := h.2 (13, 4, 43) (List.mem_of_getElem? (i := 44) rfl)
theorem sr_13_8 {al : List Nat} {R : Nat → Nat → Option Nat} (h : am_st al R) : R 13 8 = some 44 := h.2 (13, 8, 44) (List.mem_of_getElem? (i := 45) rfl)
theorem sr_13_9 {al : List Nat} {R : Nat → Nat → Option Nat} (h : am_st al R) : R 13 9 = some 45 := h.2 (13, 9, 45) (List.mem_of_getElem? (i := 46) rfl)
theorem sr_13_10 {al : List Nat} {R : Nat → Nat → Option Nat} (h : am_st al R) : R 13 10 = some 46 := h.2 (13, 10, 46) (List.mem_of_getElem? (i := 47) rfl)
theorem sr_13_12 {al : List Nat} {R : Nat → Nat → Option Nat} (h : am_st al R) : R 13 12 = some 47 := h.2 (13, 12, 47) (List.mem_of_getElem? (i := 48) rfl)
theorem sr_14_0 {al : List Nat} {R : Nat → Nat → Option Nat} (h : am_st al R) : R 14 0 = some 48 := h.2 (14, 0, 48) (List.mem_of_getElem? (i := 49) rfl)
theorem sr_14_1 {al : List Nat} {R : Nat → Nat → Option Nat} (h : am_st al R) : R 14 1 = some 49 := h.2 (14, 1, 49) (List.mem_of_getElem? (i := 50) rfl)
theorem sr_15_0 {al : List Nat} {R : Nat → Nat → Option Nat} (h : am_st al R) : R 15 0 = some 50 := h.2 (15, 0, 50) (List.mem_of_getElem? (i := 51) rfl)
theorem sr_15_1 {al : List Nat} {R : Nat → Nat → Option Nat} (h : am_st al R) : R 15 1 = some 51 := h.2 (15, 1, 51) (List.mem_of_getElem? (i := 52) rfl)
theorem sr_15_2 {al : List Nat} {R : Nat → Nat → Option Nat} (h : am_st al R) : R 15 2 = some 52 := h.2 (15, 2, 52) (List.mem_of_getElem? (i := 53) rfl)
theorem sr_15_4 {al : List Nat} {R : Nat → Nat → Option Nat} (h : am_st al R) : R 15 4 = some 53 := h.2 (15, 4, 53) (List.mem_of_getElem? (i := 54) rfl)
theorem sr_160_0 {al : List Nat} {R : Nat → Nat → Option Nat} (h : am_st al R) : R 160 0 = some 161 := h.2 (160, 0, 161) (List.mem_of_getElem? (i := 55) rfl)
theorem sr_160_1 {al : List Nat} {R : Nat → Nat → Option Nat} (h : am_st al R) : R 160 1 = some 162 := h.2 (160, 1, 162) (List.mem_of_getElem? (i := 56) rfl)
theorem sr_164_1 {al : List Nat} {R : Nat → Nat → Option Nat} (h : am_st al R) : R 164 1 = some 165 := h.2 (164, 1, 165) (List.mem_of_getElem? (i := 57) rfl)
theorem sr_164_2 {al : List Nat} {R : Nat → Nat → Option Nat} (h : am_st al R) : R 164 2 = some 166 := h.2 (164, 2, 166) (List.mem_of_getElem? (i := 58) rfl)
theorem sr_164_3 {al : List Nat} {R : Nat → Nat → Option Nat} (h : am_st al R) : R 164 3 = some 167 := h.2 (164, 3, 167) (List.mem_of_getElem? (i := 59) rfl)
theorem sr_164_4 {al : List Nat} {R : Nat → Nat → Option Nat} (h : am_st al R) : R 164 4 = some 168 := h.2 (164, 4, 168) (List.mem_of_getElem? (i := 60) rfl)
theorem sr_164_5 {al : List Nat} {R : Nat → Nat → Option Nat} (h : am_st al R) : R 164 5 = some 169 := h.2 (164, 5, 169) (List.mem_of_getElem? (i := 61) rfl)
theorem sr_164_6 {al : List Nat} {R : Nat → Nat → Option Nat} (h : am_st al R) : R 164 6 = some 170 := h.2 (164, 6, 170) (List.mem_of_getElem? (i := 62) rfl)
theorem sr_164_7 {al : List Nat} {R : Nat → Nat → Option Nat} (h : am_st al R) : R 164 7 = some 171 := h.2 (164, 7, 171) (List.mem_of_getElem? (i := 63) rfl)
theorem sr_174_1 {al : List Nat} {R : Nat → Nat → Option Nat} (h : am_st al R) : R 174 1 = some 175 := h.2 (174, 1, 175) (List.mem_of_getElem? (i := 64) rfl)
theorem sr_174_2 {al : List Nat} {R : Nat → Nat → Option Nat} (h : am_st al R) : R 174 2 = some 176 := h.2 (174, 2, 176) (List.mem_of_getElem? (i := 65) rfl)
theorem sr_174_3 {al : List Nat} {R : Nat → Nat → Option Nat} (h : am_st al R) : R 174 3 = some 177 := h.2 (174, 3, 177) (List.mem_of_getElem? (i := 66) rfl)
theorem sr_174_4 {al : List Nat} {R : Nat → Nat → Option Nat} (h : am_st al R) : R 174 4 = some 178 := h.2 (174, 4, 178) (List.mem_of_getElem? (i := 67) rfl)
theorem sr_174_5 {al : List Nat} {R : Nat → Nat → Option Nat} (h : am_st al R) : R 174 5 = some 179 := h.2 (174, 5, 179) (List.mem_of_getElem? (i := 68) rfl)
theorem sr_174_6 {al : List Nat} {R : Nat → Nat → Option Nat} (h : am_st al R) : R 174 6 = some 180 := h.2 (174, 6, 180) (List.mem_of_getElem? (i := 69) rfl)
theorem sr_174_7 {al : List Nat} {R : Nat → Nat → Option Nat} (h : am_st al R) : R 174 7 = some 181 := h.2 (174, 7, 181) (List.mem_of_getElem? (i := 70) rfl)
theorem sr_184_0 {al : List Nat} {R : Nat → Nat → Option Nat} (h : am_st al R) : R 184 0 = some 185 := h.2 (184, 0, 185) (List.mem_of_getElem? (i := 71) rfl)
theorem sr_184_1 {al : List Nat} {R : Nat → Nat → Option Nat} (h : am_st al R) : R 184 1 = some 15 := h.2 (184, 1, 15) (List.mem_of_getElem? (i := 72) rfl)
theorem sr_190_0 {al : List Nat} {R : Nat → Nat → Option Nat} (h : am_st al R) : R 190 0 = some 191 := h.2 (190, 0, 191) (List.mem_of_getElem? (i := 73) rfl)
theorem sr_190_1 {al : List Nat} {R : Nat → Nat → Option Nat} (h : am_st al R) : R 190 1 = some 192 := h.2 (190, 1, 192) (List.mem_of_getElem? (i := 74) rfl)
theorem sr_190_2 {al : List Nat} {R : Nat → Nat → Option Nat} (h : am_st al R) : R 190 2 = some 193 := h.2 (190, 2, 193) (List.mem_of_getElem? (i := 75) rfl)
theorem sr_190_5 {al : List Nat} {R : Nat → Nat → Option Nat} (h : am_st al R) : R 190 5 = some 194 := h.2 (190, 5, 194) (List.mem_of_getElem? (i := 76) rfl)
theorem sr_190_6 {al : List Nat} {R : Nat → Nat → Option Nat} (h : am_st al R) : R 190 6 = some 195 := h.2 (190, 6, 195) (List.mem_of_getElem? (i := 77) rfl)
theorem sr_190_7 {al : List Nat} {R : Nat → Nat → Option Nat} (h : am_st al R) : R 190 7 = some 196 := h.2 (190, 7, 196) (List.mem_of_getElem? (i := 78) rfl)
theorem sr_190_8 {al : List Nat} {R : Nat → Nat → Option Nat} (h : am_st al R) : R 190 8 = some 197 := h.2 (190, 8, 197) (List.mem_of_getElem? (i := 79) rfl)
theorem sr_190_9 {al : List Nat} {R : Nat → Nat → Option Nat} (h : am_st al R) : R 190 9 = some 198 := h.2 (190, 9, 198) (List.mem_of_getElem? (i := 80) rfl)
theorem sr_190_13 {al : List Nat} {R : Nat → Nat → Option Nat} (h : am_st al R) : R 190 13 = some 199 := h.2 (190, 13, 199) (List.mem_of_getElem? (i := 81) rfl)
theorem sr_190_15 {al : List Nat} {R : Nat → Nat → Option Nat} (h : am_st al R) : R 190 15 = some 200 := h.2 (190, 15, 200) (List.mem_of_getElem? (i := 82) rfl)
theorem sr_190_17 {al : List Nat} {R : Nat → Nat → Option Nat} (h : am_st al R) : R 190 17 = some 201 := h.2 (190, 17, 201) (List.mem_of_getElem? (i := 83) rfl)
theorem sr_190_19 {al : List Nat} {R : Nat → Nat → Option Nat} (h : am_st al R) : R 190 19 = some 202 := h.2 (190, 19, 202) (List.mem_of_getElem? (i := 84) rfl)
def am_ba1 : List Nat := [60, 61, 62, 63, 64, 65, 66, 67, 68, 69, 70, 71, 72, 73, 74, 75, 76, 77, 78, 79, 80, 81, 82, 83, 84, 85, 86, 87, 88, 89, 90, 91, 92, 93, 94, 95, 96, 97, 98, 99, 100, 101, 102, 103]
def am_sr1 : List (Nat × Nat × Nat) := [(60, 0, 61), (60, 1, 62), (60, 2, 63), (60, 3, 64), (60, 4, 65), (61, 0, 66), (61, 1, 67), (61, 2, 68), (61, 4, 69), (61, 5, 70), (61, 6, 71), (61, 14, 72), (61, 15, 73), (61, 16, 74), (61, 17, 75), (61, 18, 76), (61, 19, 77), (62, 0, 78), (62, 1, 79), (62, 2, 80), (62, 3, 81), (62, 4, 82), (62, 5, 83), (62, 6, 84), (62, 8, 85), (62, 9, 86), (62, 11, 87), (62, 12, 88), (63, 0, 89), (63, 1, 90), (63, 2, 91), (63, 3, 92), (63, 4, 93), (63, 8, 94), (63, 9, 95), (63, 10, 96), (63, 12, 97), (64, 0, 98), (64, 1, 99), (65, 0, 100), (65, 1, 101), (65, 2, 102), (65, 4, 103)]
def am_st1 (al : List Nat) (R : Nat → Nat → Option Nat) : Prop := (∀ k ∈ am_ba1, k ∈ al) ∧ ∀ q ∈ am_sr1, R q.1 q.2.1 = some q.2.2
theorem ba_60 {al : List Nat} {R : Nat → Nat → Option Nat} (h : am_st1 al R) : 60 ∈ al := h.1 60 (List.mem_of_getElem? (i := 0) rfl)
theorem ba_61 {al : List Nat} {R : Nat → Nat → Option Nat} (h : am_st1 al R) : 61 ∈ al := h.1 61 (List.mem_of_getElem? (i := 1) rfl)
theorem ba_62 {al : List Nat} {R : Nat → Nat → Option Nat} (h : am_st1 al R) : 62 ∈ al := h.1 62 (List.mem_of_getElem? (i := 2) rfl)
theorem ba_63 {al : List Nat} {R : Nat → Nat → Option Nat} (h : am_st1 al R) : 63 ∈ al := h.1 63 (List.mem_of_getElem? (i := 3) rfl)
theorem ba_64 {al : List Nat} {R : Nat → Nat → Option Nat} (h : am_st1 al R) : 64 ∈ al := h.1 64 (List.mem_of_getElem? (i := 4) rfl)
theorem ba_65 {al : List Nat} {R : Nat → Nat → Option Nat} (h : am_st1 al R) : 65 ∈ al := h.1 65 (List.mem_of_getElem? (i := 5) rfl)
theorem ba_66 {al : List Nat} {R : Nat → Nat → Option Nat} (h : am_st1 al R) : 66 ∈ al := h.1 66 (List.mem_of_getElem? (i := 6) rfl)
theorem ba_67 {al : List Nat} {R : Nat → Nat → Option Nat} (h : am_st1 al R) : 67 ∈ al := h.1 67 (List.mem_of_getElem? (i := 7) rfl)
theorem ba_68 {al : List Nat} {R : Nat → Nat → Option Nat} (h : am_st1 al R) : 68 ∈ al := h.1 68 (List.mem_of_getElem? (i := 8) rfl)
theorem ba_69 {al : List Nat} {R : Nat → Nat → Option Nat} (h : am_st1 al R) : 69 ∈ al := h.1 69 (List.mem_of_getElem? (i := 9) rfl)
theorem ba_70 {al : List Nat} {R : Nat → Nat → Option Nat} (h : am_st1 al R) : 70 ∈ al := h.1 70 (List.mem_of_getElem? (i := 10) rfl)
theorem ba_71 {al : List Nat} {R : Nat → Nat → Option Nat} (h : am_st1 al R) : 71 ∈ al := h.1 71 (List.mem_of_getElem? (i := 11) rfl)
theorem ba_72 {al : List Nat} {R : Nat → Nat → Option Nat} (h : am_st1 al R) : 72 ∈ al := h.1 72 (List.mem_of_getElem? (i := 12) rfl)
theorem ba_73 {al : List Nat} {R : Nat → Nat → Option Nat} (h : am_st1 al R) : 73 ∈ al := h.1 73 (List.mem_of_getElem? (i := 13) rfl)
theorem ba_74 {al : List Nat} {R : Nat → Nat → Option Nat} (h : am_st1 al R) : 74 ∈ al := h.1 74 (List.mem_of_getElem? (i := 14) rfl)
theorem ba_75 {al : List Nat} {R : Nat → Nat → Option Nat} (h : am_st1 al R) : 75 ∈ al := h.1 75 (List.mem_of_getElem? (i := 15) rfl)
theorem ba_76 {al : List Nat} {R : Nat → Nat → Option Nat} (h : am_st1 al R) : 76 ∈ al := h.1 76 (List.mem_of_getElem? (i := 16) rfl)
theorem ba_77 {al : List Nat} {R : Nat → Nat → Option Nat} (h : am_st1 al R) : 77 ∈ al := h.1 77 (List.mem_of_getElem? (i := 17) rfl)
theorem ba_78 {al : List Nat} {R : Nat → Nat → Option Nat} (h : am_st1 al R) : 78 ∈ al := h.1 78 (List.mem_of_getElem? (i := 18) rfl)
theorem ba_79 {al : List Nat} {R : Nat → Nat → Option Nat} (h : am_st1 al R) : 79 ∈ al := h.1 79 (List.mem_of_getElem? (i := 19) rfl)
theorem ba_80 {al : List Nat} {R : Nat → Nat → Option Nat} (h : am_st1 al R) : 80 ∈ al := h.1 80 (List.mem_of_getElem? (i := 20) rfl)
theorem ba_81 {al : List Nat} {R : Nat → Nat → Option Nat} (h : am_st1 al R) : 81 ∈ al := h.1 81 (List.mem_of_getElem? (i := 21) rfl)
theorem ba_82 {al : List Nat} {R : Nat → Nat → Option Nat} (h : am_st1 al R) : 82 ∈ al := h.1 82 (List.mem_of_getElem? (i := 22) rfl)
theorem ba_83 {al : List Nat} {R : Nat → Nat → Option Nat} (h : am_st1 al R) : 83 ∈ al := h.1 83 (List.mem_of_getElem? (i := 23) rfl)
theorem ba_84 {al : List Nat} {R : Nat → Nat → Option Nat} (h : am_st1 al R) : 84 ∈ al := h.1 84 (List.mem_of_getElem? (i := 24) rfl)
theorem ba_85 {al : List Nat} {R : Nat → Nat → Option Nat} (h : am_st1 al R) : 85 ∈ al := h.1 85 (List.mem_of_getElem? (i := 25) rfl)
theorem ba_86 {al : List Nat} {R : Nat → Nat → Option Nat} (h : am_st1 al R) : 86 ∈ al := h.1 86 (List.mem_of_getElem? (i := 26) rfl)
theorem ba_87 {al : List Nat} {R : Nat → Nat → Option Nat} (h : am_st1 al R) : 87 ∈ al := h.1 87 (List.mem_of_getElem? (i := 27) rfl)
theorem ba_88 {al : List Nat} {R : Nat → Nat → Option Nat} (h : am_st1 al R) : 88 ∈ al := h.1 88 (List.mem_of_getElem? (i := 28) rfl)
theorem ba_89 {al : List Nat} {R : Nat → Nat → Option Nat} (h : am_st1 al R) : 89 ∈ al := h.1 89 (List.mem_of_getElem? (i := 29) rfl)
theorem ba_90 {al : List Nat} {R : Nat → Nat → Option Nat} (h : am_st1 al R) : 90 ∈ al := h.1 90 (List.mem_of_getElem? (i := 30) rfl)
theorem ba_91 {al : List Nat} {R : Nat → Nat → Option Nat} (h : am_st1 al R) : 91 ∈ al := h.1 91 (List.mem_of_getElem? (i := 31) rfl)
theorem ba_92 {al : List Nat} {R : Nat → Nat → Option Nat} (h : am_st1 al R) : 92 ∈ al := h.1 92 (List.mem_of_getElem? (i := 32) rfl)
theorem ba_93 {al : List Nat} {R : Nat → Nat → Option Nat} (h : am_st1 al R) : 93 ∈ al := h.1 93 (List.mem_of_getElem? (i := 33) rfl)
theorem ba_94 {al : List Nat} {R : Nat → Nat → Option Nat} (h : am_st1 al R) : 94 ∈ al := h.1 94 (List.mem_of_getElem? (i := 34) rfl)
theorem ba_95 {al : List Nat} {R : Nat → Nat → Option Nat} (h : am_st1 al R) : 95 ∈ al := h.1 95 (List.mem_of_getElem? (i := 35) rfl)
theorem ba_96 {al : List Nat} {R : Nat → Nat → Option Nat} (h : am_st1 al R) : 96 ∈ al := h.1 96 (List.mem_of_getElem? (i := 36) rfl)
theorem ba_97 {al : List Nat} {R : Nat → Nat → Option Nat} (h : am_st1 al R) : 97 ∈ al := h.1 97 (List.mem_of_getElem? (i := 37) rfl)
theorem ba_98 {al : List Nat} {R : Nat → Nat → Option Nat} (h : am_st1 al R) : 98 ∈ al := h.1 98 (List.mem_of_getElem? (i := 38) rfl)
theorem ba_99 {al : List Nat} {R : Nat → Nat → Option Nat} (h : am_st1 al R) : 99 ∈ al := h.1 99 (List.mem_of_getElem? (i := 39) rfl)
theorem ba_100 {al : List Nat} {R : Nat → Nat → Option Nat} (h : am_st1 al R) : 100 ∈ al := h.1 100 (List.mem_of_getElem? (i := 40) rfl)
theorem ba_101 {al : List Nat} {R : Nat → Nat → Option Nat} (h : am_st1 al R) : 101 ∈ al := h.1 101 (List.mem_of_getElem? (i := 41) rfl)
theorem ba_102 {al : List Nat} {R : Nat → Nat → Option Nat} (h : am_st1 al R) : 102 ∈ al := h.1 102 (List.mem_of_getElem? (i := 42) rfl)
theorem ba_103 {al : List Nat} {R : Nat → Nat → Option Nat} (h : am_st1 al R) : 103 ∈ al := h.1 103 (List.mem_of_getElem? (i := 43) rfl)
theorem sr_60_0 {al : List Nat} {R : Nat → Nat → Option Nat} (h : am_st1 al R) : R 60 0 = some 61 := h.2 (60, 0, 61) (List.mem_of_getElem? (i := 0) rfl)
theorem sr_60_1 {al : List Nat} {R : Nat → Nat → Option Nat} (h : am_st1 al R) : R 60 1 = some 62 := h.2 (60, 1, 62) (List.mem_of_getElem? (i := 1) rfl)
theorem sr_60_2 {al : List Nat} {R : Nat → Nat → Option Nat} (h : am_st1 al R) : R 60 2 = some 63 := h.2 (60, 2, 63) (List.mem_of_getElem? (i := 2) rfl)
theorem sr_60_3 {al : List Nat} {R : Nat → Nat → Option Nat} (h : am_st1 al R) : R 60 3 = some 64 := h.2 (60, 3, 64) (List.mem_of_getElem? (i := 3) rfl)
theorem sr_60_4 {al : List Nat} {R : Nat → Nat → Option Nat} (h : am_st1 al R) : R 60 4 = some 65 := h.2 (60, 4, 65) (List.mem_of_getElem? (i := 4) rfl)
theorem sr_61_0 {al : List Nat} {R : Nat → Nat → Option Nat} (h : am_st1 al R) : R 61 0 = some 66 := h.2 (61, 0, 66) (List.mem_of_getElem? (i := 5) rfl)
theorem sr_61_1 {al : List Nat} {R : Nat → Nat → Option Nat} (h : am_st1 al R) : R 61 1 = some 67 := h.2 (61, 1, 67) (List.mem_of_getElem? (i := 6) rfl)
theorem sr_61_2 {al : List Nat} {R : Nat → Nat → Option Nat} (h : am_st1 al R) : R 61 2 = some 68 := h.2 (61, 2, 68) (List.mem_of_getElem? (i := 7) rfl)
theorem sr_61_4 {al : List Nat} {R : Nat → Nat → Option Nat} (h : am_st1 al R) : R 61 4 = some 69 := h.2 (61, 4, 69) (List.mem_of_getElem? (i := 8) rfl)
theorem sr_61_5 {al : List Nat} {R : Nat → Nat → Option Nat} (h : am_st1 al R) : R 61 5 = some 70 := h.2 (61, 5, 70) (List.mem_of_getElem? (i := 9) rfl)
theorem sr_61_6 {al : List Nat} {R : Nat → Nat → Option Nat} (h : am_st1 al R) : R 61 6 = some 71 := h.2 (61, 6, 71) (List.mem_of_getElem? (i := 10) rfl)
theorem sr_61_14 {al : List Nat} {R : Nat → Nat → Option Nat} (h : am_st1 al R) : R 61 14 = some 72 := h.2 (61, 14, 72) (List.mem_of_getElem? (i := 11) rfl)
theorem sr_61_15 {al : List Nat} {R : Nat → Nat → Option Nat} (h : am_st1 al R) : R 61 15 = some 73 := h.2 (61, 15, 73) (List.mem_of_getElem? (i := 12) rfl)
theorem sr_61_16 {al : List Nat} {R : Nat → Nat → Option Nat} (h : am_st1 al R) : R 61 16 = some 74 := h.2 (61, 16, 74) (List.mem_of_getElem? (i := 13) rfl)
theorem sr_61_17 {al : List Nat} {R : Nat → Nat → Option Nat} (h : am_st1 al R) : R 61 17 = some 75 := h.2 (61, 17, 75) (List.mem_of_getElem? (i := 14) rfl)
theorem sr_61_18 {al : List Nat} {R : Nat → Nat → Option Nat} (h : am_st1 al R) : R 61 18 = some 76 := h.2 (61, 18, 76) (List.mem_of_getElem? (i := 15) rfl)
theorem sr_61_19 {al : List Nat} {R : Nat → Nat → Option Nat} (h : am_st1 al R) : R 61 19 = some 77 := h.2 (61, 19, 77) (List.mem_of_getElem? (i := 16) rfl)
theorem sr_62_0 {al : List Nat} {R : Nat → Nat → Option Nat} (h : am_st1 al R) : R 62 0 = some 78 := h.2 (62, 0, 78) (List.mem_of_getElem? (i := 17) rfl)
theorem sr_62_1 {al : List Nat} {R : Nat → Nat → Option Nat} (h : am_st1 al R) : R 62 1 = some 79 := h.2 (62, 1, 79) (List.mem_of_getElem? (i := 18) rfl)
theorem sr_62_2 {al : List Nat} {R : Nat → Nat → Option Nat} (h : am_st1 al R) : R 62 2 = some 80 := h.2 (62, 2, 80) (List.mem_of_getElem? (i := 19) rfl)
theorem sr_62_3 {al : List Nat} {R : Nat → Nat → Option Nat} (h : am_st1 al R) : R 62 3 = some 81 := h.2 (62, 3, 81) (List.mem_of_getElem? (i := 20) rfl)
theorem sr_62_4 {al : List Nat} {R : Nat → Nat → Option Nat} (h : am_st1 al R) : R 62 4 = some 82 := h.2 (62, 4, 82) (List.mem_of_getElem? (i := 21) rfl)
theorem sr_62_5 {al : List Nat} {R : Nat → Nat → Option Nat} (h : am_st1 al R) : R 62 5 = some 83 := h.2 (62, 5, 83) (List.mem_of_getElem? (i := 22) rfl)
theorem sr_62_6 {al : List Nat} {R : Nat → Nat → Option Nat} (h : am_st1 al R) : R 62 6 = some 84 := h.2 (62, 6, 84) (List.mem_of_getElem? (i := 23) rfl)
theorem sr_62_8 {al : List Nat} {R : Nat → Nat → Option Nat} (h : am_st1 al R) : R 62 8 = some 85 := h.2 (62, 8, 85) (List.mem_of_getElem? (i := 24) rfl)
theorem sr_62_9 {al : List Nat} {R : Nat → Nat → Option Nat} (h : am_st1 al R) : R 62 9 = some 86 := h.2 (62, 9, 86) (List.mem_of_getElem? (i := 25) rfl)
theorem sr_62_11 {al : List Nat} {R : Nat → Nat → Option Nat} (h : am_st1 al R) : R 62 11 = some 87 := h.2 (62, 11, 87) (List.mem_of_getElem? (i := 26) rfl)
theorem sr_62_12 {al : List Nat} {R : Nat → Nat → Option Nat} (h : am_st1 al R) : R 62 12 = some 88 := h.2 (62, 12, 88) (List.mem_of_getElem? (i := 27) rfl)
theorem sr_63_0 {al : List Nat} {R : Nat → Nat → Option Nat} (h : am_st1 al R) : R 63 0 = some 89 := h.2 (63, 0, 89) (List.mem_of_getElem? (i := 28) rfl)
theorem sr_63_1 {al : List Nat} {R : Nat → Nat → Option Nat} (h : am_st1 al R) : R 63 1 = some 90 := h.2 (63, 1, 90) (List.mem_of_getElem? (i := 29) rfl)
theorem sr_63_2 {al : List Nat} {R : Nat → Nat → Option Nat} (h : am_st1 al R) : R 63 2 = some 91 := h.2 (63, 2, 91) (List.mem_of_getElem? (i := 30) rfl)
theorem sr_63_3 {al : List Nat} {R : Nat → Nat → Option Nat} (h : am_st1 al R) : R 63 3 = some 92 := h.2 (63, 3, 92) (List.mem_of_getElem? (i := 31) rfl)
theorem sr_63_4 {al : List Nat} {R : Nat → Nat → Option Nat} (h : am_st1 al R) : R 63 4 = some 93 := h.2 (63, 4, 93) (List.mem_of_getElem? (i := 32) rfl)
theorem sr_63_8 {al : List Nat} {R : Nat → Nat → Option Nat} (h : am_st1 al R) : R 63 8 = some 94 := h.2 (63, 8, 94) (List.mem_of_getElem? (i := 33) rfl)
theorem sr_63_9 {al : List Nat} {R : Nat → Nat → Option Nat} (h : am_st1 al R) : R 63 9 = some 95 := h.2 (63, 9, 95) (List.mem_of_getElem? (i := 34) rfl)
theorem sr_63_10 {al : List Nat} {R : Nat → Nat → Option Nat} (h : am_st1 al R) : R 63 10 = some 96 := h.2 (63, 10, 96) (List.mem_of_getElem? (i := 35) rfl)
theorem sr_63_12 {al : List Nat} {R : Nat → Nat → Option Nat} (h : am_st1 al R) : R 63 12 = some 97 := h.2 (63, 12, 97) (List.mem_of_getElem? (i := 36) rfl)
theorem sr_64_0 {al : List Nat} {R : Nat → Nat → Option Nat} (h : am_st1 al R) : R 64 0 = some 98 := h.2 (64, 0, 98) (List.mem_of_getElem? (i := 37) rfl)
theorem sr_64_1 {al : List Nat} {R : Nat → Nat → Option Nat} (h : am_st1 al R) : R 64 1 = some 99 := h.2 (64, 1, 99) (List.mem_of_getElem? (i := 38) rfl)
theorem sr_65_0 {al : List Nat} {R : Nat → Nat → Option Nat} (h : am_st1 al R) : R 65 0 = some 100 := h.2 (65, 0, 100) (List.mem_of_getElem? (i := 39) rfl)
theorem sr_65_1 {al : List Nat} {R : Nat → Nat → Option Nat} (h : am_st1 al R) : R 65 1 = some 101 := h.2 (65, 1, 101) (List.mem_of_getElem? (i := 40) rfl)
theorem sr_65_2 {al : List Nat} {R : Nat → Nat → Option Nat} (h : am_st1 al R) : R 65 2 = some 102 := h.2 (65, 2, 102) (List.mem_of_getElem? (i := 41) rfl)
theorem sr_65_4 {al : List Nat} {R : Nat → Nat → Option Nat} (h : am_st1 al R) : R 65 4 = some 103 := h.2 (65, 4, 103) (List.mem_of_getElem? (i := 42) rfl)
def am_ba2 : List Nat := [110, 111, 112, 113, 114, 115, 116, 117, 118, 119, 120, 121, 122, 123, 124, 125, 126, 127, 128, 129, 130, 131, 132, 133, 134, 135, 136, 137, 138, 139, 140, 141, 142, 143, 144, 145, 146, 147, 148, 149, 150, 151, 152, 153]
def am_sr2 : List (Nat × Nat × Nat) := [(110, 0, 111), (110, 1, 112), (110, 2, 113), (110, 3, 114), (110, 4, 115), (111, 0, 116), (111, 1, 117), (111, 2, 118), (111, 4, 119), (111, 5, 120), (111, 6, 121), (111, 14, 122), (111, 15, 123), (111, 16, 124), (111, 17, 125), (111, 18, 126), (111, 19, 127), (112, 0, 128), (112, 1, 129), (112, 2, 130), (112, 3, 131), (112, 4, 132), (112, 5, 133), (112, 6, 134), (112, 8, 135), (112, 9, 136), (112, 11, 137), (112, 12, 138), (113, 0, 139), (113, 1, 140), (113, 2, 141), (113, 3, 142), (113, 4, 143), (113, 8, 144), (113, 9, 145), (113, 10, 146), (113, 12, 147), (114, 0, 148), (114, 1, 149), (115, 0, 150), (115, 1, 151), (115, 2, 152), (115, 4, 153)]
def am_st2 (al : List Nat) (R : Nat → Nat → Option Nat) : Prop := (∀ k ∈ am_ba2, k ∈ al) ∧ ∀ q ∈ am_sr2, R q.1 q.2.1 = some q.2.2
theorem ba_110 {al : List Nat} {R : Nat → Nat → Option Nat} (h : am_st2 al R) : 110 ∈ al := h.1 110 (List.mem_of_getElem? (i := 0) rfl)
theorem ba_111 {al : List Nat} {R : Nat → Nat → Option Nat} (h : am_st2 al R) : 111 ∈ al := h.1 111 (List.mem_of_getElem? (i := 1) rfl)
theorem ba_112 {al : List Nat} {R : Nat → Nat → Option Nat} (h : am_st2 al R) : 112 ∈ al := h.1 112 (List.mem_of_getElem? (i := 2) rfl)
theorem ba_113 {al : List Nat} {R : Nat → Nat → Option Nat} (h : am_st2 al R) : 113 ∈ al := h.1 113 (List.mem_of_getElem? (i := 3) rfl)
theorem ba_114 {al : List Nat} {R : Nat → Nat → Option Nat} (h : am_st2 al R) : 114 ∈ al := h.1 114 (List.mem_of_getElem? (i := 4) rfl)
theorem ba_115 {al : List Nat} {R : Nat → Nat → Option Nat} (h : am_st2 al R) : 115 ∈ al := h.1 115 (List.mem_of_getElem? (i := 5) rfl)
theorem ba_116 {al : List Nat} {R : Nat → Nat → Option Nat} (h : am_st2 al R) : 116 ∈ al := h.1 116 (List.mem_of_getElem? (i := 6) rfl)
theorem ba_117 {al : List Nat} {R : Nat → Nat → Option Nat} (h : am_st2 al R) : 117 ∈ al := h.1 117 (List.mem_of_getElem? (i := 7) rfl)
theorem ba_118 {al : List Nat} {R : Nat → Nat → Option Nat} (h : am_st2 al R) : 118 ∈ al := h.1 118 (List.mem_of_getElem? (i := 8) rfl)
theorem ba_119 {al : List Nat} {R : Nat → Nat → Option Nat} (h : am_st2 al R) : 119 ∈ al := h.1 119 (List.mem_of_getElem? (i := 9) rfl)
theorem ba_120 {al : List Nat} {R : Nat → Nat → Option Nat} (h : am_st2 al R) : 120 ∈ al := h.1 120 (List.mem_of_getElem? (i := 10) rfl)
theorem ba_121 {al : List Nat} {R : Nat → Nat → Option Nat} (h : am_st2 al R) : 121 ∈ al := h.1 121 (List.mem_of_getElem? (i := 11) rfl)
theorem ba_122 {al : List Nat} {R : Nat → Nat → Option Nat} (h : am_st2 al R) : 122 ∈ al := h.1 122 (List.mem_of_getElem? (i := 12) rfl)
theorem ba_123 {al : List Nat} {R : Nat → Nat → Option Nat} (h : am_st2 al R) : 123 ∈ al := h.1 123 (List.mem_of_getElem? (i := 13) rfl)
theorem ba_124 {al : List Nat} {R : Nat → Nat → Option Nat} (h : am_st2 al R) : 124 ∈ al := h.1 124 (List.mem_of_getElem? (i := 14) rfl)
theorem ba_125 {al : List Nat} {R : Nat → Nat → Option Nat} (h : am_st2 al R) : 125 ∈ al := h.1 125 (List.mem_of_getElem? (i := 15) rfl)
theorem ba_126 {al : List Nat} {R : Nat → Nat → Option Nat} (h : am_st2 al R) : 126 ∈ al := h.1 126 (List.mem_of_getElem? (i := 16) rfl)
theorem ba_127 {al : List Nat} {R : Nat → Nat → Option Nat} (h : am_st2 al R) : 127 ∈ al := h.1 127 (List.mem_of_getElem? (i := 17) rfl)
theorem ba_128 {al : List Nat} {R : Nat → Nat → Option Nat} (h : am_st2 al R) : 128 ∈ al := h.1 128 (List.mem_of_getElem? (i := 18) rfl)
theorem ba_129 {al : List Nat} {R : Nat → Nat → Option Nat} (h : am_st2 al R) : 129 ∈ al := h.1 129 (List.mem_of_getElem? (i := 19) rfl)
theorem ba_130 {al : List Nat} {R : Nat → Nat → Option Nat} (h : am_st2 al R) : 130 ∈ al := h.1 130 (List.mem_of_getElem? (i := 20) rfl)
theorem ba_131 {al : List Nat} {R : Nat → Nat → Option Nat} (h : am_st2 al R) : 131 ∈ al := h.1 131 (List.mem_of_getElem? (i := 21) rfl)
theorem ba_132 {al : List Nat} {R : Nat → Nat → Option Nat} (h : am_st2 al R) : 132 ∈ al := h.1 132 (List.mem_of_getElem? (i := 22) rfl)
theorem ba_133 {al : List Nat} {R : Nat → Nat → Option Nat} (h : am_st2 al R) : 133 ∈ al := h.1 133 (List.mem_of_getElem? (i := 23) rfl)
theorem ba_134 {al : List Nat} {R : Nat → Nat → Option Nat} (h : am_st2 al R) : 134 ∈ al := h.1 134 (List.mem_of_getElem? (i := 24) rfl)
theorem ba_135 {al : List Nat} {R : Nat → Nat → Option Nat} (h : am_st2 al R) : 135 ∈ al := h.1 135 (List.mem_of_getElem? (i := 25) rfl)
theorem ba_136 {al : List Nat} {R : Nat → Nat → Option Nat} (h : am_st2 al R) : 136 ∈ al := h.1 136 (List.mem_of_getElem? (i := 26) rfl)
theorem ba_137 {al : List Nat} {R : Nat → Nat → Option Nat} (h : am_st2 al R) : 137 ∈ al := h.1 137 (List.mem_of_getElem? (i := 27) rfl)
theorem ba_138 {al : List Nat} {R : Nat → Nat → Option Nat} (h : am_st2 al R) : 138 ∈ al := h.1 138 (List.mem_of_getElem? (i := 28) rfl)
theorem ba_139 {al : List Nat} {R : Nat → Nat → Option Nat} (h : am_st2 al R) : 139 ∈ al := h.1 139 (List.mem_of_getElem? (i := 29) rfl)
theorem ba_140 {al : List Nat} {R : Nat → Nat → Option Nat} (h : am_st2 al R) : 140 ∈ al := h.1 140 (List.mem_of_getElem? (i := 30) rfl)
theorem ba_141 {al : List Nat} {R : Nat → Nat → Option Nat} (h : am_st2 al R) : 141 ∈ al := h.1 141 (List.mem_of_getElem? (i := 31) rfl)
theorem ba_142 {al : List Nat} {R : Nat → Nat → Option Nat} (h : am_st2 al R) : 142 ∈ al := h.1 142 (List.mem_of_getElem? (i := 32) rfl)
theorem ba_143 {al : List Nat} {R : Nat → Nat → Option Nat} (h : am_st2 al R) : 143 ∈ al := h.1 143 (List.mem_of_getElem? (i := 33) rfl)
theorem ba_144 {al : List Nat} {R : Nat → Nat → Option Nat} (h : am_st2 al R) : 144 ∈ al := h.1 144 (List.mem_of_getElem? (i := 34) rfl)
theorem ba_145 {al : List Nat} {R : Nat → Nat → Option Nat} (h : am_st2 al R) : 145 ∈ al := h.1 145 (List.mem_of_getElem? (i := 35) rfl)
theorem ba_146 {al : List Nat} {R : Nat → Nat → Option Nat} (h : am_st2 al R) : 146 ∈ al := h.1 146 (List.mem_of_getElem? (i := 36) rfl)
theorem ba_147 {al : List Nat} {R : Nat → Nat → Option Nat} (h : am_st2 al R) : 147 ∈ al := h.1 147 (List.mem_of_getElem? (i := 37) rfl)
theorem ba_148 {al : List Nat} {R : Nat → Nat → Option Nat} (h : am_st2 al R) : 148 ∈ al := h.1 148 (List.mem_of_getElem? (i := 38) rfl)
theorem ba_149 {al : List Nat} {R : Nat → Nat → Option Nat} (h : am_st2 al R) : 149 ∈ al := h.1 149 (List.mem_of_getElem? (i := 39) rfl)
theorem ba_150 {al : List Nat} {R : Nat → Nat → Option Nat} (h : am_st2 al R) : 150 ∈ al := h.1 150 (List.mem_of_getElem? (i := 40) rfl)
theorem ba_151 {al : List Nat} {R : Nat → Nat → Option Nat} (h : am_st2 al R) : 151 ∈ al := h.1 151 (List.mem_of_getElem? (i := 41) rfl)
theorem ba_152 {al : List Nat} {R : Nat → Nat → Option Nat} (h : am_st2 al R) : 152 ∈ al := h.1 152 (List.mem_of_getElem? (i := 42) rfl)
theorem ba_153 {al : List Nat} {R : Nat → Nat → Option Nat} (h : am_st2 al R) : 153 ∈ al := h.1 153 (List.mem_of_getElem? (i := 43) rfl)
theorem sr_110_0 {al : List Nat} {R : Nat → Nat → Option Nat} (h : am_st2 al R) : R 110 0 = some 111 := h.2 (110, 0, 111) (List.mem_of_getElem? (i := 0) rfl)
theorem sr_110_1 {al : List Nat} {R : Nat → Nat → Option Nat} (h : am_st2 al R) : R 110 1 = some 112 := h.2 (110, 1, 112) (List.mem_of_getElem? (i := 1) rfl)
theorem sr_110_2 {al : List Nat} {R : Nat → Nat → Option Nat} (h : am_st2 al R) : R 110 2 = some 113 := h.2 (110, 2, 113) (List.mem_of_getElem? (i := 2) rfl)
theorem sr_110_3 {al : List Nat} {R : Nat → Nat → Option Nat} (h : am_st2 al R) : R 110 3 = some 114 := h.2 (110, 3, 114) (List.mem_of_getElem? (i := 3) rfl)
theorem sr_110_4 {al : List Nat} {R : Nat → Nat → Option Nat} (h : am_st2 al R) : R 110 4 = some 115 := h.2 (110, 4, 115) (List.mem_of_getElem? (i := 4) rfl)
theorem sr_111_0 {al : List Nat} {R : Nat → Nat → Option Nat} (h : am_st2 al R) : R 111 0 = some 116 := h.2 (111, 0, 116) (List.mem_of_getElem? (i := 5) rfl)
theorem sr_111_1 {al : List Nat} {R : Nat → Nat → Option Nat} (h : am_st2 al R) : R 111 1 = some 117 := h.2 (111, 1, 117) (List.mem_of_getElem? (i := 6) rfl)
theorem sr_111_2 {al : List Nat} {R : Nat → Nat → Option Nat} (h : am_st2 al R) : R 111 2 = some 118 := h.2 (111, 2, 118) (List.mem_of_getElem? (i := 7) rfl)
theorem sr_111_4 {al : List Nat} {R : Nat → Nat → Option Nat} (h : am_st2 al R) : R 111 4 = some 119 := h.2 (111, 4, 119) (List.mem_of_getElem? (i := 8) rfl)
theorem sr_111_5 {al : List Nat} {R : Nat → Nat → Option Nat} (h : am_st2 al R) : R 111 5 = some 120 := h.2 (111, 5, 120) (List.mem_of_getElem? (i := 9) rfl)
theorem sr_111_6 {al : List Nat} {R : Nat → Nat → Option Nat} (h : am_st2 al R) : R 111 6 = some 121 := h.2 (111, 6, 121) (List.mem_of_getElem? (i := 10) rfl)
theorem sr_111_14 {al : List Nat} {R : Nat → Nat → Option Nat} (h : am_st2 al R) : R 111 14 = some 122 := h.2 (111, 14, 122) (List.mem_of_getElem? (i := 11) rfl)
theorem sr_111_15 {al : List Nat} {R : Nat → Nat → Option Nat} (h : am_st2 al R) : R 111 15 = some 123 := h.2 (111, 15, 123) (List.mem_of_getElem? (i := 12) rfl)
theorem sr_111_16 {al : List Nat} {R : Nat → Nat → Option Nat} (h : am_st2 al R) : R 111 16 = some 124 := h.2 (111, 16, 124) (List.mem_of_getElem? (i := 13) rfl)
theorem sr_111_17 {al : List Nat} {R : Nat → Nat → Option Nat} (h : am_st2 al R) : R 111 17 = some 125 := h.2 (111, 17, 125) (List.mem_of_getElem? (i := 14) rfl)
theorem sr_111_18 {al : List Nat} {R : Nat → Nat → Option Nat} (h : am_st2 al R) : R 111 18 = some 126 := h.2 (111, 18, 126) (List.mem_of_getElem? (i := 15) rfl)
theorem sr_111_19 {al : List Nat} {R : Nat → Nat → Option Nat} (h : am_st2 al R) : R 111 19 = some 127 := h.2 (111, 19, 127) (List.mem_of_getElem? (i := 16) rfl)
theorem sr_112_0 {al : List Nat} {R : Nat → Nat → Option Nat} (h : am_st2 al R) : R 112 0 = some 128 := h.2 (112, 0, 128) (List.mem_of_getElem? (i := 17) rfl)
theorem sr_112_1 {al : List Nat} {R : Nat → Nat → Option Nat} (h : am_st2 al R) : R 112 1 = some 129 := h.2 (112, 1, 129) (List.mem_of_getElem? (i := 18) rfl)
theorem sr_112_2 {al : List Nat} {R : Nat → Nat → Option Nat} (h : am_st2 al R) : R 112 2 = some 130 := h.2 (112, 2, 130) (List.mem_of_getElem? (i := 19) rfl)
theorem sr_112_3 {al : List Nat} {R : Nat → Nat → Option Nat} (h : am_st2 al R) : R 112 3 = some 131 := h.2 (112, 3, 131) (List.mem_of_getElem? (i := 20) rfl)
theorem sr_112_4 {al : List Nat} {R : Nat → Nat → Option Nat} (h : am_st2 al R) : R 112 4 = some 132 := h.2 (112, 4, 132) (List.mem_of_getElem? (i := 21) rfl)
theorem sr_112_5 {al : List Nat} {R : Nat → Nat → Option Nat} (h : am_st2 al R) : R 112 5 = some 133 := h.2 (112, 5, 133) (List.mem_of_getElem? (i := 22) rfl)
theorem sr_112_6 {al : List Nat} {R : Nat → Nat → Option Nat} (h : am_st2 al R) : R 112 6 = some 134 := h.2 (112, 6, 134) (List.mem_of_getElem? (i := 23) rfl)
theorem sr_112_8 {al : List Nat} {R : Nat → Nat → Option Nat} (h : am_st2 al R) : R 112 8 = some 135 := h.2 (112, 8, 135) (List.mem_of_getElem? (i := 24) rfl)
theorem sr_112_9 {al : List Nat} {R : Nat → Nat → Option Nat} (h : am_st2 al R) : R 112 9 = some 136 := h.2 (112, 9, 136) (List.mem_of_getElem? (i := 25) rfl)
theorem sr_112_11 {al : List Nat} {R : Nat → Nat → Option Nat} (h : am_st2 al R) : R 112 11 = some 137 := h.2 (112, 11, 137) (List.mem_of_getElem? (i := 26) rfl)
theorem sr_112_12 {al : List Nat} {R : Nat → Nat → Option Nat} (h : am_st2 al R) : R 112 12 = some 138 := h.2 (112, 12, 138) (List.mem_of_getElem? (i := 27) rfl)
theorem sr_113_0 {al : List Nat} {R : Nat → Nat → Option Nat} (h : am_st2 al R) : R 113 0 = some 139 := h.2 (113, 0, 139) (List.mem_of_getElem? (i := 28) rfl)
theorem sr_113_1 {al : List Nat} {R : Nat → Nat → Option Nat} (h : am_st2 al R) : R 113 1 = some 140 := h.2 (113, 1, 140) (List.mem_of_getElem? (i := 29) rfl)
theorem sr_113_2 {al : List Nat} {R : Nat → Nat → Option Nat} (h : am_st2 al R) : R 113 2 = some 141 := h.2 (113, 2, 141) (List.mem_of_getElem? (i := 30) rfl)
theorem sr_113_3 {al : List Nat} {R : Nat → Nat → Option Nat} (h : am_st2 al R) : R 113 3 = some 142 := h.2 (113, 3, 142) (List.mem_of_getElem? (i := 31) rfl)
theorem sr_113_4 {al : List Nat} {R : Nat → Nat → Option Nat} (h : am_st2 al R) : R 113 4 = some 143 := h.2 (113, 4, 143) (List.mem_of_getElem? (i := 32) rfl)
theorem sr_113_8 {al : List Nat} {R : Nat → Nat → Option Nat} (h : am_st2 al R) : R 113 8 = some 144 := h.2 (113, 8, 144) (List.mem_of_getElem? (i := 33) rfl)
theorem sr_113_9 {al : List Nat} {R : Nat → Nat → Option Nat} (h : am_st2 al R) : R 113 9 = some 145 := h.2 (113, 9, 145) (List.mem_of_getElem? (i := 34) rfl)
theorem sr_113_10 {al : List Nat} {R : Nat → Nat → Option Nat} (h : am_st2 al R) : R 113 10 = some 146 := h.2 (113, 10, 146) (List.mem_of_getElem? (i := 35) rfl)
theorem sr_113_12 {al : List Nat} {R : Nat → Nat → Option Nat} (h : am_st2 al R) : R 113 12 = some 147 := h.2 (113, 12, 147) (List.mem_of_getElem? (i := 36) rfl)
theorem sr_114_0 {al : List Nat} {R : Nat → Nat → Option Nat} (h : am_st2 al R) : R 114 0 = some 148 := h.2 (114, 0, 148) (List.mem_of_getElem? (i := 37) rfl)
theorem sr_114_1 {al : List Nat} {R : Nat → Nat → Option Nat} (h : am_st2 al R) : R 114 1 = some 149 := h.2 (114, 1, 149) (List.mem_of_getElem? (i := 38) rfl)
theorem sr_115_0 {al : List Nat} {R : Nat → Nat → Option Nat} (h : am_st2 al R) : R 115 0 = some 150 := h.2 (115, 0, 150) (List.mem_of_getElem? (i := 39) rfl)
theorem sr_115_1 {al : List Nat} {R : Nat → Nat → Option Nat} (h : am_st2 al R) : R 115 1 = some 151 := h.2 (115, 1, 151) (List.mem_of_getElem? (i := 40) rfl)
theorem sr_115_2 {al : List Nat} {R : Nat → Nat → Option Nat} (h : am_st2 al R) : R 115 2 = some 152 := h.2 (115, 2, 152) (List.mem_of_getElem? (i := 41) rfl)
theorem sr_115_4 {al : List Nat} {R : Nat → Nat → Option Nat} (h : am_st2 al R) : R 115 4 = some 153 := h.2 (115, 4, 153) (List.mem_of_getElem? (i := 42) rfl)
end
section
/-! THE MACHINE IN PLACES: a world of numbered places (their kinds and lengths stand in am_lay), contents in three functions: whole numbers, long ones, references (places again) -/
abbrev am_H : Type := (Nat → Nat → Int32) × (Nat → Nat → Int64) × (Nat → Nat → Option Nat)
abbrev am_M : Type := MethodName × ByteArray × Nat × Option FieldType
abbrev am_G : Type := List Nat × Nat × Nat
abbrev am_X : Type := Nat × Nat × Nat × (Nat → Prop)
abbrev am_P : Type := Option Value → am_H → List Nat → Prop
def am_cv (ad : Nat → Nat) (v : Value) : Value := match v with
  | .ref k => .ref (ad k)
  | v => v
def am_cl (ad : Nat → Nat) (l : List (Nat × Value)) : List (Nat × Value) := l.map fun q => (q.1, am_cv ad q.2)
def am_fv (ad : Nat → Nat) (h : am_H) (k : Nat) (ty : FieldType) (j : Nat) : Value := match ty with
  | .long => .long (h.2.1 k j)
  | .object _ => va_rf ((h.2.2 k j).map ad)
  | .array _ => va_rf ((h.2.2 k j).map ad)
  | _ => .int (h.1 k j)
def am_ar (ad : Nat → Nat) (h : am_H) (k : Nat) (ty : FieldType) (n : Nat) : vp_A := match ty with
  | .long => (n, .inr (.inl (h.2.1 k)))
  | .object _ => (n, .inr (.inr (.inr (.inr fun j => (h.2.2 k j).map ad))))
  | _ => (n, .inl (h.1 k))
def am_ce (ca : FieldType → ClassId) (ad : Nat → Nat) (h : am_H) (k : Nat) : va_E := match am_lay k with
  | .inl (ty, n) => .inl (ca ty, am_ar ad h k ty n)
  | .inr ci => .inr (ci, (List.range (am_N ci)).map fun j => am_fv ad h k (am_ty ci j) j)
def am_wl (ca : FieldType → ClassId) (ad : Nat → Nat) (al : List Nat) (h : am_H) : va_W := al.map fun k => (ad k, am_ce ca ad h k)
def am_TY (ca : FieldType → ClassId) : List (ClassId × FieldType) := [(ca .int, .int), (ca .long, .long), (ca .boolean, .boolean), (ca (.object RX10), .object RX10)]
def am_tb : List Cond := lw_tbl.filter goodWord
def am_ws (M : am_M) : List Cond := Cond.code M.1 M.2.1 M.2.2.1 M.2.2.2 :: am_tb
def am_ag (Z : Nat → Prop) (ad ad0 : Nat → Nat) : Prop := ∀ k, (k = 900 ∨ Z k) → ad k = ad0 k
def am_nest : List (String × Nat × MethodName × String) := [("SteadyFund", 9, ⟨"SteadyFund$World", "<init>", "()V"⟩, "SteadyFund"), ("SteadyFund$World", 9, ⟨"SteadyFund$Ledger", "<init>", "()V"⟩, "SteadyFund"), ("SteadyFund$World", 18, ⟨"SteadyFund$Paper", "<init>", "()V"⟩, "SteadyFund"), ("SteadyFund$World", 32, ⟨"SteadyFund$Houses", "<init>", "()V"⟩, "SteadyFund"), ("SteadyFund$World", 39, ⟨"SteadyFund$Letters", "<init>", "()V"⟩, "SteadyFund"), ("SteadyFund", 22, ⟨"SteadyFund$SealedRecord", "<init>", "()V"⟩, "SteadyFund"), ("SteadyFund", 29, ⟨"SteadyFund$Fraction", "<init>", "()V"⟩, "SteadyFund"), ("SteadyFund", 36, ⟨"SteadyFund$Tide", "<init>", "()V"⟩, "SteadyFund"), ("SteadyFund$Ledger", 59, ⟨"SteadyFund", "within", "(III)Z"⟩, "SteadyFund"), ("SteadyFund$Fraction", 20, ⟨"SteadyFund", "cut", "(JJ)J"⟩, "SteadyFund"), ("SteadyFund$Claims", 81, ⟨"SteadyFund", "cut", "(JJ)J"⟩, "SteadyFund"), ("SteadyFund$Tide", 43, ⟨"SteadyFund", "cut", "(JJ)J"⟩, "SteadyFund"), ("SteadyFund$Clearing", 87, ⟨"SteadyFund", "cut", "(JJ)J"⟩, "SteadyFund"), ("SteadyFund$RuleReader", 91, ⟨"SteadyFund", "cut", "(JJ)J"⟩, "SteadyFund")]
/-- what stands outside of the world: the letters' names (place 900), a switch of the texts', rows of worlds -/
def am_F (ad : Nat → Nat) (A : Nat → Prop) (U : State) (H : Heap) : Prop := va_AO "SteadyFund$World" U ∧ vk_R "SteadyFund$RuleReader" 105 "csioqrm" (ad 900) U ∧ (∃ adV : Nat → Nat, vk_S 1 [7] [[99, 115, 105, 111, 113, 114, 109]] (fun _ => ad 900) adV A U H) ∧ va_Z "java/lang/String" "COMPACT_STRINGS" "Z" (.int 1) A U H ∧ ∀ q ∈ am_nest, va_Nw (.methodLinkNest q.1 q.2.1 q.2.2.1 q.2.2.2) U
def am_rm (d mc ms : Nat) : Room := { frames := d, cells := mc, slots := ms, locals := 40 * d }
def am_Qc (D : va_G) (ca : FieldType → ClassId) (ad0 : Nat → Nat) (Z : Nat → Prop) (A : Nat → Prop) (Q : am_P) : Array Value → State → Outcome → State → Prop := fun _ st o t =>
  (∃ (r : Option Value) (h : am_H) (al : List Nat) (ad : Nat → Nat), o = .returned (r.map (am_cv ad)) ∧ Q r h al ∧ al.Nodup ∧ am_ag Z ad ad0 ∧ va_P D vwCl (am_wl ca ad al h) t.heap ∧ va_D A (am_wl ca ad al h)) ∧ va_F A st t
def am_CX (M : am_M) (p : Program) (s : State) (m : MethodId) (args : Array Value) (meth : Method) (c : Code) (D : va_G) (ca : FieldType → ClassId) (ad0 : Nat → Nat) (A : Nat → Prop) : Prop :=
  CallFix p m c M.2.1 M.2.2.1 s args (am_ws M) M.1.cls ∧ meth.sig.returnType = M.2.2.2 ∧ meth.locks = false ∧ va_K D vwCl (am_TY ca) s ∧ (∀ q, s.heap.size ≤ q → A q) ∧ meth.name = M.1.name ∧ am_F ad0 A s s.heap
def am_DY (M : am_M) (s : State) (D : va_G) (ca : FieldType → ClassId) (ad0 : Nat → Nat) (Z : Nat → Prop) (A : Nat → Prop) (al : List Nat) (h : am_H) (ad : Nat → Nat) (H : Heap) (locs : List Loc) : Prop :=
  al.Nodup ∧ am_ag Z ad ad0 ∧ va_P D vwCl (am_wl ca ad al h) H ∧ va_D A (am_wl ca ad al h) ∧ va_S A s.heap H locs
/-- from this place of the code, with these locals and this stack, in this world, the method comes to its end, with Q -/
def am_OK (M : am_M) (X : am_X) (Q : am_P) (g : am_G) (h : am_H) (pc : Nat) (l : List (Nat × Value)) (st : List Value) : Prop :=
  ∀ (p : Program) (lc : Launch) (e : Env) (s : State) (m : MethodId) (args : Array Value) (below : List Frame) (meth : Method) (c : Code) (D : va_G) (ca : FieldType → ClassId) (ad0 : Nat → Nat) (A : Nat → Prop), am_CX M p s m args meth c D ca ad0 A →
    ∀ (ad : Nat → Nat) (H : Heap) (locs : List Loc) (ls : Array Slot), am_DY M s D ca ad0 X.2.2.2 A g.1 h ad H locs → lv_has ls M.2.2.1 (am_cl ad l) →
      W p lc e (am_rm X.1 X.2.1 X.2.2.1) s m args below meth c H locs g.2.1 g.2.2 (MQ below (am_Qc D ca ad0 X.2.2.2 A Q) args s X.2.1 X.2.2.1 A) (F0 m pc ls (st.map (am_cv ad)))
/-- a method's contract: from this world with these arguments it ends, with Q -/
def am_C (M : am_M) (d mc ms : Nat) (Z : Nat → Prop) (al : List Nat) (as : List Value) (h : am_H) (Q : am_P) : Prop :=
  ∀ (lc : Launch) (D : va_G) (ca : FieldType → ClassId) (ad : Nat → Nat) (sz : Nat), al.Nodup → Met lc M.1 (am_ws M) (am_rm d mc ms) (va_Pc (as.map (am_cv ad)) (fun U => U.heap.size = sz ∧ va_P D vwCl (am_wl ca ad al h) U.heap ∧ va_K D vwCl (am_TY ca) U ∧ va_D (fun _ => True) (am_wl ca ad al h) ∧ am_F ad (va_A (am_wl ca ad al h) sz) U U.heap)) (am_Qc D ca ad Z (va_A (am_wl ca ad al h) sz) Q) mc ms (va_A (am_wl ca ad al h) sz)
theorem am_cl_at {ad : Nat → Nat} {l : List (Nat × Value)} {k i : Nat} {v : Value} (h : l[k]? = some (i, v)) : (am_cl ad l)[k]? = some (i, am_cv ad v) := by
  simp [am_cl, h]
theorem am_cv_cat (ad : Nat → Nat) (v : Value) : (am_cv ad v).category = v.category := by cases v <;> rfl
theorem am_cl_put (ad : Nat → Nat) (i : Nat) (v : Value) (f : Nat → Nat → Bool) (l : List (Nat × Value)) : am_cl ad ((i, v) :: l.filter (fun q => f q.1 q.2.category)) = (i, am_cv ad v) :: (am_cl ad l).filter (fun q => f q.1 q.2.category) := by
  simp only [am_cl, List.map_cons, List.filter_map, List.cons.injEq, true_and]
  congr 1
  apply List.filter_congr
  intro q _
  simp only [Function.comp_apply, am_cv_cat]
/-- locals behind a store of one word, of two -/
def am_p1 (i : Nat) (v : Value) (l : List (Nat × Value)) : List (Nat × Value) := (i, v) :: l.filter (fun q => !(q.1 == i) && !(q.1 + 1 == i && q.2.category == 2))
def am_p2 (i : Nat) (v : Value) (l : List (Nat × Value)) : List (Nat × Value) := (i, v) :: l.filter (fun q => !(q.1 == i) && (!(q.1 == i + 1) && !(q.1 + 1 == i && q.2.category == 2)))
theorem am_cl_p1 (ad : Nat → Nat) (i : Nat) (v : Value) (l : List (Nat × Value)) : (i, am_cv ad v) :: (am_cl ad l).filter (fun q => !(q.1 == i) && !(q.1 + 1 == i && q.2.category == 2)) = am_cl ad (am_p1 i v l) := (am_cl_put ad i v (fun a b => !(a == i) && !(a + 1 == i && b == 2)) l).symm
theorem am_cl_p2 (ad : Nat → Nat) (i : Nat) (v : Value) (l : List (Nat × Value)) : (i, am_cv ad v) :: (am_cl ad l).filter (fun q => !(q.1 == i) && (!(q.1 == i + 1) && !(q.1 + 1 == i && q.2.category == 2))) = am_cl ad (am_p2 i v l) := (am_cl_put ad i v (fun a b => !(a == i) && (!(a == i + 1) && !(a + 1 == i && b == 2))) l).symm
section AM1
variable {M : am_M} {X : am_X} {Q : am_P} {g : am_G} {h : am_H} {pc : Nat} {l : List (Nat × Value)} {st : List Value}
theorem am_iconst {n : Int} {v : Int32} (hv : Int32.ofInt n = v) (hd : decode M.2.1 pc = .ok (.iconst n, 1)) (k : am_OK M X Q g h (pc + 1) l (.int v :: st)) : am_OK M X Q g h pc l st :=
  fun p lc e s m args below meth c D ca ad0 A cx ad H locs ls dy hl => lv_iconst cx.1.1 cx.1.2.1 hd hv (k p lc e s m args below meth c D ca ad0 A cx ad H locs ls dy hl)
theorem am_bipush {n : Int} {v : Int32} (hv : (Int8.ofInt n).toInt32 = v) (hd : decode M.2.1 pc = .ok (.bipush n, 2)) (k : am_OK M X Q g h (pc + 2) l (.int v :: st)) : am_OK M X Q g h pc l st :=
  fun p lc e s m args below meth c D ca ad0 A cx ad H locs ls dy hl => lv_bipush cx.1.1 cx.1.2.1 hd hv (k p lc e s m args below meth c D ca ad0 A cx ad H locs ls dy hl)
theorem am_sipush {n : Int} {v : Int32} (hv : (Int16.ofInt n).toInt32 = v) (hd : decode M.2.1 pc = .ok (.sipush n, 3)) (k : am_OK M X Q g h (pc + 3) l (.int v :: st)) : am_OK M X Q g h pc l st :=
  fun p lc e s m args below meth c D ca ad0 A cx ad H locs ls dy hl => lv_sipush cx.1.1 cx.1.2.1 hd hv (k p lc e s m args below meth c D ca ad0 A cx ad H locs ls dy hl)
theorem am_lconst {n : Fin 2} {v : Int64} (hv : Int64.ofNat (n : Nat) = v) (hd : decode M.2.1 pc = .ok (.lconst n, 1)) (k : am_OK M X Q g h (pc + 1) l (.long v :: st)) : am_OK M X Q g h pc l st :=
  fun p lc e s m args below meth c D ca ad0 A cx ad H locs ls dy hl => lv_lconst cx.1.1 cx.1.2.1 hd hv (k p lc e s m args below meth c D ca ad0 A cx ad H locs ls dy hl)
theorem am_tbl {w : Cond} (hw : w ∈ lw_tbl) (hg : goodWord w = true := by rfl) : w ∈ am_ws M := List.mem_cons_of_mem _ (List.mem_filter.mpr ⟨hw, hg⟩)
theorem am_ldc {index : Nat} {v : Int32} (hw : Cond.constant M.1.cls index v ∈ lw_tbl) (hd : decode M.2.1 pc = .ok (.ldc index, 2)) (k : am_OK M X Q g h (pc + 2) l (.int v :: st)) : am_OK M X Q g h pc l st :=
  fun p lc e s m args below meth c D ca ad0 A cx ad H locs ls dy hl => lv_ldc cx.1.1 cx.1.2.1 cx.1.2.2.2.1 (cx.1.2.2.2.2 _ (am_tbl hw)) hd (k p lc e s m args below meth c D ca ad0 A cx ad H locs ls dy hl)
theorem am_ldc2 {index : Nat} {v : Int64} (hw : Cond.constantLong M.1.cls index v ∈ lw_tbl) (hd : decode M.2.1 pc = .ok (.ldc2_w index, 3)) (k : am_OK M X Q g h (pc + 3) l (.long v :: st)) : am_OK M X Q g h pc l st :=
  fun p lc e s m args below meth c D ca ad0 A cx ad H locs ls dy hl => lv_ldc2 cx.1.1 cx.1.2.1 cx.1.2.2.2.1 (cx.1.2.2.2.2 _ (am_tbl hw)) hd (k p lc e s m args below meth c D ca ad0 A cx ad H locs ls dy hl)
theorem am_iload_n (j : Nat) {n : Fin 4} {i : Nat} {x : Int32} (hi : (n : Nat) = i) (hk : l[j]? = some (i, .int x)) (hd : decode M.2.1 pc = .ok (.iload_n n, 1)) (k : am_OK M X Q g h (pc + 1) l (.int x :: st)) : am_OK M X Q g h pc l st :=
  fun p lc e s m args below meth c D ca ad0 A cx ad H locs ls dy hl => lv_iload_n cx.1.1 cx.1.2.1 hd hi (lv_at hl j (am_cl_at hk)) (k p lc e s m args below meth c D ca ad0 A cx ad H locs ls dy hl)
theorem am_iload (j : Nat) {i : Nat} {x : Int32} (hk : l[j]? = some (i, .int x)) (hd : decode M.2.1 pc = .ok (.iload i, 2)) (k : am_OK M X Q g h (pc + 2) l (.int x :: st)) : am_OK M X Q g h pc l st :=
  fun p lc e s m args below meth c D ca ad0 A cx ad H locs ls dy hl => lv_iload cx.1.1 cx.1.2.1 hd (lv_at hl j (am_cl_at hk)) (k p lc e s m args below meth c D ca ad0 A cx ad H locs ls dy hl)
theorem am_lload_n (j : Nat) {n : Fin 4} {i : Nat} {x : Int64} (hi : (n : Nat) = i) (hk : l[j]? = some (i, .long x)) (hd : decode M.2.1 pc = .ok (.lload_n n, 1)) (k : am_OK M X Q g h (pc + 1) l (.long x :: st)) : am_OK M X Q g h pc l st :=
  fun p lc e s m args below meth c D ca ad0 A cx ad H locs ls dy hl => lv_lload_n cx.1.1 cx.1.2.1 hd hi (lv_at hl j (am_cl_at hk)) (k p lc e s m args below meth c D ca ad0 A cx ad H locs ls dy hl)
theorem am_lload (j : Nat) {i : Nat} {x : Int64} (hk : l[j]? = some (i, .long x)) (hd : decode M.2.1 pc = .ok (.lload i, 2)) (k : am_OK M X Q g h (pc + 2) l (.long x :: st)) : am_OK M X Q g h pc l st :=
  fun p lc e s m args below meth c D ca ad0 A cx ad H locs ls dy hl => lv_lload cx.1.1 cx.1.2.1 hd (lv_at hl j (am_cl_at hk)) (k p lc e s m args below meth c D ca ad0 A cx ad H locs ls dy hl)
theorem am_aload_n (j : Nat) {n : Fin 4} {i x : Nat} (hi : (n : Nat) = i) (hk : l[j]? = some (i, .ref x)) (hd : decode M.2.1 pc = .ok (.aload_n n, 1)) (k : am_OK M X Q g h (pc + 1) l (.ref x :: st)) : am_OK M X Q g h pc l st :=
  fun p lc e s m args below meth c D ca ad0 A cx ad H locs ls dy hl => lv_aload_n cx.1.1 cx.1.2.1 hd hi (lv_at hl j (am_cl_at hk)) (k p lc e s m args below meth c D ca ad0 A cx ad H locs ls dy hl)
theorem am_aload (j : Nat) {i x : Nat} (hk : l[j]? = some (i, .ref x)) (hd : decode M.2.1 pc = .ok (.aload i, 2)) (k : am_OK M X Q g h (pc + 2) l (.ref x :: st)) : am_OK M X Q g h pc l st :=
  fun p lc e s m args below meth c D ca ad0 A cx ad H locs ls dy hl => lv_aload cx.1.1 cx.1.2.1 hd (lv_at hl j (am_cl_at hk)) (k p lc e s m args below meth c D ca ad0 A cx ad H locs ls dy hl)
theorem am_istore_n {n : Fin 4} {i : Nat} {x : Int32} {l' : List (Nat × Value)} (hi : (n : Nat) = i) (hn : i < M.2.2.1) (hl' : am_p1 i (.int x) l = l') (hd : decode M.2.1 pc = .ok (.istore_n n, 1)) (k : am_OK M X Q g h (pc + 1) l' st) : am_OK M X Q g h pc l (.int x :: st) :=
  fun p lc e s m args below meth c D ca ad0 A cx ad H locs ls dy hl => lv_istore_n cx.1.1 cx.1.2.1 hd hi hl hn ((am_cl_p1 ad i (.int x) l).trans (congrArg _ hl')) (fun ls' hl => k p lc e s m args below meth c D ca ad0 A cx ad H locs ls' dy hl)
theorem am_istore {i : Nat} {x : Int32} {l' : List (Nat × Value)} (hn : i < M.2.2.1) (hl' : am_p1 i (.int x) l = l') (hd : decode M.2.1 pc = .ok (.istore i, 2)) (k : am_OK M X Q g h (pc + 2) l' st) : am_OK M X Q g h pc l (.int x :: st) :=
  fun p lc e s m args below meth c D ca ad0 A cx ad H locs ls dy hl => lv_istore cx.1.1 cx.1.2.1 hd hl hn ((am_cl_p1 ad i (.int x) l).trans (congrArg _ hl')) (fun ls' hl => k p lc e s m args below meth c D ca ad0 A cx ad H locs ls' dy hl)
theorem am_astore_n {n : Fin 4} {i x : Nat} {l' : List (Nat × Value)} (hi : (n : Nat) = i) (hn : i < M.2.2.1) (hl' : am_p1 i (.ref x) l = l') (hd : decode M.2.1 pc = .ok (.astore_n n, 1)) (k : am_OK M X Q g h (pc + 1) l' st) : am_OK M X Q g h pc l (.ref x :: st) :=
  fun p lc e s m args below meth c D ca ad0 A cx ad H locs ls dy hl => lv_astore_n cx.1.1 cx.1.2.1 hd hi hl hn ((am_cl_p1 ad i (.ref x) l).trans (congrArg _ hl')) (fun ls' hl => k p lc e s m args below meth c D ca ad0 A cx ad H locs ls' dy hl)
theorem am_astore {i x : Nat} {l' : List (Nat × Value)} (hn : i < M.2.2.1) (hl' : am_p1 i (.ref x) l = l') (hd : decode M.2.1 pc = .ok (.astore i, 2)) (k : am_OK M X Q g h (pc + 2) l' st) : am_OK M X Q g h pc l (.ref x :: st) :=
  fun p lc e s m args below meth c D ca ad0 A cx ad H locs ls dy hl => lv_astore cx.1.1 cx.1.2.1 hd hl hn ((am_cl_p1 ad i (.ref x) l).trans (congrArg _ hl')) (fun ls' hl => k p lc e s m args below meth c D ca ad0 A cx ad H locs ls' dy hl)
theorem am_lstore_n {n : Fin 4} {i : Nat} {x : Int64} {l' : List (Nat × Value)} (hi : (n : Nat) = i) (hn : i + 1 < M.2.2.1) (hl' : am_p2 i (.long x) l = l') (hd : decode M.2.1 pc = .ok (.lstore_n n, 1)) (k : am_OK M X Q g h (pc + 1) l' st) : am_OK M X Q g h pc l (.long x :: st) :=
  fun p lc e s m args below meth c D ca ad0 A cx ad H locs ls dy hl => lv_lstore_n cx.1.1 cx.1.2.1 hd hi hl hn ((am_cl_p2 ad i (.long x) l).trans (congrArg _ hl')) (fun ls' hl => k p lc e s m args below meth c D ca ad0 A cx ad H locs ls' dy hl)
theorem am_lstore {i : Nat} {x : Int64} {l' : List (Nat × Value)} (hn : i + 1 < M.2.2.1) (hl' : am_p2 i (.long x) l = l') (hd : decode M.2.1 pc = .ok (.lstore i, 2)) (k : am_OK M X Q g h (pc + 2) l' st) : am_OK M X Q g h pc l (.long x :: st) :=
  fun p lc e s m args below meth c D ca ad0 A cx ad H locs ls dy hl => lv_lstore cx.1.1 cx.1.2.1 hd hl hn ((am_cl_p2 ad i (.long x) l).trans (congrArg _ hl')) (fun ls' hl => k p lc e s m args below meth c D ca ad0 A cx ad H locs ls' dy hl)
theorem am_iinc (j : Nat) {i : Nat} {n : Int} {x v : Int32} {l' : List (Nat × Value)} (hk : l[j]? = some (i, .int x)) (hv : x + Int32.ofInt n = v) (hn : i < M.2.2.1) (hl' : am_p1 i (.int v) l = l') (hd : decode M.2.1 pc = .ok (.iinc i n, 3)) (k : am_OK M X Q g h (pc + 3) l' st) : am_OK M X Q g h pc l st :=
  fun p lc e s m args below meth c D ca ad0 A cx ad H locs ls dy hl => lv_iinc cx.1.1 cx.1.2.1 hd hl (am_cl_at hk) hv hn ((am_cl_p1 ad i (.int v) l).trans (congrArg _ hl')) (fun ls' hl => k p lc e s m args below meth c D ca ad0 A cx ad H locs ls' dy hl)
theorem am_sub (ks : List Nat) {l' : List (Nat × Value)} (hs : lv_pick l ks = l') (k : am_OK M X Q g h pc l' st) : am_OK M X Q g h pc l st :=
  fun p lc e s m args below meth c D ca ad0 A cx ad H locs ls dy hl => k p lc e s m args below meth c D ca ad0 A cx ad H locs ls dy (lv_sub hl ks (by rw [← hs]; simp only [lv_pick, am_cl, List.map_filterMap, List.getElem?_map]))
end AM1
end
section
section AM2
variable {M : am_M} {X : am_X} {Q : am_P} {g : am_G} {h : am_H} {pc : Nat} {l : List (Nat × Value)} {st : List Value}
theorem am_iadd {x y : Int32} (hd : decode M.2.1 pc = .ok (.iadd, 1)) (k : am_OK M X Q g h (pc + 1) l (.int (x + y) :: st)) : am_OK M X Q g h pc l (.int y :: .int x :: st) :=
  fun p lc e s m args below meth c D ca ad0 A cx ad H locs ls dy hl => lv_iadd cx.1.1 cx.1.2.1 hd (k p lc e s m args below meth c D ca ad0 A cx ad H locs ls dy hl)
theorem am_isub {x y : Int32} (hd : decode M.2.1 pc = .ok (.isub, 1)) (k : am_OK M X Q g h (pc + 1) l (.int (x - y) :: st)) : am_OK M X Q g h pc l (.int y :: .int x :: st) :=
  fun p lc e s m args below meth c D ca ad0 A cx ad H locs ls dy hl => lv_isub cx.1.1 cx.1.2.1 hd (k p lc e s m args below meth c D ca ad0 A cx ad H locs ls dy hl)
theorem am_imul {x y : Int32} (hd : decode M.2.1 pc = .ok (.imul, 1)) (k : am_OK M X Q g h (pc + 1) l (.int (x * y) :: st)) : am_OK M X Q g h pc l (.int y :: .int x :: st) :=
  fun p lc e s m args below meth c D ca ad0 A cx ad H locs ls dy hl => lv_imul cx.1.1 cx.1.2.1 hd (k p lc e s m args below meth c D ca ad0 A cx ad H locs ls dy hl)
theorem am_iand {x y : Int32} (hd : decode M.2.1 pc = .ok (.iand, 1)) (k : am_OK M X Q g h (pc + 1) l (.int (x &&& y) :: st)) : am_OK M X Q g h pc l (.int y :: .int x :: st) :=
  fun p lc e s m args below meth c D ca ad0 A cx ad H locs ls dy hl => lv_iand cx.1.1 cx.1.2.1 hd (k p lc e s m args below meth c D ca ad0 A cx ad H locs ls dy hl)
theorem am_ior {x y : Int32} (hd : decode M.2.1 pc = .ok (.ior, 1)) (k : am_OK M X Q g h (pc + 1) l (.int (x ||| y) :: st)) : am_OK M X Q g h pc l (.int y :: .int x :: st) :=
  fun p lc e s m args below meth c D ca ad0 A cx ad H locs ls dy hl => lv_ior cx.1.1 cx.1.2.1 hd (k p lc e s m args below meth c D ca ad0 A cx ad H locs ls dy hl)
theorem am_ixor {x y : Int32} (hd : decode M.2.1 pc = .ok (.ixor, 1)) (k : am_OK M X Q g h (pc + 1) l (.int (x ^^^ y) :: st)) : am_OK M X Q g h pc l (.int y :: .int x :: st) :=
  fun p lc e s m args below meth c D ca ad0 A cx ad H locs ls dy hl => lv_ixor cx.1.1 cx.1.2.1 hd (k p lc e s m args below meth c D ca ad0 A cx ad H locs ls dy hl)
theorem am_ishl {x y : Int32} (hd : decode M.2.1 pc = .ok (.ishl, 1)) (k : am_OK M X Q g h (pc + 1) l (.int (x <<< (y &&& 31)) :: st)) : am_OK M X Q g h pc l (.int y :: .int x :: st) :=
  fun p lc e s m args below meth c D ca ad0 A cx ad H locs ls dy hl => lv_ishl cx.1.1 cx.1.2.1 hd (k p lc e s m args below meth c D ca ad0 A cx ad H locs ls dy hl)
theorem am_ishr {x y : Int32} (hd : decode M.2.1 pc = .ok (.ishr, 1)) (k : am_OK M X Q g h (pc + 1) l (.int (x >>> (y &&& 31)) :: st)) : am_OK M X Q g h pc l (.int y :: .int x :: st) :=
  fun p lc e s m args below meth c D ca ad0 A cx ad H locs ls dy hl => lv_ishr cx.1.1 cx.1.2.1 hd (k p lc e s m args below meth c D ca ad0 A cx ad H locs ls dy hl)
theorem am_ladd {x y : Int64} (hd : decode M.2.1 pc = .ok (.ladd, 1)) (k : am_OK M X Q g h (pc + 1) l (.long (x + y) :: st)) : am_OK M X Q g h pc l (.long y :: .long x :: st) :=
  fun p lc e s m args below meth c D ca ad0 A cx ad H locs ls dy hl => lv_ladd cx.1.1 cx.1.2.1 hd (k p lc e s m args below meth c D ca ad0 A cx ad H locs ls dy hl)
theorem am_lsub {x y : Int64} (hd : decode M.2.1 pc = .ok (.lsub, 1)) (k : am_OK M X Q g h (pc + 1) l (.long (x - y) :: st)) : am_OK M X Q g h pc l (.long y :: .long x :: st) :=
  fun p lc e s m args below meth c D ca ad0 A cx ad H locs ls dy hl => lv_lsub cx.1.1 cx.1.2.1 hd (k p lc e s m args below meth c D ca ad0 A cx ad H locs ls dy hl)
theorem am_lmul {x y : Int64} (hd : decode M.2.1 pc = .ok (.lmul, 1)) (k : am_OK M X Q g h (pc + 1) l (.long (x * y) :: st)) : am_OK M X Q g h pc l (.long y :: .long x :: st) :=
  fun p lc e s m args below meth c D ca ad0 A cx ad H locs ls dy hl => lv_lmul cx.1.1 cx.1.2.1 hd (k p lc e s m args below meth c D ca ad0 A cx ad H locs ls dy hl)
theorem am_land {x y : Int64} (hd : decode M.2.1 pc = .ok (.land, 1)) (k : am_OK M X Q g h (pc + 1) l (.long (x &&& y) :: st)) : am_OK M X Q g h pc l (.long y :: .long x :: st) :=
  fun p lc e s m args below meth c D ca ad0 A cx ad H locs ls dy hl => lv_land cx.1.1 cx.1.2.1 hd (k p lc e s m args below meth c D ca ad0 A cx ad H locs ls dy hl)
theorem am_lor {x y : Int64} (hd : decode M.2.1 pc = .ok (.lor, 1)) (k : am_OK M X Q g h (pc + 1) l (.long (x ||| y) :: st)) : am_OK M X Q g h pc l (.long y :: .long x :: st) :=
  fun p lc e s m args below meth c D ca ad0 A cx ad H locs ls dy hl => lv_lor cx.1.1 cx.1.2.1 hd (k p lc e s m args below meth c D ca ad0 A cx ad H locs ls dy hl)
theorem am_ldiv {x y : Int64} (hne : ¬ y = 0) (hd : decode M.2.1 pc = .ok (.ldiv, 1)) (k : am_OK M X Q g h (pc + 1) l (.long (x / y) :: st)) : am_OK M X Q g h pc l (.long y :: .long x :: st) :=
  fun p lc e s m args below meth c D ca ad0 A cx ad H locs ls dy hl => lv_ldiv cx.1.1 cx.1.2.1 hd hne (k p lc e s m args below meth c D ca ad0 A cx ad H locs ls dy hl)
theorem am_lrem {x y : Int64} (hne : ¬ y = 0) (hd : decode M.2.1 pc = .ok (.lrem, 1)) (k : am_OK M X Q g h (pc + 1) l (.long (x - x / y * y) :: st)) : am_OK M X Q g h pc l (.long y :: .long x :: st) :=
  fun p lc e s m args below meth c D ca ad0 A cx ad H locs ls dy hl => lv_lrem cx.1.1 cx.1.2.1 hd hne (k p lc e s m args below meth c D ca ad0 A cx ad H locs ls dy hl)
theorem am_ineg {x : Int32} (hd : decode M.2.1 pc = .ok (.ineg, 1)) (k : am_OK M X Q g h (pc + 1) l (.int (-x) :: st)) : am_OK M X Q g h pc l (.int x :: st) :=
  fun p lc e s m args below meth c D ca ad0 A cx ad H locs ls dy hl => lv_ineg cx.1.1 cx.1.2.1 hd (k p lc e s m args below meth c D ca ad0 A cx ad H locs ls dy hl)
theorem am_lneg {x : Int64} (hd : decode M.2.1 pc = .ok (.lneg, 1)) (k : am_OK M X Q g h (pc + 1) l (.long (-x) :: st)) : am_OK M X Q g h pc l (.long x :: st) :=
  fun p lc e s m args below meth c D ca ad0 A cx ad H locs ls dy hl => lv_lneg cx.1.1 cx.1.2.1 hd (k p lc e s m args below meth c D ca ad0 A cx ad H locs ls dy hl)
theorem am_i2l {x : Int32} (hd : decode M.2.1 pc = .ok (.i2l, 1)) (k : am_OK M X Q g h (pc + 1) l (.long (x.toInt64) :: st)) : am_OK M X Q g h pc l (.int x :: st) :=
  fun p lc e s m args below meth c D ca ad0 A cx ad H locs ls dy hl => lv_i2l cx.1.1 cx.1.2.1 hd rfl (k p lc e s m args below meth c D ca ad0 A cx ad H locs ls dy hl)
theorem am_l2i {x : Int64} (hd : decode M.2.1 pc = .ok (.l2i, 1)) (k : am_OK M X Q g h (pc + 1) l (.int (x.toInt32) :: st)) : am_OK M X Q g h pc l (.long x :: st) :=
  fun p lc e s m args below meth c D ca ad0 A cx ad H locs ls dy hl => lv_l2i cx.1.1 cx.1.2.1 hd rfl (k p lc e s m args below meth c D ca ad0 A cx ad H locs ls dy hl)
theorem am_i2c {x : Int32} (hd : decode M.2.1 pc = .ok (.i2c, 1)) (k : am_OK M X Q g h (pc + 1) l (.int ((x.toUInt32 % 65536).toInt32) :: st)) : am_OK M X Q g h pc l (.int x :: st) :=
  fun p lc e s m args below meth c D ca ad0 A cx ad H locs ls dy hl => lv_i2c cx.1.1 cx.1.2.1 hd rfl (k p lc e s m args below meth c D ca ad0 A cx ad H locs ls dy hl)
theorem am_lshl {x : Int64} {y : Int32} (hd : decode M.2.1 pc = .ok (.lshl, 1)) (k : am_OK M X Q g h (pc + 1) l (.long (x <<< (y.toInt64 &&& 63)) :: st)) : am_OK M X Q g h pc l (.int y :: .long x :: st) :=
  fun p lc e s m args below meth c D ca ad0 A cx ad H locs ls dy hl => lv_lshl cx.1.1 cx.1.2.1 hd rfl (k p lc e s m args below meth c D ca ad0 A cx ad H locs ls dy hl)
theorem am_lshr {x : Int64} {y : Int32} (hd : decode M.2.1 pc = .ok (.lshr, 1)) (k : am_OK M X Q g h (pc + 1) l (.long (x >>> (y.toInt64 &&& 63)) :: st)) : am_OK M X Q g h pc l (.int y :: .long x :: st) :=
  fun p lc e s m args below meth c D ca ad0 A cx ad H locs ls dy hl => lv_lshr cx.1.1 cx.1.2.1 hd rfl (k p lc e s m args below meth c D ca ad0 A cx ad H locs ls dy hl)
theorem am_dup {v : Value} (hv : v.category = 1) (hd : decode M.2.1 pc = .ok (.dup, 1)) (k : am_OK M X Q g h (pc + 1) l (v :: v :: st)) : am_OK M X Q g h pc l (v :: st) :=
  fun p lc e s m args below meth c D ca ad0 A cx ad H locs ls dy hl => lv_dup cx.1.1 cx.1.2.1 hd ((am_cv_cat ad v).trans hv) (k p lc e s m args below meth c D ca ad0 A cx ad H locs ls dy hl)
theorem am_pop {v : Value} (hv : v.category = 1) (hd : decode M.2.1 pc = .ok (.pop, 1)) (k : am_OK M X Q g h (pc + 1) l st) : am_OK M X Q g h pc l (v :: st) :=
  fun p lc e s m args below meth c D ca ad0 A cx ad H locs ls dy hl => lv_pop cx.1.1 cx.1.2.1 hd ((am_cv_cat ad v).trans hv) (k p lc e s m args below meth c D ca ad0 A cx ad H locs ls dy hl)
theorem am_pop2 {v : Value} (hv : v.category = 2) (hd : decode M.2.1 pc = .ok (.pop2, 1)) (k : am_OK M X Q g h (pc + 1) l st) : am_OK M X Q g h pc l (v :: st) :=
  fun p lc e s m args below meth c D ca ad0 A cx ad H locs ls dy hl => lv_pop2_2 cx.1.1 cx.1.2.1 hd ((am_cv_cat ad v).trans hv) (k p lc e s m args below meth c D ca ad0 A cx ad H locs ls dy hl)
theorem am_dup2 {v w : Value} (hv : v.category = 1) (hw : w.category = 1) (hd : decode M.2.1 pc = .ok (.dup2, 1)) (k : am_OK M X Q g h (pc + 1) l (v :: w :: v :: w :: st)) : am_OK M X Q g h pc l (v :: w :: st) :=
  fun p lc e s m args below meth c D ca ad0 A cx ad H locs ls dy hl => lv_dup2_11 cx.1.1 cx.1.2.1 hd ((am_cv_cat ad v).trans hv) ((am_cv_cat ad w).trans hw) (k p lc e s m args below meth c D ca ad0 A cx ad H locs ls dy hl)
theorem am_dup2l {v : Value} (hv : v.category = 2) (hd : decode M.2.1 pc = .ok (.dup2, 1)) (k : am_OK M X Q g h (pc + 1) l (v :: v :: st)) : am_OK M X Q g h pc l (v :: st) :=
  fun p lc e s m args below meth c D ca ad0 A cx ad H locs ls dy hl => lv_dup2_2 cx.1.1 cx.1.2.1 hd ((am_cv_cat ad v).trans hv) (k p lc e s m args below meth c D ca ad0 A cx ad H locs ls dy hl)
theorem am_icmp_eq {x y : Int32} {off : Int} {tgt : Nat} (ht : (pc : Int) + off = (tgt : Int)) (hd : decode M.2.1 pc = .ok (.if_icmp .eq off, 3)) (kt : x = y → am_OK M X Q g h tgt l st) (kf : ¬ x = y → am_OK M X Q g h (pc + 3) l st) : am_OK M X Q g h pc l (.int y :: .int x :: st) :=
  fun p lc e s m args below meth c D ca ad0 A cx ad H locs ls dy hl => lv_icmp_eq cx.1.1 cx.1.2.1 hd ht (fun c9 => kt c9 p lc e s m args below meth c D ca ad0 A cx ad H locs ls dy hl) (fun c9 => kf c9 p lc e s m args below meth c D ca ad0 A cx ad H locs ls dy hl)
theorem am_if_eq {x : Int32} {off : Int} {tgt : Nat} (ht : (pc : Int) + off = (tgt : Int)) (hd : decode M.2.1 pc = .ok (.ifCond .eq off, 3)) (kt : x = 0 → am_OK M X Q g h tgt l st) (kf : ¬ x = 0 → am_OK M X Q g h (pc + 3) l st) : am_OK M X Q g h pc l (.int x :: st) :=
  fun p lc e s m args below meth c D ca ad0 A cx ad H locs ls dy hl => lv_if_eq cx.1.1 cx.1.2.1 hd ht (fun c9 => kt c9 p lc e s m args below meth c D ca ad0 A cx ad H locs ls dy hl) (fun c9 => kf c9 p lc e s m args below meth c D ca ad0 A cx ad H locs ls dy hl)
theorem am_icmp_ne {x y : Int32} {off : Int} {tgt : Nat} (ht : (pc : Int) + off = (tgt : Int)) (hd : decode M.2.1 pc = .ok (.if_icmp .ne off, 3)) (kt : ¬ x = y → am_OK M X Q g h tgt l st) (kf : x = y → am_OK M X Q g h (pc + 3) l st) : am_OK M X Q g h pc l (.int y :: .int x :: st) :=
  fun p lc e s m args below meth c D ca ad0 A cx ad H locs ls dy hl => lv_icmp_ne cx.1.1 cx.1.2.1 hd ht (fun c9 => kt c9 p lc e s m args below meth c D ca ad0 A cx ad H locs ls dy hl) (fun c9 => kf c9 p lc e s m args below meth c D ca ad0 A cx ad H locs ls dy hl)
theorem am_if_ne {x : Int32} {off : Int} {tgt : Nat} (ht : (pc : Int) + off = (tgt : Int)) (hd : decode M.2.1 pc = .ok (.ifCond .ne off, 3)) (kt : ¬ x = 0 → am_OK M X Q g h tgt l st) (kf : x = 0 → am_OK M X Q g h (pc + 3) l st) : am_OK M X Q g h pc l (.int x :: st) :=
  fun p lc e s m args below meth c D ca ad0 A cx ad H locs ls dy hl => lv_if_ne cx.1.1 cx.1.2.1 hd ht (fun c9 => kt c9 p lc e s m args below meth c D ca ad0 A cx ad H locs ls dy hl) (fun c9 => kf c9 p lc e s m args below meth c D ca ad0 A cx ad H locs ls dy hl)
theorem am_icmp_lt {x y : Int32} {off : Int} {tgt : Nat} (ht : (pc : Int) + off = (tgt : Int)) (hd : decode M.2.1 pc = .ok (.if_icmp .lt off, 3)) (kt : x < y → am_OK M X Q g h tgt l st) (kf : ¬ x < y → am_OK M X Q g h (pc + 3) l st) : am_OK M X Q g h pc l (.int y :: .int x :: st) :=
  fun p lc e s m args below meth c D ca ad0 A cx ad H locs ls dy hl => lv_icmp_lt cx.1.1 cx.1.2.1 hd ht (fun c9 => kt c9 p lc e s m args below meth c D ca ad0 A cx ad H locs ls dy hl) (fun c9 => kf c9 p lc e s m args below meth c D ca ad0 A cx ad H locs ls dy hl)
theorem am_if_lt {x : Int32} {off : Int} {tgt : Nat} (ht : (pc : Int) + off = (tgt : Int)) (hd : decode M.2.1 pc = .ok (.ifCond .lt off, 3)) (kt : x < 0 → am_OK M X Q g h tgt l st) (kf : ¬ x < 0 → am_OK M X Q g h (pc + 3) l st) : am_OK M X Q g h pc l (.int x :: st) :=
  fun p lc e s m args below meth c D ca ad0 A cx ad H locs ls dy hl => lv_if_lt cx.1.1 cx.1.2.1 hd ht (fun c9 => kt c9 p lc e s m args below meth c D ca ad0 A cx ad H locs ls dy hl) (fun c9 => kf c9 p lc e s m args below meth c D ca ad0 A cx ad H locs ls dy hl)
theorem am_icmp_ge {x y : Int32} {off : Int} {tgt : Nat} (ht : (pc : Int) + off = (tgt : Int)) (hd : decode M.2.1 pc = .ok (.if_icmp .ge off, 3)) (kt : y ≤ x → am_OK M X Q g h tgt l st) (kf : ¬ y ≤ x → am_OK M X Q g h (pc + 3) l st) : am_OK M X Q g h pc l (.int y :: .int x :: st) :=
  fun p lc e s m args below meth c D ca ad0 A cx ad H locs ls dy hl => lv_icmp_ge cx.1.1 cx.1.2.1 hd ht (fun c9 => kt c9 p lc e s m args below meth c D ca ad0 A cx ad H locs ls dy hl) (fun c9 => kf c9 p lc e s m args below meth c D ca ad0 A cx ad H locs ls dy hl)
theorem am_if_ge {x : Int32} {off : Int} {tgt : Nat} (ht : (pc : Int) + off = (tgt : Int)) (hd : decode M.2.1 pc = .ok (.ifCond .ge off, 3)) (kt : 0 ≤ x → am_OK M X Q g h tgt l st) (kf : ¬ 0 ≤ x → am_OK M X Q g h (pc + 3) l st) : am_OK M X Q g h pc l (.int x :: st) :=
  fun p lc e s m args below meth c D ca ad0 A cx ad H locs ls dy hl => lv_if_ge cx.1.1 cx.1.2.1 hd ht (fun c9 => kt c9 p lc e s m args below meth c D ca ad0 A cx ad H locs ls dy hl) (fun c9 => kf c9 p lc e s m args below meth c D ca ad0 A cx ad H locs ls dy hl)
theorem am_icmp_gt {x y : Int32} {off : Int} {tgt : Nat} (ht : (pc : Int) + off = (tgt : Int)) (hd : decode M.2.1 pc = .ok (.if_icmp .gt off, 3)) (kt : y < x → am_OK M X Q g h tgt l st) (kf : ¬ y < x → am_OK M X Q g h (pc + 3) l st) : am_OK M X Q g h pc l (.int y :: .int x :: st) :=
  fun p lc e s m args below meth c D ca ad0 A cx ad H locs ls dy hl => lv_icmp_gt cx.1.1 cx.1.2.1 hd ht (fun c9 => kt c9 p lc e s m args below meth c D ca ad0 A cx ad H locs ls dy hl) (fun c9 => kf c9 p lc e s m args below meth c D ca ad0 A cx ad H locs ls dy hl)
theorem am_if_gt {x : Int32} {off : Int} {tgt : Nat} (ht : (pc : Int) + off = (tgt : Int)) (hd : decode M.2.1 pc = .ok (.ifCond .gt off, 3)) (kt : 0 < x → am_OK M X Q g h tgt l st) (kf : ¬ 0 < x → am_OK M X Q g h (pc + 3) l st) : am_OK M X Q g h pc l (.int x :: st) :=
  fun p lc e s m args below meth c D ca ad0 A cx ad H locs ls dy hl => lv_if_gt cx.1.1 cx.1.2.1 hd ht (fun c9 => kt c9 p lc e s m args below meth c D ca ad0 A cx ad H locs ls dy hl) (fun c9 => kf c9 p lc e s m args below meth c D ca ad0 A cx ad H locs ls dy hl)
theorem am_icmp_le {x y : Int32} {off : Int} {tgt : Nat} (ht : (pc : Int) + off = (tgt : Int)) (hd : decode M.2.1 pc = .ok (.if_icmp .le off, 3)) (kt : x ≤ y → am_OK M X Q g h tgt l st) (kf : ¬ x ≤ y → am_OK M X Q g h (pc + 3) l st) : am_OK M X Q g h pc l (.int y :: .int x :: st) :=
  fun p lc e s m args below meth c D ca ad0 A cx ad H locs ls dy hl => lv_icmp_le cx.1.1 cx.1.2.1 hd ht (fun c9 => kt c9 p lc e s m args below meth c D ca ad0 A cx ad H locs ls dy hl) (fun c9 => kf c9 p lc e s m args below meth c D ca ad0 A cx ad H locs ls dy hl)
theorem am_if_le {x : Int32} {off : Int} {tgt : Nat} (ht : (pc : Int) + off = (tgt : Int)) (hd : decode M.2.1 pc = .ok (.ifCond .le off, 3)) (kt : x ≤ 0 → am_OK M X Q g h tgt l st) (kf : ¬ x ≤ 0 → am_OK M X Q g h (pc + 3) l st) : am_OK M X Q g h pc l (.int x :: st) :=
  fun p lc e s m args below meth c D ca ad0 A cx ad H locs ls dy hl => lv_if_le cx.1.1 cx.1.2.1 hd ht (fun c9 => kt c9 p lc e s m args below meth c D ca ad0 A cx ad H locs ls dy hl) (fun c9 => kf c9 p lc e s m args below meth c D ca ad0 A cx ad H locs ls dy hl)
theorem am_goto {off : Int} {tgt : Nat} (ht : (pc : Int) + off = (tgt : Int)) (hd : decode M.2.1 pc = .ok (.goto off, 3)) (k : am_OK M X Q g h tgt l st) : am_OK M X Q g h pc l st :=
  fun p lc e s m args below meth c D ca ad0 A cx ad H locs ls dy hl => lv_goto cx.1.1 cx.1.2.1 hd ht (k p lc e s m args below meth c D ca ad0 A cx ad H locs ls dy hl)
theorem am_lcmp {x y : Int64} (hd : decode M.2.1 pc = .ok (.lcmp, 1)) (k : am_OK M X Q g h (pc + 1) l (.int (lg_cmp x y) :: st)) : am_OK M X Q g h pc l (.long y :: .long x :: st) :=
  fun p lc e s m args below meth c D ca ad0 A cx ad H locs ls dy hl => W.lcmp cx.1.1 cx.1.2.1 hd (k p lc e s m args below meth c D ca ad0 A cx ad H locs ls dy hl)
theorem am_lcmp_eq {x y : Int64} {off : Int} {tgt pc1 : Nat} (hd0 : decode M.2.1 pc = .ok (.lcmp, 1)) (h1 : pc + 1 = pc1) (ht : (pc1 : Int) + off = (tgt : Int)) (hd : decode M.2.1 pc1 = .ok (.ifCond .eq off, 3)) (kt : x = y → am_OK M X Q g h tgt l st) (kf : ¬ x = y → am_OK M X Q g h (pc1 + 3) l st) : am_OK M X Q g h pc l (.long y :: .long x :: st) := by
  subst h1
  exact am_lcmp hd0 (am_if_eq ht hd (fun c9 => kt ((lg_cmp_eq x y).mp c9)) (fun c9 => kf ((not_congr (lg_cmp_eq x y)).mp c9)))
theorem am_lcmp_ne {x y : Int64} {off : Int} {tgt pc1 : Nat} (hd0 : decode M.2.1 pc = .ok (.lcmp, 1)) (h1 : pc + 1 = pc1) (ht : (pc1 : Int) + off = (tgt : Int)) (hd : decode M.2.1 pc1 = .ok (.ifCond .ne off, 3)) (kt : ¬ x = y → am_OK M X Q g h tgt l st) (kf : x = y → am_OK M X Q g h (pc1 + 3) l st) : am_OK M X Q g h pc l (.long y :: .long x :: st) := by
  subst h1
  exact am_lcmp hd0 (am_if_ne ht hd (fun c9 => kt ((not_congr (lg_cmp_eq x y)).mp c9)) (fun c9 => kf ((lg_cmp_eq x y).mp c9)))
theorem am_lcmp_lt {x y : Int64} {off : Int} {tgt pc1 : Nat} (hd0 : decode M.2.1 pc = .ok (.lcmp, 1)) (h1 : pc + 1 = pc1) (ht : (pc1 : Int) + off = (tgt : Int)) (hd : decode M.2.1 pc1 = .ok (.ifCond .lt off, 3)) (kt : x < y → am_OK M X Q g h tgt l st) (kf : ¬ x < y → am_OK M X Q g h (pc1 + 3) l st) : am_OK M X Q g h pc l (.long y :: .long x :: st) := by
  subst h1
  exact am_lcmp hd0 (am_if_lt ht hd (fun c9 => kt ((lg_cmp_lt x y).mp c9)) (fun c9 => kf ((not_congr (lg_cmp_lt x y)).mp c9)))
theorem am_lcmp_ge {x y : Int64} {off : Int} {tgt pc1 : Nat} (hd0 : decode M.2.1 pc = .ok (.lcmp, 1)) (h1 : pc + 1 = pc1) (ht : (pc1 : Int) + off = (tgt : Int)) (hd : decode M.2.1 pc1 = .ok (.ifCond .ge off, 3)) (kt : y ≤ x → am_OK M X Q g h tgt l st) (kf : ¬ y ≤ x → am_OK M X Q g h (pc1 + 3) l st) : am_OK M X Q g h pc l (.long y :: .long x :: st) := by
  subst h1
  exact am_lcmp hd0 (am_if_ge ht hd (fun c9 => kt ((lg_cmp_ge x y).mp c9)) (fun c9 => kf ((not_congr (lg_cmp_ge x y)).mp c9)))
theorem am_lcmp_gt {x y : Int64} {off : Int} {tgt pc1 : Nat} (hd0 : decode M.2.1 pc = .ok (.lcmp, 1)) (h1 : pc + 1 = pc1) (ht : (pc1 : Int) + off = (tgt : Int)) (hd : decode M.2.1 pc1 = .ok (.ifCond .gt off, 3)) (kt : y < x → am_OK M X Q g h tgt l st) (kf : ¬ y < x → am_OK M X Q g h (pc1 + 3) l st) : am_OK M X Q g h pc l (.long y :: .long x :: st) := by
  subst h1
  exact am_lcmp hd0 (am_if_gt ht hd (fun c9 => kt ((lg_cmp_gt x y).mp c9)) (fun c9 => kf ((not_congr (lg_cmp_gt x y)).mp c9)))
theorem am_lcmp_le {x y : Int64} {off : Int} {tgt pc1 : Nat} (hd0 : decode M.2.1 pc = .ok (.lcmp, 1)) (h1 : pc + 1 = pc1) (ht : (pc1 : Int) + off = (tgt : Int)) (hd : decode M.2.1 pc1 = .ok (.ifCond .le off, 3)) (kt : x ≤ y → am_OK M X Q g h tgt l st) (kf : ¬ x ≤ y → am_OK M X Q g h (pc1 + 3) l st) : am_OK M X Q g h pc l (.long y :: .long x :: st) := by
  subst h1
  exact am_lcmp hd0 (am_if_le ht hd (fun c9 => kt ((lg_cmp_le x y).mp c9)) (fun c9 => kf ((not_congr (lg_cmp_le x y)).mp c9)))
theorem am_ifnull0 {off : Int} {tgt : Nat} (ht : (pc : Int) + off = (tgt : Int)) (hd : decode M.2.1 pc = .ok (.ifnull off, 3)) (k : am_OK M X Q g h tgt l st) : am_OK M X Q g h pc l (.null :: st) :=
  fun p lc e s m args below meth c D ca ad0 A cx ad H locs ls dy hl => lv_ifnullN cx.1.1 cx.1.2.1 hd ht (k p lc e s m args below meth c D ca ad0 A cx ad H locs ls dy hl)
theorem am_ifnull1 {x : Nat} {off : Int} (hd : decode M.2.1 pc = .ok (.ifnull off, 3)) (k : am_OK M X Q g h (pc + 3) l st) : am_OK M X Q g h pc l (.ref x :: st) :=
  fun p lc e s m args below meth c D ca ad0 A cx ad H locs ls dy hl => lv_ifnull cx.1.1 cx.1.2.1 hd (k p lc e s m args below meth c D ca ad0 A cx ad H locs ls dy hl)
theorem am_ifnonnull1 {x : Nat} {off : Int} {tgt : Nat} (ht : (pc : Int) + off = (tgt : Int)) (hd : decode M.2.1 pc = .ok (.ifnonnull off, 3)) (k : am_OK M X Q g h tgt l st) : am_OK M X Q g h pc l (.ref x :: st) :=
  fun p lc e s m args below meth c D ca ad0 A cx ad H locs ls dy hl => lv_ifnonnull cx.1.1 cx.1.2.1 hd ht (k p lc e s m args below meth c D ca ad0 A cx ad H locs ls dy hl)
theorem am_ifnonnull0 {off : Int} (hd : decode M.2.1 pc = .ok (.ifnonnull off, 3)) (k : am_OK M X Q g h (pc + 3) l st) : am_OK M X Q g h pc l (.null :: st) :=
  fun p lc e s m args below meth c D ca ad0 A cx ad H locs ls dy hl => lv_ifnonnullN cx.1.1 cx.1.2.1 hd (k p lc e s m args below meth c D ca ad0 A cx ad H locs ls dy hl)
theorem am_lookup {dflt : Int} {ps : Array (Int × Int)} {len : Nat} {x : Int32} {off : Int} {tgt : Nat} (hp : (ps.toList.zip (ps.toList.drop 1)).all (fun (a, next) => a.1 < next.1) = true) (ho : Op.lookupswitch.offset ps.toList dflt x.toInt = off) (ht : (pc : Int) + off = (tgt : Int)) (hd : decode M.2.1 pc = .ok (.lookupswitch dflt ps, len)) (k : am_OK M X Q g h tgt l st) : am_OK M X Q g h pc l (.int x :: st) :=
  fun p lc e s m args below meth c D ca ad0 A cx ad H locs ls dy hl => lv_lookup cx.1.1 cx.1.2.1 hd hp ho ht (k p lc e s m args below meth c D ca ad0 A cx ad H locs ls dy hl)
theorem am_tableIn {dflt lo hi : Int} {offs : Array Int} {len : Nat} {x : Int32} {off : Int} {tgt : Nat} (h1 : ¬ x.toInt < lo) (h2 : ¬ hi < x.toInt) (ho : offs[(x.toInt - lo).toNat]? = some off) (ht : (pc : Int) + off = (tgt : Int)) (hd : decode M.2.1 pc = .ok (.tableswitch dflt lo hi offs, len)) (k : am_OK M X Q g h tgt l st) : am_OK M X Q g h pc l (.int x :: st) :=
  fun p lc e s m args below meth c D ca ad0 A cx ad H locs ls dy hl => lv_tableIn cx.1.1 cx.1.2.1 hd h1 h2 ho ht (k p lc e s m args below meth c D ca ad0 A cx ad H locs ls dy hl)
theorem am_tableOut {dflt lo hi : Int} {offs : Array Int} {len : Nat} {x : Int32} {tgt : Nat} (h1 : x.toInt < lo ∨ hi < x.toInt) (ht : (pc : Int) + dflt = (tgt : Int)) (hd : decode M.2.1 pc = .ok (.tableswitch dflt lo hi offs, len)) (k : am_OK M X Q g h tgt l st) : am_OK M X Q g h pc l (.int x :: st) :=
  fun p lc e s m args below meth c D ca ad0 A cx ad H locs ls dy hl => lv_tableOut cx.1.1 cx.1.2.1 hd h1 ht (k p lc e s m args below meth c D ca ad0 A cx ad H locs ls dy hl)
end AM2
end
section
/-! the world's rows: fields, arrays; returns; a contract's start -/
def am_u {α : Type} (f : Nat → Nat → α) (k j : Nat) (v : α) : Nat → Nat → α := fun a b => if a = k then (if b = j then v else f a b) else f a b
/-- nothing but what stands at (a, j) may differ -/
def am_but (h h' : am_H) (a j : Nat) : Prop := ∀ k i, (k ≠ a ∨ i ≠ j) → h'.1 k i = h.1 k i ∧ h'.2.1 k i = h.2.1 k i ∧ h'.2.2 k i = h.2.2 k i
theorem am_u_ne {α : Type} (f : Nat → Nat → α) {k j : Nat} {v : α} {a b : Nat} (h : a ≠ k ∨ b ≠ j) : am_u f k j v a b = f a b := by
  unfold am_u
  by_cases h1 : a = k
  · rw [if_pos h1, if_neg (h.resolve_left (fun q => q h1))]
  · rw [if_neg h1]
theorem am_u_eq {α : Type} (f : Nat → Nat → α) (k j : Nat) (v : α) : am_u f k j v k j = v := by
  unfold am_u
  rw [if_pos rfl, if_pos rfl]
theorem am_but_i {I : Nat → Nat → Int32} {L : Nat → Nat → Int64} {R : Nat → Nat → Option Nat} {a j : Nat} {x : Int32} : am_but (I, L, R) (am_u I a j x, L, R) a j := fun _ _ h => ⟨am_u_ne I h, rfl, rfl⟩
theorem am_but_l {I : Nat → Nat → Int32} {L : Nat → Nat → Int64} {R : Nat → Nat → Option Nat} {a j : Nat} {x : Int64} : am_but (I, L, R) (I, am_u L a j x, R) a j := fun _ _ h => ⟨rfl, am_u_ne L h, rfl⟩
theorem am_but_r {I : Nat → Nat → Int32} {L : Nat → Nat → Int64} {R : Nat → Nat → Option Nat} {a j : Nat} {x : Option Nat} : am_but (I, L, R) (I, L, am_u R a j x) a j := fun _ _ h => ⟨rfl, rfl, am_u_ne R h⟩
theorem am_fv_same {ad : Nat → Nat} {h h' : am_H} {k i : Nat} {ty : FieldType} (e : h'.1 k i = h.1 k i ∧ h'.2.1 k i = h.2.1 k i ∧ h'.2.2 k i = h.2.2 k i) : am_fv ad h' k ty i = am_fv ad h k ty i := by
  unfold am_fv
  cases ty <;> simp only [e.1, e.2.1, e.2.2]
theorem am_ce_same {ca : FieldType → ClassId} {ad : Nat → Nat} {h h' : am_H} {k : Nat} (e : ∀ i, h'.1 k i = h.1 k i ∧ h'.2.1 k i = h.2.1 k i ∧ h'.2.2 k i = h.2.2 k i) : am_ce ca ad h' k = am_ce ca ad h k := by
  have e1 : h'.1 k = h.1 k := funext fun i => (e i).1
  have e2 : h'.2.1 k = h.2.1 k := funext fun i => (e i).2.1
  have e3 : h'.2.2 k = h.2.2 k := funext fun i => (e i).2.2
  unfold am_ce
  cases am_lay k with
  | inl q =>
    obtain ⟨ty, n⟩ := q
    cases ty <;> simp only [am_ar, e1, e2, e3]
  | inr ci =>
    simp only [am_fv_same (e _)]
theorem am_wl_at {ca : FieldType → ClassId} {ad : Nat → Nat} {al : List Nat} {h : am_H} {a : Nat} (ha : a ∈ al) : ∃ q0 : Nat, al[q0]? = some a ∧ (am_wl ca ad al h)[q0]? = some (ad a, am_ce ca ad h a) := by
  obtain ⟨q0, hq⟩ := List.getElem?_of_mem ha
  exact ⟨q0, hq, by simp [am_wl, hq]⟩
theorem am_wl_set {ca : FieldType → ClassId} {ad : Nat → Nat} {al : List Nat} {h h' : am_H} {a q0 : Nat} (hn : al.Nodup) (hq : al[q0]? = some a) (e : ∀ k, k ≠ a → am_ce ca ad h' k = am_ce ca ad h k) : (am_wl ca ad al h).set q0 (ad a, am_ce ca ad h' a) = am_wl ca ad al h' := by
  apply List.ext_getElem?
  intro i
  simp only [am_wl]
  by_cases hi : i = q0
  · subst hi
    rw [List.getElem?_set_self (by rw [List.length_map]; exact (List.getElem?_eq_some_iff.mp hq).1), List.getElem?_map, hq]
    rfl
  · rw [List.getElem?_set_ne (Ne.symm hi), List.getElem?_map, List.getElem?_map]
    cases hk : al[i]? with
    | none => rfl
    | some k =>
      have hka : k ≠ a := by
        intro q
        subst q
        obtain ⟨h1, h2⟩ := List.getElem?_eq_some_iff.mp hk
        obtain ⟨h3, h4⟩ := List.getElem?_eq_some_iff.mp hq
        exact hi ((List.getElem_inj (h₀ := h1) (h₁ := h3) hn).mp (h2.trans h4.symm))
      simp only [Option.map_some, e k hka]
theorem am_ce_o {ca : FieldType → ClassId} {ad : Nat → Nat} {h : am_H} {a ci : Nat} (hy : am_lay a = .inr ci) : am_ce ca ad h a = .inr (ci, (List.range (am_N ci)).map fun j => am_fv ad h a (am_ty ci j) j) := by
  unfold am_ce
  rw [hy]
theorem am_ce_a {ca : FieldType → ClassId} {ad : Nat → Nat} {h : am_H} {a n : Nat} {ty : FieldType} (hy : am_lay a = .inl (ty, n)) : am_ce ca ad h a = .inl (ca ty, am_ar ad h a ty n) := by
  unfold am_ce
  rw [hy]
theorem am_but_ce {ca : FieldType → ClassId} {ad : Nat → Nat} {h h' : am_H} {a j : Nat} (e : am_but h h' a j) : ∀ k, k ≠ a → am_ce ca ad h' k = am_ce ca ad h k := fun _ hk => am_ce_same fun _ => e _ _ (Or.inl hk)
theorem am_fs_set {ad : Nat → Nat} {h h' : am_H} {a ci N j : Nat} {v : Value} (e : am_but h h' a j) (hv : am_fv ad h' a (am_ty ci j) j = v) : ((List.range N).map fun i => am_fv ad h a (am_ty ci i) i).set j v = (List.range N).map fun i => am_fv ad h' a (am_ty ci i) i := by
  apply List.ext_getElem?
  intro i
  by_cases hi : i = j
  · subst hi
    by_cases hl : i < N
    · rw [List.getElem?_set_self (by simpa using hl), List.getElem?_map, List.getElem?_range hl]
      simp [hv]
    · rw [List.getElem?_eq_none (by simpa using hl), List.getElem?_eq_none (by simpa using hl)]
  · rw [List.getElem?_set_ne (Ne.symm hi), List.getElem?_map, List.getElem?_map]
    cases hk : (List.range N)[i]? with
    | none => rfl
    | some k =>
      obtain ⟨h1, h2⟩ := List.getElem?_eq_some_iff.mp hk
      have h3 : k = i := by rw [← h2]; simp
      subst h3
      simp only [Option.map_some, am_fv_same (e a k (Or.inr hi))]
theorem am_uws {C : String} {T : u_T} {N : Nat} {w : Cond} (h : w ∈ u_ws C T N) : goodWord w = true := by
  obtain ⟨k, -, rfl⟩ := List.mem_map.mp h
  unfold u_lay
  split <;> rfl
section AM3
variable {M : am_M} {X : am_X} {Q : am_P} {g : am_G} {h : am_H} {pc : Nat} {l : List (Nat × Value)} {st : List Value}
theorem am_get {a ci j index : Nat} {C : String} {T : u_T} {N : Nat} {w : Value} (hc : am_cls ci C T N) (hy : am_lay a = .inr ci) (ha : a ∈ g.1) (hj : j < N) (hw : ∀ ad, am_fv ad h a (am_ty ci j) j = am_cv ad w) (hlk : Cond.fieldLink M.1.cls index (T j).1 (T j).2.1 (T j).2.2.1 ∈ lw_tbl) (hd : decode M.2.1 pc = .ok (.getfield index, 3)) (k : am_OK M X Q g h (pc + 3) l (w :: st)) : am_OK M X Q g h pc l (.ref a :: st) := by
  intro p lc e s m args below meth c D ca ad0 A cx ad H locs ls dy hl
  obtain ⟨q0, hq, he⟩ := am_wl_at (ca := ca) (ad := ad) (h := h) ha
  rw [am_ce_o hy, hc.2.1] at he
  refine va_get (D := D) (v := am_cv ad w) cx.1.1 cx.1.2.1 (Ts := am_ws M) cx.1.2.2.2.2 (fun w hw => am_tbl (hc.2.2.2.2 w hw) (am_uws hw)) cx.1.2.2.2.1 cx.2.2.2.1 dy.2.2.1 q0 he hc.1 j hj (cx.1.2.2.2.2 _ (am_tbl hlk)) (fun _ h9 => h9) ?_ hd (k p lc e s m args below meth c D ca ad0 A cx ad H locs ls dy hl)
  rw [List.getElem?_map, List.getElem?_range hj]
  simp [hw ad]
theorem am_put {h' : am_H} {a ci j index : Nat} {C : String} {T : u_T} {N : Nat} {w : Value} (hc : am_cls ci C T N) (hy : am_lay a = .inr ci) (ha : a ∈ g.1) (hj : j < N) (hb : am_but h h' a j) (hw : ∀ ad, am_fv ad h' a (am_ty ci j) j = am_cv ad w) (hfin : (T j).2.2.2 = false) (hfit : ∀ ad, narrow (am_ty ci j) (am_cv ad w) = am_cv ad w ∧ fits (am_ty ci j) (am_cv ad w) = true) (hlk : Cond.fieldLink M.1.cls index (T j).1 (T j).2.1 (T j).2.2.1 ∈ lw_tbl) (hd : decode M.2.1 pc = .ok (.putfield index, 3)) (k : am_OK M X Q g h' (pc + 3) l st) : am_OK M X Q g h pc l (w :: .ref a :: st) := by
  intro p lc e s m args below meth c D ca ad0 A cx ad H locs ls dy hl
  obtain ⟨q0, hq, he⟩ := am_wl_at (ca := ca) (ad := ad) (h := h) ha
  rw [am_ce_o hy, hc.2.1] at he
  refine va_put (D := D) cx.1.1 cx.1.2.1 (Ts := am_ws M) cx.1.2.2.2.2 (fun w hw => am_tbl (hc.2.2.2.2 w hw) (am_uws hw)) (am_ty ci) hc.2.2.1 hc.2.2.2.1 cx.1.2.2.2.1 cx.2.2.2.1 dy.2.2.1 dy.2.2.2.1 dy.2.2.2.2 q0 he hc.1 j hj (cx.1.2.2.2.2 _ (am_tbl hlk)) (fun _ h9 => h9) hfin (hc.2.2.1 j hj) (hfit ad).1 (hfit ad).2 (by simpa using hj) hd (fun H1 locs1 hP1 hD1 hS1 => ?_)
  have hset : (am_wl ca ad g.1 h).set q0 (ad a, .inr (ci, ((List.range N).map fun i => am_fv ad h a (am_ty ci i) i).set j (am_cv ad w))) = am_wl ca ad g.1 h' := by
    rw [am_fs_set hb (hw ad), ← hc.2.1, ← am_ce_o hy]
    exact am_wl_set dy.1 hq (am_but_ce hb)
  rw [hset] at hP1 hD1
  exact k p lc e s m args below meth c D ca ad0 A cx ad H1 locs1 ls ⟨dy.1, dy.2.1, hP1, hD1, hS1⟩ hl
theorem am_iald {a n : Nat} {i : Int32} (hy : am_lay a = .inl (.int, n)) (ha : a ∈ g.1) (hin : vp_in i n) (hd : decode M.2.1 pc = .ok (.iaload, 1)) (k : am_OK M X Q g h (pc + 1) l (.int (h.1 a i.toNatClampNeg) :: st)) : am_OK M X Q g h pc l (.int i :: .ref a :: st) := by
  intro p lc e s m args below meth c D ca ad0 A cx ad H locs ls dy hl
  obtain ⟨q0, hq, he⟩ := am_wl_at (ca := ca) (ad := ad) (h := h) ha
  rw [am_ce_a hy] at he
  exact va_iald cx.1.1 cx.1.2.1 cx.2.2.2.1 dy.2.2.1 q0 0 he rfl hin hd (k p lc e s m args below meth c D ca ad0 A cx ad H locs ls dy hl)
theorem am_zald {a n : Nat} {i : Int32} (hy : am_lay a = .inl (.boolean, n)) (ha : a ∈ g.1) (hin : vp_in i n) (hd : decode M.2.1 pc = .ok (.baload, 1)) (k : am_OK M X Q g h (pc + 1) l (.int (h.1 a i.toNatClampNeg) :: st)) : am_OK M X Q g h pc l (.int i :: .ref a :: st) := by
  intro p lc e s m args below meth c D ca ad0 A cx ad H locs ls dy hl
  obtain ⟨q0, hq, he⟩ := am_wl_at (ca := ca) (ad := ad) (h := h) ha
  rw [am_ce_a hy] at he
  exact va_zald cx.1.1 cx.1.2.1 cx.2.2.2.1 dy.2.2.1 q0 2 he rfl hin hd (k p lc e s m args below meth c D ca ad0 A cx ad H locs ls dy hl)
theorem am_lald {a n : Nat} {i : Int32} (hy : am_lay a = .inl (.long, n)) (ha : a ∈ g.1) (hin : vp_in i n) (hd : decode M.2.1 pc = .ok (.laload, 1)) (k : am_OK M X Q g h (pc + 1) l (.long (h.2.1 a i.toNatClampNeg) :: st)) : am_OK M X Q g h pc l (.int i :: .ref a :: st) := by
  intro p lc e s m args below meth c D ca ad0 A cx ad H locs ls dy hl
  obtain ⟨q0, hq, he⟩ := am_wl_at (ca := ca) (ad := ad) (h := h) ha
  rw [am_ce_a hy] at he
  exact va_lald cx.1.1 cx.1.2.1 cx.2.2.2.1 dy.2.2.1 q0 1 he rfl hin hd (k p lc e s m args below meth c D ca ad0 A cx ad H locs ls dy hl)
theorem am_arr_set {ca : FieldType → ClassId} {ad : Nat → Nat} {al : List Nat} {h h' : am_H} {a q0 n : Nat} {ty : FieldType} {x : vp_A} (hy : am_lay a = .inl (ty, n)) (hn : al.Nodup) (hq : al[q0]? = some a) (e : ∀ k, k ≠ a → am_ce ca ad h' k = am_ce ca ad h k) (hx : x = am_ar ad h' a ty n) : (am_wl ca ad al h).set q0 (ad a, .inl (ca ty, x)) = am_wl ca ad al h' := by
  rw [hx, ← am_ce_a hy]
  exact am_wl_set hn hq e
theorem am_u_at {α : Type} (f : Nat → Nat → α) (k j : Nat) (v : α) : am_u f k j v k = fun b => if b = j then v else f k b := by
  funext b
  simp [am_u]
theorem am_iast {I : Nat → Nat → Int32} {L : Nat → Nat → Int64} {R : Nat → Nat → Option Nat} {a n : Nat} {i x : Int32} (hy : am_lay a = .inl (.int, n)) (ha : a ∈ g.1) (hin : vp_in i n) (hd : decode M.2.1 pc = .ok (.iastore, 1)) (k : am_OK M X Q g (am_u I a i.toNatClampNeg x, L, R) (pc + 1) l st) : am_OK M X Q g (I, L, R) pc l (.int x :: .int i :: .ref a :: st) := by
  intro p lc e s m args below meth c D ca ad0 A cx ad H locs ls dy hl
  obtain ⟨q0, hq, he⟩ := am_wl_at (ca := ca) (ad := ad) (h := (I, L, R)) ha
  rw [am_ce_a hy] at he
  refine va_iast cx.1.1 cx.1.2.1 cx.2.2.2.1 dy.2.2.1 dy.2.2.2.1 dy.2.2.2.2 q0 0 he rfl hin hd (fun H1 locs1 hP1 hD1 hS1 => ?_)
  rw [am_arr_set (h' := (am_u I a i.toNatClampNeg x, L, R)) hy dy.1 hq (am_but_ce am_but_i) (by simp only [am_ar, am_u_at]; rfl)] at hP1 hD1
  exact k p lc e s m args below meth c D ca ad0 A cx ad H1 locs1 ls ⟨dy.1, dy.2.1, hP1, hD1, hS1⟩ hl
theorem am_zast {I : Nat → Nat → Int32} {L : Nat → Nat → Int64} {R : Nat → Nat → Option Nat} {a n : Nat} {i x : Int32} (hy : am_lay a = .inl (.boolean, n)) (ha : a ∈ g.1) (hin : vp_in i n) (hx : vp_nar .boolean x = x) (hd : decode M.2.1 pc = .ok (.bastore, 1)) (k : am_OK M X Q g (am_u I a i.toNatClampNeg x, L, R) (pc + 1) l st) : am_OK M X Q g (I, L, R) pc l (.int x :: .int i :: .ref a :: st) := by
  intro p lc e s m args below meth c D ca ad0 A cx ad H locs ls dy hl
  obtain ⟨q0, hq, he⟩ := am_wl_at (ca := ca) (ad := ad) (h := (I, L, R)) ha
  rw [am_ce_a hy] at he
  refine va_zast cx.1.1 cx.1.2.1 cx.2.2.2.1 dy.2.2.1 dy.2.2.2.1 dy.2.2.2.2 q0 2 he rfl hin hd (fun H1 locs1 hP1 hD1 hS1 => ?_)
  rw [hx, am_arr_set (h' := (am_u I a i.toNatClampNeg x, L, R)) hy dy.1 hq (am_but_ce am_but_i) (by simp only [am_ar, am_u_at]; rfl)] at hP1
  rw [hx, am_arr_set (h' := (am_u I a i.toNatClampNeg x, L, R)) hy dy.1 hq (am_but_ce am_but_i) (by simp only [am_ar, am_u_at]; rfl)] at hD1
  exact k p lc e s m args below meth c D ca ad0 A cx ad H1 locs1 ls ⟨dy.1, dy.2.1, hP1, hD1, hS1⟩ hl
theorem am_last {I : Nat → Nat → Int32} {L : Nat → Nat → Int64} {R : Nat → Nat → Option Nat} {a n : Nat} {i : Int32} {x : Int64} (hy : am_lay a = .inl (.long, n)) (ha : a ∈ g.1) (hin : vp_in i n) (hd : decode M.2.1 pc = .ok (.lastore, 1)) (k : am_OK M X Q g (I, am_u L a i.toNatClampNeg x, R) (pc + 1) l st) : am_OK M X Q g (I, L, R) pc l (.long x :: .int i :: .ref a :: st) := by
  intro p lc e s m args below meth c D ca ad0 A cx ad H locs ls dy hl
  obtain ⟨q0, hq, he⟩ := am_wl_at (ca := ca) (ad := ad) (h := (I, L, R)) ha
  rw [am_ce_a hy] at he
  refine va_last cx.1.1 cx.1.2.1 cx.2.2.2.1 dy.2.2.1 dy.2.2.2.1 dy.2.2.2.2 q0 1 he rfl hin hd (fun H1 locs1 hP1 hD1 hS1 => ?_)
  rw [am_arr_set (h' := (I, am_u L a i.toNatClampNeg x, R)) hy dy.1 hq (am_but_ce am_but_l) (by simp only [am_ar, am_u_at]; rfl)] at hP1 hD1
  exact k p lc e s m args below meth c D ca ad0 A cx ad H1 locs1 ls ⟨dy.1, dy.2.1, hP1, hD1, hS1⟩ hl
theorem am_fin {D : va_G} {ca : FieldType → ClassId} {ad0 ad : Nat → Nat} {A : Nat → Prop} {s t : State} {args : Array Value} {H : Heap} {locs : List Loc} {r : Option Value} (dy : am_DY M s D ca ad0 X.2.2.2 A g.1 h ad H locs) (ht : t.heap = H) (hq : Q r h g.1) : am_Qc D ca ad0 X.2.2.2 A Q args s (.returned (r.map (am_cv ad))) t :=
  ⟨⟨r, h, g.1, ad, rfl, hq, dy.1, dy.2.1, by rw [ht]; exact dy.2.2.1, dy.2.2.2.1⟩, dy.2.2.2.2.F ht⟩
theorem am_iret {x : Int32} {ty : FieldType} (hr : M.2.2.2 = some ty) (hn : narrow ty (.int x) = .int x) (h1 : g.2.1 ≤ X.2.1) (h2 : g.2.2 ≤ X.2.2.1) (hd : decode M.2.1 pc = .ok (.ireturn, 1)) (hq : Q (some (.int x)) h g.1) : am_OK M X Q g h pc l [.int x] := by
  intro p lc e s m args below meth c D ca ad0 A cx ad H locs ls dy hl
  exact W.widen h1 h2 (W.zret cx.1.1 cx.1.2.1 (cx.2.1.trans hr) hn (fun t ht _ => am_fin dy ht hq) (fun q hq => dy.2.2.2.2.2.2 q hq) hd (hlocks := cx.2.2.1))
theorem am_lret {x : Int64} (hr : M.2.2.2 = some .long) (h1 : g.2.1 ≤ X.2.1) (h2 : g.2.2 ≤ X.2.2.1) (hd : decode M.2.1 pc = .ok (.lreturn, 1)) (hq : Q (some (.long x)) h g.1) : am_OK M X Q g h pc l [.long x] := by
  intro p lc e s m args below meth c D ca ad0 A cx ad H locs ls dy hl
  exact W.widen h1 h2 (W.lret cx.1.1 cx.1.2.1 (cx.2.1.trans hr) (fun t ht _ => am_fin dy ht hq) (fun q hq => dy.2.2.2.2.2.2 q hq) hd (hlocks := cx.2.2.1))
theorem am_vret (hr : M.2.2.2 = none) (h1 : g.2.1 ≤ X.2.1) (h2 : g.2.2 ≤ X.2.2.1) (hd : decode M.2.1 pc = .ok (.return_, 1)) (hq : Q none h g.1) : am_OK M X Q g h pc l [] := by
  intro p lc e s m args below meth c D ca ad0 A cx ad H locs ls dy hl
  exact W.widen h1 h2 (W.vret cx.1.1 cx.1.2.1 (cx.2.1.trans hr) (fun t ht _ => am_fin dy ht hq) (fun q hq => dy.2.2.2.2.2.2 q hq) hd (hlocks := cx.2.2.1))
theorem am_aret {a : Nat} {C : String} (hr : M.2.2.2 = some (.object C)) (h1 : g.2.1 ≤ X.2.1) (h2 : g.2.2 ≤ X.2.2.1) (hd : decode M.2.1 pc = .ok (.areturn, 1)) (hq : Q (some (.ref a)) h g.1) : am_OK M X Q g h pc l [.ref a] := by
  intro p lc e s m args below meth c D ca ad0 A cx ad H locs ls dy hl
  exact W.widen h1 h2 (W.aret cx.1.1 cx.1.2.1 (cx.2.1.trans hr) (Or.inl ⟨C, rfl⟩) (Or.inr ⟨_, rfl⟩) (fun t ht _ => am_fin dy ht hq) (fun q hq => dy.2.2.2.2.2.2 q hq) hd (hlocks := cx.2.2.1))
end AM3
end
section
/-! calls; a contract's start; what the tables say of all words -/
theorem am_F.kept {ad0 ad : Nat → Nat} {A B : Nat → Prop} {s U : State} {H0 H : Heap} (h : am_F ad0 A s H0) (hW : s.WarmedH U.vm) (h9 : ad 900 = ad0 900) (hq : ∀ a : Nat, a < H0.size → ¬ A a → H[a]? = H0[a]?) (hB : ∀ q, B q → A q) : am_F ad B U H := by
  obtain ⟨h1, h2, ⟨aV, h3⟩, h4, h5⟩ := h
  refine ⟨va_AO.moved hW.alike h1, by rw [h9]; exact h2.warm hW, ⟨aV, ?_⟩, ((h4.moved hW.alike).kept hq).narrow hB, fun q hq => (h5 q hq).warmM hW⟩
  rw [h9]
  exact ((h3.moved hW.alike).kept hq).narrow hB
theorem am_F.same {ad : Nat → Nat} {A : Nat → Prop} {u U : State} {H : Heap} (h : am_F ad A u H) (hv : U.vm = u.vm) : am_F ad A U H := by
  obtain ⟨h1, h2, ⟨aV, h3⟩, h4, h5⟩ := h
  have ha : u.vm.Alike U.vm := by rw [hv]; exact Vm.Alike.refl _
  exact ⟨va_AO.moved ha h1, h2.same hv, ⟨aV, h3.moved ha⟩, h4.moved ha, fun q hq => (h5 q hq).same rfl hv.symm⟩
theorem am_goodIn {M N : am_M} (h : Cond.code N.1 N.2.1 N.2.2.1 N.2.2.2 ∈ lw_tbl) : GoodIn (am_ws M) (am_ws N) := by
  intro w hw
  have hw' : w ∈ lw_tbl ∧ goodWord w = true := by
    rcases List.mem_cons.mp hw with e | e
    · rw [e]; exact ⟨h, rfl⟩
    · exact List.mem_filter.mp e
  exact ⟨am_tbl hw'.1 hw'.2, good_of_word hw'.2⟩
theorem am_args_cl (ad : Nat → Nat) : ∀ (as : List Value) (i : Nat), lv_args i (as.map (am_cv ad)) = am_cl ad (lv_args i as) := by
  intro as
  induction as with
  | nil => intro i; rfl
  | cons v t ih =>
    intro i
    show (i, am_cv ad v) :: lv_args (if (am_cv ad v).category = 2 then i + 2 else i + 1) (t.map (am_cv ad)) = _
    rw [ih, am_cv_cat]
    rfl
theorem am_sl_len (ad : Nat → Nat) (as : List Value) : (lg_sl (as.map (am_cv ad))).length = (lg_sl as).length := by
  induction as with
  | nil => rfl
  | cons v t ih =>
    simp only [lg_sl, List.map_cons, List.flatMap_cons, List.length_append, am_cv_cat] at ih ⊢
    rw [ih]
    split <;> rfl
theorem am_intro {M : am_M} {d mc ms : Nat} {Z : Nat → Prop} {al : List Nat} {as : List Value} {h : am_H} {Q : am_P} (hy : plainName M.1.cls = true) (hs : (lg_sl as).length ≤ M.2.2.1) (k : am_OK M (d, mc, ms, Z) Q (al, 0, 0) h 0 (lv_args 0 as) []) : am_C M d mc ms Z al as h Q := by
  intro lc D ca ad sz hn
  refine Met.ofW (cc := M.2.1) (maxL := M.2.2.1) (ret := M.2.2.2) hy rfl ?_
  intro p e s m args below meth c s₁ B hml hv
  obtain ⟨rfl, hsz, hP, hK, hD0, hF⟩ := hv
  have hts := atoms_spec (ws := am_ws M) B.pre
  have hown : s.vm.findClass M.1.cls = some m.cls := findClass_of_methodNamed B.named
  subst hsz
  have hD := hD0.self (sz := s.heap.size)
  have hl := lv_entry (as.map (am_cv ad)) (n := M.2.2.1) (by rw [am_sl_len]; exact hs)
  rw [lg_entry_eq]
  rw [am_args_cl] at hl
  exact k p lc e s m _ below meth c D ca ad _ ⟨⟨B.exec, B.bytes, hml, hown, hts⟩, B.returns, B.notSynchronized, hK, fun q h => Or.inr h, (name_of_methodNamed B.named B.method).1, hF⟩ ad _ [] _ ⟨hn, fun _ _ => rfl, hP, hD, va_S.rf⟩ hl
section AM4
variable {M : am_M} {X : am_X} {Q : am_P} {g : am_G} {h : am_H} {pc : Nat} {l : List (Nat × Value)} {st : List Value}
/-- what a caller needs of the callee's post: references on its stack and in its locals stay what they are -/
def am_keep (Z : Nat → Prop) (l : List (Nat × Value)) (st : List Value) : Prop := (∀ q ∈ l, ∀ k, q.2 = .ref k → Z k) ∧ ∀ v ∈ st, ∀ k, v = .ref k → Z k
theorem am_cv_keep {ad ad' : Nat → Nat} {Z : Nat → Prop} (ha : am_ag Z ad' ad) {v : Value} (hv : ∀ k, v = .ref k → Z k) : am_cv ad' v = am_cv ad v := by
  cases v with
  | ref k => simp only [am_cv, ha k (Or.inr (hv k rfl))]
  | _ => rfl
theorem am_inA {p : Program} {s : State} {m : MethodId} {args : Array Value} {meth : Method} {c : Code} {D : va_G} {ca : FieldType → ClassId} {ad0 : Nat → Nat} {A : Nat → Prop} (cx : am_CX M p s m args meth c D ca ad0 A) {ad : Nat → Nat} {H : Heap} {locs : List Loc} {Z : Nat → Prop} {al : List Nat} (dy : am_DY M s D ca ad0 Z A al h ad H locs) : ∀ q, va_A (am_wl ca ad al h) H.size q → A q := by
  intro q hq
  rcases hq with ⟨k, e, hq⟩ | hq
  · exact dy.2.2.2.1.2 k (q, e) hq
  · exact cx.2.2.2.2.1 q (Nat.le_trans dy.2.2.2.2.1 hq)
theorem am_FU {p : Program} {s U : State} {m : MethodId} {args : Array Value} {meth : Method} {c : Code} {D : va_G} {ca : FieldType → ClassId} {ad0 : Nat → Nat} {A : Nat → Prop} (cx : am_CX M p s m args meth c D ca ad0 A) {ad : Nat → Nat} {H : Heap} {locs : List Loc} {Z : Nat → Prop} {al : List Nat} (dy : am_DY M s D ca ad0 Z A al h ad H locs) (hU : U.heap = H) (hW : s.WarmedH U.vm) : am_F ad (va_A (am_wl ca ad al h) H.size) U U.heap :=
  am_F.kept cx.2.2.2.2.2.2 hW (dy.2.1 900 (Or.inl rfl)) (fun q h1 h2 => by rw [hU]; exact dy.2.2.2.2.2.1 q h1 h2) (am_inA cx dy)
theorem am_back {Z' : Nat → Prop} {mc' ms' : Nat} {st0 : List Value} {Q' : am_P} (hkeep : am_keep Z' l st) (hZ : ∀ k, X.2.2.2 k → Z' k)
    (k : ∀ (r : Option Value) (h' : am_H) (al' : List Nat), Q' r h' al' → am_OK M X Q (al', g.2.1 + mc', g.2.2 + ms') h' (pc + 3) l (r.toList ++ st))
    {p : Program} {lc : Launch} {e : Env} {s : State} {m : MethodId} {args : Array Value} {below : List Frame} {meth : Method} {c : Code} {D : va_G} {ca : FieldType → ClassId} {ad0 : Nat → Nat} {A : Nat → Prop} (cx : am_CX M p s m args meth c D ca ad0 A) {ad : Nat → Nat} {H : Heap} {locs : List Loc} {ls : Array Slot} {a : Array Value}
    (dy : am_DY M s D ca ad0 X.2.2.2 A g.1 h ad H locs) (hl : lv_has ls M.2.2.1 (am_cl ad l))
    (hr : va_Run p lc e (am_rm X.1 X.2.1 X.2.2.1) s m args below meth c H locs g.2.1 g.2.2 mc' ms' (F0 m pc ls st0) (st.map (am_cv ad)) (am_Qc D ca ad Z' (va_A (am_wl ca ad g.1 h) H.size) Q' a) (va_A (am_wl ca ad g.1 h) H.size)) :
    W p lc e (am_rm X.1 X.2.1 X.2.2.1) s m args below meth c H locs g.2.1 g.2.2 (MQ below (am_Qc D ca ad0 X.2.2.2 A Q) args s X.2.1 X.2.2.1 A) (F0 m pc ls st0) := by
  intro T hT XS
  obtain ⟨v, st₀, t, T', L, h0, X', hL, e1, e2, ⟨⟨r, h', al', ad', hv, hq, hnd, hag, hP', hD'⟩, hz, hk⟩, stp⟩ := hr T hT XS
  cases hv
  rw [h0] at hz hk
  have hF := am_inA cx dy
  have hcl : am_cl ad' l = am_cl ad l := by
    unfold am_cl
    apply List.map_congr_left
    intro q hq
    rw [am_cv_keep hag (hkeep.1 q hq)]
  have hst : st.map (am_cv ad') = st.map (am_cv ad) := List.map_congr_left fun v hv => am_cv_keep hag (hkeep.2 v hv)
  have hstk : (Option.map (am_cv ad') r).toList ++ st.map (am_cv ad) = (r.toList ++ st).map (am_cv ad') := by
    rw [← hst]
    cases r <;> rfl
  obtain ⟨t2, a1, b1⟩ := k r h' al' hq p lc e s m args below meth c D ca ad0 A cx ad' T'.heap (locs ++ L) ls
    ⟨hnd, fun k hk => (hag k (hk.imp_right (hZ k))).trans (dy.2.1 k hk), by rw [e1]; exact hP', hD'.weaken (fun k q _ hq => hF q.1 hq),
      ⟨Nat.le_trans dy.2.2.2.2.1 (by rw [e1]; exact hz), fun q h1 h2 => by rw [e1, hk q (Nat.lt_of_lt_of_le h1 dy.2.2.2.2.1) (fun z => h2 (hF q z))]; exact dy.2.2.2.2.2.1 q h1 h2, fun q hq => by
        rcases List.mem_append.mp hq with h | h
        · exact dy.2.2.2.2.2.2 q h
        · exact hF _ (hL q h)⟩⟩ (by rw [hcl]; exact hl) T' rfl X'
  rw [← hstk] at a1
  exact ⟨t2, stp t2 a1, b1⟩
theorem am_blind {D : va_G} {ca : FieldType → ClassId} {ad : Nat → Nat} {al : List Nat} {av : List Value} {sz : Nat} : FrameBlind (va_Pc av (fun U => U.heap.size = sz ∧ va_P D vwCl (am_wl ca ad al h) U.heap ∧ va_K D vwCl (am_TY ca) U ∧ va_D (fun _ => True) (am_wl ca ad al h) ∧ am_F ad (va_A (am_wl ca ad al h) sz) U U.heap)) :=
  fun a U g mk q => by obtain ⟨q0, q1, qP, qK, qD, qF⟩ := q; exact ⟨q0, q1, qP, va_K.moved (u := U) (U := U.calling g mk a) (Vm.Alike.refl U.vm) qK, qD, qF.same rfl⟩
/-- what a call's word list, its number of arguments, its room must be -/
def am_cwd (N : am_M) (n : Nat) : Prop := Cond.code N.1 N.2.1 N.2.2.1 N.2.2.2 ∈ lw_tbl ∧ Cond.initialized N.1.cls ∈ lw_tbl ∧ (N.1.cls ≠ "java/lang/invoke/MethodHandle" ∧ N.1.cls ≠ "java/lang/invoke/VarHandle" ∧ (parseMethodDescriptor N.1.desc).map (fun d => d.parameters.length) = some n) ∧ N.2.2.1 ≤ 20
theorem am_callB {N : am_M} {d' mc' ms' n index : Nat} (hw : am_cwd N n) (hlk : Cond.methodLink M.1.cls index N.1 ∈ lw_tbl) (hd : d' + 1 ≤ X.1)
    {p : Program} {s : State} {m : MethodId} {args : Array Value} {meth : Method} {c : Code} {D : va_G} {ca : FieldType → ClassId} {ad0 : Nat → Nat} {A : Nat → Prop} (cx : am_CX M p s m args meth c D ca ad0 A) :
    CallB (am_rm X.1 X.2.1 X.2.2.1) s args M.1.cls index N.1 N.2.1 N.2.2.1 N.2.2.2 (am_ws N) (am_rm d' mc' ms') mc' ms' n := by
  refine callB_of (Ts := am_ws M) n cx.1.2.2.2.2 (am_goodIn hw.1) rfl rfl rfl (cx.1.2.2.2.2 _ (am_tbl hw.2.1)) (cx.1.2.2.2.2 _ (am_tbl hlk)) hw.2.2.1 ⟨hd, ?_⟩
  show 8 + (N.2.2.1 + 11) + 40 * d' ≤ 40 * X.1
  have := hw.2.2.2
  omega
theorem am_invV {N : am_M} {Z' : Nat → Prop} {d' mc' ms' n index b ci : Nat} {C : String} {T : u_T} {NN : Nat} {as : List Value} {Q' : am_P} (hM : am_C N d' mc' ms' Z' g.1 (.ref b :: as) h Q') (hw : am_cwd N n) (hlk : Cond.methodLink M.1.cls index N.1 ∈ lw_tbl) (hin : Cond.instanceMethod N.1 ∈ lw_tbl) (hse : Cond.selects N.1.cls N.1 N.1 ∈ lw_tbl) (hcl : am_cls ci C T NN) (hC : N.1.cls = C) (hy : am_lay b = .inr ci) (hb : b ∈ g.1) (hn : as.length = n) (hd' : d' + 1 ≤ X.1) (hmc : g.2.1 + mc' ≤ X.2.1) (hms : g.2.2 + ms' ≤ X.2.2.1)
    (hst : (st.map fun v => v.category).sum ≤ 8) (hkeep : am_keep Z' l st) (hZ : ∀ k, X.2.2.2 k → Z' k) (hd : decode M.2.1 pc = .ok (.invokevirtual index, 3))
    (k : ∀ (r : Option Value) (h' : am_H) (al' : List Nat), Q' r h' al' → am_OK M X Q (al', g.2.1 + mc', g.2.2 + ms') h' (pc + 3) l (r.toList ++ st)) : am_OK M X Q g h pc l (as.reverse ++ .ref b :: st) := by
  intro p lc e s m args below meth c D ca ad0 A cx ad H locs ls dy hl
  obtain ⟨q0, hq, he⟩ := am_wl_at (ca := ca) (ad := ad) (h := h) hb
  rw [am_ce_o hy] at he
  have hts := cx.1.2.2.2.2
  refine am_back hkeep hZ k cx dy hl (va_runV (C := C) (b := ad b) (As := as.map (am_cv ad)) cx.1 (hM lc D ca ad H.size dy.1) ⟨am_callB hw hlk hd' cx, hts _ (am_tbl hin), hts _ (am_tbl (by rw [← hC]; exact hse))⟩ ⟨am_blind, va_recv cx.2.2.2.1 dy.2.2.1 hcl.1 he, fun U hU hW => ⟨by simp [am_cv], by rw [hU], by rw [hU]; exact dy.2.2.1, va_K.moved hW.alike cx.2.2.2.1, dy.2.2.2.1.weaken (fun _ _ _ _ => trivial), am_FU cx dy hU hW⟩⟩ rfl (by simp [hn]) hl.1 (by simp [am_cv]) (lv_room (by simpa [am_cv_cat, Function.comp_def] using hst)) hd ⟨hmc, hms⟩)
theorem am_invS {N : am_M} {Z' : Nat → Prop} {d' mc' ms' n index : Nat} {as : List Value} {Q' : am_P} (hM : am_C N d' mc' ms' Z' g.1 as h Q') (hw : am_cwd N n) (hlk : Cond.methodLink M.1.cls index N.1 ∈ lw_tbl) (hsta : Cond.static N.1 ∈ lw_tbl) (hn : as.length = n) (hd' : d' + 1 ≤ X.1) (hmc : g.2.1 + mc' ≤ X.2.1) (hms : g.2.2 + ms' ≤ X.2.2.1)
    (hst : (st.map fun v => v.category).sum ≤ 8) (hkeep : am_keep Z' l st) (hZ : ∀ k, X.2.2.2 k → Z' k) (hd : decode M.2.1 pc = .ok (.invokestatic index, 3))
    (k : ∀ (r : Option Value) (h' : am_H) (al' : List Nat), Q' r h' al' → am_OK M X Q (al', g.2.1 + mc', g.2.2 + ms') h' (pc + 3) l (r.toList ++ st)) : am_OK M X Q g h pc l (as.reverse ++ st) := by
  intro p lc e s m args below meth c D ca ad0 A cx ad H locs ls dy hl
  have hts := cx.1.2.2.2.2
  refine am_back hkeep hZ k cx dy hl (va_runS (As := as.map (am_cv ad)) cx.1 (hM lc D ca ad H.size dy.1) ⟨am_callB hw hlk hd' cx, hts _ (am_tbl hsta)⟩ ⟨am_blind, fun U hU hW => ⟨by simp, by rw [hU], by rw [hU]; exact dy.2.2.1, va_K.moved hW.alike cx.2.2.2.1, dy.2.2.2.1.weaken (fun _ _ _ _ => trivial), am_FU cx dy hU hW⟩⟩ rfl (by simp [hn]) hl.1 (by simp) (lv_room (by simpa [am_cv_cat, Function.comp_def] using hst)) hd ⟨hmc, hms⟩)
theorem am_invI {N : am_M} {Z' : Nat → Prop} {d' mc' ms' n index b : Nat} {as : List Value} {Q' : am_P} (hM : am_C N d' mc' ms' Z' g.1 (.ref b :: as) h Q') (hw : am_cwd N n) (hret : N.2.2.2 = none) (hlk : Cond.methodLink M.1.cls index N.1 ∈ lw_tbl) (hin : Cond.instanceMethod N.1 ∈ lw_tbl) (hy1 : N.1.name = "<init>") (hn : as.length = n) (hd' : d' + 1 ≤ X.1) (hmc : g.2.1 + mc' ≤ X.2.1) (hms : g.2.2 + ms' ≤ X.2.2.1)
    (hst : (st.map fun v => v.category).sum ≤ 8) (hkeep : am_keep Z' l st) (hZ : ∀ k, X.2.2.2 k → Z' k) (hd : decode M.2.1 pc = .ok (.invokespecial index, 3))
    (k : ∀ (r : Option Value) (h' : am_H) (al' : List Nat), Q' r h' al' → am_OK M X Q (al', g.2.1 + mc', g.2.2 + ms') h' (pc + 3) l (r.toList ++ st)) : am_OK M X Q g h pc l (as.reverse ++ .ref b :: st) := by
  intro p lc e s m args below meth c D ca ad0 A cx ad H locs ls dy hl
  have hts := cx.1.2.2.2.2
  have hB := am_callB (mc' := mc') (ms' := ms') hw hlk hd' cx
  rw [hret] at hB
  refine am_back hkeep hZ k cx dy hl (va_runI (b := ad b) (As := as.map (am_cv ad)) cx.1 (hM lc D ca ad H.size dy.1) ⟨hB, hy1, hts _ (am_tbl hin)⟩ ⟨am_blind, fun U hU hW => ⟨by simp [am_cv], by rw [hU], by rw [hU]; exact dy.2.2.1, va_K.moved hW.alike cx.2.2.2.1, dy.2.2.2.1.weaken (fun _ _ _ _ => trivial), am_FU cx dy hU hW⟩⟩ rfl (by simp [hn]) hl.1 (by simp [am_cv]) (lv_room (by simpa [am_cv_cat, Function.comp_def] using hst)) hd ⟨hmc, hms⟩)
end AM4
end
section
/-! what the fund's code asks of the JDK; objects and rows that are made -/
def am_cp {α : Type} (f : Nat → Nat → α) (dst src n : Nat) : Nat → Nat → α := fun a b => if a = dst then (if b < n then f src b else f dst b) else f a b
def am_z {α : Type} (z : α) (f : Nat → Nat → α) (k : Nat) : Nat → Nat → α := fun a b => if a = k then z else f a b
def am_nr (R : Nat → Nat → Option Nat) (k : Nat) : Prop := ∀ a j, R a j ≠ some k
theorem am_nr_u {R : Nat → Nat → Option Nat} {k a j b : Nat} (h : am_nr R k) (hb : b ≠ k) : am_nr (am_u R a j (some b)) k := by
  intro x y
  unfold am_u
  split
  · split
    · intro q; exact hb (Option.some.inj q)
    · exact h x y
  · exact h x y
theorem am_nr_z {R : Nat → Nat → Option Nat} {k a : Nat} (h : am_nr R k) : am_nr (am_z none R a) k := by
  intro x y
  unfold am_z
  split
  · intro q; cases q
  · exact h x y
theorem am_map_ne {o : Option Nat} {ad : Nat → Nat} {k q : Nat} (h : o ≠ some k) : o.map (fun j => if j = k then q else ad j) = o.map ad := by
  cases o with
  | none => rfl
  | some j => simp only [Option.map_some, if_neg (fun e => h (congrArg some e))]
theorem am_fv_ad {ad : Nat → Nat} {h : am_H} {k q a j : Nat} {ty : FieldType} (hR : am_nr h.2.2 k) : am_fv (fun j => if j = k then q else ad j) h a ty j = am_fv ad h a ty j := by
  unfold am_fv
  cases ty <;> simp only [am_map_ne (hR _ _)]
theorem am_ce_ad {ca : FieldType → ClassId} {ad : Nat → Nat} {h : am_H} {k q a : Nat} (hR : am_nr h.2.2 k) : am_ce ca (fun j => if j = k then q else ad j) h a = am_ce ca ad h a := by
  unfold am_ce
  cases am_lay a with
  | inl x =>
    obtain ⟨ty, n⟩ := x
    cases ty <;> simp only [am_ar, am_map_ne (hR _ _)]
  | inr ci => simp only [am_fv_ad hR]
theorem am_wl_ad {ca : FieldType → ClassId} {ad : Nat → Nat} {al : List Nat} {h h' : am_H} {k q : Nat} (hk : k ∉ al) (hR : am_nr h.2.2 k) (he : ∀ a, a ≠ k → am_ce ca (fun j => if j = k then q else ad j) h' a = am_ce ca (fun j => if j = k then q else ad j) h a) : am_wl ca (fun j => if j = k then q else ad j) al h' = am_wl ca ad al h := by
  unfold am_wl
  apply List.map_congr_left
  intro a ha
  have hak : a ≠ k := fun e => hk (e ▸ ha)
  simp only [he a hak, am_ce_ad hR, if_neg hak]
section AM5
variable {M : am_M} {X : am_X} {Q : am_P} {g : am_G} {h : am_H} {pc : Nat} {l : List (Nat × Value)} {st : List Value}
theorem am_objInit {a index : Nat} (hlk : Cond.methodLink M.1.cls index Lib.objectInit ∈ lw_tbl) (hin : Cond.instanceMethod Lib.objectInit ∈ lw_tbl) (hco : Cond.code Lib.objectInit ⟨#[0xb1]⟩ 1 none ∈ lw_tbl) (hst : (st.map fun v => v.category).sum ≤ 8) (hx : 1 ≤ X.1) (hd : decode M.2.1 pc = .ok (.invokespecial index, 3)) (k : am_OK M X Q g h (pc + 3) l st) : am_OK M X Q g h pc l (.ref a :: st) := by
  intro p lc e s m args below meth c D ca ad0 A cx ad H locs ls dy hl
  have hts := cx.1.2.2.2.2
  refine W.objInit cx.1.1 cx.1.2.1 cx.1.2.2.2.1 (hts _ (am_tbl hlk)) (hts _ (am_tbl hin)) (hts _ (am_tbl hco)) rfl (by rw [cx.1.2.2.1]; exact hl.1) rfl hd hx ?_ (k p lc e s m args below meth c D ca ad0 A cx ad H locs ls dy hl)
  have := lv_room (pc := pc) (m := m) (ls := ls) (rest := []) (st := st.map (am_cv ad)) (by simpa [am_cv_cat, Function.comp_def] using hst)
  show _ + 12 ≤ 40 * X.1
  simp [am_cv_cat, Function.comp_def, JFrame.monitorRoom] at this ⊢
  omega
theorem am_maxl {x y : Int64} {index : Nat} (hlk : Cond.methodLink M.1.cls index Lib.MathLoose.max_long.x ∈ lw_tbl) (hsta : Cond.static Lib.MathLoose.max_long.x ∈ lw_tbl) (hini : Cond.initialized "java/lang/Math" ∈ lw_tbl) (hco : Cond.code Lib.MathLoose.max_long.x Lib.MathLoose.max_long.code 4 (some .long) ∈ lw_tbl) (hst : (st.map fun v => v.category).sum ≤ 8) (hx : 1 ≤ X.1) (h1 : g.2.1 ≤ X.2.1) (h2 : g.2.2 ≤ X.2.2.1) (hd : decode M.2.1 pc = .ok (.invokestatic index, 3)) (k : am_OK M X Q g h (pc + 3) l (.long (if y < x then x else y) :: st)) : am_OK M X Q g h pc l (.long y :: .long x :: st) := by
  intro p lc e s m args below meth c D ca ad0 A cx ad H locs ls dy hl
  have hts := cx.1.2.2.2.2
  refine va_mmax_long cx.1.1 cx.1.2.1 (by rw [cx.1.2.2.1]; exact hl.1.symm) cx.1.2.2.2.1 (hts _ (am_tbl hlk)) (hts _ (am_tbl hsta)) (hts _ (am_tbl hini)) (hts _ (am_tbl hco)) hx ?_ h1 h2 hd (k p lc e s m args below meth c D ca ad0 A cx ad H locs ls dy hl)
  show _ + 15 ≤ 40 * X.1
  simp [am_cv_cat, Function.comp_def] at hst ⊢
  omega
theorem am_minl {x y : Int64} {index : Nat} (hlk : Cond.methodLink M.1.cls index Lib.MathLoose.min_long.x ∈ lw_tbl) (hsta : Cond.static Lib.MathLoose.min_long.x ∈ lw_tbl) (hini : Cond.initialized "java/lang/Math" ∈ lw_tbl) (hco : Cond.code Lib.MathLoose.min_long.x Lib.MathLoose.min_long.code 4 (some .long) ∈ lw_tbl) (hst : (st.map fun v => v.category).sum ≤ 8) (hx : 1 ≤ X.1) (h1 : g.2.1 ≤ X.2.1) (h2 : g.2.2 ≤ X.2.2.1) (hd : decode M.2.1 pc = .ok (.invokestatic index, 3)) (k : am_OK M X Q g h (pc + 3) l (.long (if y < x then y else x) :: st)) : am_OK M X Q g h pc l (.long y :: .long x :: st) := by
  intro p lc e s m args below meth c D ca ad0 A cx ad H locs ls dy hl
  have hts := cx.1.2.2.2.2
  refine va_mmin_long cx.1.1 cx.1.2.1 (by rw [cx.1.2.2.1]; exact hl.1.symm) cx.1.2.2.2.1 (hts _ (am_tbl hlk)) (hts _ (am_tbl hsta)) (hts _ (am_tbl hini)) (hts _ (am_tbl hco)) hx ?_ h1 h2 hd (k p lc e s m args below meth c D ca ad0 A cx ad H locs ls dy hl)
  show _ + 15 ≤ 40 * X.1
  simp [am_cv_cat, Function.comp_def] at hst ⊢
  omega
theorem am_copyi {I : Nat → Nat → Int32} {L : Nat → Nat → Int64} {R : Nat → Nat → Option Nat} {src dst n index : Nat} {N : Int32} (hs : am_lay src = .inl (.int, n)) (hds : am_lay dst = .inl (.int, n)) (ha : src ∈ g.1) (hb : dst ∈ g.1) (hN : ¬ N < 0) (hn : N.toNatClampNeg = n) (hlk : Cond.methodLink M.1.cls index arraycopyName ∈ lw_tbl) (hnat : Cond.native arraycopyName ∈ lw_tbl) (hsta : Cond.static arraycopyName ∈ lw_tbl) (hini : Cond.initialized "java/lang/System" ∈ lw_tbl) (hst : (st.map fun v => v.category).sum ≤ 8) (hx : 1 ≤ X.1) (hd : decode M.2.1 pc = .ok (.invokestatic index, 3))
    (k : am_OK M X Q g (am_cp I dst src n, L, R) (pc + 3) l st) : am_OK M X Q g (I, L, R) pc l (.int N :: .int 0 :: .ref dst :: .int 0 :: .ref src :: st) := by
  intro p lc e s m args below meth c D ca ad0 A cx ad H locs ls dy hl
  have hts := cx.1.2.2.2.2
  subst hn
  obtain ⟨q0, hq0, he0⟩ := am_wl_at (ca := ca) (ad := ad) (h := (I, L, R)) ha
  obtain ⟨q1, hq1, he1⟩ := am_wl_at (ca := ca) (ad := ad) (h := (I, L, R)) hb
  rw [am_ce_a hs] at he0
  rw [am_ce_a hds] at he1
  refine va_copyi cx.1.1 cx.1.2.1 (by rw [cx.1.2.2.1]; exact hl.1.symm) cx.1.2.2.2.1 (hts _ (am_tbl hlk)) (hts _ (am_tbl hnat)) (hts _ (am_tbl hsta)) (hts _ (am_tbl hini)) cx.2.2.2.1 dy.2.2.1 dy.2.2.2.1 dy.2.2.2.2 q0 q1 0 0 he0 he1 rfl rfl rfl (by decide) (by decide) hN (by rw [show (0 : Int32).toNatClampNeg = 0 from rfl]; omega) (by rw [show (0 : Int32).toNatClampNeg = 0 from rfl]; omega) (fun _ _ => rfl) hx ?_ hd (fun H1 locs1 hP1 hD1 hS1 => ?_)
  · show _ + _ ≤ 40 * X.1
    simp [am_cv_cat, Function.comp_def] at hst ⊢
    have h20 : nativeFrameWords "java/lang/System" "arraycopy" 5 + 11 ≤ 30 := by decide +kernel
    omega
  · have he : ∀ k, k ≠ dst → am_ce ca ad (am_cp I dst src N.toNatClampNeg, L, R) k = am_ce ca ad (I, L, R) k := fun k hk => am_ce_same fun i => ⟨by simp [am_cp, hk], rfl, rfl⟩
    have hx : ((N.toNatClampNeg, .inl (va_cpy (I src) (I dst) (0 : Int32).toNatClampNeg (0 : Int32).toNatClampNeg N.toNatClampNeg)) : vp_A) = am_ar ad (am_cp I dst src N.toNatClampNeg, L, R) dst .int N.toNatClampNeg := by
      simp only [am_ar, Prod.mk.injEq, true_and, Sum.inl.injEq]
      funext b
      simp [va_cpy, am_cp]
    have hset := am_arr_set (ca := ca) (ad := ad) (h := (I, L, R)) hds dy.1 hq1 he hx
    have hP2 := hset ▸ hP1
    have hD2 := hset ▸ hD1
    exact k p lc e s m args below meth c D ca ad0 A cx ad H1 locs1 ls ⟨dy.1, dy.2.1, hP2, hD2, hS1⟩ hl
theorem am_copyl {I : Nat → Nat → Int32} {L : Nat → Nat → Int64} {R : Nat → Nat → Option Nat} {src dst n index : Nat} {N : Int32} (hs : am_lay src = .inl (.long, n)) (hds : am_lay dst = .inl (.long, n)) (ha : src ∈ g.1) (hb : dst ∈ g.1) (hN : ¬ N < 0) (hn : N.toNatClampNeg = n) (hlk : Cond.methodLink M.1.cls index arraycopyName ∈ lw_tbl) (hnat : Cond.native arraycopyName ∈ lw_tbl) (hsta : Cond.static arraycopyName ∈ lw_tbl) (hini : Cond.initialized "java/lang/System" ∈ lw_tbl) (hst : (st.map fun v => v.category).sum ≤ 8) (hx : 1 ≤ X.1) (hd : decode M.2.1 pc = .ok (.invokestatic index, 3))
    (k : am_OK M X Q g (I, am_cp L dst src n, R) (pc + 3) l st) : am_OK M X Q g (I, L, R) pc l (.int N :: .int 0 :: .ref dst :: .int 0 :: .ref src :: st) := by
  intro p lc e s m args below meth c D ca ad0 A cx ad H locs ls dy hl
  have hts := cx.1.2.2.2.2
  subst hn
  obtain ⟨q0, hq0, he0⟩ := am_wl_at (ca := ca) (ad := ad) (h := (I, L, R)) ha
  obtain ⟨q1, hq1, he1⟩ := am_wl_at (ca := ca) (ad := ad) (h := (I, L, R)) hb
  rw [am_ce_a hs] at he0
  rw [am_ce_a hds] at he1
  refine va_copyl cx.1.1 cx.1.2.1 (by rw [cx.1.2.2.1]; exact hl.1.symm) cx.1.2.2.2.1 (hts _ (am_tbl hlk)) (hts _ (am_tbl hnat)) (hts _ (am_tbl hsta)) (hts _ (am_tbl hini)) cx.2.2.2.1 dy.2.2.1 dy.2.2.2.1 dy.2.2.2.2 q0 q1 1 1 he0 he1 rfl rfl rfl (by decide) (by decide) hN (by rw [show (0 : Int32).toNatClampNeg = 0 from rfl]; omega) (by rw [show (0 : Int32).toNatClampNeg = 0 from rfl]; omega) (fun _ _ => rfl) hx ?_ hd (fun H1 locs1 hP1 hD1 hS1 => ?_)
  · show _ + _ ≤ 40 * X.1
    simp [am_cv_cat, Function.comp_def] at hst ⊢
    have h20 : nativeFrameWords "java/lang/System" "arraycopy" 5 + 11 ≤ 30 := by decide +kernel
    omega
  · have he : ∀ k, k ≠ dst → am_ce ca ad (I, am_cp L dst src N.toNatClampNeg, R) k = am_ce ca ad (I, L, R) k := fun k hk => am_ce_same fun i => ⟨rfl, by simp [am_cp, hk], rfl⟩
    have hx : ((N.toNatClampNeg, .inr (.inl (va_cpy (L src) (L dst) (0 : Int32).toNatClampNeg (0 : Int32).toNatClampNeg N.toNatClampNeg))) : vp_A) = am_ar ad (I, am_cp L dst src N.toNatClampNeg, R) dst .long N.toNatClampNeg := by
      simp only [am_ar, Prod.mk.injEq, true_and, Sum.inl.injEq, Sum.inr.injEq]
      funext b
      simp [va_cpy, am_cp]
    have hset := am_arr_set (ca := ca) (ad := ad) (h := (I, L, R)) hds dy.1 hq1 he hx
    have hP2 := hset ▸ hP1
    have hD2 := hset ▸ hD1
    exact k p lc e s m args below meth c D ca ad0 A cx ad H1 locs1 ls ⟨dy.1, dy.2.1, hP2, hD2, hS1⟩ hl
end AM5
end
section
section AM6
variable {M : am_M} {X : am_X} {Q : am_P} {g : am_G} {h : am_H} {pc : Nat} {l : List (Nat × Value)} {st : List Value}
theorem am_callN {N : am_M} {d' mc' ms' n index : Nat} {host : String} (hw : am_cwd N n) (hlk : (M.1.cls, index, N.1, host) ∈ am_nest) (hd : d' + 1 ≤ X.1)
    {p : Program} {s : State} {m : MethodId} {args : Array Value} {meth : Method} {c : Code} {D : va_G} {ca : FieldType → ClassId} {ad0 : Nat → Nat} {A : Nat → Prop} (cx : am_CX M p s m args meth c D ca ad0 A) :
    va_CN (am_rm X.1 X.2.1 X.2.2.1) s args M.1.cls index N.1 host N.2.1 N.2.2.1 N.2.2.2 (am_ws N) (am_rm d' mc' ms') mc' ms' n := by
  refine va_cnB (Ts := am_ws M) n cx.1.2.2.2.2 (am_goodIn hw.1) rfl rfl rfl (cx.2.2.2.2.2.2.2.2.2.2 _ hlk) (cx.1.2.2.2.2 _ (am_tbl hw.2.1)) hw.2.2.1 ⟨hd, ?_⟩
  show 8 + (N.2.2.1 + 11) + 40 * d' ≤ 40 * X.1
  have := hw.2.2.2
  omega
theorem am_invSN {N : am_M} {Z' : Nat → Prop} {d' mc' ms' n index : Nat} {host : String} {as : List Value} {Q' : am_P} (hM : am_C N d' mc' ms' Z' g.1 as h Q') (hw : am_cwd N n) (hlk : (M.1.cls, index, N.1, host) ∈ am_nest) (hsta : Cond.static N.1 ∈ lw_tbl) (hn : as.length = n) (hd' : d' + 1 ≤ X.1) (hmc : g.2.1 + mc' ≤ X.2.1) (hms : g.2.2 + ms' ≤ X.2.2.1)
    (hst : (st.map fun v => v.category).sum ≤ 8) (hkeep : am_keep Z' l st) (hZ : ∀ k, X.2.2.2 k → Z' k) (hd : decode M.2.1 pc = .ok (.invokestatic index, 3))
    (k : ∀ (r : Option Value) (h' : am_H) (al' : List Nat), Q' r h' al' → am_OK M X Q (al', g.2.1 + mc', g.2.2 + ms') h' (pc + 3) l (r.toList ++ st)) : am_OK M X Q g h pc l (as.reverse ++ st) := by
  intro p lc e s m args below meth c D ca ad0 A cx ad H locs ls dy hl
  have hts := cx.1.2.2.2.2
  refine am_back hkeep hZ k cx dy hl (va_runSN (As := as.map (am_cv ad)) cx.1 (hM lc D ca ad H.size dy.1) ⟨am_callN hw hlk hd' cx, hts _ (am_tbl hsta), trivial⟩ ⟨am_blind, fun U hU hW => ⟨by simp, by rw [hU], by rw [hU]; exact dy.2.2.1, va_K.moved hW.alike cx.2.2.2.1, dy.2.2.2.1.weaken (fun _ _ _ _ => trivial), am_FU cx dy hU hW⟩⟩ rfl (by simp [hn]) hl.1 (by simp) (lv_room (by simpa [am_cv_cat, Function.comp_def] using hst)) hd ⟨hmc, hms⟩)
theorem am_invIN {N : am_M} {Z' : Nat → Prop} {d' mc' ms' n index b : Nat} {host : String} {as : List Value} {Q' : am_P} (hM : am_C N d' mc' ms' Z' g.1 (.ref b :: as) h Q') (hw : am_cwd N n) (hret : N.2.2.2 = none) (hlk : (M.1.cls, index, N.1, host) ∈ am_nest) (hin : Cond.instanceMethod N.1 ∈ lw_tbl) (hy1 : N.1.name = "<init>") (hn : as.length = n) (hd' : d' + 1 ≤ X.1) (hmc : g.2.1 + mc' ≤ X.2.1) (hms : g.2.2 + ms' ≤ X.2.2.1)
    (hst : (st.map fun v => v.category).sum ≤ 8) (hkeep : am_keep Z' l st) (hZ : ∀ k, X.2.2.2 k → Z' k) (hd : decode M.2.1 pc = .ok (.invokespecial index, 3))
    (k : ∀ (r : Option Value) (h' : am_H) (al' : List Nat), Q' r h' al' → am_OK M X Q (al', g.2.1 + mc', g.2.2 + ms') h' (pc + 3) l (r.toList ++ st)) : am_OK M X Q g h pc l (as.reverse ++ .ref b :: st) := by
  intro p lc e s m args below meth c D ca ad0 A cx ad H locs ls dy hl
  have hts := cx.1.2.2.2.2
  have hB := am_callN (mc' := mc') (ms' := ms') hw hlk hd' cx
  rw [hret] at hB
  refine am_back hkeep hZ k cx dy hl (va_runIN (b := ad b) (As := as.map (am_cv ad)) cx.1 (hM lc D ca ad H.size dy.1) ⟨hB, hy1, hts _ (am_tbl hin)⟩ ⟨am_blind, fun U hU hW => ⟨by simp [am_cv], by rw [hU], by rw [hU]; exact dy.2.2.1, va_K.moved hW.alike cx.2.2.2.1, dy.2.2.2.1.weaken (fun _ _ _ _ => trivial), am_FU cx dy hU hW⟩⟩ rfl (by simp [hn]) hl.1 (by simp [am_cv]) (lv_room (by simpa [am_cv_cat, Function.comp_def] using hst)) hd ⟨hmc, hms⟩)
theorem am_putF {h' : am_H} {a ci j index : Nat} {C : String} {T : u_T} {N : Nat} {w : Value} (hc : am_cls ci C T N) (hy : am_lay a = .inr ci) (ha : a ∈ g.1) (hj : j < N) (hb : am_but h h' a j) (hw : ∀ ad, am_fv ad h' a (am_ty ci j) j = am_cv ad w) (hfin : (T j).2.2.2 = true) (hni : M.1.name = "<init>") (hdecl : (T j).1 = M.1.cls) (hfit : ∀ ad, narrow (am_ty ci j) (am_cv ad w) = am_cv ad w ∧ fits (am_ty ci j) (am_cv ad w) = true) (hlk : Cond.fieldLink M.1.cls index (T j).1 (T j).2.1 (T j).2.2.1 ∈ lw_tbl) (hd : decode M.2.1 pc = .ok (.putfield index, 3)) (k : am_OK M X Q g h' (pc + 3) l st) : am_OK M X Q g h pc l (w :: .ref a :: st) := by
  intro p lc e s m args below meth c D ca ad0 A cx ad H locs ls dy hl
  obtain ⟨q0, hq, he⟩ := am_wl_at (ca := ca) (ad := ad) (h := h) ha
  rw [am_ce_o hy, hc.2.1] at he
  refine va_putF (D := D) cx.1.1 cx.1.2.1 (Ts := am_ws M) cx.1.2.2.2.2 (fun w hw => am_tbl (hc.2.2.2.2 w hw) (am_uws hw)) (am_ty ci) hc.2.2.1 hc.2.2.2.1 cx.1.2.2.2.1 cx.2.2.2.1 dy.2.2.1 dy.2.2.2.1 dy.2.2.2.2 q0 he hc.1 j hj (cx.1.2.2.2.2 _ (am_tbl hlk)) (fun _ h9 => h9) hfin (cx.2.2.2.2.2.1.trans hni) hdecl (hc.2.2.1 j hj) (hfit ad).1 (hfit ad).2 (by simpa using hj) hd (fun H1 locs1 hP1 hD1 hS1 => ?_)
  have hset : (am_wl ca ad g.1 h).set q0 (ad a, .inr (ci, ((List.range N).map fun i => am_fv ad h a (am_ty ci i) i).set j (am_cv ad w))) = am_wl ca ad g.1 h' := by
    rw [am_fs_set hb (hw ad), ← hc.2.1, ← am_ce_o hy]
    exact am_wl_set dy.1 hq (am_but_ce hb)
  rw [hset] at hP1 hD1
  exact k p lc e s m args below meth c D ca ad0 A cx ad H1 locs1 ls ⟨dy.1, dy.2.1, hP1, hD1, hS1⟩ hl
/-- references on the stack and in the locals are other places than k -/
def am_nor (k : Nat) (l : List (Nat × Value)) (st : List Value) : Prop := (∀ q ∈ l, q.2 ≠ .ref k) ∧ ∀ v ∈ st, v ≠ .ref k
theorem am_cv_ad {ad : Nat → Nat} {k q : Nat} {v : Value} (hv : v ≠ .ref k) : am_cv (fun j => if j = k then q else ad j) v = am_cv ad v := by
  cases v with
  | ref a => simp only [am_cv, if_neg (fun e => hv (congrArg Value.ref e))]
  | _ => rfl
theorem am_dy_new {s : State} {D : va_G} {ca : FieldType → ClassId} {ad0 : Nat → Nat} {Z : Nat → Prop} {A : Nat → Prop} {al : List Nat} {h h' : am_H} {ad : Nat → Nat} {H H1 : Heap} {locs : List Loc} {k q : Nat} (dy : am_DY M s D ca ad0 Z A al h ad H locs) (hk : k ∉ al) (hk9 : k ≠ 900) (hZ : ¬ Z k) (hw : am_wl ca (fun j => if j = k then q else ad j) (al ++ [k]) h' = am_wl ca ad al h ++ [(q, am_ce ca (fun j => if j = k then q else ad j) h' k)]) (hP : va_P D vwCl (am_wl ca ad al h ++ [(q, am_ce ca (fun j => if j = k then q else ad j) h' k)]) H1) (hD : va_D A (am_wl ca ad al h ++ [(q, am_ce ca (fun j => if j = k then q else ad j) h' k)])) (hS : va_S A s.heap H1 locs) : am_DY M s D ca ad0 Z A (al ++ [k]) h' (fun j => if j = k then q else ad j) H1 locs := by
  refine ⟨?_, fun j hj => ?_, by rw [hw]; exact hP, by rw [hw]; exact hD, hS⟩
  · rw [List.nodup_append]
    refine ⟨dy.1, by simp, fun a ha b hb => ?_⟩
    rw [List.mem_singleton] at hb
    subst hb
    exact fun e => hk (e ▸ ha)
  · have hjk : j ≠ k := by
      rintro rfl
      rcases hj with e | e
      · exact hk9 e
      · exact hZ e
    simp only [if_neg hjk]
    exact dy.2.1 j hj
theorem am_cl_ad {ad : Nat → Nat} {k q : Nat} {l : List (Nat × Value)} (hl : ∀ q ∈ l, q.2 ≠ .ref k) : am_cl (fun j => if j = k then q else ad j) l = am_cl ad l := by
  unfold am_cl
  apply List.map_congr_left
  intro x hx
  rw [am_cv_ad (hl x hx)]
theorem am_st_ad {ad : Nat → Nat} {k q : Nat} {st : List Value} (hl : ∀ v ∈ st, v ≠ .ref k) : st.map (am_cv (fun j => if j = k then q else ad j)) = st.map (am_cv ad) := List.map_congr_left fun v hv => am_cv_ad (hl v hv)
theorem am_wl_push {ca : FieldType → ClassId} {ad : Nat → Nat} {al : List Nat} {h h' : am_H} {k q : Nat} (hk : k ∉ al) (hR : am_nr h.2.2 k) (hs : ∀ a, a ≠ k → ∀ i, h'.1 a i = h.1 a i ∧ h'.2.1 a i = h.2.1 a i ∧ h'.2.2 a i = h.2.2 a i) : am_wl ca (fun j => if j = k then q else ad j) (al ++ [k]) h' = am_wl ca ad al h ++ [(q, am_ce ca (fun j => if j = k then q else ad j) h' k)] := by
  have h1 := am_wl_ad (ca := ca) (ad := ad) (q := q) (h' := h') hk hR (fun a ha => am_ce_same (hs a ha))
  rw [← h1]
  simp [am_wl]
theorem am_z_same {I : Nat → Nat → Int32} {L : Nat → Nat → Int64} {R : Nat → Nat → Option Nat} {k : Nat} : ∀ a, a ≠ k → ∀ i, ((am_z 0 I k, am_z 0 L k, am_z none R k) : am_H).1 a i = ((I, L, R) : am_H).1 a i ∧ ((am_z 0 I k, am_z 0 L k, am_z none R k) : am_H).2.1 a i = ((I, L, R) : am_H).2.1 a i ∧ ((am_z 0 I k, am_z 0 L k, am_z none R k) : am_H).2.2 a i = ((I, L, R) : am_H).2.2 a i :=
  fun a ha i => ⟨by simp [am_z, ha], by simp [am_z, ha], by simp [am_z, ha]⟩
theorem am_new {I : Nat → Nat → Int32} {L : Nat → Nat → Int64} {R : Nat → Nat → Option Nat} (k : Nat) {ci index : Nat} {C : String} {T : u_T} {N : Nat} (hc : am_cls ci C T N) (hy : am_lay k = .inr ci) (hk : k ∉ g.1) (hk9 : k ≠ 900) (hZ : ¬ X.2.2.2 k) (hR : am_nr R k) (hno : am_nor k l st) (hty : ∀ j, j < N → am_ty ci j ≠ .float ∧ am_ty ci j ≠ .double)
    (hcl : Cond.classLink M.1.cls index C ∈ lw_tbl) (hinst : Cond.instantiable C N ∈ lw_tbl) (hini : Cond.initialized C ∈ lw_tbl) (h1 : g.2.1 + 1 ≤ X.2.1) (h2 : g.2.2 + N ≤ X.2.2.1) (hd : decode M.2.1 pc = .ok (.new index, 3))
    (kk : am_OK M X Q (g.1 ++ [k], g.2.1 + 1, g.2.2 + N) (am_z 0 I k, am_z 0 L k, am_z none R k) (pc + 3) l (.ref k :: st)) : am_OK M X Q g (I, L, R) pc l st := by
  intro p lc e s m args below meth c D ca ad0 A cx ad H locs ls dy hl
  have hts := cx.1.2.2.2.2
  refine va_new (fs := (List.range N).map fun j => am_fv ad (am_z 0 I k, am_z 0 L k, am_z none R k) k (am_ty ci j) j) cx.1.1 cx.1.2.1 hts (fun w hw => am_tbl (hc.2.2.2.2 w hw) (am_uws hw)) (am_ty ci) hc.2.2.1 cx.1.2.2.2.1 (hts _ (am_tbl hcl)) (hts _ (am_tbl hinst)) (hts _ (am_tbl hini)) cx.2.2.2.1 dy.2.2.1 dy.2.2.2.1 dy.2.2.2.2 cx.2.2.2.2.1 hc.1 (fun j hj => ?_) h1 h2 hd (fun q H1 hP hD hS => ?_)
  · have hz : vp_V ((List.range N).map fun j => am_fv ad (am_z 0 I k, am_z 0 L k, am_z none R k) k (am_ty ci j) j) j = am_fv ad (am_z 0 I k, am_z 0 L k, am_z none R k) k (am_ty ci j) j := by
      simp [vp_V, List.getD, List.getElem?_map, List.getElem?_range hj]
    rw [hz]
    have := hty j hj
    revert this
    cases am_ty ci j <;> intro this <;> simp_all [am_fv, am_z, defaultValue, va_rf]
  · have hce : am_ce ca (fun j => if j = k then q else ad j) (am_z 0 I k, am_z 0 L k, am_z none R k) k = .inr (ci, (List.range N).map fun j => am_fv ad (am_z 0 I k, am_z 0 L k, am_z none R k) k (am_ty ci j) j) := by
      rw [am_ce_o hy, hc.2.1]
      simp only [am_fv_ad (h := (am_z 0 I k, am_z 0 L k, am_z none R k)) (am_nr_z hR)]
    have hw := am_wl_push (ca := ca) (ad := ad) (q := q) hk (h := (I, L, R)) hR am_z_same
    have hdy := am_dy_new (h := (I, L, R)) (h' := (am_z 0 I k, am_z 0 L k, am_z none R k)) (q := q) dy hk hk9 hZ hw (by rw [hce]; exact hP) (by rw [hce]; exact hD) hS
    have hkk := kk p lc e s m args below meth c D ca ad0 A cx _ H1 locs ls hdy (by rw [am_cl_ad hno.1]; exact hl)
    rw [List.map_cons, am_st_ad hno.2] at hkk
    simpa [am_cv] using hkk
theorem am_newa {I : Nat → Nat → Int32} {L : Nat → Nat → Int64} {R : Nat → Nat → Option Nat} (k : Nat) {t0 n : Nat} {ty : FieldType} {aty : ArrayType} {x : Int32} (hy : am_lay k = .inl (ty, n)) (hat : newarray.typeOf aty = ty) (ht0 : ∀ ca : FieldType → ClassId, (am_TY ca)[t0]? = some (ca ty, ty)) (hpr : ty = .int ∨ ty = .long ∨ ty = .boolean) (hk : k ∉ g.1) (hk9 : k ≠ 900) (hZ : ¬ X.2.2.2 k) (hR : am_nr R k) (hno : am_nor k l st) (hx : ¬ x < 0) (hxn : x.toNatClampNeg = n) (hb : n * componentBytes ty ≤ 536870912)
    (harr : Cond.arrayClass ty ∈ lw_tbl) (h1 : g.2.1 + 1 ≤ X.2.1) (h2 : g.2.2 + n ≤ X.2.2.1) (hd : decode M.2.1 pc = .ok (.newarray aty, 2))
    (kk : am_OK M X Q (g.1 ++ [k], g.2.1 + 1, g.2.2 + n) (am_z 0 I k, am_z 0 L k, am_z none R k) (pc + 2) l (.ref k :: st)) : am_OK M X Q g (I, L, R) pc l (.int x :: st) := by
  intro p lc e s m args below meth c D ca ad0 A cx ad H locs ls dy hl
  have hts := cx.1.2.2.2.2
  refine va_newa (a0 := am_ar ad (am_z 0 I k, am_z 0 L k, am_z none R k) k ty n) cx.1.1 cx.1.2.1 (by rw [hat]; exact hts _ (am_tbl harr)) hat cx.2.2.2.1 dy.2.2.1 dy.2.2.2.1 dy.2.2.2.2 cx.2.2.2.2.1 (fun cA => ?_) hx hxn hb h1 h2 hd (fun q cA H1 hK hP hD hS => ?_)
  · rcases hpr with rfl | rfl | rfl <;> simp [am_ar, vp_cell, am_z, defaultValue]
  · have hcA : cA = ca ty := by
      have e1 := (hK.2 4 (cA, ty) rfl).2
      have e2 := (cx.2.2.2.1.2 t0 _ (ht0 ca)).2
      rcases hpr with rfl | rfl | rfl <;> exact Option.some.inj (e1.symm.trans e2)
    have hce : am_ce ca (fun j => if j = k then q else ad j) (am_z 0 I k, am_z 0 L k, am_z none R k) k = .inl (cA, am_ar ad (am_z 0 I k, am_z 0 L k, am_z none R k) k ty n) := by
      rw [am_ce_a hy, hcA]
      rcases hpr with rfl | rfl | rfl <;> rfl
    have hw := am_wl_push (ca := ca) (ad := ad) (q := q) hk (h := (I, L, R)) hR am_z_same
    have hdy := am_dy_new (h := (I, L, R)) (h' := (am_z 0 I k, am_z 0 L k, am_z none R k)) (q := q) dy hk hk9 hZ hw (by rw [hce]; exact hP) (by rw [hce]; exact hD) hS
    have hkk := kk p lc e s m args below meth c D ca ad0 A cx _ H1 locs ls hdy (by rw [am_cl_ad hno.1]; exact hl)
    rw [List.map_cons, am_st_ad hno.2] at hkk
    simpa [am_cv] using hkk
theorem am_newq {I : Nat → Nat → Int32} {L : Nat → Nat → Int64} {R : Nat → Nat → Option Nat} (k : Nat) {n index : Nat} {x : Int32} (hy : am_lay k = .inl (.object RX10, n)) (hk : k ∉ g.1) (hk9 : k ≠ 900) (hZ : ¬ X.2.2.2 k) (hR : am_nr R k) (hno : am_nor k l st) (hx : ¬ x < 0) (hxn : x.toNatClampNeg = n) (hb : n * 4 ≤ 536870912)
    (hcl : Cond.classLink M.1.cls index RX10 ∈ lw_tbl) (h1 : g.2.1 + 1 ≤ X.2.1) (h2 : g.2.2 + n ≤ X.2.2.1) (hd : decode M.2.1 pc = .ok (.anewarray index, 3))
    (kk : am_OK M X Q (g.1 ++ [k], g.2.1 + 1, g.2.2 + n) (am_z 0 I k, am_z 0 L k, am_z none R k) (pc + 3) l (.ref k :: st)) : am_OK M X Q g (I, L, R) pc l (.int x :: st) := by
  intro p lc e s m args below meth c D ca ad0 A cx ad H locs ls dy hl
  have hts := cx.1.2.2.2.2
  refine va_newq cx.1.1 cx.1.2.1 cx.1.2.2.2.1 (hts _ (am_tbl hcl)) cx.2.2.2.2.2.2.1 cx.2.2.2.1 dy.2.2.1 dy.2.2.2.1 dy.2.2.2.2 cx.2.2.2.2.1 hx hxn hb h1 h2 hd (fun q cA H1 hK hP hD hS => ?_)
  have hcA : cA = ca (.object RX10) := by
    obtain ⟨k1, c1, _, _, _, e1⟩ := (hK.2 4 (cA, .object RX10) rfl).2
    obtain ⟨k2, c2, _, _, _, e2⟩ := (cx.2.2.2.1.2 3 (ca (.object RX10), .object RX10) rfl).2
    exact Option.some.inj (e1.symm.trans e2)
  have hce : am_ce ca (fun j => if j = k then q else ad j) (am_z 0 I k, am_z 0 L k, am_z none R k) k = .inl (cA, n, .inr (.inr (.inr (.inr (fun _ => none))))) := by
    rw [am_ce_a hy, hcA]
    simp [am_ar, am_z]
  have hw := am_wl_push (ca := ca) (ad := ad) (q := q) hk (h := (I, L, R)) hR am_z_same
  have hdy := am_dy_new (h := (I, L, R)) (h' := (am_z 0 I k, am_z 0 L k, am_z none R k)) (q := q) dy hk hk9 hZ hw (by rw [hce]; exact hP) (by rw [hce]; exact hD) hS
  have hkk := kk p lc e s m args below meth c D ca ad0 A cx _ H1 locs ls hdy (by rw [am_cl_ad hno.1]; exact hl)
  rw [List.map_cons, am_st_ad hno.2] at hkk
  simpa [am_cv] using hkk
/-- a reference's value, in places -/
def am_rr (o : Option Nat) : Value := match o with
  | none => .null
  | some b => .ref b
theorem am_rr_cv (ad : Nat → Nat) (o : Option Nat) : am_cv ad (am_rr o) = va_rf (o.map ad) := by cases o <;> rfl
theorem am_aald {a n : Nat} {i : Int32} {C : String} (hC : C = RX10) (hy : am_lay a = .inl (.object C, n)) (ha : a ∈ g.1) (hin : vp_in i n) (hd : decode M.2.1 pc = .ok (.aaload, 1)) (k : am_OK M X Q g h (pc + 1) l (am_rr (h.2.2 a i.toNatClampNeg) :: st)) : am_OK M X Q g h pc l (.int i :: .ref a :: st) := by
  intro p lc e s m args below meth c D ca ad0 A cx ad H locs ls dy hl
  subst hC
  obtain ⟨q0, hq, he⟩ := am_wl_at (ca := ca) (ad := ad) (h := h) ha
  rw [am_ce_a hy] at he
  have hk := k p lc e s m args below meth c D ca ad0 A cx ad H locs ls dy hl
  rw [List.map_cons, am_rr_cv] at hk
  exact va_aldq cx.1.1 cx.1.2.1 cx.2.2.2.1 dy.2.2.1 q0 3 he rfl hin hd hk
theorem am_aast {I : Nat → Nat → Int32} {L : Nat → Nat → Int64} {R : Nat → Nat → Option Nat} {a b n : Nat} {i : Int32} (hy : am_lay a = .inl (.object RX10, n)) (ha : a ∈ g.1) (hyb : am_lay b = .inr 10) (hb : b ∈ g.1) (hin : vp_in i n) (hd : decode M.2.1 pc = .ok (.aastore, 1)) (k : am_OK M X Q g (I, L, am_u R a i.toNatClampNeg (some b)) (pc + 1) l st) : am_OK M X Q g (I, L, R) pc l (.ref b :: .int i :: .ref a :: st) := by
  intro p lc e s m args below meth c D ca ad0 A cx ad H locs ls dy hl
  obtain ⟨q0, hq, he⟩ := am_wl_at (ca := ca) (ad := ad) (h := (I, L, R)) ha
  obtain ⟨q1, hq1, he1⟩ := am_wl_at (ca := ca) (ad := ad) (h := (I, L, R)) hb
  rw [am_ce_a hy] at he
  rw [am_ce_o hyb] at he1
  refine va_astq (r := (RX10, TX10, 5)) cx.1.1 cx.1.2.1 cx.2.2.2.1 dy.2.2.1 dy.2.2.2.1 dy.2.2.2.2 q0 3 q1 10 he rfl he1 rfl hin hd (fun H1 locs1 hP1 hD1 hS1 => ?_)
  have hset := am_arr_set (ca := ca) (ad := ad) (h := (I, L, R)) (h' := (I, L, am_u R a i.toNatClampNeg (some b))) (x := (n, .inr (.inr (.inr (.inr (va_up (fun j => (R a j).map ad) i.toNatClampNeg (some (ad b)))))))) hy dy.1 hq (am_but_ce am_but_r) (by
    simp only [am_ar, am_u_at, Prod.mk.injEq, true_and, Sum.inr.injEq]
    funext j
    unfold va_up
    split <;> rfl)
  have hP2 := hset ▸ hP1
  have hD2 := hset ▸ hD1
  exact k p lc e s m args below meth c D ca ad0 A cx ad H1 locs1 ls ⟨dy.1, dy.2.1, hP2, hD2, hS1⟩ hl
end AM6
end
section
/-! the rows where nothing is made and references stand as they are: contents in two functions, I and L -/
abbrev am_I : Type := Nat → Nat → Int32
abbrev am_L : Type := Nat → Nat → Int64
abbrev am_R : Type := Nat → Nat → Option Nat
abbrev am_S : Type := Option Value → am_I → am_L → Prop
def am_up (al : List Nat) (R : am_R) (Q : am_S) : am_P := fun r h al' => al' = al ∧ ∃ (I' : am_I) (L' : am_L), h = (I', L', R) ∧ Q r I' L'
def am_B (M : am_M) (d : Nat) (Q : am_S) (I : am_I) (L : am_L) (pc : Nat) (l : List (Nat × Value)) (st : List Value) : Prop := ∀ (al : List Nat) (R : am_R), am_st al R → am_OK M (d, 0, 0, fun _ => True) (am_up al R Q) (al, 0, 0) (I, L, R) pc l st
def am_K (M : am_M) (d : Nat) (as : List Value) (I : am_I) (L : am_L) (Q : am_S) : Prop := ∀ (al : List Nat) (R : am_R), am_st al R → am_C M d 0 0 (fun _ => True) al as (I, L, R) (am_up al R Q)
theorem bm_intro {M : am_M} {d : Nat} {as : List Value} {I : am_I} {L : am_L} {Q : am_S} (hy : plainName M.1.cls = true) (hs : (lg_sl as).length ≤ M.2.2.1) (k : am_B M d Q I L 0 (lv_args 0 as) []) : am_K M d as I L Q := fun al R hs' => am_intro hy hs (k al R hs')
def am_dcs (cc : ByteArray) (l : List (Nat × Instr × Nat)) : Bool := l.all fun q => decide (decode cc q.1 = .ok (q.2.1, q.2.2))
theorem dg {cc : ByteArray} {l : List (Nat × Instr × Nat)} (h : am_dcs cc l = true) (i : Nat) {pc len : Nat} {ins : Instr} (hi : l[i]? = some (pc, ins, len)) : decode cc pc = .ok (ins, len) := of_decide_eq_true (List.all_eq_true.mp h (pc, ins, len) (List.mem_of_getElem? hi))
def am_fl (own : String) (index ci j : Nat) (C : String) (T : u_T) (N : Nat) : Prop := am_cls ci C T N ∧ j < N ∧ Cond.fieldLink own index (T j).1 (T j).2.1 (T j).2.2.1 ∈ lw_tbl
/-- shapes of a callee's end -/
def am_qf (v : Option Value) (I1 : am_I) (L1 : am_L) : am_S := fun r I L => r = v ∧ I = I1 ∧ L = L1
def am_qi (P : Int32 → am_I → am_L → Prop) : am_S := fun r I L => ∃ v : Int32, r = some (.int v) ∧ P v I L
def am_ql (P : Int64 → am_I → am_L → Prop) : am_S := fun r I L => ∃ v : Int64, r = some (.long v) ∧ P v I L
def am_qv (P : am_I → am_L → Prop) : am_S := fun r I L => r = none ∧ P I L
def am_qr (b : Nat) (P : am_I → am_L → Prop) : am_S := fun r I L => r = some (.ref b) ∧ P I L
theorem am_K.mono {M : am_M} {d : Nat} {as : List Value} {I : am_I} {L : am_L} {Q Q' : am_S} (h : am_K M d as I L Q) (hq : ∀ r I' L', Q r I' L' → Q' r I' L') : am_K M d as I L Q' := by
  intro al R hs lc D ca ad sz hn p e ha hc hk s m args below hf hfit hp ht
  obtain ⟨n, o, h1, h2, h3, ⟨⟨r, h', al', ad', e1, ⟨e2, I', L', e3, e4⟩, e5⟩, h6⟩, h5⟩ := h al R hs lc D ca ad sz hn p e ha hc hk s m args below hf hfit hp ht
  exact ⟨n, o, h1, h2, h3, ⟨⟨r, h', al', ad', e1, ⟨e2, I', L', e3, hq _ _ _ e4⟩, e5⟩, h6⟩, h5⟩
section BM
variable {M : am_M} {d : Nat} {Q : am_S} {I : am_I} {L : am_L} {pc : Nat} {l : List (Nat × Value)} {st : List Value}
theorem am_B.w {l' : List (Nat × Value)} {st' : List Value} {pc' : Nat} {I' : am_I} {L' : am_L} (h : am_B M d Q I L pc l st) (e1 : pc = pc') (e2 : l = l') (e3 : st = st') (e4 : I = I') (e5 : L = L') : am_B M d Q I' L' pc' l' st' := by
  subst e1; subst e2; subst e3; subst e4; subst e5; exact h
theorem bm_iconst {n : Int} {v : Int32} (hv : Int32.ofInt n = v) (hd : decode M.2.1 pc = .ok (.iconst n, 1)) (k : am_B M d Q I L (pc + 1) l (.int v :: st)) : am_B M d Q I L pc l st :=
  fun al R hs => am_iconst hv hd (k al R hs)
theorem bm_bipush {n : Int} {v : Int32} (hv : (Int8.ofInt n).toInt32 = v) (hd : decode M.2.1 pc = .ok (.bipush n, 2)) (k : am_B M d Q I L (pc + 2) l (.int v :: st)) : am_B M d Q I L pc l st :=
  fun al R hs => am_bipush hv hd (k al R hs)
theorem bm_sipush {n : Int} {v : Int32} (hv : (Int16.ofInt n).toInt32 = v) (hd : decode M.2.1 pc = .ok (.sipush n, 3)) (k : am_B M d Q I L (pc + 3) l (.int v :: st)) : am_B M d Q I L pc l st :=
  fun al R hs => am_sipush hv hd (k al R hs)
theorem bm_lconst {n : Fin 2} {v : Int64} (hv : Int64.ofNat (n : Nat) = v) (hd : decode M.2.1 pc = .ok (.lconst n, 1)) (k : am_B M d Q I L (pc + 1) l (.long v :: st)) : am_B M d Q I L pc l st :=
  fun al R hs => am_lconst hv hd (k al R hs)
theorem bm_ldc {index : Nat} {v : Int32} (hw : Cond.constant M.1.cls index v ∈ lw_tbl) (hd : decode M.2.1 pc = .ok (.ldc index, 2)) (k : am_B M d Q I L (pc + 2) l (.int v :: st)) : am_B M d Q I L pc l st :=
  fun al R hs => am_ldc hw hd (k al R hs)
theorem bm_ldc2 {index : Nat} {v : Int64} (hw : Cond.constantLong M.1.cls index v ∈ lw_tbl) (hd : decode M.2.1 pc = .ok (.ldc2_w index, 3)) (k : am_B M d Q I L (pc + 3) l (.long v :: st)) : am_B M d Q I L pc l st :=
  fun al R hs => am_ldc2 hw hd (k al R hs)
theorem bm_iload_n (j : Nat) {n : Fin 4} {i : Nat} {x : Int32} (hi : (n : Nat) = i) (hk : l[j]? = some (i, .int x)) (hd : decode M.2.1 pc = .ok (.iload_n n, 1)) (k : am_B M d Q I L (pc + 1) l (.int x :: st)) : am_B M d Q I L pc l st :=
  fun al R hs => am_iload_n j hi hk hd (k al R hs)
theorem bm_iload (j : Nat) {i : Nat} {x : Int32} (hk : l[j]? = some (i, .int x)) (hd : decode M.2.1 pc = .ok (.iload i, 2)) (k : am_B M d Q I L (pc + 2) l (.int x :: st)) : am_B M d Q I L pc l st :=
  fun al R hs => am_iload j hk hd (k al R hs)
theorem bm_istore_n {n : Fin 4} {i : Nat} {x : Int32} {l1 : List (Nat × Value)} (hi : (n : Nat) = i) (hn : i < M.2.2.1) (hl : am_p1 i (.int x) l = l1) (hd : decode M.2.1 pc = .ok (.istore_n n, 1)) (k : am_B M d Q I L (pc + 1) l1 st) : am_B M d Q I L pc l (.int x :: st) :=
  fun al R hs => am_istore_n hi hn hl hd (k al R hs)
theorem bm_istore {i : Nat} {x : Int32} {l1 : List (Nat × Value)} (hn : i < M.2.2.1) (hl : am_p1 i (.int x) l = l1) (hd : decode M.2.1 pc = .ok (.istore i, 2)) (k : am_B M d Q I L (pc + 2) l1 st) : am_B M d Q I L pc l (.int x :: st) :=
  fun al R hs => am_istore hn hl hd (k al R hs)
theorem bm_lload_n (j : Nat) {n : Fin 4} {i : Nat} {x : Int64} (hi : (n : Nat) = i) (hk : l[j]? = some (i, .long x)) (hd : decode M.2.1 pc = .ok (.lload_n n, 1)) (k : am_B M d Q I L (pc + 1) l (.long x :: st)) : am_B M d Q I L pc l st :=
  fun al R hs => am_lload_n j hi hk hd (k al R hs)
theorem bm_lload (j : Nat) {i : Nat} {x : Int64} (hk : l[j]? = some (i, .long x)) (hd : decode M.2.1 pc = .ok (.lload i, 2)) (k : am_B M d Q I L (pc + 2) l (.long x :: st)) : am_B M d Q I L pc l st :=
  fun al R hs => am_lload j hk hd (k al R hs)
theorem bm_lstore_n {n : Fin 4} {i : Nat} {x : Int64} {l1 : List (Nat × Value)} (hi : (n : Nat) = i) (hn : i + 1 < M.2.2.1) (hl : am_p2 i (.long x) l = l1) (hd : decode M.2.1 pc = .ok (.lstore_n n, 1)) (k : am_B M d Q I L (pc + 1) l1 st) : am_B M d Q I L pc l (.long x :: st) :=
  fun al R hs => am_lstore_n hi hn hl hd (k al R hs)
theorem bm_lstore {i : Nat} {x : Int64} {l1 : List (Nat × Value)} (hn : i + 1 < M.2.2.1) (hl : am_p2 i (.long x) l = l1) (hd : decode M.2.1 pc = .ok (.lstore i, 2)) (k : am_B M d Q I L (pc + 2) l1 st) : am_B M d Q I L pc l (.long x :: st) :=
  fun al R hs => am_lstore hn hl hd (k al R hs)
theorem bm_aload_n (j : Nat) {n : Fin 4} {i : Nat} {x : Nat} (hi : (n : Nat) = i) (hk : l[j]? = some (i, .ref x)) (hd : decode M.2.1 pc = .ok (.aload_n n, 1)) (k : am_B M d Q I L (pc + 1) l (.ref x :: st)) : am_B M d Q I L pc l st :=
  fun al R hs => am_aload_n j hi hk hd (k al R hs)
theorem bm_aload (j : Nat) {i : Nat} {x : Nat} (hk : l[j]? = some (i, .ref x)) (hd : decode M.2.1 pc = .ok (.aload i, 2)) (k : am_B M d Q I L (pc + 2) l (.ref x :: st)) : am_B M d Q I L pc l st :=
  fun al R hs => am_aload j hk hd (k al R hs)
theorem bm_astore_n {n : Fin 4} {i : Nat} {x : Nat} {l1 : List (Nat × Value)} (hi : (n : Nat) = i) (hn : i < M.2.2.1) (hl : am_p1 i (.ref x) l = l1) (hd : decode M.2.1 pc = .ok (.astore_n n, 1)) (k : am_B M d Q I L (pc + 1) l1 st) : am_B M d Q I L pc l (.ref x :: st) :=
  fun al R hs => am_astore_n hi hn hl hd (k al R hs)
theorem bm_astore {i : Nat} {x : Nat} {l1 : List (Nat × Value)} (hn : i < M.2.2.1) (hl : am_p1 i (.ref x) l = l1) (hd : decode M.2.1 pc = .ok (.astore i, 2)) (k : am_B M d Q I L (pc + 2) l1 st) : am_B M d Q I L pc l (.ref x :: st) :=
  fun al R hs => am_astore hn hl hd (k al R hs)
theorem bm_iinc (j : Nat) {i : Nat} {n : Int} {x v : Int32} {l1 : List (Nat × Value)} (hk : l[j]? = some (i, .int x)) (hv : x + Int32.ofInt n = v) (hn : i < M.2.2.1) (hl : am_p1 i (.int v) l = l1) (hd : decode M.2.1 pc = .ok (.iinc i n, 3)) (k : am_B M d Q I L (pc + 3) l1 st) : am_B M d Q I L pc l st :=
  fun al R hs => am_iinc j hk hv hn hl hd (k al R hs)
theorem bm_sub (ks : List Nat) {l1 : List (Nat × Value)} (hp : lv_pick l ks = l1) (k : am_B M d Q I L pc l1 st) : am_B M d Q I L pc l st :=
  fun al R hs => am_sub ks hp (k al R hs)
theorem bm_iadd {x y : Int32} (hd : decode M.2.1 pc = .ok (.iadd, 1)) (k : am_B M d Q I L (pc + 1) l (.int (x + y) :: st)) : am_B M d Q I L pc l (.int y :: .int x :: st) :=
  fun al R hs => am_iadd hd (k al R hs)
theorem bm_isub {x y : Int32} (hd : decode M.2.1 pc = .ok (.isub, 1)) (k : am_B M d Q I L (pc + 1) l (.int (x - y) :: st)) : am_B M d Q I L pc l (.int y :: .int x :: st) :=
  fun al R hs => am_isub hd (k al R hs)
theorem bm_imul {x y : Int32} (hd : decode M.2.1 pc = .ok (.imul, 1)) (k : am_B M d Q I L (pc + 1) l (.int (x * y) :: st)) : am_B M d Q I L pc l (.int y :: .int x :: st) :=
  fun al R hs => am_imul hd (k al R hs)
theorem bm_iand {x y : Int32} (hd : decode M.2.1 pc = .ok (.iand, 1)) (k : am_B M d Q I L (pc + 1) l (.int (x &&& y) :: st)) : am_B M d Q I L pc l (.int y :: .int x :: st) :=
  fun al R hs => am_iand hd (k al R hs)
theorem bm_ior {x y : Int32} (hd : decode M.2.1 pc = .ok (.ior, 1)) (k : am_B M d Q I L (pc + 1) l (.int (x ||| y) :: st)) : am_B M d Q I L pc l (.int y :: .int x :: st) :=
  fun al R hs => am_ior hd (k al R hs)
theorem bm_ixor {x y : Int32} (hd : decode M.2.1 pc = .ok (.ixor, 1)) (k : am_B M d Q I L (pc + 1) l (.int (x ^^^ y) :: st)) : am_B M d Q I L pc l (.int y :: .int x :: st) :=
  fun al R hs => am_ixor hd (k al R hs)
theorem bm_ishl {x y : Int32} (hd : decode M.2.1 pc = .ok (.ishl, 1)) (k : am_B M d Q I L (pc + 1) l (.int (x <<< (y &&& 31)) :: st)) : am_B M d Q I L pc l (.int y :: .int x :: st) :=
  fun al R hs => am_ishl hd (k al R hs)
theorem bm_ishr {x y : Int32} (hd : decode M.2.1 pc = .ok (.ishr, 1)) (k : am_B M d Q I L (pc + 1) l (.int (x >>> (y &&& 31)) :: st)) : am_B M d Q I L pc l (.int y :: .int x :: st) :=
  fun al R hs => am_ishr hd (k al R hs)
theorem bm_ladd {x y : Int64} (hd : decode M.2.1 pc = .ok (.ladd, 1)) (k : am_B M d Q I L (pc + 1) l (.long (x + y) :: st)) : am_B M d Q I L pc l (.long y :: .long x :: st) :=
  fun al R hs => am_ladd hd (k al R hs)
theorem bm_lsub {x y : Int64} (hd : decode M.2.1 pc = .ok (.lsub, 1)) (k : am_B M d Q I L (pc + 1) l (.long (x - y) :: st)) : am_B M d Q I L pc l (.long y :: .long x :: st) :=
  fun al R hs => am_lsub hd (k al R hs)
theorem bm_lmul {x y : Int64} (hd : decode M.2.1 pc = .ok (.lmul, 1)) (k : am_B M d Q I L (pc + 1) l (.long (x * y) :: st)) : am_B M d Q I L pc l (.long y :: .long x :: st) :=
  fun al R hs => am_lmul hd (k al R hs)
theorem bm_land {x y : Int64} (hd : decode M.2.1 pc = .ok (.land, 1)) (k : am_B M d Q I L (pc + 1) l (.long (x &&& y) :: st)) : am_B M d Q I L pc l (.long y :: .long x :: st) :=
  fun al R hs => am_land hd (k al R hs)
theorem bm_lor {x y : Int64} (hd : decode M.2.1 pc = .ok (.lor, 1)) (k : am_B M d Q I L (pc + 1) l (.long (x ||| y) :: st)) : am_B M d Q I L pc l (.long y :: .long x :: st) :=
  fun al R hs => am_lor hd (k al R hs)
theorem bm_ldiv {x y : Int64} (hne : ¬ y = 0) (hd : decode M.2.1 pc = .ok (.ldiv, 1)) (k : am_B M d Q I L (pc + 1) l (.long (x / y) :: st)) : am_B M d Q I L pc l (.long y :: .long x :: st) :=
  fun al R hs => am_ldiv hne hd (k al R hs)
theorem bm_lrem {x y : Int64} (hne : ¬ y = 0) (hd : decode M.2.1 pc = .ok (.lrem, 1)) (k : am_B M d Q I L (pc + 1) l (.long (x - x / y * y) :: st)) : am_B M d Q I L pc l (.long y :: .long x :: st) :=
  fun al R hs => am_lrem hne hd (k al R hs)
theorem bm_ineg {x : Int32} (hd : decode M.2.1 pc = .ok (.ineg, 1)) (k : am_B M d Q I L (pc + 1) l (.int (-x) :: st)) : am_B M d Q I L pc l (.int x :: st) :=
  fun al R hs => am_ineg hd (k al R hs)
theorem bm_lneg {x : Int64} (hd : decode M.2.1 pc = .ok (.lneg, 1)) (k : am_B M d Q I L (pc + 1) l (.long (-x) :: st)) : am_B M d Q I L pc l (.long x :: st) :=
  fun al R hs => am_lneg hd (k al R hs)
theorem bm_i2l {x : Int32} (hd : decode M.2.1 pc = .ok (.i2l, 1)) (k : am_B M d Q I L (pc + 1) l (.long (x.toInt64) :: st)) : am_B M d Q I L pc l (.int x :: st) :=
  fun al R hs => am_i2l hd (k al R hs)
theorem bm_l2i {x : Int64} (hd : decode M.2.1 pc = .ok (.l2i, 1)) (k : am_B M d Q I L (pc + 1) l (.int (x.toInt32) :: st)) : am_B M d Q I L pc l (.long x :: st) :=
  fun al R hs => am_l2i hd (k al R hs)
theorem bm_i2c {x : Int32} (hd : decode M.2.1 pc = .ok (.i2c, 1)) (k : am_B M d Q I L (pc + 1) l (.int ((x.toUInt32 % 65536).toInt32) :: st)) : am_B M d Q I L pc l (.int x :: st) :=
  fun al R hs => am_i2c hd (k al R hs)
theorem bm_lshl {x : Int64} {y : Int32} (hd : decode M.2.1 pc = .ok (.lshl, 1)) (k : am_B M d Q I L (pc + 1) l (.long (x <<< (y.toInt64 &&& 63)) :: st)) : am_B M d Q I L pc l (.int y :: .long x :: st) :=
  fun al R hs => am_lshl hd (k al R hs)
theorem bm_lshr {x : Int64} {y : Int32} (hd : decode M.2.1 pc = .ok (.lshr, 1)) (k : am_B M d Q I L (pc + 1) l (.long (x >>> (y.toInt64 &&& 63)) :: st)) : am_B M d Q I L pc l (.int y :: .long x :: st) :=
  fun al R hs => am_lshr hd (k al R hs)
theorem bm_dup {v : Value} (hv : v.category = 1) (hd : decode M.2.1 pc = .ok (.dup, 1)) (k : am_B M d Q I L (pc + 1) l (v :: v :: st)) : am_B M d Q I L pc l (v :: st) :=
  fun al R hs => am_dup hv hd (k al R hs)
theorem bm_pop {v : Value} (hv : v.category = 1) (hd : decode M.2.1 pc = .ok (.pop, 1)) (k : am_B M d Q I L (pc + 1) l st) : am_B M d Q I L pc l (v :: st) :=
  fun al R hs => am_pop hv hd (k al R hs)
theorem bm_pop2 {v : Value} (hv : v.category = 2) (hd : decode M.2.1 pc = .ok (.pop2, 1)) (k : am_B M d Q I L (pc + 1) l st) : am_B M d Q I L pc l (v :: st) :=
  fun al R hs => am_pop2 hv hd (k al R hs)
theorem bm_dup2 {v w : Value} (hv : v.category = 1) (hw : w.category = 1) (hd : decode M.2.1 pc = .ok (.dup2, 1)) (k : am_B M d Q I L (pc + 1) l (v :: w :: v :: w :: st)) : am_B M d Q I L pc l (v :: w :: st) :=
  fun al R hs => am_dup2 hv hw hd (k al R hs)
theorem bm_dup2l {v : Value} (hv : v.category = 2) (hd : decode M.2.1 pc = .ok (.dup2, 1)) (k : am_B M d Q I L (pc + 1) l (v :: v :: st)) : am_B M d Q I L pc l (v :: st) :=
  fun al R hs => am_dup2l hv hd (k al R hs)
theorem bm_goto {off : Int} {tgt : Nat} (ht : (pc : Int) + off = (tgt : Int)) (hd : decode M.2.1 pc = .ok (.goto off, 3)) (k : am_B M d Q I L tgt l st) : am_B M d Q I L pc l st :=
  fun al R hs => am_goto ht hd (k al R hs)
theorem bm_lcmp {x y : Int64} (hd : decode M.2.1 pc = .ok (.lcmp, 1)) (k : am_B M d Q I L (pc + 1) l (.int (lg_cmp x y) :: st)) : am_B M d Q I L pc l (.long y :: .long x :: st) :=
  fun al R hs => am_lcmp hd (k al R hs)
theorem bm_lookup {dflt : Int} {ps : Array (Int × Int)} {len : Nat} {x : Int32} {off : Int} {tgt : Nat} (hp : (ps.toList.zip (ps.toList.drop 1)).all (fun (a, next) => a.1 < next.1) = true) (ho : Op.lookupswitch.offset ps.toList dflt x.toInt = off) (ht : (pc : Int) + off = (tgt : Int)) (hd : decode M.2.1 pc = .ok (.lookupswitch dflt ps, len)) (k : am_B M d Q I L tgt l st) : am_B M d Q I L pc l (.int x :: st) :=
  fun al R hs => am_lookup hp ho ht hd (k al R hs)
theorem bm_tableIn {dflt lo hi : Int} {offs : Array Int} {len : Nat} {x : Int32} {off : Int} {tgt : Nat} (h1 : ¬ x.toInt < lo) (h2 : ¬ hi < x.toInt) (ho : offs[(x.toInt - lo).toNat]? = some off) (ht : (pc : Int) + off = (tgt : Int)) (hd : decode M.2.1 pc = .ok (.tableswitch dflt lo hi offs, len)) (k : am_B M d Q I L tgt l st) : am_B M d Q I L pc l (.int x :: st) :=
  fun al R hs => am_tableIn h1 h2 ho ht hd (k al R hs)
theorem bm_tableOut {dflt lo hi : Int} {offs : Array Int} {len : Nat} {x : Int32} {tgt : Nat} (h1 : x.toInt < lo ∨ hi < x.toInt) (ht : (pc : Int) + dflt = (tgt : Int)) (hd : decode M.2.1 pc = .ok (.tableswitch dflt lo hi offs, len)) (k : am_B M d Q I L tgt l st) : am_B M d Q I L pc l (.int x :: st) :=
  fun al R hs => am_tableOut h1 ht hd (k al R hs)
theorem bm_icmp_eq {x y : Int32} {off : Int} {tgt : Nat} (ht : (pc : Int) + off = (tgt : Int)) (hd : decode M.2.1 pc = .ok (.if_icmp .eq off, 3)) (kt : x = y → am_B M d Q I L tgt l st) (kf : ¬ x = y → am_B M d Q I L (pc + 3) l st) : am_B M d Q I L pc l (.int y :: .int x :: st) :=
  fun al R hs => am_icmp_eq ht hd (fun c => kt c al R hs) (fun c => kf c al R hs)
theorem bm_if_eq {x : Int32} {off : Int} {tgt : Nat} (ht : (pc : Int) + off = (tgt : Int)) (hd : decode M.2.1 pc = .ok (.ifCond .eq off, 3)) (kt : x = 0 → am_B M d Q I L tgt l st) (kf : ¬ x = 0 → am_B M d Q I L (pc + 3) l st) : am_B M d Q I L pc l (.int x :: st) :=
  fun al R hs => am_if_eq ht hd (fun c => kt c al R hs) (fun c => kf c al R hs)
theorem bm_lcmp_eq {x y : Int64} {off : Int} {tgt pc1 : Nat} (hd0 : decode M.2.1 pc = .ok (.lcmp, 1)) (h1 : pc + 1 = pc1) (ht : (pc1 : Int) + off = (tgt : Int)) (hd : decode M.2.1 pc1 = .ok (.ifCond .eq off, 3)) (kt : x = y → am_B M d Q I L tgt l st) (kf : ¬ x = y → am_B M d Q I L (pc1 + 3) l st) : am_B M d Q I L pc l (.long y :: .long x :: st) :=
  fun al R hs => am_lcmp_eq hd0 h1 ht hd (fun c => kt c al R hs) (fun c => kf c al R hs)
theorem bm_icmp_ne {x y : Int32} {off : Int} {tgt : Nat} (ht : (pc : Int) + off = (tgt : Int)) (hd : decode M.2.1 pc = .ok (.if_icmp .ne off, 3)) (kt : ¬ x = y → am_B M d Q I L tgt l st) (kf : x = y → am_B M d Q I L (pc + 3) l st) : am_B M d Q I L pc l (.int y :: .int x :: st) :=
  fun al R hs => am_icmp_ne ht hd (fun c => kt c al R hs) (fun c => kf c al R hs)
theorem bm_if_ne {x : Int32} {off : Int} {tgt : Nat} (ht : (pc : Int) + off = (tgt : Int)) (hd : decode M.2.1 pc = .ok (.ifCond .ne off, 3)) (kt : ¬ x = 0 → am_B M d Q I L tgt l st) (kf : x = 0 → am_B M d Q I L (pc + 3) l st) : am_B M d Q I L pc l (.int x :: st) :=
  fun al R hs => am_if_ne ht hd (fun c => kt c al R hs) (fun c => kf c al R hs)
theorem bm_lcmp_ne {x y : Int64} {off : Int} {tgt pc1 : Nat} (hd0 : decode M.2.1 pc = .ok (.lcmp, 1)) (h1 : pc + 1 = pc1) (ht : (pc1 : Int) + off = (tgt : Int)) (hd : decode M.2.1 pc1 = .ok (.ifCond .ne off, 3)) (kt : ¬ x = y → am_B M d Q I L tgt l st) (kf : x = y → am_B M d Q I L (pc1 + 3) l st) : am_B M d Q I L pc l (.long y :: .long x :: st) :=
  fun al R hs => am_lcmp_ne hd0 h1 ht hd (fun c => kt c al R hs) (fun c => kf c al R hs)
theorem bm_icmp_lt {x y : Int32} {off : Int} {tgt : Nat} (ht : (pc : Int) + off = (tgt : Int)) (hd : decode M.2.1 pc = .ok (.if_icmp .lt off, 3)) (kt : x < y → am_B M d Q I L tgt l st) (kf : ¬ x < y → am_B M d Q I L (pc + 3) l st) : am_B M d Q I L pc l (.int y :: .int x :: st) :=
  fun al R hs => am_icmp_lt ht hd (fun c => kt c al R hs) (fun c => kf c al R hs)
theorem bm_if_lt {x : Int32} {off : Int} {tgt : Nat} (ht : (pc : Int) + off = (tgt : Int)) (hd : decode M.2.1 pc = .ok (.ifCond .lt off, 3)) (kt : x < 0 → am_B M d Q I L tgt l st) (kf : ¬ x < 0 → am_B M d Q I L (pc + 3) l st) : am_B M d Q I L pc l (.int x :: st) :=
  fun al R hs => am_if_lt ht hd (fun c => kt c al R hs) (fun c => kf c al R hs)
theorem bm_lcmp_lt {x y : Int64} {off : Int} {tgt pc1 : Nat} (hd0 : decode M.2.1 pc = .ok (.lcmp, 1)) (h1 : pc + 1 = pc1) (ht : (pc1 : Int) + off = (tgt : Int)) (hd : decode M.2.1 pc1 = .ok (.ifCond .lt off, 3)) (kt : x < y → am_B M d Q I L tgt l st) (kf : ¬ x < y → am_B M d Q I L (pc1 + 3) l st) : am_B M d Q I L pc l (.long y :: .long x :: st) :=
  fun al R hs => am_lcmp_lt hd0 h1 ht hd (fun c => kt c al R hs) (fun c => kf c al R hs)
theorem bm_icmp_ge {x y : Int32} {off : Int} {tgt : Nat} (ht : (pc : Int) + off = (tgt : Int)) (hd : decode M.2.1 pc = .ok (.if_icmp .ge off, 3)) (kt : y ≤ x → am_B M d Q I L tgt l st) (kf : ¬ y ≤ x → am_B M d Q I L (pc + 3) l st) : am_B M d Q I L pc l (.int y :: .int x :: st) :=
  fun al R hs => am_icmp_ge ht hd (fun c => kt c al R hs) (fun c => kf c al R hs)
theorem bm_if_ge {x : Int32} {off : Int} {tgt : Nat} (ht : (pc : Int) + off = (tgt : Int)) (hd : decode M.2.1 pc = .ok (.ifCond .ge off, 3)) (kt : 0 ≤ x → am_B M d Q I L tgt l st) (kf : ¬ 0 ≤ x → am_B M d Q I L (pc + 3) l st) : am_B M d Q I L pc l (.int x :: st) :=
  fun al R hs => am_if_ge ht hd (fun c => kt c al R hs) (fun c => kf c al R hs)
theorem bm_lcmp_ge {x y : Int64} {off : Int} {tgt pc1 : Nat} (hd0 : decode M.2.1 pc = .ok (.lcmp, 1)) (h1 : pc + 1 = pc1) (ht : (pc1 : Int) + off = (tgt : Int)) (hd : decode M.2.1 pc1 = .ok (.ifCond .ge off, 3)) (kt : y ≤ x → am_B M d Q I L tgt l st) (kf : ¬ y ≤ x → am_B M d Q I L (pc1 + 3) l st) : am_B M d Q I L pc l (.long y :: .long x :: st) :=
  fun al R hs => am_lcmp_ge hd0 h1 ht hd (fun c => kt c al R hs) (fun c => kf c al R hs)
theorem bm_icmp_gt {x y : Int32} {off : Int} {tgt : Nat} (ht : (pc : Int) + off = (tgt : Int)) (hd : decode M.2.1 pc = .ok (.if_icmp .gt off, 3)) (kt : y < x → am_B M d Q I L tgt l st) (kf : ¬ y < x → am_B M d Q I L (pc + 3) l st) : am_B M d Q I L pc l (.int y :: .int x :: st) :=
  fun al R hs => am_icmp_gt ht hd (fun c => kt c al R hs) (fun c => kf c al R hs)
theorem bm_if_gt {x : Int32} {off : Int} {tgt : Nat} (ht : (pc : Int) + off = (tgt : Int)) (hd : decode M.2.1 pc = .ok (.ifCond .gt off, 3)) (kt : 0 < x → am_B M d Q I L tgt l st) (kf : ¬ 0 < x → am_B M d Q I L (pc + 3) l st) : am_B M d Q I L pc l (.int x :: st) :=
  fun al R hs => am_if_gt ht hd (fun c => kt c al R hs) (fun c => kf c al R hs)
theorem bm_lcmp_gt {x y : Int64} {off : Int} {tgt pc1 : Nat} (hd0 : decode M.2.1 pc = .ok (.lcmp, 1)) (h1 : pc + 1 = pc1) (ht : (pc1 : Int) + off = (tgt : Int)) (hd : decode M.2.1 pc1 = .ok (.ifCond .gt off, 3)) (kt : y < x → am_B M d Q I L tgt l st) (kf : ¬ y < x → am_B M d Q I L (pc1 + 3) l st) : am_B M d Q I L pc l (.long y :: .long x :: st) :=
  fun al R hs => am_lcmp_gt hd0 h1 ht hd (fun c => kt c al R hs) (fun c => kf c al R hs)
theorem bm_icmp_le {x y : Int32} {off : Int} {tgt : Nat} (ht : (pc : Int) + off = (tgt : Int)) (hd : decode M.2.1 pc = .ok (.if_icmp .le off, 3)) (kt : x ≤ y → am_B M d Q I L tgt l st) (kf : ¬ x ≤ y → am_B M d Q I L (pc + 3) l st) : am_B M d Q I L pc l (.int y :: .int x :: st) :=
  fun al R hs => am_icmp_le ht hd (fun c => kt c al R hs) (fun c => kf c al R hs)
theorem bm_if_le {x : Int32} {off : Int} {tgt : Nat} (ht : (pc : Int) + off = (tgt : Int)) (hd : decode M.2.1 pc = .ok (.ifCond .le off, 3)) (kt : x ≤ 0 → am_B M d Q I L tgt l st) (kf : ¬ x ≤ 0 → am_B M d Q I L (pc + 3) l st) : am_B M d Q I L pc l (.int x :: st) :=
  fun al R hs => am_if_le ht hd (fun c => kt c al R hs) (fun c => kf c al R hs)
theorem bm_lcmp_le {x y : Int64} {off : Int} {tgt pc1 : Nat} (hd0 : decode M.2.1 pc = .ok (.lcmp, 1)) (h1 : pc + 1 = pc1) (ht : (pc1 : Int) + off = (tgt : Int)) (hd : decode M.2.1 pc1 = .ok (.ifCond .le off, 3)) (kt : x ≤ y → am_B M d Q I L tgt l st) (kf : ¬ x ≤ y → am_B M d Q I L (pc1 + 3) l st) : am_B M d Q I L pc l (.long y :: .long x :: st) :=
  fun al R hs => am_lcmp_le hd0 h1 ht hd (fun c => kt c al R hs) (fun c => kf c al R hs)
theorem am_tr (P : Prop) [Decidable P] : (if P then (1 : Int32) else 0) = 0 ↔ ¬ P := by
  by_cases h : P
  · simp [h]
  · simp [h]
theorem bm_ift_eq {P : Prop} {dp : Decidable P} {off : Int} {tgt : Nat} (ht : (pc : Int) + off = (tgt : Int)) (hd : decode M.2.1 pc = .ok (.ifCond .eq off, 3)) (kt : ¬ P → am_B M d Q I L tgt l st) (kf : P → am_B M d Q I L (pc + 3) l st) : am_B M d Q I L pc l (.int (@ite _ P dp 1 0) :: st) :=
  bm_if_eq ht hd (fun c => kt ((am_tr P).mp c)) (fun c => kf (Classical.not_not.mp (fun h => c ((am_tr P).mpr h))))
theorem bm_ift_ne {P : Prop} {dp : Decidable P} {off : Int} {tgt : Nat} (ht : (pc : Int) + off = (tgt : Int)) (hd : decode M.2.1 pc = .ok (.ifCond .ne off, 3)) (kt : P → am_B M d Q I L tgt l st) (kf : ¬ P → am_B M d Q I L (pc + 3) l st) : am_B M d Q I L pc l (.int (@ite _ P dp 1 0) :: st) :=
  bm_if_ne ht hd (fun c => kt (Classical.not_not.mp (fun h => c ((am_tr P).mpr h)))) (fun c => kf ((am_tr P).mp c))
theorem bm_geti {a ci j index N : Nat} {C : String} {T : u_T} {x : Int32} (hf : am_fl M.1.cls index ci j C T N) (hy : am_lay a = .inr ci) (ha : ∀ (al : List Nat) (R : am_R), am_st al R → a ∈ al) (hw : am_ty ci j = .int ∨ am_ty ci j = .boolean) (hx : I a j = x) (hd : decode M.2.1 pc = .ok (.getfield index, 3)) (k : am_B M d Q I L (pc + 3) l (.int x :: st)) : am_B M d Q I L pc l (.ref a :: st) :=
  fun al R hs => am_get hf.1 hy (ha al R hs) hf.2.1 (w := .int x) (fun ad => by rw [← hx]; rcases hw with e | e <;> rw [e] <;> rfl) hf.2.2 hd (k al R hs)
theorem bm_getl {a ci j index N : Nat} {C : String} {T : u_T} {x : Int64} (hf : am_fl M.1.cls index ci j C T N) (hy : am_lay a = .inr ci) (ha : ∀ (al : List Nat) (R : am_R), am_st al R → a ∈ al) (hw : am_ty ci j = .long) (hx : L a j = x) (hd : decode M.2.1 pc = .ok (.getfield index, 3)) (k : am_B M d Q I L (pc + 3) l (.long x :: st)) : am_B M d Q I L pc l (.ref a :: st) :=
  fun al R hs => am_get hf.1 hy (ha al R hs) hf.2.1 (w := .long x) (fun ad => by rw [← hx, hw]; rfl) hf.2.2 hd (k al R hs)
theorem bm_getr {a b ci j index N : Nat} {C : String} {T : u_T} (hf : am_fl M.1.cls index ci j C T N) (hy : am_lay a = .inr ci) (ha : ∀ (al : List Nat) (R : am_R), am_st al R → a ∈ al) (hw : (∃ t, am_ty ci j = .array t) ∨ ∃ t, am_ty ci j = .object t) (hx : ∀ (al : List Nat) (R : am_R), am_st al R → R a j = some b) (hd : decode M.2.1 pc = .ok (.getfield index, 3)) (k : am_B M d Q I L (pc + 3) l (.ref b :: st)) : am_B M d Q I L pc l (.ref a :: st) :=
  fun al R hs => am_get hf.1 hy (ha al R hs) hf.2.1 (w := .ref b) (fun ad => by rcases hw with ⟨t, e⟩ | ⟨t, e⟩ <;> rw [e] <;> simp only [am_fv, hx al R hs] <;> rfl) hf.2.2 hd (k al R hs)
theorem bm_puti {a ci j index N : Nat} {C : String} {T : u_T} {x : Int32} (hf : am_fl M.1.cls index ci j C T N) (hy : am_lay a = .inr ci) (ha : ∀ (al : List Nat) (R : am_R), am_st al R → a ∈ al) (hw : am_ty ci j = .int) (hfin : (T j).2.2.2 = false) (hd : decode M.2.1 pc = .ok (.putfield index, 3)) (k : am_B M d Q (am_u I a j x) L (pc + 3) l st) : am_B M d Q I L pc l (.int x :: .ref a :: st) :=
  fun al R hs => am_put (h' := (am_u I a j x, L, R)) hf.1 hy (ha al R hs) hf.2.1 am_but_i (w := .int x) (fun ad => by rw [hw]; simp only [am_fv, am_u_eq]; rfl) hfin (fun ad => by rw [hw]; exact ⟨rfl, rfl⟩) hf.2.2 hd (k al R hs)
theorem bm_putz {a ci j index N : Nat} {C : String} {T : u_T} {x : Int32} (hf : am_fl M.1.cls index ci j C T N) (hy : am_lay a = .inr ci) (ha : ∀ (al : List Nat) (R : am_R), am_st al R → a ∈ al) (hw : am_ty ci j = .boolean) (hfin : (T j).2.2.2 = false) (h01 : x = 0 ∨ x = 1) (hd : decode M.2.1 pc = .ok (.putfield index, 3)) (k : am_B M d Q (am_u I a j x) L (pc + 3) l st) : am_B M d Q I L pc l (.int x :: .ref a :: st) :=
  fun al R hs => am_put (h' := (am_u I a j x, L, R)) hf.1 hy (ha al R hs) hf.2.1 am_but_i (w := .int x) (fun ad => by rw [hw]; simp only [am_fv, am_u_eq]; rfl) hfin (fun ad => by rw [hw]; rcases h01 with e | e <;> rw [e] <;> exact ⟨rfl, rfl⟩) hf.2.2 hd (k al R hs)
theorem bm_putl {a ci j index N : Nat} {C : String} {T : u_T} {x : Int64} (hf : am_fl M.1.cls index ci j C T N) (hy : am_lay a = .inr ci) (ha : ∀ (al : List Nat) (R : am_R), am_st al R → a ∈ al) (hw : am_ty ci j = .long) (hfin : (T j).2.2.2 = false) (hd : decode M.2.1 pc = .ok (.putfield index, 3)) (k : am_B M d Q I (am_u L a j x) (pc + 3) l st) : am_B M d Q I L pc l (.long x :: .ref a :: st) :=
  fun al R hs => am_put (h' := (I, am_u L a j x, R)) hf.1 hy (ha al R hs) hf.2.1 am_but_l (w := .long x) (fun ad => by rw [hw]; simp only [am_fv, am_u_eq]; rfl) hfin (fun ad => by rw [hw]; exact ⟨rfl, rfl⟩) hf.2.2 hd (k al R hs)
theorem bm_iald {a n : Nat} {i : Int32} {x : Int32} (hy : am_lay a = .inl (.int, n)) (ha : ∀ (al : List Nat) (R : am_R), am_st al R → a ∈ al) (hin : vp_in i n) (hx : I a i.toNatClampNeg = x) (hd : decode M.2.1 pc = .ok (.iaload, 1)) (k : am_B M d Q I L (pc + 1) l (.int x :: st)) : am_B M d Q I L pc l (.int i :: .ref a :: st) :=
  fun al R hs => am_iald hy (ha al R hs) hin hd (by subst hx; exact k al R hs)
theorem bm_zald {a n : Nat} {i : Int32} {x : Int32} (hy : am_lay a = .inl (.boolean, n)) (ha : ∀ (al : List Nat) (R : am_R), am_st al R → a ∈ al) (hin : vp_in i n) (hx : I a i.toNatClampNeg = x) (hd : decode M.2.1 pc = .ok (.baload, 1)) (k : am_B M d Q I L (pc + 1) l (.int x :: st)) : am_B M d Q I L pc l (.int i :: .ref a :: st) :=
  fun al R hs => am_zald hy (ha al R hs) hin hd (by subst hx; exact k al R hs)
theorem bm_lald {a n : Nat} {i : Int32} {x : Int64} (hy : am_lay a = .inl (.long, n)) (ha : ∀ (al : List Nat) (R : am_R), am_st al R → a ∈ al) (hin : vp_in i n) (hx : L a i.toNatClampNeg = x) (hd : decode M.2.1 pc = .ok (.laload, 1)) (k : am_B M d Q I L (pc + 1) l (.long x :: st)) : am_B M d Q I L pc l (.int i :: .ref a :: st) :=
  fun al R hs => am_lald hy (ha al R hs) hin hd (by subst hx; exact k al R hs)
theorem bm_iast {a n : Nat} {i : Int32} {x : Int32} (hy : am_lay a = .inl (.int, n)) (ha : ∀ (al : List Nat) (R : am_R), am_st al R → a ∈ al) (hin : vp_in i n) (hd : decode M.2.1 pc = .ok (.iastore, 1)) (k : am_B M d Q (am_u I a i.toNatClampNeg x) L (pc + 1) l st) : am_B M d Q I L pc l (.int x :: .int i :: .ref a :: st) :=
  fun al R hs => am_iast hy (ha al R hs) hin hd (k al R hs)
theorem bm_zast {a n : Nat} {i : Int32} {x : Int32} (hy : am_lay a = .inl (.boolean, n)) (ha : ∀ (al : List Nat) (R : am_R), am_st al R → a ∈ al) (hin : vp_in i n) (h01 : vp_nar .boolean x = x) (hd : decode M.2.1 pc = .ok (.bastore, 1)) (k : am_B M d Q (am_u I a i.toNatClampNeg x) L (pc + 1) l st) : am_B M d Q I L pc l (.int x :: .int i :: .ref a :: st) :=
  fun al R hs => am_zast hy (ha al R hs) hin h01 hd (k al R hs)
theorem bm_last {a n : Nat} {i : Int32} {x : Int64} (hy : am_lay a = .inl (.long, n)) (ha : ∀ (al : List Nat) (R : am_R), am_st al R → a ∈ al) (hin : vp_in i n) (hd : decode M.2.1 pc = .ok (.lastore, 1)) (k : am_B M d Q I (am_u L a i.toNatClampNeg x) (pc + 1) l st) : am_B M d Q I L pc l (.long x :: .int i :: .ref a :: st) :=
  fun al R hs => am_last hy (ha al R hs) hin hd (k al R hs)
theorem bm_iret {x : Int32} {ty : FieldType} (hr : M.2.2.2 = some ty) (hn : narrow ty (.int x) = .int x) (hd : decode M.2.1 pc = .ok (.ireturn, 1)) (hq : Q (some (.int x)) I L) : am_B M d Q I L pc l [.int x] :=
  fun al R hs => am_iret hr hn (Nat.le_refl _) (Nat.le_refl _) hd ⟨rfl, I, L, rfl, hq⟩
theorem bm_lret {x : Int64} (hr : M.2.2.2 = some .long) (hd : decode M.2.1 pc = .ok (.lreturn, 1)) (hq : Q (some (.long x)) I L) : am_B M d Q I L pc l [.long x] :=
  fun al R hs => am_lret hr (Nat.le_refl _) (Nat.le_refl _) hd ⟨rfl, I, L, rfl, hq⟩
theorem bm_vret (hr : M.2.2.2 = none) (hd : decode M.2.1 pc = .ok (.return_, 1)) (hq : Q none I L) : am_B M d Q I L pc l [] :=
  fun al R hs => am_vret hr (Nat.le_refl _) (Nat.le_refl _) hd ⟨rfl, I, L, rfl, hq⟩
theorem bm_aret {a : Nat} {C : String} (hr : M.2.2.2 = some (.object C)) (hd : decode M.2.1 pc = .ok (.areturn, 1)) (hq : Q (some (.ref a)) I L) : am_B M d Q I L pc l [.ref a] :=
  fun al R hs => am_aret hr (Nat.le_refl _) (Nat.le_refl _) hd ⟨rfl, I, L, rfl, hq⟩
theorem bm_invV {N : am_M} {d1 n index b ci NN : Nat} {C : String} {T : u_T} {as : List Value} {Q1 : am_S} (hK : am_K N d1 (.ref b :: as) I L Q1) (hw : am_cwd N n) (hlk : Cond.methodLink M.1.cls index N.1 ∈ lw_tbl) (hin : Cond.instanceMethod N.1 ∈ lw_tbl) (hse : Cond.selects N.1.cls N.1 N.1 ∈ lw_tbl) (hcl : am_cls ci C T NN) (hC : N.1.cls = C) (hy : am_lay b = .inr ci) (hb : ∀ (al : List Nat) (R : am_R), am_st al R → b ∈ al) (hn : as.length = n) (hd1 : d1 + 1 ≤ d) (hst : (st.map fun v => v.category).sum ≤ 8) (hd : decode M.2.1 pc = .ok (.invokevirtual index, 3)) (k : ∀ (r : Option Value) (I1 : am_I) (L1 : am_L), Q1 r I1 L1 → am_B M d Q I1 L1 (pc + 3) l (r.toList ++ st)) : am_B M d Q I L pc l (as.reverse ++ .ref b :: st) :=
  fun al R hs => am_invV (hK al R hs) hw hlk hin hse hcl hC hy (hb al R hs) hn hd1 (Nat.le_refl _) (Nat.le_refl _) hst ⟨fun _ _ _ _ => trivial, fun _ _ _ _ => trivial⟩ (fun _ _ => trivial) hd (fun r h1 al1 hq => by obtain ⟨rfl, I1, L1, rfl, hq⟩ := hq; exact k r I1 L1 hq al1 R hs)
theorem bm_invS {N : am_M} {d1 n index : Nat} {as : List Value} {Q1 : am_S} (hK : am_K N d1 as I L Q1) (hw : am_cwd N n) (hlk : Cond.methodLink M.1.cls index N.1 ∈ lw_tbl) (hsta : Cond.static N.1 ∈ lw_tbl) (hn : as.length = n) (hd1 : d1 + 1 ≤ d) (hst : (st.map fun v => v.category).sum ≤ 8) (hd : decode M.2.1 pc = .ok (.invokestatic index, 3)) (k : ∀ (r : Option Value) (I1 : am_I) (L1 : am_L), Q1 r I1 L1 → am_B M d Q I1 L1 (pc + 3) l (r.toList ++ st)) : am_B M d Q I L pc l (as.reverse ++ st) :=
  fun al R hs => am_invS (hK al R hs) hw hlk hsta hn hd1 (Nat.le_refl _) (Nat.le_refl _) hst ⟨fun _ _ _ _ => trivial, fun _ _ _ _ => trivial⟩ (fun _ _ => trivial) hd (fun r h1 al1 hq => by obtain ⟨rfl, I1, L1, rfl, hq⟩ := hq; exact k r I1 L1 hq al1 R hs)
theorem bm_invSN {N : am_M} {d1 n index : Nat} {host : String} {as : List Value} {Q1 : am_S} (hK : am_K N d1 as I L Q1) (hw : am_cwd N n) (hlk : (M.1.cls, index, N.1, host) ∈ am_nest) (hsta : Cond.static N.1 ∈ lw_tbl) (hn : as.length = n) (hd1 : d1 + 1 ≤ d) (hst : (st.map fun v => v.category).sum ≤ 8) (hd : decode M.2.1 pc = .ok (.invokestatic index, 3)) (k : ∀ (r : Option Value) (I1 : am_I) (L1 : am_L), Q1 r I1 L1 → am_B M d Q I1 L1 (pc + 3) l (r.toList ++ st)) : am_B M d Q I L pc l (as.reverse ++ st) :=
  fun al R hs => am_invSN (hK al R hs) hw hlk hsta hn hd1 (Nat.le_refl _) (Nat.le_refl _) hst ⟨fun _ _ _ _ => trivial, fun _ _ _ _ => trivial⟩ (fun _ _ => trivial) hd (fun r h1 al1 hq => by obtain ⟨rfl, I1, L1, rfl, hq⟩ := hq; exact k r I1 L1 hq al1 R hs)
theorem am_wmax : Cond.static Lib.MathLoose.max_long.x ∈ lw_tbl ∧ Cond.initialized "java/lang/Math" ∈ lw_tbl ∧ Cond.code Lib.MathLoose.max_long.x Lib.MathLoose.max_long.code 4 (some .long) ∈ lw_tbl := ⟨by decide +kernel, by decide +kernel, by decide +kernel⟩
theorem bm_maxl {x y : Int64} {index : Nat} (hlk : Cond.methodLink M.1.cls index Lib.MathLoose.max_long.x ∈ lw_tbl) (hst : (st.map fun v => v.category).sum ≤ 8) (hx : 1 ≤ d) (hd : decode M.2.1 pc = .ok (.invokestatic index, 3)) (k : am_B M d Q I L (pc + 3) l (.long (if y < x then x else y) :: st)) : am_B M d Q I L pc l (.long y :: .long x :: st) :=
  fun al R hs => am_maxl hlk am_wmax.1 am_wmax.2.1 am_wmax.2.2 hst hx (Nat.le_refl _) (Nat.le_refl _) hd (k al R hs)
theorem am_wmin : Cond.static Lib.MathLoose.min_long.x ∈ lw_tbl ∧ Cond.initialized "java/lang/Math" ∈ lw_tbl ∧ Cond.code Lib.MathLoose.min_long.x Lib.MathLoose.min_long.code 4 (some .long) ∈ lw_tbl := ⟨by decide +kernel, by decide +kernel, by decide +kernel⟩
theorem bm_minl {x y : Int64} {index : Nat} (hlk : Cond.methodLink M.1.cls index Lib.MathLoose.min_long.x ∈ lw_tbl) (hst : (st.map fun v => v.category).sum ≤ 8) (hx : 1 ≤ d) (hd : decode M.2.1 pc = .ok (.invokestatic index, 3)) (k : am_B M d Q I L (pc + 3) l (.long (if y < x then y else x) :: st)) : am_B M d Q I L pc l (.long y :: .long x :: st) :=
  fun al R hs => am_minl hlk am_wmin.1 am_wmin.2.1 am_wmin.2.2 hst hx (Nat.le_refl _) (Nat.le_refl _) hd (k al R hs)
theorem am_wcopy : Cond.native arraycopyName ∈ lw_tbl ∧ Cond.static arraycopyName ∈ lw_tbl ∧ Cond.initialized "java/lang/System" ∈ lw_tbl := ⟨by decide +kernel, by decide +kernel, by decide +kernel⟩
theorem bm_copyi {src dst n index : Nat} {N : Int32} (hs1 : am_lay src = .inl (.int, n)) (hs2 : am_lay dst = .inl (.int, n)) (ha : ∀ (al : List Nat) (R : am_R), am_st al R → src ∈ al) (hb : ∀ (al : List Nat) (R : am_R), am_st al R → dst ∈ al) (hN : ¬ N < 0) (hn : N.toNatClampNeg = n) (hlk : Cond.methodLink M.1.cls index arraycopyName ∈ lw_tbl) (hst : (st.map fun v => v.category).sum ≤ 8) (hx : 1 ≤ d) (hd : decode M.2.1 pc = .ok (.invokestatic index, 3)) (k : am_B M d Q (am_cp I dst src n) L (pc + 3) l st) : am_B M d Q I L pc l (.int N :: .int 0 :: .ref dst :: .int 0 :: .ref src :: st) :=
  fun al R hs => am_copyi hs1 hs2 (ha al R hs) (hb al R hs) hN hn hlk am_wcopy.1 am_wcopy.2.1 am_wcopy.2.2 hst hx hd (k al R hs)
theorem bm_copyl {src dst n index : Nat} {N : Int32} (hs1 : am_lay src = .inl (.long, n)) (hs2 : am_lay dst = .inl (.long, n)) (ha : ∀ (al : List Nat) (R : am_R), am_st al R → src ∈ al) (hb : ∀ (al : List Nat) (R : am_R), am_st al R → dst ∈ al) (hN : ¬ N < 0) (hn : N.toNatClampNeg = n) (hlk : Cond.methodLink M.1.cls index arraycopyName ∈ lw_tbl) (hst : (st.map fun v => v.category).sum ≤ 8) (hx : 1 ≤ d) (hd : decode M.2.1 pc = .ok (.invokestatic index, 3)) (k : am_B M d Q I (am_cp L dst src n) (pc + 3) l st) : am_B M d Q I L pc l (.int N :: .int 0 :: .ref dst :: .int 0 :: .ref src :: st) :=
  fun al R hs => am_copyl hs1 hs2 (ha al R hs) (hb al R hs) hN hn hlk am_wcopy.1 am_wcopy.2.1 am_wcopy.2.2 hst hx hd (k al R hs)
end BM
end
section
theorem tb_in {w : Cond} (h : w ∈ tables_1) : w ∈ lw_tbl := List.mem_append_right _ h
theorem tb_1 {w : Cond} {i : Nat} (h : tables_1_1[i]? = some w) : w ∈ lw_tbl := tb_in (show w ∈ tables_1_1 ++ (tables_1_2 ++ (tables_1_3 ++ (tables_1_4 ++ (tables_1_5 ++ (tables_1_6 ++ tables_1_7))))) from List.mem_append_left _ (List.mem_of_getElem? h))
theorem tb_2 {w : Cond} {i : Nat} (h : tables_1_2[i]? = some w) : w ∈ lw_tbl := tb_in (show w ∈ tables_1_1 ++ (tables_1_2 ++ (tables_1_3 ++ (tables_1_4 ++ (tables_1_5 ++ (tables_1_6 ++ tables_1_7))))) from List.mem_append_right _ (List.mem_append_left _ (List.mem_of_getElem? h)))
theorem tb_3 {w : Cond} {i : Nat} (h : tables_1_3[i]? = some w) : w ∈ lw_tbl := tb_in (show w ∈ tables_1_1 ++ (tables_1_2 ++ (tables_1_3 ++ (tables_1_4 ++ (tables_1_5 ++ (tables_1_6 ++ tables_1_7))))) from List.mem_append_right _ (List.mem_append_right _ (List.mem_append_left _ (List.mem_of_getElem? h))))
theorem tb_4 {w : Cond} {i : Nat} (h : tables_1_4[i]? = some w) : w ∈ lw_tbl := tb_in (show w ∈ tables_1_1 ++ (tables_1_2 ++ (tables_1_3 ++ (tables_1_4 ++ (tables_1_5 ++ (tables_1_6 ++ tables_1_7))))) from List.mem_append_right _ (List.mem_append_right _ (List.mem_append_right _ (List.mem_append_left _ (List.mem_of_getElem? h)))))
theorem tb_5 {w : Cond} {i : Nat} (h : tables_1_5[i]? = some w) : w ∈ lw_tbl := tb_in (show w ∈ tables_1_1 ++ (tables_1_2 ++ (tables_1_3 ++ (tables_1_4 ++ (tables_1_5 ++ (tables_1_6 ++ tables_1_7))))) from List.mem_append_right _ (List.mem_append_right _ (List.mem_append_right _ (List.mem_append_right _ (List.mem_append_left _ (List.mem_of_getElem? h))))))
theorem tb_6 {w : Cond} {i : Nat} (h : tables_1_6[i]? = some w) : w ∈ lw_tbl := tb_in (show w ∈ tables_1_1 ++ (tables_1_2 ++ (tables_1_3 ++ (tables_1_4 ++ (tables_1_5 ++ (tables_1_6 ++ tables_1_7))))) from List.mem_append_right _ (List.mem_append_right _ (List.mem_append_right _ (List.mem_append_right _ (List.mem_append_right _ (List.mem_append_left _ (List.mem_of_getElem? h)))))))
theorem tb_7 {w : Cond} {i : Nat} (h : tables_1_7[i]? = some w) : w ∈ lw_tbl := tb_in (show w ∈ tables_1_1 ++ (tables_1_2 ++ (tables_1_3 ++ (tables_1_4 ++ (tables_1_5 ++ (tables_1_6 ++ tables_1_7))))) from List.mem_append_right _ (List.mem_append_right _ (List.mem_append_right _ (List.mem_append_right _ (List.mem_append_right _ (List.mem_append_right _ (List.mem_of_getElem? h)))))))
theorem tb_0 {y : MethodName} {n i : Nat} (h : lw_privs[i]? = some (y, n)) : Cond.selects y.cls y y ∈ lw_tbl := List.mem_append_left _ (List.mem_map.mpr ⟨(y, n), List.mem_of_getElem? h, rfl⟩)
def RJ6 : String := "java/lang/Integer"
def RJ7 : String := "java/util/Arrays"
abbrev cX0_init : ByteArray := prog_2_method_1_code
def yX0_init : MethodName := ⟨RX0, "<init>", "()V"⟩
abbrev M_X0_init : am_M := (yX0_init, cX0_init, 1, none)
theorem cw_X0_init : am_cwd M_X0_init 0 := ⟨(tb_1 (i := 192) (by decide +kernel)), (tb_1 (i := 5) (by decide +kernel)), by decide +kernel, by decide⟩
theorem ins_X0_init : Cond.instanceMethod yX0_init ∈ lw_tbl := (tb_1 (i := 191) (by decide +kernel))
abbrev cX0_countOf : ByteArray := prog_2_method_2_code
def yX0_countOf : MethodName := ⟨RX0, "countOf", "(LSteadyFund$Ledger;II)J"⟩
abbrev M_X0_countOf : am_M := (yX0_countOf, cX0_countOf, 4, (some .long))
theorem cw_X0_countOf : am_cwd M_X0_countOf 3 := ⟨(tb_3 (i := 149) (by decide +kernel)), (tb_1 (i := 5) (by decide +kernel)), by decide +kernel, by decide⟩
theorem ins_X0_countOf : Cond.instanceMethod yX0_countOf ∈ lw_tbl := (tb_3 (i := 147) (by decide +kernel))
theorem sel_X0_countOf : Cond.selects yX0_countOf.cls yX0_countOf yX0_countOf ∈ lw_tbl := (tb_3 (i := 148) (by decide +kernel))
abbrev cX0_indexedOf : ByteArray := prog_2_method_3_code
def yX0_indexedOf : MethodName := ⟨RX0, "indexedOf", "(LSteadyFund$Ledger;I)J"⟩
abbrev M_X0_indexedOf : am_M := (yX0_indexedOf, cX0_indexedOf, 6, (some .long))
theorem cw_X0_indexedOf : am_cwd M_X0_indexedOf 2 := ⟨(tb_3 (i := 160) (by decide +kernel)), (tb_1 (i := 5) (by decide +kernel)), by decide +kernel, by decide⟩
theorem ins_X0_indexedOf : Cond.instanceMethod yX0_indexedOf ∈ lw_tbl := (tb_3 (i := 159) (by decide +kernel))
theorem sel_X0_indexedOf : Cond.selects yX0_indexedOf.cls yX0_indexedOf yX0_indexedOf ∈ lw_tbl := (tb_0 (i := 0) rfl)
abbrev cX0_countOfAll : ByteArray := prog_2_method_4_code
def yX0_countOfAll : MethodName := ⟨RX0, "countOfAll", "(LSteadyFund$Ledger;I)J"⟩
abbrev M_X0_countOfAll : am_M := (yX0_countOfAll, cX0_countOfAll, 6, (some .long))
theorem cw_X0_countOfAll : am_cwd M_X0_countOfAll 2 := ⟨(tb_3 (i := 145) (by decide +kernel)), (tb_1 (i := 5) (by decide +kernel)), by decide +kernel, by decide⟩
theorem ins_X0_countOfAll : Cond.instanceMethod yX0_countOfAll ∈ lw_tbl := (tb_3 (i := 143) (by decide +kernel))
theorem sel_X0_countOfAll : Cond.selects yX0_countOfAll.cls yX0_countOfAll yX0_countOfAll ∈ lw_tbl := (tb_3 (i := 144) (by decide +kernel))
abbrev cX0_dealtTo : ByteArray := prog_2_method_5_code
def yX0_dealtTo : MethodName := ⟨RX0, "dealtTo", "(LSteadyFund$Ledger;III)J"⟩
abbrev M_X0_dealtTo : am_M := (yX0_dealtTo, cX0_dealtTo, 7, (some .long))
theorem cw_X0_dealtTo : am_cwd M_X0_dealtTo 4 := ⟨(tb_3 (i := 172) (by decide +kernel)), (tb_1 (i := 5) (by decide +kernel)), by decide +kernel, by decide⟩
theorem ins_X0_dealtTo : Cond.instanceMethod yX0_dealtTo ∈ lw_tbl := (tb_3 (i := 170) (by decide +kernel))
theorem sel_X0_dealtTo : Cond.selects yX0_dealtTo.cls yX0_dealtTo yX0_dealtTo ∈ lw_tbl := (tb_3 (i := 171) (by decide +kernel))
abbrev cX0_addGift : ByteArray := prog_2_method_6_code
def yX0_addGift : MethodName := ⟨RX0, "addGift", "(IIII)I"⟩
abbrev M_X0_addGift : am_M := (yX0_addGift, cX0_addGift, 5, (some .int))
theorem cw_X0_addGift : am_cwd M_X0_addGift 4 := ⟨(tb_3 (i := 214) (by decide +kernel)), (tb_1 (i := 5) (by decide +kernel)), by decide +kernel, by decide⟩
theorem ins_X0_addGift : Cond.instanceMethod yX0_addGift ∈ lw_tbl := (tb_3 (i := 212) (by decide +kernel))
theorem sel_X0_addGift : Cond.selects yX0_addGift.cls yX0_addGift yX0_addGift ∈ lw_tbl := (tb_3 (i := 213) (by decide +kernel))
abbrev cX0_toTakeFrom : ByteArray := prog_2_method_7_code
def yX0_toTakeFrom : MethodName := ⟨RX0, "toTakeFrom", "(LSteadyFund$Ledger;I)J"⟩
abbrev M_X0_toTakeFrom : am_M := (yX0_toTakeFrom, cX0_toTakeFrom, 8, (some .long))
theorem cw_X0_toTakeFrom : am_cwd M_X0_toTakeFrom 2 := ⟨(tb_3 (i := 226) (by decide +kernel)), (tb_1 (i := 5) (by decide +kernel)), by decide +kernel, by decide⟩
theorem ins_X0_toTakeFrom : Cond.instanceMethod yX0_toTakeFrom ∈ lw_tbl := (tb_3 (i := 224) (by decide +kernel))
theorem sel_X0_toTakeFrom : Cond.selects yX0_toTakeFrom.cls yX0_toTakeFrom yX0_toTakeFrom ∈ lw_tbl := (tb_3 (i := 225) (by decide +kernel))
abbrev cX0_takenFrom : ByteArray := prog_2_method_8_code
def yX0_takenFrom : MethodName := ⟨RX0, "takenFrom", "(LSteadyFund$Ledger;I)J"⟩
abbrev M_X0_takenFrom : am_M := (yX0_takenFrom, cX0_takenFrom, 5, (some .long))
theorem cw_X0_takenFrom : am_cwd M_X0_takenFrom 2 := ⟨(tb_3 (i := 232) (by decide +kernel)), (tb_1 (i := 5) (by decide +kernel)), by decide +kernel, by decide⟩
theorem ins_X0_takenFrom : Cond.instanceMethod yX0_takenFrom ∈ lw_tbl := (tb_3 (i := 230) (by decide +kernel))
theorem sel_X0_takenFrom : Cond.selects yX0_takenFrom.cls yX0_takenFrom yX0_takenFrom ∈ lw_tbl := (tb_3 (i := 231) (by decide +kernel))
abbrev cX0_leadOn : ByteArray := prog_2_method_9_code
def yX0_leadOn : MethodName := ⟨RX0, "leadOn", "(I)V"⟩
abbrev M_X0_leadOn : am_M := (yX0_leadOn, cX0_leadOn, 4, none)
theorem cw_X0_leadOn : am_cwd M_X0_leadOn 1 := ⟨(tb_3 (i := 237) (by decide +kernel)), (tb_1 (i := 5) (by decide +kernel)), by decide +kernel, by decide⟩
theorem ins_X0_leadOn : Cond.instanceMethod yX0_leadOn ∈ lw_tbl := (tb_3 (i := 236) (by decide +kernel))
theorem sel_X0_leadOn : Cond.selects yX0_leadOn.cls yX0_leadOn yX0_leadOn ∈ lw_tbl := (tb_0 (i := 2) rfl)
abbrev cX0_addSuit : ByteArray := prog_2_method_10_code
def yX0_addSuit : MethodName := ⟨RX0, "addSuit", "(III)I"⟩
abbrev M_X0_addSuit : am_M := (yX0_addSuit, cX0_addSuit, 4, (some .int))
theorem cw_X0_addSuit : am_cwd M_X0_addSuit 3 := ⟨(tb_5 (i := 54) (by decide +kernel)), (tb_1 (i := 5) (by decide +kernel)), by decide +kernel, by decide⟩
theorem ins_X0_addSuit : Cond.instanceMethod yX0_addSuit ∈ lw_tbl := (tb_5 (i := 52) (by decide +kernel))
theorem sel_X0_addSuit : Cond.selects yX0_addSuit.cls yX0_addSuit yX0_addSuit ∈ lw_tbl := (tb_5 (i := 53) (by decide +kernel))
abbrev cX0_bestSet : ByteArray := prog_2_method_11_code
def yX0_bestSet : MethodName := ⟨RX0, "bestSet", "(I)I"⟩
abbrev M_X0_bestSet : am_M := (yX0_bestSet, cX0_bestSet, 4, (some .int))
theorem cw_X0_bestSet : am_cwd M_X0_bestSet 1 := ⟨(tb_5 (i := 62) (by decide +kernel)), (tb_1 (i := 5) (by decide +kernel)), by decide +kernel, by decide⟩
theorem ins_X0_bestSet : Cond.instanceMethod yX0_bestSet ∈ lw_tbl := (tb_5 (i := 60) (by decide +kernel))
theorem sel_X0_bestSet : Cond.selects yX0_bestSet.cls yX0_bestSet yX0_bestSet ∈ lw_tbl := (tb_5 (i := 61) (by decide +kernel))
abbrev cX0_gainOf : ByteArray := prog_2_method_12_code
def yX0_gainOf : MethodName := ⟨RX0, "gainOf", "(I)I"⟩
abbrev M_X0_gainOf : am_M := (yX0_gainOf, cX0_gainOf, 4, (some .int))
theorem cw_X0_gainOf : am_cwd M_X0_gainOf 1 := ⟨(tb_5 (i := 70) (by decide +kernel)), (tb_1 (i := 5) (by decide +kernel)), by decide +kernel, by decide⟩
theorem ins_X0_gainOf : Cond.instanceMethod yX0_gainOf ∈ lw_tbl := (tb_5 (i := 68) (by decide +kernel))
theorem sel_X0_gainOf : Cond.selects yX0_gainOf.cls yX0_gainOf yX0_gainOf ∈ lw_tbl := (tb_5 (i := 69) (by decide +kernel))
abbrev cX0_monthsOf : ByteArray := prog_2_method_13_code
def yX0_monthsOf : MethodName := ⟨RX0, "monthsOf", "(I)I"⟩
abbrev M_X0_monthsOf : am_M := (yX0_monthsOf, cX0_monthsOf, 4, (some .int))
theorem cw_X0_monthsOf : am_cwd M_X0_monthsOf 1 := ⟨(tb_5 (i := 66) (by decide +kernel)), (tb_1 (i := 5) (by decide +kernel)), by decide +kernel, by decide⟩
theorem ins_X0_monthsOf : Cond.instanceMethod yX0_monthsOf ∈ lw_tbl := (tb_5 (i := 65) (by decide +kernel))
theorem sel_X0_monthsOf : Cond.selects yX0_monthsOf.cls yX0_monthsOf yX0_monthsOf ∈ lw_tbl := (tb_0 (i := 21) rfl)
abbrev cX0_digestedGifts : ByteArray := prog_2_method_14_code
def yX0_digestedGifts : MethodName := ⟨RX0, "digestedGifts", "(J)J"⟩
abbrev M_X0_digestedGifts : am_M := (yX0_digestedGifts, cX0_digestedGifts, 6, (some .long))
theorem cw_X0_digestedGifts : am_cwd M_X0_digestedGifts 1 := ⟨(tb_5 (i := 170) (by decide +kernel)), (tb_1 (i := 5) (by decide +kernel)), by decide +kernel, by decide⟩
theorem ins_X0_digestedGifts : Cond.instanceMethod yX0_digestedGifts ∈ lw_tbl := (tb_5 (i := 168) (by decide +kernel))
theorem sel_X0_digestedGifts : Cond.selects yX0_digestedGifts.cls yX0_digestedGifts yX0_digestedGifts ∈ lw_tbl := (tb_5 (i := 169) (by decide +kernel))
abbrev cX0_digestedSuits : ByteArray := prog_2_method_15_code
def yX0_digestedSuits : MethodName := ⟨RX0, "digestedSuits", "(J)J"⟩
abbrev M_X0_digestedSuits : am_M := (yX0_digestedSuits, cX0_digestedSuits, 6, (some .long))
theorem cw_X0_digestedSuits : am_cwd M_X0_digestedSuits 1 := ⟨(tb_5 (i := 189) (by decide +kernel)), (tb_1 (i := 5) (by decide +kernel)), by decide +kernel, by decide⟩
theorem ins_X0_digestedSuits : Cond.instanceMethod yX0_digestedSuits ∈ lw_tbl := (tb_5 (i := 187) (by decide +kernel))
theorem sel_X0_digestedSuits : Cond.selects yX0_digestedSuits.cls yX0_digestedSuits yX0_digestedSuits ∈ lw_tbl := (tb_5 (i := 188) (by decide +kernel))
abbrev cX0_copyFrom : ByteArray := prog_2_method_16_code
def yX0_copyFrom : MethodName := ⟨RX0, "copyFrom", "(LSteadyFund$Claims;)V"⟩
abbrev M_X0_copyFrom : am_M := (yX0_copyFrom, cX0_copyFrom, 2, none)
theorem cw_X0_copyFrom : am_cwd M_X0_copyFrom 1 := ⟨(tb_5 (i := 125) (by decide +kernel)), (tb_1 (i := 5) (by decide +kernel)), by decide +kernel, by decide⟩
theorem ins_X0_copyFrom : Cond.instanceMethod yX0_copyFrom ∈ lw_tbl := (tb_5 (i := 123) (by decide +kernel))
theorem sel_X0_copyFrom : Cond.selects yX0_copyFrom.cls yX0_copyFrom yX0_copyFrom ∈ lw_tbl := (tb_5 (i := 124) (by decide +kernel))
abbrev cX1_init : ByteArray := prog_3_method_1_code
def yX1_init : MethodName := ⟨RX1, "<init>", "(Z)V"⟩
abbrev M_X1_init : am_M := (yX1_init, cX1_init, 2, none)
theorem cw_X1_init : am_cwd M_X1_init 1 := ⟨(tb_2 (i := 146) (by decide +kernel)), (tb_1 (i := 12) (by decide +kernel)), by decide +kernel, by decide⟩
theorem ins_X1_init : Cond.instanceMethod yX1_init ∈ lw_tbl := (tb_2 (i := 145) (by decide +kernel))
abbrev cX1_settle : ByteArray := prog_3_method_2_code
def yX1_settle : MethodName := ⟨RX1, "settle", "(LSteadyFund$World;)V"⟩
abbrev M_X1_settle : am_M := (yX1_settle, cX1_settle, 3, none)
theorem cw_X1_settle : am_cwd M_X1_settle 1 := ⟨(tb_4 (i := 21) (by decide +kernel)), (tb_1 (i := 12) (by decide +kernel)), by decide +kernel, by decide⟩
theorem ins_X1_settle : Cond.instanceMethod yX1_settle ∈ lw_tbl := (tb_4 (i := 19) (by decide +kernel))
theorem sel_X1_settle : Cond.selects yX1_settle.cls yX1_settle yX1_settle ∈ lw_tbl := (tb_4 (i := 20) (by decide +kernel))
abbrev cX1_learn : ByteArray := prog_3_method_3_code
def yX1_learn : MethodName := ⟨RX1, "learn", "(LSteadyFund$World;)Z"⟩
abbrev M_X1_learn : am_M := (yX1_learn, cX1_learn, 6, (some .boolean))
theorem cw_X1_learn : am_cwd M_X1_learn 1 := ⟨(tb_4 (i := 25) (by decide +kernel)), (tb_1 (i := 12) (by decide +kernel)), by decide +kernel, by decide⟩
theorem ins_X1_learn : Cond.instanceMethod yX1_learn ∈ lw_tbl := (tb_4 (i := 24) (by decide +kernel))
theorem sel_X1_learn : Cond.selects yX1_learn.cls yX1_learn yX1_learn ∈ lw_tbl := (tb_0 (i := 4) rfl)
abbrev cX1_begin : ByteArray := prog_3_method_4_code
def yX1_begin : MethodName := ⟨RX1, "begin", "()V"⟩
abbrev M_X1_begin : am_M := (yX1_begin, cX1_begin, 3, none)
theorem cw_X1_begin : am_cwd M_X1_begin 0 := ⟨(tb_4 (i := 35) (by decide +kernel)), (tb_1 (i := 12) (by decide +kernel)), by decide +kernel, by decide⟩
theorem ins_X1_begin : Cond.instanceMethod yX1_begin ∈ lw_tbl := (tb_4 (i := 34) (by decide +kernel))
theorem sel_X1_begin : Cond.selects yX1_begin.cls yX1_begin yX1_begin ∈ lw_tbl := (tb_0 (i := 5) rfl)
abbrev cX1_changesInRound : ByteArray := prog_3_method_5_code
def yX1_changesInRound : MethodName := ⟨RX1, "changesInRound", "()Z"⟩
abbrev M_X1_changesInRound : am_M := (yX1_changesInRound, cX1_changesInRound, 3, (some .boolean))
theorem cw_X1_changesInRound : am_cwd M_X1_changesInRound 0 := ⟨(tb_4 (i := 48) (by decide +kernel)), (tb_1 (i := 12) (by decide +kernel)), by decide +kernel, by decide⟩
theorem ins_X1_changesInRound : Cond.instanceMethod yX1_changesInRound ∈ lw_tbl := (tb_4 (i := 47) (by decide +kernel))
theorem sel_X1_changesInRound : Cond.selects yX1_changesInRound.cls yX1_changesInRound yX1_changesInRound ∈ lw_tbl := (tb_0 (i := 7) rfl)
abbrev cX1_handOn : ByteArray := prog_3_method_6_code
def yX1_handOn : MethodName := ⟨RX1, "handOn", "(I)V"⟩
abbrev M_X1_handOn : am_M := (yX1_handOn, cX1_handOn, 6, none)
theorem cw_X1_handOn : am_cwd M_X1_handOn 1 := ⟨(tb_4 (i := 42) (by decide +kernel)), (tb_1 (i := 12) (by decide +kernel)), by decide +kernel, by decide⟩
theorem ins_X1_handOn : Cond.instanceMethod yX1_handOn ∈ lw_tbl := (tb_4 (i := 41) (by decide +kernel))
theorem sel_X1_handOn : Cond.selects yX1_handOn.cls yX1_handOn yX1_handOn ∈ lw_tbl := (tb_0 (i := 6) rfl)
abbrev cX1_fallen : ByteArray := prog_3_method_7_code
def yX1_fallen : MethodName := ⟨RX1, "fallen", "()I"⟩
abbrev M_X1_fallen : am_M := (yX1_fallen, cX1_fallen, 3, (some .int))
theorem cw_X1_fallen : am_cwd M_X1_fallen 0 := ⟨(tb_4 (i := 57) (by decide +kernel)), (tb_1 (i := 12) (by decide +kernel)), by decide +kernel, by decide⟩
theorem ins_X1_fallen : Cond.instanceMethod yX1_fallen ∈ lw_tbl := (tb_4 (i := 55) (by decide +kernel))
theorem sel_X1_fallen : Cond.selects yX1_fallen.cls yX1_fallen yX1_fallen ∈ lw_tbl := (tb_4 (i := 56) (by decide +kernel))
abbrev cX2_init : ByteArray := prog_4_method_1_code
def yX2_init : MethodName := ⟨RX2, "<init>", "()V"⟩
abbrev M_X2_init : am_M := (yX2_init, cX2_init, 1, none)
theorem cw_X2_init : am_cwd M_X2_init 0 := ⟨(tb_2 (i := 110) (by decide +kernel)), (tb_1 (i := 10) (by decide +kernel)), by decide +kernel, by decide⟩
theorem ins_X2_init : Cond.instanceMethod yX2_init ∈ lw_tbl := (tb_2 (i := 109) (by decide +kernel))
abbrev cX2_become : ByteArray := prog_4_method_2_code
def yX2_become : MethodName := ⟨RX2, "become", "(JJ)V"⟩
abbrev M_X2_become : am_M := (yX2_become, cX2_become, 7, none)
theorem cw_X2_become : am_cwd M_X2_become 2 := ⟨(tb_3 (i := 117) (by decide +kernel)), (tb_1 (i := 10) (by decide +kernel)), by decide +kernel, by decide⟩
theorem ins_X2_become : Cond.instanceMethod yX2_become ∈ lw_tbl := (tb_3 (i := 115) (by decide +kernel))
theorem sel_X2_become : Cond.selects yX2_become.cls yX2_become yX2_become ∈ lw_tbl := (tb_3 (i := 116) (by decide +kernel))
abbrev cX2_commonDivisor : ByteArray := prog_4_method_3_code
def yX2_commonDivisor : MethodName := ⟨RX2, "commonDivisor", "(JJ)J"⟩
abbrev M_X2_commonDivisor : am_M := (yX2_commonDivisor, cX2_commonDivisor, 11, (some .long))
theorem cw_X2_commonDivisor : am_cwd M_X2_commonDivisor 2 := ⟨(tb_3 (i := 120) (by decide +kernel)), (tb_1 (i := 10) (by decide +kernel)), by decide +kernel, by decide⟩
theorem sta_X2_commonDivisor : Cond.static yX2_commonDivisor ∈ lw_tbl := (tb_3 (i := 119) (by decide +kernel))
abbrev cX3_init : ByteArray := prog_5_method_1_code
def yX3_init : MethodName := ⟨RX3, "<init>", "()V"⟩
abbrev M_X3_init : am_M := (yX3_init, cX3_init, 1, none)
theorem cw_X3_init : am_cwd M_X3_init 0 := ⟨(tb_2 (i := 6) (by decide +kernel)), (tb_1 (i := 7) (by decide +kernel)), by decide +kernel, by decide⟩
theorem ins_X3_init : Cond.instanceMethod yX3_init ∈ lw_tbl := (tb_2 (i := 5) (by decide +kernel))
abbrev cX3_coinsOf : ByteArray := prog_5_method_2_code
def yX3_coinsOf : MethodName := ⟨RX3, "coinsOf", "(ILSteadyFund$Ledger;)J"⟩
abbrev M_X3_coinsOf : am_M := (yX3_coinsOf, cX3_coinsOf, 6, (some .long))
theorem cw_X3_coinsOf : am_cwd M_X3_coinsOf 2 := ⟨(tb_4 (i := 29) (by decide +kernel)), (tb_1 (i := 7) (by decide +kernel)), by decide +kernel, by decide⟩
theorem ins_X3_coinsOf : Cond.instanceMethod yX3_coinsOf ∈ lw_tbl := (tb_4 (i := 27) (by decide +kernel))
theorem sel_X3_coinsOf : Cond.selects yX3_coinsOf.cls yX3_coinsOf yX3_coinsOf ∈ lw_tbl := (tb_4 (i := 28) (by decide +kernel))
abbrev cX3_digested : ByteArray := prog_5_method_3_code
def yX3_digested : MethodName := ⟨RX3, "digested", "(J)J"⟩
abbrev M_X3_digested : am_M := (yX3_digested, cX3_digested, 7, (some .long))
theorem cw_X3_digested : am_cwd M_X3_digested 1 := ⟨(tb_5 (i := 175) (by decide +kernel)), (tb_1 (i := 7) (by decide +kernel)), by decide +kernel, by decide⟩
theorem ins_X3_digested : Cond.instanceMethod yX3_digested ∈ lw_tbl := (tb_5 (i := 173) (by decide +kernel))
theorem sel_X3_digested : Cond.selects yX3_digested.cls yX3_digested yX3_digested ∈ lw_tbl := (tb_5 (i := 174) (by decide +kernel))
abbrev cX3_copyFrom : ByteArray := prog_5_method_4_code
def yX3_copyFrom : MethodName := ⟨RX3, "copyFrom", "(LSteadyFund$Houses;)V"⟩
abbrev M_X3_copyFrom : am_M := (yX3_copyFrom, cX3_copyFrom, 2, none)
theorem cw_X3_copyFrom : am_cwd M_X3_copyFrom 1 := ⟨(tb_5 (i := 130) (by decide +kernel)), (tb_1 (i := 7) (by decide +kernel)), by decide +kernel, by decide⟩
theorem ins_X3_copyFrom : Cond.instanceMethod yX3_copyFrom ∈ lw_tbl := (tb_5 (i := 128) (by decide +kernel))
theorem sel_X3_copyFrom : Cond.selects yX3_copyFrom.cls yX3_copyFrom yX3_copyFrom ∈ lw_tbl := (tb_5 (i := 129) (by decide +kernel))
abbrev cX4_init : ByteArray := prog_6_method_1_code
def yX4_init : MethodName := ⟨RX4, "<init>", "()V"⟩
abbrev M_X4_init : am_M := (yX4_init, cX4_init, 1, none)
theorem cw_X4_init : am_cwd M_X4_init 0 := ⟨(tb_1 (i := 41) (by decide +kernel)), (tb_1 (i := 3) (by decide +kernel)), by decide +kernel, by decide⟩
theorem ins_X4_init : Cond.instanceMethod yX4_init ∈ lw_tbl := (tb_1 (i := 40) (by decide +kernel))
abbrev cX4_has : ByteArray := prog_6_method_2_code
def yX4_has : MethodName := ⟨RX4, "has", "(I)Z"⟩
abbrev M_X4_has : am_M := (yX4_has, cX4_has, 2, (some .boolean))
theorem cw_X4_has : am_cwd M_X4_has 1 := ⟨(tb_3 (i := 7) (by decide +kernel)), (tb_1 (i := 3) (by decide +kernel)), by decide +kernel, by decide⟩
theorem ins_X4_has : Cond.instanceMethod yX4_has ∈ lw_tbl := (tb_3 (i := 5) (by decide +kernel))
theorem sel_X4_has : Cond.selects yX4_has.cls yX4_has yX4_has ∈ lw_tbl := (tb_3 (i := 6) (by decide +kernel))
abbrev cX4_addPerson : ByteArray := prog_6_method_3_code
def yX4_addPerson : MethodName := ⟨RX4, "addPerson", "(IZ)I"⟩
abbrev M_X4_addPerson : am_M := (yX4_addPerson, cX4_addPerson, 3, (some .int))
theorem cw_X4_addPerson : am_cwd M_X4_addPerson 2 := ⟨(tb_2 (i := 235) (by decide +kernel)), (tb_1 (i := 3) (by decide +kernel)), by decide +kernel, by decide⟩
theorem ins_X4_addPerson : Cond.instanceMethod yX4_addPerson ∈ lw_tbl := (tb_2 (i := 233) (by decide +kernel))
theorem sel_X4_addPerson : Cond.selects yX4_addPerson.cls yX4_addPerson yX4_addPerson ∈ lw_tbl := (tb_2 (i := 234) (by decide +kernel))
abbrev cX4_addRow : ByteArray := prog_6_method_4_code
def yX4_addRow : MethodName := ⟨RX4, "addRow", "(II)I"⟩
abbrev M_X4_addRow : am_M := (yX4_addRow, cX4_addRow, 3, (some .int))
theorem cw_X4_addRow : am_cwd M_X4_addRow 2 := ⟨(tb_3 (i := 13) (by decide +kernel)), (tb_1 (i := 3) (by decide +kernel)), by decide +kernel, by decide⟩
theorem ins_X4_addRow : Cond.instanceMethod yX4_addRow ∈ lw_tbl := (tb_3 (i := 11) (by decide +kernel))
theorem sel_X4_addRow : Cond.selects yX4_addRow.cls yX4_addRow yX4_addRow ∈ lw_tbl := (tb_3 (i := 12) (by decide +kernel))
abbrev cX4_endMonth : ByteArray := prog_6_method_5_code
def yX4_endMonth : MethodName := ⟨RX4, "endMonth", "()V"⟩
abbrev M_X4_endMonth : am_M := (yX4_endMonth, cX4_endMonth, 4, none)
theorem cw_X4_endMonth : am_cwd M_X4_endMonth 0 := ⟨(tb_3 (i := 25) (by decide +kernel)), (tb_1 (i := 3) (by decide +kernel)), by decide +kernel, by decide⟩
theorem ins_X4_endMonth : Cond.instanceMethod yX4_endMonth ∈ lw_tbl := (tb_3 (i := 23) (by decide +kernel))
theorem sel_X4_endMonth : Cond.selects yX4_endMonth.cls yX4_endMonth yX4_endMonth ∈ lw_tbl := (tb_3 (i := 24) (by decide +kernel))
abbrev cX4_shownToAll : ByteArray := prog_6_method_6_code
def yX4_shownToAll : MethodName := ⟨RX4, "shownToAll", "()J"⟩
abbrev M_X4_shownToAll : am_M := (yX4_shownToAll, cX4_shownToAll, 4, (some .long))
theorem cw_X4_shownToAll : am_cwd M_X4_shownToAll 0 := ⟨(tb_3 (i := 30) (by decide +kernel)), (tb_1 (i := 3) (by decide +kernel)), by decide +kernel, by decide⟩
theorem ins_X4_shownToAll : Cond.instanceMethod yX4_shownToAll ∈ lw_tbl := (tb_3 (i := 28) (by decide +kernel))
theorem sel_X4_shownToAll : Cond.selects yX4_shownToAll.cls yX4_shownToAll yX4_shownToAll ∈ lw_tbl := (tb_3 (i := 29) (by decide +kernel))
abbrev cX4_inOfAll : ByteArray := prog_6_method_7_code
def yX4_inOfAll : MethodName := ⟨RX4, "inOfAll", "(II)J"⟩
abbrev M_X4_inOfAll : am_M := (yX4_inOfAll, cX4_inOfAll, 6, (some .long))
theorem cw_X4_inOfAll : am_cwd M_X4_inOfAll 2 := ⟨(tb_3 (i := 44) (by decide +kernel)), (tb_1 (i := 3) (by decide +kernel)), by decide +kernel, by decide⟩
theorem ins_X4_inOfAll : Cond.instanceMethod yX4_inOfAll ∈ lw_tbl := (tb_3 (i := 42) (by decide +kernel))
theorem sel_X4_inOfAll : Cond.selects yX4_inOfAll.cls yX4_inOfAll yX4_inOfAll ∈ lw_tbl := (tb_3 (i := 43) (by decide +kernel))
abbrev cX4_outOfAll : ByteArray := prog_6_method_8_code
def yX4_outOfAll : MethodName := ⟨RX4, "outOfAll", "(II)J"⟩
abbrev M_X4_outOfAll : am_M := (yX4_outOfAll, cX4_outOfAll, 6, (some .long))
theorem cw_X4_outOfAll : am_cwd M_X4_outOfAll 2 := ⟨(tb_3 (i := 48) (by decide +kernel)), (tb_1 (i := 3) (by decide +kernel)), by decide +kernel, by decide⟩
theorem ins_X4_outOfAll : Cond.instanceMethod yX4_outOfAll ∈ lw_tbl := (tb_3 (i := 46) (by decide +kernel))
theorem sel_X4_outOfAll : Cond.selects yX4_outOfAll.cls yX4_outOfAll yX4_outOfAll ∈ lw_tbl := (tb_3 (i := 47) (by decide +kernel))
abbrev cX4_inOf : ByteArray := prog_6_method_9_code
def yX4_inOf : MethodName := ⟨RX4, "inOf", "(I)J"⟩
abbrev M_X4_inOf : am_M := (yX4_inOf, cX4_inOf, 5, (some .long))
theorem cw_X4_inOf : am_cwd M_X4_inOf 1 := ⟨(tb_3 (i := 188) (by decide +kernel)), (tb_1 (i := 3) (by decide +kernel)), by decide +kernel, by decide⟩
theorem ins_X4_inOf : Cond.instanceMethod yX4_inOf ∈ lw_tbl := (tb_3 (i := 186) (by decide +kernel))
theorem sel_X4_inOf : Cond.selects yX4_inOf.cls yX4_inOf yX4_inOf ∈ lw_tbl := (tb_3 (i := 187) (by decide +kernel))
abbrev cX4_outOf : ByteArray := prog_6_method_10_code
def yX4_outOf : MethodName := ⟨RX4, "outOf", "(II)J"⟩
abbrev M_X4_outOf : am_M := (yX4_outOf, cX4_outOf, 6, (some .long))
theorem cw_X4_outOf : am_cwd M_X4_outOf 2 := ⟨(tb_3 (i := 192) (by decide +kernel)), (tb_1 (i := 3) (by decide +kernel)), by decide +kernel, by decide⟩
theorem ins_X4_outOf : Cond.instanceMethod yX4_outOf ∈ lw_tbl := (tb_3 (i := 190) (by decide +kernel))
theorem sel_X4_outOf : Cond.selects yX4_outOf.cls yX4_outOf yX4_outOf ∈ lw_tbl := (tb_3 (i := 191) (by decide +kernel))
abbrev cX4_netOf : ByteArray := prog_6_method_11_code
def yX4_netOf : MethodName := ⟨RX4, "netOf", "(II)J"⟩
abbrev M_X4_netOf : am_M := (yX4_netOf, cX4_netOf, 6, (some .long))
theorem cw_X4_netOf : am_cwd M_X4_netOf 2 := ⟨(tb_3 (i := 153) (by decide +kernel)), (tb_1 (i := 3) (by decide +kernel)), by decide +kernel, by decide⟩
theorem ins_X4_netOf : Cond.instanceMethod yX4_netOf ∈ lw_tbl := (tb_3 (i := 151) (by decide +kernel))
theorem sel_X4_netOf : Cond.selects yX4_netOf.cls yX4_netOf yX4_netOf ∈ lw_tbl := (tb_3 (i := 152) (by decide +kernel))
abbrev cX4_lostBy : ByteArray := prog_6_method_12_code
def yX4_lostBy : MethodName := ⟨RX4, "lostBy", "(I)J"⟩
abbrev M_X4_lostBy : am_M := (yX4_lostBy, cX4_lostBy, 5, (some .long))
theorem cw_X4_lostBy : am_cwd M_X4_lostBy 1 := ⟨(tb_5 (i := 14) (by decide +kernel)), (tb_1 (i := 3) (by decide +kernel)), by decide +kernel, by decide⟩
theorem ins_X4_lostBy : Cond.instanceMethod yX4_lostBy ∈ lw_tbl := (tb_5 (i := 12) (by decide +kernel))
theorem sel_X4_lostBy : Cond.selects yX4_lostBy.cls yX4_lostBy yX4_lostBy ∈ lw_tbl := (tb_5 (i := 13) (by decide +kernel))
abbrev cX4_firstBelow : ByteArray := prog_6_method_13_code
def yX4_firstBelow : MethodName := ⟨RX4, "firstBelow", "([I[I)I"⟩
abbrev M_X4_firstBelow : am_M := (yX4_firstBelow, cX4_firstBelow, 6, (some .int))
theorem cw_X4_firstBelow : am_cwd M_X4_firstBelow 2 := ⟨(tb_3 (i := 64) (by decide +kernel)), (tb_1 (i := 3) (by decide +kernel)), by decide +kernel, by decide⟩
theorem ins_X4_firstBelow : Cond.instanceMethod yX4_firstBelow ∈ lw_tbl := (tb_3 (i := 62) (by decide +kernel))
theorem sel_X4_firstBelow : Cond.selects yX4_firstBelow.cls yX4_firstBelow yX4_firstBelow ∈ lw_tbl := (tb_3 (i := 63) (by decide +kernel))
abbrev cX4_digested : ByteArray := prog_6_method_14_code
def yX4_digested : MethodName := ⟨RX4, "digested", "(J)J"⟩
abbrev M_X4_digested : am_M := (yX4_digested, cX4_digested, 6, (some .long))
theorem cw_X4_digested : am_cwd M_X4_digested 1 := ⟨(tb_5 (i := 160) (by decide +kernel)), (tb_1 (i := 3) (by decide +kernel)), by decide +kernel, by decide⟩
theorem ins_X4_digested : Cond.instanceMethod yX4_digested ∈ lw_tbl := (tb_5 (i := 158) (by decide +kernel))
theorem sel_X4_digested : Cond.selects yX4_digested.cls yX4_digested yX4_digested ∈ lw_tbl := (tb_5 (i := 159) (by decide +kernel))
abbrev cX4_copyFrom : ByteArray := prog_6_method_15_code
def yX4_copyFrom : MethodName := ⟨RX4, "copyFrom", "(LSteadyFund$Ledger;)V"⟩
abbrev M_X4_copyFrom : am_M := (yX4_copyFrom, cX4_copyFrom, 2, none)
theorem cw_X4_copyFrom : am_cwd M_X4_copyFrom 1 := ⟨(tb_5 (i := 115) (by decide +kernel)), (tb_1 (i := 3) (by decide +kernel)), by decide +kernel, by decide⟩
theorem ins_X4_copyFrom : Cond.instanceMethod yX4_copyFrom ∈ lw_tbl := (tb_5 (i := 113) (by decide +kernel))
theorem sel_X4_copyFrom : Cond.selects yX4_copyFrom.cls yX4_copyFrom yX4_copyFrom ∈ lw_tbl := (tb_5 (i := 114) (by decide +kernel))
abbrev cX5_init : ByteArray := prog_7_method_1_code
def yX5_init : MethodName := ⟨RX5, "<init>", "()V"⟩
abbrev M_X5_init : am_M := (yX5_init, cX5_init, 1, none)
theorem cw_X5_init : am_cwd M_X5_init 0 := ⟨(tb_2 (i := 26) (by decide +kernel)), (tb_1 (i := 8) (by decide +kernel)), by decide +kernel, by decide⟩
theorem ins_X5_init : Cond.instanceMethod yX5_init ∈ lw_tbl := (tb_2 (i := 25) (by decide +kernel))
abbrev cX5_addLetter : ByteArray := prog_7_method_2_code
def yX5_addLetter : MethodName := ⟨RX5, "addLetter", "(III)I"⟩
abbrev M_X5_addLetter : am_M := (yX5_addLetter, cX5_addLetter, 4, (some .int))
theorem cw_X5_addLetter : am_cwd M_X5_addLetter 3 := ⟨(tb_4 (i := 65) (by decide +kernel)), (tb_1 (i := 8) (by decide +kernel)), by decide +kernel, by decide⟩
theorem ins_X5_addLetter : Cond.instanceMethod yX5_addLetter ∈ lw_tbl := (tb_4 (i := 63) (by decide +kernel))
theorem sel_X5_addLetter : Cond.selects yX5_addLetter.cls yX5_addLetter yX5_addLetter ∈ lw_tbl := (tb_4 (i := 64) (by decide +kernel))
abbrev cX5_askedBy : ByteArray := prog_7_method_3_code
def yX5_askedBy : MethodName := ⟨RX5, "askedBy", "(I)I"⟩
abbrev M_X5_askedBy : am_M := (yX5_askedBy, cX5_askedBy, 4, (some .int))
theorem cw_X5_askedBy : am_cwd M_X5_askedBy 1 := ⟨(tb_5 (i := 1) (by decide +kernel)), (tb_1 (i := 8) (by decide +kernel)), by decide +kernel, by decide⟩
theorem ins_X5_askedBy : Cond.instanceMethod yX5_askedBy ∈ lw_tbl := (tb_4 (i := 239) (by decide +kernel))
theorem sel_X5_askedBy : Cond.selects yX5_askedBy.cls yX5_askedBy yX5_askedBy ∈ lw_tbl := (tb_5 (i := 0) (by decide +kernel))
abbrev cX5_readBy : ByteArray := prog_7_method_4_code
def yX5_readBy : MethodName := ⟨RX5, "readBy", "(I)I"⟩
abbrev M_X5_readBy : am_M := (yX5_readBy, cX5_readBy, 4, (some .int))
theorem cw_X5_readBy : am_cwd M_X5_readBy 1 := ⟨(tb_5 (i := 5) (by decide +kernel)), (tb_1 (i := 8) (by decide +kernel)), by decide +kernel, by decide⟩
theorem ins_X5_readBy : Cond.instanceMethod yX5_readBy ∈ lw_tbl := (tb_5 (i := 3) (by decide +kernel))
theorem sel_X5_readBy : Cond.selects yX5_readBy.cls yX5_readBy yX5_readBy ∈ lw_tbl := (tb_5 (i := 4) (by decide +kernel))
abbrev cX5_digestedLetters : ByteArray := prog_7_method_5_code
def yX5_digestedLetters : MethodName := ⟨RX5, "digestedLetters", "(J)J"⟩
abbrev M_X5_digestedLetters : am_M := (yX5_digestedLetters, cX5_digestedLetters, 6, (some .long))
theorem cw_X5_digestedLetters : am_cwd M_X5_digestedLetters 1 := ⟨(tb_5 (i := 180) (by decide +kernel)), (tb_1 (i := 8) (by decide +kernel)), by decide +kernel, by decide⟩
theorem ins_X5_digestedLetters : Cond.instanceMethod yX5_digestedLetters ∈ lw_tbl := (tb_5 (i := 178) (by decide +kernel))
theorem sel_X5_digestedLetters : Cond.selects yX5_digestedLetters.cls yX5_digestedLetters yX5_digestedLetters ∈ lw_tbl := (tb_5 (i := 179) (by decide +kernel))
abbrev cX5_digestedRules : ByteArray := prog_7_method_6_code
def yX5_digestedRules : MethodName := ⟨RX5, "digestedRules", "(J)J"⟩
abbrev M_X5_digestedRules : am_M := (yX5_digestedRules, cX5_digestedRules, 6, (some .long))
theorem cw_X5_digestedRules : am_cwd M_X5_digestedRules 1 := ⟨(tb_5 (i := 193) (by decide +kernel)), (tb_1 (i := 8) (by decide +kernel)), by decide +kernel, by decide⟩
theorem ins_X5_digestedRules : Cond.instanceMethod yX5_digestedRules ∈ lw_tbl := (tb_5 (i := 191) (by decide +kernel))
theorem sel_X5_digestedRules : Cond.selects yX5_digestedRules.cls yX5_digestedRules yX5_digestedRules ∈ lw_tbl := (tb_5 (i := 192) (by decide +kernel))
abbrev cX5_copyFrom : ByteArray := prog_7_method_7_code
def yX5_copyFrom : MethodName := ⟨RX5, "copyFrom", "(LSteadyFund$Letters;)V"⟩
abbrev M_X5_copyFrom : am_M := (yX5_copyFrom, cX5_copyFrom, 2, none)
theorem cw_X5_copyFrom : am_cwd M_X5_copyFrom 1 := ⟨(tb_5 (i := 135) (by decide +kernel)), (tb_1 (i := 8) (by decide +kernel)), by decide +kernel, by decide⟩
theorem ins_X5_copyFrom : Cond.instanceMethod yX5_copyFrom ∈ lw_tbl := (tb_5 (i := 133) (by decide +kernel))
theorem sel_X5_copyFrom : Cond.selects yX5_copyFrom.cls yX5_copyFrom yX5_copyFrom ∈ lw_tbl := (tb_5 (i := 134) (by decide +kernel))
abbrev cX6_init : ByteArray := prog_8_method_1_code
def yX6_init : MethodName := ⟨RX6, "<init>", "()V"⟩
abbrev M_X6_init : am_M := (yX6_init, cX6_init, 1, none)
theorem cw_X6_init : am_cwd M_X6_init 0 := ⟨(tb_1 (i := 140) (by decide +kernel)), (tb_1 (i := 4) (by decide +kernel)), by decide +kernel, by decide⟩
theorem ins_X6_init : Cond.instanceMethod yX6_init ∈ lw_tbl := (tb_1 (i := 139) (by decide +kernel))
abbrev cX6_addTrade : ByteArray := prog_8_method_2_code
def yX6_addTrade : MethodName := ⟨RX6, "addTrade", "(IIII)I"⟩
abbrev M_X6_addTrade : am_M := (yX6_addTrade, cX6_addTrade, 5, (some .int))
theorem cw_X6_addTrade : am_cwd M_X6_addTrade 4 := ⟨(tb_3 (i := 77) (by decide +kernel)), (tb_1 (i := 4) (by decide +kernel)), by decide +kernel, by decide⟩
theorem ins_X6_addTrade : Cond.instanceMethod yX6_addTrade ∈ lw_tbl := (tb_3 (i := 75) (by decide +kernel))
theorem sel_X6_addTrade : Cond.selects yX6_addTrade.cls yX6_addTrade yX6_addTrade ∈ lw_tbl := (tb_3 (i := 76) (by decide +kernel))
abbrev cX6_addHand : ByteArray := prog_8_method_3_code
def yX6_addHand : MethodName := ⟨RX6, "addHand", "(II)I"⟩
abbrev M_X6_addHand : am_M := (yX6_addHand, cX6_addHand, 3, (some .int))
theorem cw_X6_addHand : am_cwd M_X6_addHand 2 := ⟨(tb_5 (i := 24) (by decide +kernel)), (tb_1 (i := 4) (by decide +kernel)), by decide +kernel, by decide⟩
theorem ins_X6_addHand : Cond.instanceMethod yX6_addHand ∈ lw_tbl := (tb_5 (i := 22) (by decide +kernel))
theorem sel_X6_addHand : Cond.selects yX6_addHand.cls yX6_addHand yX6_addHand ∈ lw_tbl := (tb_5 (i := 23) (by decide +kernel))
abbrev cX6_wrongOf : ByteArray := prog_8_method_4_code
def yX6_wrongOf : MethodName := ⟨RX6, "wrongOf", "(I)I"⟩
abbrev M_X6_wrongOf : am_M := (yX6_wrongOf, cX6_wrongOf, 7, (some .int))
theorem cw_X6_wrongOf : am_cwd M_X6_wrongOf 1 := ⟨(tb_3 (i := 85) (by decide +kernel)), (tb_1 (i := 4) (by decide +kernel)), by decide +kernel, by decide⟩
theorem ins_X6_wrongOf : Cond.instanceMethod yX6_wrongOf ∈ lw_tbl := (tb_3 (i := 83) (by decide +kernel))
theorem sel_X6_wrongOf : Cond.selects yX6_wrongOf.cls yX6_wrongOf yX6_wrongOf ∈ lw_tbl := (tb_3 (i := 84) (by decide +kernel))
abbrev cX6_firstWrong : ByteArray := prog_8_method_5_code
def yX6_firstWrong : MethodName := ⟨RX6, "firstWrong", "()I"⟩
abbrev M_X6_firstWrong : am_M := (yX6_firstWrong, cX6_firstWrong, 2, (some .int))
theorem cw_X6_firstWrong : am_cwd M_X6_firstWrong 0 := ⟨(tb_3 (i := 93) (by decide +kernel)), (tb_1 (i := 4) (by decide +kernel)), by decide +kernel, by decide⟩
theorem ins_X6_firstWrong : Cond.instanceMethod yX6_firstWrong ∈ lw_tbl := (tb_3 (i := 91) (by decide +kernel))
theorem sel_X6_firstWrong : Cond.selects yX6_firstWrong.cls yX6_firstWrong yX6_firstWrong ∈ lw_tbl := (tb_3 (i := 92) (by decide +kernel))
abbrev cX6_wrongOnes : ByteArray := prog_8_method_6_code
def yX6_wrongOnes : MethodName := ⟨RX6, "wrongOnes", "()I"⟩
abbrev M_X6_wrongOnes : am_M := (yX6_wrongOnes, cX6_wrongOnes, 3, (some .int))
theorem cw_X6_wrongOnes : am_cwd M_X6_wrongOnes 0 := ⟨(tb_5 (i := 148) (by decide +kernel)), (tb_1 (i := 4) (by decide +kernel)), by decide +kernel, by decide⟩
theorem ins_X6_wrongOnes : Cond.instanceMethod yX6_wrongOnes ∈ lw_tbl := (tb_5 (i := 146) (by decide +kernel))
theorem sel_X6_wrongOnes : Cond.selects yX6_wrongOnes.cls yX6_wrongOnes yX6_wrongOnes ∈ lw_tbl := (tb_5 (i := 147) (by decide +kernel))
abbrev cX6_leastSets : ByteArray := prog_8_method_7_code
def yX6_leastSets : MethodName := ⟨RX6, "leastSets", "(I)I"⟩
abbrev M_X6_leastSets : am_M := (yX6_leastSets, cX6_leastSets, 8, (some .int))
theorem cw_X6_leastSets : am_cwd M_X6_leastSets 1 := ⟨(tb_5 (i := 32) (by decide +kernel)), (tb_1 (i := 4) (by decide +kernel)), by decide +kernel, by decide⟩
theorem ins_X6_leastSets : Cond.instanceMethod yX6_leastSets ∈ lw_tbl := (tb_5 (i := 30) (by decide +kernel))
theorem sel_X6_leastSets : Cond.selects yX6_leastSets.cls yX6_leastSets yX6_leastSets ∈ lw_tbl := (tb_5 (i := 31) (by decide +kernel))
abbrev cX6_lookWhoCould : ByteArray := prog_8_method_8_code
def yX6_lookWhoCould : MethodName := ⟨RX6, "lookWhoCould", "()V"⟩
abbrev M_X6_lookWhoCould : am_M := (yX6_lookWhoCould, cX6_lookWhoCould, 4, none)
theorem cw_X6_lookWhoCould : am_cwd M_X6_lookWhoCould 0 := ⟨(tb_5 (i := 36) (by decide +kernel)), (tb_1 (i := 4) (by decide +kernel)), by decide +kernel, by decide⟩
theorem ins_X6_lookWhoCould : Cond.instanceMethod yX6_lookWhoCould ∈ lw_tbl := (tb_5 (i := 35) (by decide +kernel))
theorem sel_X6_lookWhoCould : Cond.selects yX6_lookWhoCould.cls yX6_lookWhoCould yX6_lookWhoCould ∈ lw_tbl := (tb_0 (i := 19) rfl)
abbrev cX6_printsAll : ByteArray := prog_8_method_9_code
def yX6_printsAll : MethodName := ⟨RX6, "printsAll", "(I)Z"⟩
abbrev M_X6_printsAll : am_M := (yX6_printsAll, cX6_printsAll, 3, (some .boolean))
theorem cw_X6_printsAll : am_cwd M_X6_printsAll 1 := ⟨(tb_5 (i := 40) (by decide +kernel)), (tb_1 (i := 4) (by decide +kernel)), by decide +kernel, by decide⟩
theorem ins_X6_printsAll : Cond.instanceMethod yX6_printsAll ∈ lw_tbl := (tb_5 (i := 39) (by decide +kernel))
theorem sel_X6_printsAll : Cond.selects yX6_printsAll.cls yX6_printsAll yX6_printsAll ∈ lw_tbl := (tb_0 (i := 20) rfl)
abbrev cX6_digestedTrades : ByteArray := prog_8_method_10_code
def yX6_digestedTrades : MethodName := ⟨RX6, "digestedTrades", "(J)J"⟩
abbrev M_X6_digestedTrades : am_M := (yX6_digestedTrades, cX6_digestedTrades, 6, (some .long))
theorem cw_X6_digestedTrades : am_cwd M_X6_digestedTrades 1 := ⟨(tb_5 (i := 165) (by decide +kernel)), (tb_1 (i := 4) (by decide +kernel)), by decide +kernel, by decide⟩
theorem ins_X6_digestedTrades : Cond.instanceMethod yX6_digestedTrades ∈ lw_tbl := (tb_5 (i := 163) (by decide +kernel))
theorem sel_X6_digestedTrades : Cond.selects yX6_digestedTrades.cls yX6_digestedTrades yX6_digestedTrades ∈ lw_tbl := (tb_5 (i := 164) (by decide +kernel))
abbrev cX6_digestedHands : ByteArray := prog_8_method_11_code
def yX6_digestedHands : MethodName := ⟨RX6, "digestedHands", "(J)J"⟩
abbrev M_X6_digestedHands : am_M := (yX6_digestedHands, cX6_digestedHands, 6, (some .long))
theorem cw_X6_digestedHands : am_cwd M_X6_digestedHands 1 := ⟨(tb_5 (i := 185) (by decide +kernel)), (tb_1 (i := 4) (by decide +kernel)), by decide +kernel, by decide⟩
theorem ins_X6_digestedHands : Cond.instanceMethod yX6_digestedHands ∈ lw_tbl := (tb_5 (i := 183) (by decide +kernel))
theorem sel_X6_digestedHands : Cond.selects yX6_digestedHands.cls yX6_digestedHands yX6_digestedHands ∈ lw_tbl := (tb_5 (i := 184) (by decide +kernel))
abbrev cX6_copyFrom : ByteArray := prog_8_method_12_code
def yX6_copyFrom : MethodName := ⟨RX6, "copyFrom", "(LSteadyFund$Paper;)V"⟩
abbrev M_X6_copyFrom : am_M := (yX6_copyFrom, cX6_copyFrom, 2, none)
theorem cw_X6_copyFrom : am_cwd M_X6_copyFrom 1 := ⟨(tb_5 (i := 120) (by decide +kernel)), (tb_1 (i := 4) (by decide +kernel)), by decide +kernel, by decide⟩
theorem ins_X6_copyFrom : Cond.instanceMethod yX6_copyFrom ∈ lw_tbl := (tb_5 (i := 118) (by decide +kernel))
theorem sel_X6_copyFrom : Cond.selects yX6_copyFrom.cls yX6_copyFrom yX6_copyFrom ∈ lw_tbl := (tb_5 (i := 119) (by decide +kernel))
abbrev cX7_init : ByteArray := prog_9_method_1_code
def yX7_init : MethodName := ⟨RX7, "<init>", "(LSteadyFund$Letters;)V"⟩
abbrev M_X7_init : am_M := (yX7_init, cX7_init, 2, none)
theorem cw_X7_init : am_cwd M_X7_init 1 := ⟨(tb_2 (i := 182) (by decide +kernel)), (tb_1 (i := 13) (by decide +kernel)), by decide +kernel, by decide⟩
theorem ins_X7_init : Cond.instanceMethod yX7_init ∈ lw_tbl := (tb_2 (i := 181) (by decide +kernel))
abbrev cX7_faultFound : ByteArray := prog_9_method_2_code
def yX7_faultFound : MethodName := ⟨RX7, "faultFound", "()I"⟩
abbrev M_X7_faultFound : am_M := (yX7_faultFound, cX7_faultFound, 1, (some .int))
theorem cw_X7_faultFound : am_cwd M_X7_faultFound 0 := ⟨(tb_4 (i := 81) (by decide +kernel)), (tb_1 (i := 13) (by decide +kernel)), by decide +kernel, by decide⟩
theorem ins_X7_faultFound : Cond.instanceMethod yX7_faultFound ∈ lw_tbl := (tb_4 (i := 79) (by decide +kernel))
theorem sel_X7_faultFound : Cond.selects yX7_faultFound.cls yX7_faultFound yX7_faultFound ∈ lw_tbl := (tb_4 (i := 80) (by decide +kernel))
abbrev cX7_learn : ByteArray := prog_9_method_3_code
def yX7_learn : MethodName := ⟨RX7, "learn", "(LSteadyFund$Ledger;I)V"⟩
abbrev M_X7_learn : am_M := (yX7_learn, cX7_learn, 3, none)
theorem cw_X7_learn : am_cwd M_X7_learn 2 := ⟨(tb_4 (i := 235) (by decide +kernel)), (tb_1 (i := 13) (by decide +kernel)), by decide +kernel, by decide⟩
theorem ins_X7_learn : Cond.instanceMethod yX7_learn ∈ lw_tbl := (tb_4 (i := 233) (by decide +kernel))
theorem sel_X7_learn : Cond.selects yX7_learn.cls yX7_learn yX7_learn ∈ lw_tbl := (tb_4 (i := 234) (by decide +kernel))
abbrev cX7_valueRead : ByteArray := prog_9_method_4_code
def yX7_valueRead : MethodName := ⟨RX7, "valueRead", "()J"⟩
abbrev M_X7_valueRead : am_M := (yX7_valueRead, cX7_valueRead, 3, (some .long))
theorem cw_X7_valueRead : am_cwd M_X7_valueRead 0 := ⟨(tb_4 (i := 85) (by decide +kernel)), (tb_1 (i := 13) (by decide +kernel)), by decide +kernel, by decide⟩
theorem ins_X7_valueRead : Cond.instanceMethod yX7_valueRead ∈ lw_tbl := (tb_4 (i := 83) (by decide +kernel))
theorem sel_X7_valueRead : Cond.selects yX7_valueRead.cls yX7_valueRead yX7_valueRead ∈ lw_tbl := (tb_4 (i := 84) (by decide +kernel))
abbrev cX7_anyHolds : ByteArray := prog_9_method_5_code
def yX7_anyHolds : MethodName := ⟨RX7, "anyHolds", "(I)J"⟩
abbrev M_X7_anyHolds : am_M := (yX7_anyHolds, cX7_anyHolds, 7, (some .long))
theorem cw_X7_anyHolds : am_cwd M_X7_anyHolds 1 := ⟨(tb_4 (i := 89) (by decide +kernel)), (tb_1 (i := 13) (by decide +kernel)), by decide +kernel, by decide⟩
theorem ins_X7_anyHolds : Cond.instanceMethod yX7_anyHolds ∈ lw_tbl := (tb_4 (i := 88) (by decide +kernel))
theorem sel_X7_anyHolds : Cond.selects yX7_anyHolds.cls yX7_anyHolds yX7_anyHolds ∈ lw_tbl := (tb_0 (i := 8) rfl)
abbrev cX7_allHold : ByteArray := prog_9_method_6_code
def yX7_allHold : MethodName := ⟨RX7, "allHold", "(I)J"⟩
abbrev M_X7_allHold : am_M := (yX7_allHold, cX7_allHold, 7, (some .long))
theorem cw_X7_allHold : am_cwd M_X7_allHold 1 := ⟨(tb_4 (i := 93) (by decide +kernel)), (tb_1 (i := 13) (by decide +kernel)), by decide +kernel, by decide⟩
theorem ins_X7_allHold : Cond.instanceMethod yX7_allHold ∈ lw_tbl := (tb_4 (i := 92) (by decide +kernel))
theorem sel_X7_allHold : Cond.selects yX7_allHold.cls yX7_allHold yX7_allHold ∈ lw_tbl := (tb_0 (i := 9) rfl)
abbrev cX7_held : ByteArray := prog_9_method_7_code
def yX7_held : MethodName := ⟨RX7, "held", "(I)J"⟩
abbrev M_X7_held : am_M := (yX7_held, cX7_held, 4, (some .long))
theorem cw_X7_held : am_cwd M_X7_held 1 := ⟨(tb_4 (i := 97) (by decide +kernel)), (tb_1 (i := 13) (by decide +kernel)), by decide +kernel, by decide⟩
theorem ins_X7_held : Cond.instanceMethod yX7_held ∈ lw_tbl := (tb_4 (i := 96) (by decide +kernel))
theorem sel_X7_held : Cond.selects yX7_held.cls yX7_held yX7_held ∈ lw_tbl := (tb_0 (i := 10) rfl)
abbrev cX7_added : ByteArray := prog_9_method_8_code
def yX7_added : MethodName := ⟨RX7, "added", "(I)J"⟩
abbrev M_X7_added : am_M := (yX7_added, cX7_added, 5, (some .long))
theorem cw_X7_added : am_cwd M_X7_added 1 := ⟨(tb_4 (i := 101) (by decide +kernel)), (tb_1 (i := 13) (by decide +kernel)), by decide +kernel, by decide⟩
theorem ins_X7_added : Cond.instanceMethod yX7_added ∈ lw_tbl := (tb_4 (i := 100) (by decide +kernel))
theorem sel_X7_added : Cond.selects yX7_added.cls yX7_added yX7_added ∈ lw_tbl := (tb_0 (i := 11) rfl)
abbrev cX7_multiplied : ByteArray := prog_9_method_9_code
def yX7_multiplied : MethodName := ⟨RX7, "multiplied", "(I)J"⟩
abbrev M_X7_multiplied : am_M := (yX7_multiplied, cX7_multiplied, 5, (some .long))
theorem cw_X7_multiplied : am_cwd M_X7_multiplied 1 := ⟨(tb_4 (i := 105) (by decide +kernel)), (tb_1 (i := 13) (by decide +kernel)), by decide +kernel, by decide⟩
theorem ins_X7_multiplied : Cond.instanceMethod yX7_multiplied ∈ lw_tbl := (tb_4 (i := 104) (by decide +kernel))
theorem sel_X7_multiplied : Cond.selects yX7_multiplied.cls yX7_multiplied yX7_multiplied ∈ lw_tbl := (tb_0 (i := 12) rfl)
abbrev cX7_unit : ByteArray := prog_9_method_10_code
def yX7_unit : MethodName := ⟨RX7, "unit", "(I)J"⟩
abbrev M_X7_unit : am_M := (yX7_unit, cX7_unit, 4, (some .long))
theorem cw_X7_unit : am_cwd M_X7_unit 1 := ⟨(tb_4 (i := 109) (by decide +kernel)), (tb_1 (i := 13) (by decide +kernel)), by decide +kernel, by decide⟩
theorem ins_X7_unit : Cond.instanceMethod yX7_unit ∈ lw_tbl := (tb_4 (i := 108) (by decide +kernel))
theorem sel_X7_unit : Cond.selects yX7_unit.cls yX7_unit yX7_unit ∈ lw_tbl := (tb_0 (i := 13) rfl)
abbrev cX7_inBrackets : ByteArray := prog_9_method_11_code
def yX7_inBrackets : MethodName := ⟨RX7, "inBrackets", "(I)J"⟩
abbrev M_X7_inBrackets : am_M := (yX7_inBrackets, cX7_inBrackets, 4, (some .long))
theorem cw_X7_inBrackets : am_cwd M_X7_inBrackets 1 := ⟨(tb_4 (i := 130) (by decide +kernel)), (tb_1 (i := 13) (by decide +kernel)), by decide +kernel, by decide⟩
theorem ins_X7_inBrackets : Cond.instanceMethod yX7_inBrackets ∈ lw_tbl := (tb_4 (i := 129) (by decide +kernel))
theorem sel_X7_inBrackets : Cond.selects yX7_inBrackets.cls yX7_inBrackets yX7_inBrackets ∈ lw_tbl := (tb_0 (i := 17) rfl)
abbrev cX7_number : ByteArray := prog_9_method_12_code
def yX7_number : MethodName := ⟨RX7, "number", "()J"⟩
abbrev M_X7_number : am_M := (yX7_number, cX7_number, 4, (some .long))
theorem cw_X7_number : am_cwd M_X7_number 0 := ⟨(tb_4 (i := 124) (by decide +kernel)), (tb_1 (i := 13) (by decide +kernel)), by decide +kernel, by decide⟩
theorem ins_X7_number : Cond.instanceMethod yX7_number ∈ lw_tbl := (tb_4 (i := 123) (by decide +kernel))
theorem sel_X7_number : Cond.selects yX7_number.cls yX7_number yX7_number ∈ lw_tbl := (tb_0 (i := 16) rfl)
abbrev cX7_next : ByteArray := prog_9_method_13_code
def yX7_next : MethodName := ⟨RX7, "next", "()I"⟩
abbrev M_X7_next : am_M := (yX7_next, cX7_next, 1, (some .int))
theorem cw_X7_next : am_cwd M_X7_next 0 := ⟨(tb_4 (i := 113) (by decide +kernel)), (tb_1 (i := 13) (by decide +kernel)), by decide +kernel, by decide⟩
theorem ins_X7_next : Cond.instanceMethod yX7_next ∈ lw_tbl := (tb_4 (i := 112) (by decide +kernel))
theorem sel_X7_next : Cond.selects yX7_next.cls yX7_next yX7_next ∈ lw_tbl := (tb_0 (i := 14) rfl)
abbrev cX7_takes : ByteArray := prog_9_method_14_code
def yX7_takes : MethodName := ⟨RX7, "takes", "(C)Z"⟩
abbrev M_X7_takes : am_M := (yX7_takes, cX7_takes, 2, (some .boolean))
theorem cw_X7_takes : am_cwd M_X7_takes 1 := ⟨(tb_4 (i := 134) (by decide +kernel)), (tb_1 (i := 13) (by decide +kernel)), by decide +kernel, by decide⟩
theorem ins_X7_takes : Cond.instanceMethod yX7_takes ∈ lw_tbl := (tb_4 (i := 133) (by decide +kernel))
theorem sel_X7_takes : Cond.selects yX7_takes.cls yX7_takes yX7_takes ∈ lw_tbl := (tb_0 (i := 18) rfl)
abbrev cX7_refuse : ByteArray := prog_9_method_15_code
def yX7_refuse : MethodName := ⟨RX7, "refuse", "(I)J"⟩
abbrev M_X7_refuse : am_M := (yX7_refuse, cX7_refuse, 2, (some .long))
theorem cw_X7_refuse : am_cwd M_X7_refuse 1 := ⟨(tb_4 (i := 117) (by decide +kernel)), (tb_1 (i := 13) (by decide +kernel)), by decide +kernel, by decide⟩
theorem ins_X7_refuse : Cond.instanceMethod yX7_refuse ∈ lw_tbl := (tb_4 (i := 116) (by decide +kernel))
theorem sel_X7_refuse : Cond.selects yX7_refuse.cls yX7_refuse yX7_refuse ∈ lw_tbl := (tb_0 (i := 15) rfl)
abbrev cX7_isDigit : ByteArray := prog_9_method_16_code
def yX7_isDigit : MethodName := ⟨RX7, "isDigit", "(I)Z"⟩
abbrev M_X7_isDigit : am_M := (yX7_isDigit, cX7_isDigit, 1, (some .boolean))
theorem cw_X7_isDigit : am_cwd M_X7_isDigit 1 := ⟨(tb_4 (i := 120) (by decide +kernel)), (tb_1 (i := 13) (by decide +kernel)), by decide +kernel, by decide⟩
theorem sta_X7_isDigit : Cond.static yX7_isDigit ∈ lw_tbl := (tb_4 (i := 119) (by decide +kernel))
abbrev cX7_truth : ByteArray := prog_9_method_17_code
def yX7_truth : MethodName := ⟨RX7, "truth", "(Z)J"⟩
abbrev M_X7_truth : am_M := (yX7_truth, cX7_truth, 1, (some .long))
theorem cw_X7_truth : am_cwd M_X7_truth 1 := ⟨(tb_4 (i := 137) (by decide +kernel)), (tb_1 (i := 13) (by decide +kernel)), by decide +kernel, by decide⟩
theorem sta_X7_truth : Cond.static yX7_truth ∈ lw_tbl := (tb_4 (i := 136) (by decide +kernel))
abbrev cX8_init : ByteArray := prog_10_method_1_code
def yX8_init : MethodName := ⟨RX8, "<init>", "()V"⟩
abbrev M_X8_init : am_M := (yX8_init, cX8_init, 1, none)
theorem cw_X8_init : am_cwd M_X8_init 0 := ⟨(tb_2 (i := 80) (by decide +kernel)), (tb_1 (i := 9) (by decide +kernel)), by decide +kernel, by decide⟩
theorem ins_X8_init : Cond.instanceMethod yX8_init ∈ lw_tbl := (tb_2 (i := 79) (by decide +kernel))
abbrev cX8_copyRows : ByteArray := prog_10_method_2_code
def yX8_copyRows : MethodName := ⟨RX8, "copyRows", "(LSteadyFund$Ledger;)V"⟩
abbrev M_X8_copyRows : am_M := (yX8_copyRows, cX8_copyRows, 2, none)
theorem cw_X8_copyRows : am_cwd M_X8_copyRows 1 := ⟨(tb_5 (i := 79) (by decide +kernel)), (tb_1 (i := 9) (by decide +kernel)), by decide +kernel, by decide⟩
theorem ins_X8_copyRows : Cond.instanceMethod yX8_copyRows ∈ lw_tbl := (tb_5 (i := 77) (by decide +kernel))
theorem sel_X8_copyRows : Cond.selects yX8_copyRows.cls yX8_copyRows yX8_copyRows ∈ lw_tbl := (tb_5 (i := 78) (by decide +kernel))
abbrev cX8_sealed : ByteArray := prog_10_method_3_code
def yX8_sealed : MethodName := ⟨RX8, "sealed", "(II)I"⟩
abbrev M_X8_sealed : am_M := (yX8_sealed, cX8_sealed, 5, (some .int))
theorem cw_X8_sealed : am_cwd M_X8_sealed 2 := ⟨(tb_5 (i := 86) (by decide +kernel)), (tb_1 (i := 9) (by decide +kernel)), by decide +kernel, by decide⟩
theorem ins_X8_sealed : Cond.instanceMethod yX8_sealed ∈ lw_tbl := (tb_5 (i := 85) (by decide +kernel))
theorem sel_X8_sealed : Cond.selects yX8_sealed.cls yX8_sealed yX8_sealed ∈ lw_tbl := (tb_0 (i := 22) rfl)
abbrev cX8_findAltered : ByteArray := prog_10_method_4_code
def yX8_findAltered : MethodName := ⟨RX8, "findAltered", "(I)I"⟩
abbrev M_X8_findAltered : am_M := (yX8_findAltered, cX8_findAltered, 7, (some .int))
theorem cw_X8_findAltered : am_cwd M_X8_findAltered 1 := ⟨(tb_5 (i := 98) (by decide +kernel)), (tb_1 (i := 9) (by decide +kernel)), by decide +kernel, by decide⟩
theorem ins_X8_findAltered : Cond.instanceMethod yX8_findAltered ∈ lw_tbl := (tb_5 (i := 96) (by decide +kernel))
theorem sel_X8_findAltered : Cond.selects yX8_findAltered.cls yX8_findAltered yX8_findAltered ∈ lw_tbl := (tb_5 (i := 97) (by decide +kernel))
abbrev cX8_lookWhichFit : ByteArray := prog_10_method_5_code
def yX8_lookWhichFit : MethodName := ⟨RX8, "lookWhichFit", "(II)I"⟩
abbrev M_X8_lookWhichFit : am_M := (yX8_lookWhichFit, cX8_lookWhichFit, 7, (some .int))
theorem cw_X8_lookWhichFit : am_cwd M_X8_lookWhichFit 2 := ⟨(tb_5 (i := 102) (by decide +kernel)), (tb_1 (i := 9) (by decide +kernel)), by decide +kernel, by decide⟩
theorem ins_X8_lookWhichFit : Cond.instanceMethod yX8_lookWhichFit ∈ lw_tbl := (tb_5 (i := 101) (by decide +kernel))
theorem sel_X8_lookWhichFit : Cond.selects yX8_lookWhichFit.cls yX8_lookWhichFit yX8_lookWhichFit ∈ lw_tbl := (tb_0 (i := 23) rfl)
abbrev cX8_digested : ByteArray := prog_10_method_6_code
def yX8_digested : MethodName := ⟨RX8, "digested", "(J)J"⟩
abbrev M_X8_digested : am_M := (yX8_digested, cX8_digested, 6, (some .long))
theorem cw_X8_digested : am_cwd M_X8_digested 1 := ⟨(tb_5 (i := 197) (by decide +kernel)), (tb_1 (i := 9) (by decide +kernel)), by decide +kernel, by decide⟩
theorem ins_X8_digested : Cond.instanceMethod yX8_digested ∈ lw_tbl := (tb_5 (i := 195) (by decide +kernel))
theorem sel_X8_digested : Cond.selects yX8_digested.cls yX8_digested yX8_digested ∈ lw_tbl := (tb_5 (i := 196) (by decide +kernel))
abbrev cX9_init : ByteArray := prog_11_method_1_code
def yX9_init : MethodName := ⟨RX9, "<init>", "()V"⟩
abbrev M_X9_init : am_M := (yX9_init, cX9_init, 1, none)
theorem cw_X9_init : am_cwd M_X9_init 0 := ⟨(tb_2 (i := 125) (by decide +kernel)), (tb_1 (i := 11) (by decide +kernel)), by decide +kernel, by decide⟩
theorem ins_X9_init : Cond.instanceMethod yX9_init ∈ lw_tbl := (tb_2 (i := 124) (by decide +kernel))
abbrev cX9_rise : ByteArray := prog_11_method_2_code
def yX9_rise : MethodName := ⟨RX9, "rise", "(LSteadyFund$Ledger;I)V"⟩
abbrev M_X9_rise : am_M := (yX9_rise, cX9_rise, 9, none)
theorem cw_X9_rise : am_cwd M_X9_rise 2 := ⟨(tb_3 (i := 180) (by decide +kernel)), (tb_1 (i := 11) (by decide +kernel)), by decide +kernel, by decide⟩
theorem ins_X9_rise : Cond.instanceMethod yX9_rise ∈ lw_tbl := (tb_3 (i := 178) (by decide +kernel))
theorem sel_X9_rise : Cond.selects yX9_rise.cls yX9_rise yX9_rise ∈ lw_tbl := (tb_3 (i := 179) (by decide +kernel))
abbrev cX9_lookAt : ByteArray := prog_11_method_3_code
def yX9_lookAt : MethodName := ⟨RX9, "lookAt", "(LSteadyFund$Ledger;)V"⟩
abbrev M_X9_lookAt : am_M := (yX9_lookAt, cX9_lookAt, 3, none)
theorem cw_X9_lookAt : am_cwd M_X9_lookAt 1 := ⟨(tb_3 (i := 184) (by decide +kernel)), (tb_1 (i := 11) (by decide +kernel)), by decide +kernel, by decide⟩
theorem ins_X9_lookAt : Cond.instanceMethod yX9_lookAt ∈ lw_tbl := (tb_3 (i := 183) (by decide +kernel))
theorem sel_X9_lookAt : Cond.selects yX9_lookAt.cls yX9_lookAt yX9_lookAt ∈ lw_tbl := (tb_0 (i := 1) rfl)
abbrev cX9_paidTo : ByteArray := prog_11_method_4_code
def yX9_paidTo : MethodName := ⟨RX9, "paidTo", "(I)J"⟩
abbrev M_X9_paidTo : am_M := (yX9_paidTo, cX9_paidTo, 2, (some .long))
theorem cw_X9_paidTo : am_cwd M_X9_paidTo 1 := ⟨(tb_3 (i := 196) (by decide +kernel)), (tb_1 (i := 11) (by decide +kernel)), by decide +kernel, by decide⟩
theorem ins_X9_paidTo : Cond.instanceMethod yX9_paidTo ∈ lw_tbl := (tb_3 (i := 194) (by decide +kernel))
theorem sel_X9_paidTo : Cond.selects yX9_paidTo.cls yX9_paidTo yX9_paidTo ∈ lw_tbl := (tb_3 (i := 195) (by decide +kernel))
abbrev cX10_init : ByteArray := prog_12_method_1_code
def yX10_init : MethodName := ⟨RX10, "<init>", "()V"⟩
abbrev M_X10_init : am_M := (yX10_init, cX10_init, 1, none)
theorem cw_X10_init : am_cwd M_X10_init 0 := ⟨(tb_1 (i := 35) (by decide +kernel)), (tb_1 (i := 2) (by decide +kernel)), by decide +kernel, by decide⟩
theorem ins_X10_init : Cond.instanceMethod yX10_init ∈ lw_tbl := (tb_1 (i := 34) (by decide +kernel))
abbrev cX10_copyFrom : ByteArray := prog_12_method_2_code
def yX10_copyFrom : MethodName := ⟨RX10, "copyFrom", "(LSteadyFund$World;)V"⟩
abbrev M_X10_copyFrom : am_M := (yX10_copyFrom, cX10_copyFrom, 2, none)
theorem cw_X10_copyFrom : am_cwd M_X10_copyFrom 1 := ⟨(tb_5 (i := 111) (by decide +kernel)), (tb_1 (i := 2) (by decide +kernel)), by decide +kernel, by decide⟩
theorem ins_X10_copyFrom : Cond.instanceMethod yX10_copyFrom ∈ lw_tbl := (tb_5 (i := 109) (by decide +kernel))
theorem sel_X10_copyFrom : Cond.selects yX10_copyFrom.cls yX10_copyFrom yX10_copyFrom ∈ lw_tbl := (tb_5 (i := 110) (by decide +kernel))
abbrev cX11_init : ByteArray := prog_1_method_1_code
def yX11_init : MethodName := ⟨RX11, "<init>", "()V"⟩
abbrev M_X11_init : am_M := (yX11_init, cX11_init, 1, none)
theorem cw_X11_init : am_cwd M_X11_init 0 := ⟨(tb_1 (i := 27) (by decide +kernel)), (tb_1 (i := 1) (by decide +kernel)), by decide +kernel, by decide⟩
theorem ins_X11_init : Cond.instanceMethod yX11_init ∈ lw_tbl := (tb_1 (i := 26) (by decide +kernel))
abbrev cX11_person : ByteArray := prog_1_method_2_code
def yX11_person : MethodName := ⟨RX11, "person", "(IZ)I"⟩
abbrev M_X11_person : am_M := (yX11_person, cX11_person, 3, (some .int))
theorem cw_X11_person : am_cwd M_X11_person 2 := ⟨(tb_2 (i := 228) (by decide +kernel)), (tb_1 (i := 1) (by decide +kernel)), by decide +kernel, by decide⟩
theorem ins_X11_person : Cond.instanceMethod yX11_person ∈ lw_tbl := (tb_2 (i := 226) (by decide +kernel))
theorem sel_X11_person : Cond.selects yX11_person.cls yX11_person yX11_person ∈ lw_tbl := (tb_2 (i := 227) (by decide +kernel))
abbrev cX11_terms : ByteArray := prog_1_method_3_code
def yX11_terms : MethodName := ⟨RX11, "terms", "(II)I"⟩
abbrev M_X11_terms : am_M := (yX11_terms, cX11_terms, 3, (some .int))
theorem cw_X11_terms : am_cwd M_X11_terms 2 := ⟨(tb_2 (i := 239) (by decide +kernel)), (tb_1 (i := 1) (by decide +kernel)), by decide +kernel, by decide⟩
theorem ins_X11_terms : Cond.instanceMethod yX11_terms ∈ lw_tbl := (tb_2 (i := 237) (by decide +kernel))
theorem sel_X11_terms : Cond.selects yX11_terms.cls yX11_terms yX11_terms ∈ lw_tbl := (tb_2 (i := 238) (by decide +kernel))
abbrev cX11_puts : ByteArray := prog_1_method_4_code
def yX11_puts : MethodName := ⟨RX11, "puts", "(II)I"⟩
abbrev M_X11_puts : am_M := (yX11_puts, cX11_puts, 4, (some .int))
theorem cw_X11_puts : am_cwd M_X11_puts 2 := ⟨(tb_3 (i := 3) (by decide +kernel)), (tb_1 (i := 1) (by decide +kernel)), by decide +kernel, by decide⟩
theorem ins_X11_puts : Cond.instanceMethod yX11_puts ∈ lw_tbl := (tb_3 (i := 1) (by decide +kernel))
theorem sel_X11_puts : Cond.selects yX11_puts.cls yX11_puts yX11_puts ∈ lw_tbl := (tb_3 (i := 2) (by decide +kernel))
abbrev cX11_draws : ByteArray := prog_1_method_5_code
def yX11_draws : MethodName := ⟨RX11, "draws", "(II)I"⟩
abbrev M_X11_draws : am_M := (yX11_draws, cX11_draws, 4, (some .int))
theorem cw_X11_draws : am_cwd M_X11_draws 2 := ⟨(tb_3 (i := 17) (by decide +kernel)), (tb_1 (i := 1) (by decide +kernel)), by decide +kernel, by decide⟩
theorem ins_X11_draws : Cond.instanceMethod yX11_draws ∈ lw_tbl := (tb_3 (i := 15) (by decide +kernel))
theorem sel_X11_draws : Cond.selects yX11_draws.cls yX11_draws yX11_draws ∈ lw_tbl := (tb_3 (i := 16) (by decide +kernel))
abbrev cX11_months : ByteArray := prog_1_method_6_code
def yX11_months : MethodName := ⟨RX11, "months", "(I)I"⟩
abbrev M_X11_months : am_M := (yX11_months, cX11_months, 4, (some .int))
theorem cw_X11_months : am_cwd M_X11_months 1 := ⟨(tb_3 (i := 21) (by decide +kernel)), (tb_1 (i := 1) (by decide +kernel)), by decide +kernel, by decide⟩
theorem ins_X11_months : Cond.instanceMethod yX11_months ∈ lw_tbl := (tb_3 (i := 19) (by decide +kernel))
theorem sel_X11_months : Cond.selects yX11_months.cls yX11_months yX11_months ∈ lw_tbl := (tb_3 (i := 20) (by decide +kernel))
abbrev cX11_shown : ByteArray := prog_1_method_7_code
def yX11_shown : MethodName := ⟨RX11, "shown", "(I)J"⟩
abbrev M_X11_shown : am_M := (yX11_shown, cX11_shown, 2, (some .long))
theorem cw_X11_shown : am_cwd M_X11_shown 1 := ⟨(tb_3 (i := 34) (by decide +kernel)), (tb_1 (i := 1) (by decide +kernel)), by decide +kernel, by decide⟩
theorem ins_X11_shown : Cond.instanceMethod yX11_shown ∈ lw_tbl := (tb_3 (i := 32) (by decide +kernel))
theorem sel_X11_shown : Cond.selects yX11_shown.cls yX11_shown yX11_shown ∈ lw_tbl := (tb_3 (i := 33) (by decide +kernel))
abbrev cX11_account : ByteArray := prog_1_method_8_code
def yX11_account : MethodName := ⟨RX11, "account", "(I)J"⟩
abbrev M_X11_account : am_M := (yX11_account, cX11_account, 3, (some .long))
theorem cw_X11_account : am_cwd M_X11_account 1 := ⟨(tb_3 (i := 39) (by decide +kernel)), (tb_1 (i := 1) (by decide +kernel)), by decide +kernel, by decide⟩
theorem ins_X11_account : Cond.instanceMethod yX11_account ∈ lw_tbl := (tb_3 (i := 37) (by decide +kernel))
theorem sel_X11_account : Cond.selects yX11_account.cls yX11_account yX11_account ∈ lw_tbl := (tb_3 (i := 38) (by decide +kernel))
abbrev cX11_spans : ByteArray := prog_1_method_9_code
def yX11_spans : MethodName := ⟨RX11, "spans", "(IIIII)I"⟩
abbrev M_X11_spans : am_M := (yX11_spans, cX11_spans, 7, (some .int))
theorem cw_X11_spans : am_cwd M_X11_spans 5 := ⟨(tb_3 (i := 53) (by decide +kernel)), (tb_1 (i := 1) (by decide +kernel)), by decide +kernel, by decide⟩
theorem ins_X11_spans : Cond.instanceMethod yX11_spans ∈ lw_tbl := (tb_3 (i := 51) (by decide +kernel))
theorem sel_X11_spans : Cond.selects yX11_spans.cls yX11_spans yX11_spans ∈ lw_tbl := (tb_3 (i := 52) (by decide +kernel))
abbrev cX11_falls : ByteArray := prog_1_method_10_code
def yX11_falls : MethodName := ⟨RX11, "falls", "(I)I"⟩
abbrev M_X11_falls : am_M := (yX11_falls, cX11_falls, 3, (some .int))
theorem cw_X11_falls : am_cwd M_X11_falls 1 := ⟨(tb_3 (i := 60) (by decide +kernel)), (tb_1 (i := 1) (by decide +kernel)), by decide +kernel, by decide⟩
theorem ins_X11_falls : Cond.instanceMethod yX11_falls ∈ lw_tbl := (tb_3 (i := 58) (by decide +kernel))
theorem sel_X11_falls : Cond.selects yX11_falls.cls yX11_falls yX11_falls ∈ lw_tbl := (tb_3 (i := 59) (by decide +kernel))
abbrev cX11_day : ByteArray := prog_1_method_11_code
def yX11_day : MethodName := ⟨RX11, "day", "(IIII)I"⟩
abbrev M_X11_day : am_M := (yX11_day, cX11_day, 5, (some .int))
theorem cw_X11_day : am_cwd M_X11_day 4 := ⟨(tb_3 (i := 68) (by decide +kernel)), (tb_1 (i := 1) (by decide +kernel)), by decide +kernel, by decide⟩
theorem ins_X11_day : Cond.instanceMethod yX11_day ∈ lw_tbl := (tb_3 (i := 66) (by decide +kernel))
theorem sel_X11_day : Cond.selects yX11_day.cls yX11_day yX11_day ∈ lw_tbl := (tb_3 (i := 67) (by decide +kernel))
abbrev cX11_trade : ByteArray := prog_1_method_12_code
def yX11_trade : MethodName := ⟨RX11, "trade", "(IIII)I"⟩
abbrev M_X11_trade : am_M := (yX11_trade, cX11_trade, 5, (some .int))
theorem cw_X11_trade : am_cwd M_X11_trade 4 := ⟨(tb_3 (i := 73) (by decide +kernel)), (tb_1 (i := 1) (by decide +kernel)), by decide +kernel, by decide⟩
theorem ins_X11_trade : Cond.instanceMethod yX11_trade ∈ lw_tbl := (tb_3 (i := 71) (by decide +kernel))
theorem sel_X11_trade : Cond.selects yX11_trade.cls yX11_trade yX11_trade ∈ lw_tbl := (tb_3 (i := 72) (by decide +kernel))
abbrev cX11_wrong : ByteArray := prog_1_method_13_code
def yX11_wrong : MethodName := ⟨RX11, "wrong", "(I)I"⟩
abbrev M_X11_wrong : am_M := (yX11_wrong, cX11_wrong, 2, (some .int))
theorem cw_X11_wrong : am_cwd M_X11_wrong 1 := ⟨(tb_3 (i := 81) (by decide +kernel)), (tb_1 (i := 1) (by decide +kernel)), by decide +kernel, by decide⟩
theorem ins_X11_wrong : Cond.instanceMethod yX11_wrong ∈ lw_tbl := (tb_3 (i := 79) (by decide +kernel))
theorem sel_X11_wrong : Cond.selects yX11_wrong.cls yX11_wrong yX11_wrong ∈ lw_tbl := (tb_3 (i := 80) (by decide +kernel))
abbrev cX11_first : ByteArray := prog_1_method_14_code
def yX11_first : MethodName := ⟨RX11, "first", "()I"⟩
abbrev M_X11_first : am_M := (yX11_first, cX11_first, 1, (some .int))
theorem cw_X11_first : am_cwd M_X11_first 0 := ⟨(tb_3 (i := 89) (by decide +kernel)), (tb_1 (i := 1) (by decide +kernel)), by decide +kernel, by decide⟩
theorem ins_X11_first : Cond.instanceMethod yX11_first ∈ lw_tbl := (tb_3 (i := 87) (by decide +kernel))
theorem sel_X11_first : Cond.selects yX11_first.cls yX11_first yX11_first ∈ lw_tbl := (tb_3 (i := 88) (by decide +kernel))
abbrev cX11_even : ByteArray := prog_1_method_15_code
def yX11_even : MethodName := ⟨RX11, "even", "(IIII)I"⟩
abbrev M_X11_even : am_M := (yX11_even, cX11_even, 5, (some .int))
theorem cw_X11_even : am_cwd M_X11_even 4 := ⟨(tb_3 (i := 98) (by decide +kernel)), (tb_1 (i := 1) (by decide +kernel)), by decide +kernel, by decide⟩
theorem ins_X11_even : Cond.instanceMethod yX11_even ∈ lw_tbl := (tb_3 (i := 96) (by decide +kernel))
theorem sel_X11_even : Cond.selects yX11_even.cls yX11_even yX11_even ∈ lw_tbl := (tb_3 (i := 97) (by decide +kernel))
abbrev cX11_funds : ByteArray := prog_1_method_16_code
def yX11_funds : MethodName := ⟨RX11, "funds", "(IIIII)I"⟩
abbrev M_X11_funds : am_M := (yX11_funds, cX11_funds, 6, (some .int))
theorem cw_X11_funds : am_cwd M_X11_funds 5 := ⟨(tb_3 (i := 125) (by decide +kernel)), (tb_1 (i := 1) (by decide +kernel)), by decide +kernel, by decide⟩
theorem ins_X11_funds : Cond.instanceMethod yX11_funds ∈ lw_tbl := (tb_3 (i := 123) (by decide +kernel))
theorem sel_X11_funds : Cond.selects yX11_funds.cls yX11_funds yX11_funds ∈ lw_tbl := (tb_3 (i := 124) (by decide +kernel))
abbrev cX11_part : ByteArray := prog_1_method_17_code
def yX11_part : MethodName := ⟨RX11, "part", "(I)J"⟩
abbrev M_X11_part : am_M := (yX11_part, cX11_part, 2, (some .long))
theorem cw_X11_part : am_cwd M_X11_part 1 := ⟨(tb_3 (i := 133) (by decide +kernel)), (tb_1 (i := 1) (by decide +kernel)), by decide +kernel, by decide⟩
theorem ins_X11_part : Cond.instanceMethod yX11_part ∈ lw_tbl := (tb_3 (i := 131) (by decide +kernel))
theorem sel_X11_part : Cond.selects yX11_part.cls yX11_part yX11_part ∈ lw_tbl := (tb_3 (i := 132) (by decide +kernel))
abbrev cX11_index : ByteArray := prog_1_method_18_code
def yX11_index : MethodName := ⟨RX11, "index", "(II)I"⟩
abbrev M_X11_index : am_M := (yX11_index, cX11_index, 4, (some .int))
theorem cw_X11_index : am_cwd M_X11_index 2 := ⟨(tb_3 (i := 137) (by decide +kernel)), (tb_1 (i := 1) (by decide +kernel)), by decide +kernel, by decide⟩
theorem ins_X11_index : Cond.instanceMethod yX11_index ∈ lw_tbl := (tb_3 (i := 135) (by decide +kernel))
theorem sel_X11_index : Cond.selects yX11_index.cls yX11_index yX11_index ∈ lw_tbl := (tb_3 (i := 136) (by decide +kernel))
abbrev cX11_count : ByteArray := prog_1_method_19_code
def yX11_count : MethodName := ⟨RX11, "count", "(II)J"⟩
abbrev M_X11_count : am_M := (yX11_count, cX11_count, 3, (some .long))
theorem cw_X11_count : am_cwd M_X11_count 2 := ⟨(tb_3 (i := 141) (by decide +kernel)), (tb_1 (i := 1) (by decide +kernel)), by decide +kernel, by decide⟩
theorem ins_X11_count : Cond.instanceMethod yX11_count ∈ lw_tbl := (tb_3 (i := 139) (by decide +kernel))
theorem sel_X11_count : Cond.selects yX11_count.cls yX11_count yX11_count ∈ lw_tbl := (tb_3 (i := 140) (by decide +kernel))
abbrev cX11_dealt : ByteArray := prog_1_method_20_code
def yX11_dealt : MethodName := ⟨RX11, "dealt", "(III)J"⟩
abbrev M_X11_dealt : am_M := (yX11_dealt, cX11_dealt, 4, (some .long))
theorem cw_X11_dealt : am_cwd M_X11_dealt 3 := ⟨(tb_3 (i := 167) (by decide +kernel)), (tb_1 (i := 1) (by decide +kernel)), by decide +kernel, by decide⟩
theorem ins_X11_dealt : Cond.instanceMethod yX11_dealt ∈ lw_tbl := (tb_3 (i := 165) (by decide +kernel))
theorem sel_X11_dealt : Cond.selects yX11_dealt.cls yX11_dealt yX11_dealt ∈ lw_tbl := (tb_3 (i := 166) (by decide +kernel))
abbrev cX11_tide : ByteArray := prog_1_method_21_code
def yX11_tide : MethodName := ⟨RX11, "tide", "(I)I"⟩
abbrev M_X11_tide : am_M := (yX11_tide, cX11_tide, 2, (some .int))
theorem cw_X11_tide : am_cwd M_X11_tide 1 := ⟨(tb_3 (i := 202) (by decide +kernel)), (tb_1 (i := 1) (by decide +kernel)), by decide +kernel, by decide⟩
theorem ins_X11_tide : Cond.instanceMethod yX11_tide ∈ lw_tbl := (tb_3 (i := 200) (by decide +kernel))
theorem sel_X11_tide : Cond.selects yX11_tide.cls yX11_tide yX11_tide ∈ lw_tbl := (tb_3 (i := 201) (by decide +kernel))
abbrev cX11_moved : ByteArray := prog_1_method_22_code
def yX11_moved : MethodName := ⟨RX11, "moved", "(II)I"⟩
abbrev M_X11_moved : am_M := (yX11_moved, cX11_moved, 7, (some .int))
theorem cw_X11_moved : am_cwd M_X11_moved 2 := ⟨(tb_3 (i := 206) (by decide +kernel)), (tb_1 (i := 1) (by decide +kernel)), by decide +kernel, by decide⟩
theorem ins_X11_moved : Cond.instanceMethod yX11_moved ∈ lw_tbl := (tb_3 (i := 204) (by decide +kernel))
theorem sel_X11_moved : Cond.selects yX11_moved.cls yX11_moved yX11_moved ∈ lw_tbl := (tb_3 (i := 205) (by decide +kernel))
abbrev cX11_gift : ByteArray := prog_1_method_23_code
def yX11_gift : MethodName := ⟨RX11, "gift", "(IIII)I"⟩
abbrev M_X11_gift : am_M := (yX11_gift, cX11_gift, 5, (some .int))
theorem cw_X11_gift : am_cwd M_X11_gift 4 := ⟨(tb_3 (i := 210) (by decide +kernel)), (tb_1 (i := 1) (by decide +kernel)), by decide +kernel, by decide⟩
theorem ins_X11_gift : Cond.instanceMethod yX11_gift ∈ lw_tbl := (tb_3 (i := 208) (by decide +kernel))
theorem sel_X11_gift : Cond.selects yX11_gift.cls yX11_gift yX11_gift ∈ lw_tbl := (tb_3 (i := 209) (by decide +kernel))
abbrev cX11_years : ByteArray := prog_1_method_24_code
def yX11_years : MethodName := ⟨RX11, "years", "(II)I"⟩
abbrev M_X11_years : am_M := (yX11_years, cX11_years, 3, (some .int))
theorem cw_X11_years : am_cwd M_X11_years 2 := ⟨(tb_3 (i := 218) (by decide +kernel)), (tb_1 (i := 1) (by decide +kernel)), by decide +kernel, by decide⟩
theorem ins_X11_years : Cond.instanceMethod yX11_years ∈ lw_tbl := (tb_3 (i := 216) (by decide +kernel))
theorem sel_X11_years : Cond.selects yX11_years.cls yX11_years yX11_years ∈ lw_tbl := (tb_3 (i := 217) (by decide +kernel))
abbrev cX11_take : ByteArray := prog_1_method_25_code
def yX11_take : MethodName := ⟨RX11, "take", "(II)J"⟩
abbrev M_X11_take : am_M := (yX11_take, cX11_take, 3, (some .long))
theorem cw_X11_take : am_cwd M_X11_take 2 := ⟨(tb_3 (i := 222) (by decide +kernel)), (tb_1 (i := 1) (by decide +kernel)), by decide +kernel, by decide⟩
theorem ins_X11_take : Cond.instanceMethod yX11_take ∈ lw_tbl := (tb_3 (i := 220) (by decide +kernel))
theorem sel_X11_take : Cond.selects yX11_take.cls yX11_take yX11_take ∈ lw_tbl := (tb_3 (i := 221) (by decide +kernel))
abbrev cX11_coin : ByteArray := prog_1_method_26_code
def yX11_coin : MethodName := ⟨RX11, "coin", "(II)I"⟩
abbrev M_X11_coin : am_M := (yX11_coin, cX11_coin, 4, (some .int))
theorem cw_X11_coin : am_cwd M_X11_coin 2 := ⟨(tb_4 (i := 1) (by decide +kernel)), (tb_1 (i := 1) (by decide +kernel)), by decide +kernel, by decide⟩
theorem ins_X11_coin : Cond.instanceMethod yX11_coin ∈ lw_tbl := (tb_3 (i := 239) (by decide +kernel))
theorem sel_X11_coin : Cond.selects yX11_coin.cls yX11_coin yX11_coin ∈ lw_tbl := (tb_4 (i := 0) (by decide +kernel))
abbrev cX11_due : ByteArray := prog_1_method_27_code
def yX11_due : MethodName := ⟨RX11, "due", "(III)I"⟩
abbrev M_X11_due : am_M := (yX11_due, cX11_due, 5, (some .int))
theorem cw_X11_due : am_cwd M_X11_due 3 := ⟨(tb_4 (i := 5) (by decide +kernel)), (tb_1 (i := 1) (by decide +kernel)), by decide +kernel, by decide⟩
theorem ins_X11_due : Cond.instanceMethod yX11_due ∈ lw_tbl := (tb_4 (i := 3) (by decide +kernel))
theorem sel_X11_due : Cond.selects yX11_due.cls yX11_due yX11_due ∈ lw_tbl := (tb_4 (i := 4) (by decide +kernel))
abbrev cX11_struck : ByteArray := prog_1_method_28_code
def yX11_struck : MethodName := ⟨RX11, "struck", "(Z)I"⟩
abbrev M_X11_struck : am_M := (yX11_struck, cX11_struck, 2, (some .int))
theorem cw_X11_struck : am_cwd M_X11_struck 1 := ⟨(tb_4 (i := 9) (by decide +kernel)), (tb_1 (i := 1) (by decide +kernel)), by decide +kernel, by decide⟩
theorem ins_X11_struck : Cond.instanceMethod yX11_struck ∈ lw_tbl := (tb_4 (i := 7) (by decide +kernel))
theorem sel_X11_struck : Cond.selects yX11_struck.cls yX11_struck yX11_struck ∈ lw_tbl := (tb_4 (i := 8) (by decide +kernel))
abbrev cX11_pays : ByteArray := prog_1_method_29_code
def yX11_pays : MethodName := ⟨RX11, "pays", "(II)I"⟩
abbrev M_X11_pays : am_M := (yX11_pays, cX11_pays, 3, (some .int))
theorem cw_X11_pays : am_cwd M_X11_pays 2 := ⟨(tb_4 (i := 13) (by decide +kernel)), (tb_1 (i := 1) (by decide +kernel)), by decide +kernel, by decide⟩
theorem ins_X11_pays : Cond.instanceMethod yX11_pays ∈ lw_tbl := (tb_4 (i := 11) (by decide +kernel))
theorem sel_X11_pays : Cond.selects yX11_pays.cls yX11_pays yX11_pays ∈ lw_tbl := (tb_4 (i := 12) (by decide +kernel))
abbrev cX11_rounds : ByteArray := prog_1_method_30_code
def yX11_rounds : MethodName := ⟨RX11, "rounds", "(II)I"⟩
abbrev M_X11_rounds : am_M := (yX11_rounds, cX11_rounds, 4, (some .int))
theorem cw_X11_rounds : am_cwd M_X11_rounds 2 := ⟨(tb_4 (i := 53) (by decide +kernel)), (tb_1 (i := 1) (by decide +kernel)), by decide +kernel, by decide⟩
theorem ins_X11_rounds : Cond.instanceMethod yX11_rounds ∈ lw_tbl := (tb_4 (i := 51) (by decide +kernel))
theorem sel_X11_rounds : Cond.selects yX11_rounds.cls yX11_rounds yX11_rounds ∈ lw_tbl := (tb_4 (i := 52) (by decide +kernel))
abbrev cX11_letter : ByteArray := prog_1_method_31_code
def yX11_letter : MethodName := ⟨RX11, "letter", "(III)I"⟩
abbrev M_X11_letter : am_M := (yX11_letter, cX11_letter, 4, (some .int))
theorem cw_X11_letter : am_cwd M_X11_letter 3 := ⟨(tb_4 (i := 61) (by decide +kernel)), (tb_1 (i := 1) (by decide +kernel)), by decide +kernel, by decide⟩
theorem ins_X11_letter : Cond.instanceMethod yX11_letter ∈ lw_tbl := (tb_4 (i := 59) (by decide +kernel))
theorem sel_X11_letter : Cond.selects yX11_letter.cls yX11_letter yX11_letter ∈ lw_tbl := (tb_4 (i := 60) (by decide +kernel))
abbrev cX11_write : ByteArray := prog_1_method_32_code
def yX11_write : MethodName := ⟨RX11, "write", "(I)I"⟩
abbrev M_X11_write : am_M := (yX11_write, cX11_write, 2, (some .int))
theorem cw_X11_write : am_cwd M_X11_write 1 := ⟨(tb_4 (i := 69) (by decide +kernel)), (tb_1 (i := 1) (by decide +kernel)), by decide +kernel, by decide⟩
theorem ins_X11_write : Cond.instanceMethod yX11_write ∈ lw_tbl := (tb_4 (i := 67) (by decide +kernel))
theorem sel_X11_write : Cond.selects yX11_write.cls yX11_write yX11_write ∈ lw_tbl := (tb_4 (i := 68) (by decide +kernel))
abbrev cX11_erase : ByteArray := prog_1_method_33_code
def yX11_erase : MethodName := ⟨RX11, "erase", "()I"⟩
abbrev M_X11_erase : am_M := (yX11_erase, cX11_erase, 2, (some .int))
theorem cw_X11_erase : am_cwd M_X11_erase 0 := ⟨(tb_4 (i := 73) (by decide +kernel)), (tb_1 (i := 1) (by decide +kernel)), by decide +kernel, by decide⟩
theorem ins_X11_erase : Cond.instanceMethod yX11_erase ∈ lw_tbl := (tb_4 (i := 71) (by decide +kernel))
theorem sel_X11_erase : Cond.selects yX11_erase.cls yX11_erase yX11_erase ∈ lw_tbl := (tb_4 (i := 72) (by decide +kernel))
abbrev cX11_fault : ByteArray := prog_1_method_34_code
def yX11_fault : MethodName := ⟨RX11, "fault", "()I"⟩
abbrev M_X11_fault : am_M := (yX11_fault, cX11_fault, 1, (some .int))
theorem cw_X11_fault : am_cwd M_X11_fault 0 := ⟨(tb_4 (i := 77) (by decide +kernel)), (tb_1 (i := 1) (by decide +kernel)), by decide +kernel, by decide⟩
theorem ins_X11_fault : Cond.instanceMethod yX11_fault ∈ lw_tbl := (tb_4 (i := 75) (by decide +kernel))
theorem sel_X11_fault : Cond.selects yX11_fault.cls yX11_fault yX11_fault ∈ lw_tbl := (tb_4 (i := 76) (by decide +kernel))
abbrev cX11_bound : ByteArray := prog_1_method_35_code
def yX11_bound : MethodName := ⟨RX11, "bound", "()J"⟩
abbrev M_X11_bound : am_M := (yX11_bound, cX11_bound, 4, (some .long))
theorem cw_X11_bound : am_cwd M_X11_bound 0 := ⟨(tb_4 (i := 230) (by decide +kernel)), (tb_1 (i := 1) (by decide +kernel)), by decide +kernel, by decide⟩
theorem ins_X11_bound : Cond.instanceMethod yX11_bound ∈ lw_tbl := (tb_4 (i := 228) (by decide +kernel))
theorem sel_X11_bound : Cond.selects yX11_bound.cls yX11_bound yX11_bound ∈ lw_tbl := (tb_4 (i := 229) (by decide +kernel))
abbrev cX11_lost : ByteArray := prog_1_method_36_code
def yX11_lost : MethodName := ⟨RX11, "lost", "(I)J"⟩
abbrev M_X11_lost : am_M := (yX11_lost, cX11_lost, 2, (some .long))
theorem cw_X11_lost : am_cwd M_X11_lost 1 := ⟨(tb_5 (i := 10) (by decide +kernel)), (tb_1 (i := 1) (by decide +kernel)), by decide +kernel, by decide⟩
theorem ins_X11_lost : Cond.instanceMethod yX11_lost ∈ lw_tbl := (tb_5 (i := 8) (by decide +kernel))
theorem sel_X11_lost : Cond.selects yX11_lost.cls yX11_lost yX11_lost ∈ lw_tbl := (tb_5 (i := 9) (by decide +kernel))
abbrev cX11_hand : ByteArray := prog_1_method_37_code
def yX11_hand : MethodName := ⟨RX11, "hand", "(II)I"⟩
abbrev M_X11_hand : am_M := (yX11_hand, cX11_hand, 3, (some .int))
theorem cw_X11_hand : am_cwd M_X11_hand 2 := ⟨(tb_5 (i := 19) (by decide +kernel)), (tb_1 (i := 1) (by decide +kernel)), by decide +kernel, by decide⟩
theorem ins_X11_hand : Cond.instanceMethod yX11_hand ∈ lw_tbl := (tb_5 (i := 17) (by decide +kernel))
theorem sel_X11_hand : Cond.selects yX11_hand.cls yX11_hand yX11_hand ∈ lw_tbl := (tb_5 (i := 18) (by decide +kernel))
abbrev cX11_whose : ByteArray := prog_1_method_38_code
def yX11_whose : MethodName := ⟨RX11, "whose", "(I)I"⟩
abbrev M_X11_whose : am_M := (yX11_whose, cX11_whose, 2, (some .int))
theorem cw_X11_whose : am_cwd M_X11_whose 1 := ⟨(tb_5 (i := 28) (by decide +kernel)), (tb_1 (i := 1) (by decide +kernel)), by decide +kernel, by decide⟩
theorem ins_X11_whose : Cond.instanceMethod yX11_whose ∈ lw_tbl := (tb_5 (i := 26) (by decide +kernel))
theorem sel_X11_whose : Cond.selects yX11_whose.cls yX11_whose yX11_whose ∈ lw_tbl := (tb_5 (i := 27) (by decide +kernel))
abbrev cX11_suit : ByteArray := prog_1_method_39_code
def yX11_suit : MethodName := ⟨RX11, "suit", "(III)I"⟩
abbrev M_X11_suit : am_M := (yX11_suit, cX11_suit, 4, (some .int))
theorem cw_X11_suit : am_cwd M_X11_suit 3 := ⟨(tb_5 (i := 50) (by decide +kernel)), (tb_1 (i := 1) (by decide +kernel)), by decide +kernel, by decide⟩
theorem ins_X11_suit : Cond.instanceMethod yX11_suit ∈ lw_tbl := (tb_5 (i := 48) (by decide +kernel))
theorem sel_X11_suit : Cond.selects yX11_suit.cls yX11_suit yX11_suit ∈ lw_tbl := (tb_5 (i := 49) (by decide +kernel))
abbrev cX11_best : ByteArray := prog_1_method_40_code
def yX11_best : MethodName := ⟨RX11, "best", "(II)I"⟩
abbrev M_X11_best : am_M := (yX11_best, cX11_best, 4, (some .int))
theorem cw_X11_best : am_cwd M_X11_best 2 := ⟨(tb_5 (i := 58) (by decide +kernel)), (tb_1 (i := 1) (by decide +kernel)), by decide +kernel, by decide⟩
theorem ins_X11_best : Cond.instanceMethod yX11_best ∈ lw_tbl := (tb_5 (i := 56) (by decide +kernel))
theorem sel_X11_best : Cond.selects yX11_best.cls yX11_best yX11_best ∈ lw_tbl := (tb_5 (i := 57) (by decide +kernel))
abbrev cX11_keep : ByteArray := prog_1_method_41_code
def yX11_keep : MethodName := ⟨RX11, "keep", "()I"⟩
abbrev M_X11_keep : am_M := (yX11_keep, cX11_keep, 1, (some .int))
theorem cw_X11_keep : am_cwd M_X11_keep 0 := ⟨(tb_5 (i := 75) (by decide +kernel)), (tb_1 (i := 1) (by decide +kernel)), by decide +kernel, by decide⟩
theorem ins_X11_keep : Cond.instanceMethod yX11_keep ∈ lw_tbl := (tb_5 (i := 73) (by decide +kernel))
theorem sel_X11_keep : Cond.selects yX11_keep.cls yX11_keep yX11_keep ∈ lw_tbl := (tb_5 (i := 74) (by decide +kernel))
abbrev cX11_alter : ByteArray := prog_1_method_42_code
def yX11_alter : MethodName := ⟨RX11, "alter", "(II)I"⟩
abbrev M_X11_alter : am_M := (yX11_alter, cX11_alter, 3, (some .int))
theorem cw_X11_alter : am_cwd M_X11_alter 2 := ⟨(tb_5 (i := 90) (by decide +kernel)), (tb_1 (i := 1) (by decide +kernel)), by decide +kernel, by decide⟩
theorem ins_X11_alter : Cond.instanceMethod yX11_alter ∈ lw_tbl := (tb_5 (i := 88) (by decide +kernel))
theorem sel_X11_alter : Cond.selects yX11_alter.cls yX11_alter yX11_alter ∈ lw_tbl := (tb_5 (i := 89) (by decide +kernel))
abbrev cX11_check : ByteArray := prog_1_method_43_code
def yX11_check : MethodName := ⟨RX11, "check", "(I)I"⟩
abbrev M_X11_check : am_M := (yX11_check, cX11_check, 2, (some .int))
theorem cw_X11_check : am_cwd M_X11_check 1 := ⟨(tb_5 (i := 94) (by decide +kernel)), (tb_1 (i := 1) (by decide +kernel)), by decide +kernel, by decide⟩
theorem ins_X11_check : Cond.instanceMethod yX11_check ∈ lw_tbl := (tb_5 (i := 92) (by decide +kernel))
theorem sel_X11_check : Cond.selects yX11_check.cls yX11_check yX11_check ∈ lw_tbl := (tb_5 (i := 93) (by decide +kernel))
abbrev cX11_image : ByteArray := prog_1_method_44_code
def yX11_image : MethodName := ⟨RX11, "image", "(I)I"⟩
abbrev M_X11_image : am_M := (yX11_image, cX11_image, 2, (some .int))
theorem cw_X11_image : am_cwd M_X11_image 1 := ⟨(tb_5 (i := 107) (by decide +kernel)), (tb_1 (i := 1) (by decide +kernel)), by decide +kernel, by decide⟩
theorem ins_X11_image : Cond.instanceMethod yX11_image ∈ lw_tbl := (tb_5 (i := 105) (by decide +kernel))
theorem sel_X11_image : Cond.selects yX11_image.cls yX11_image yX11_image ∈ lw_tbl := (tb_5 (i := 106) (by decide +kernel))
abbrev cX11_from : ByteArray := prog_1_method_45_code
def yX11_from : MethodName := ⟨RX11, "from", "(I)I"⟩
abbrev M_X11_from : am_M := (yX11_from, cX11_from, 2, (some .int))
theorem cw_X11_from : am_cwd M_X11_from 1 := ⟨(tb_5 (i := 140) (by decide +kernel)), (tb_1 (i := 1) (by decide +kernel)), by decide +kernel, by decide⟩
theorem ins_X11_from : Cond.instanceMethod yX11_from ∈ lw_tbl := (tb_5 (i := 138) (by decide +kernel))
theorem sel_X11_from : Cond.selects yX11_from.cls yX11_from yX11_from ∈ lw_tbl := (tb_5 (i := 139) (by decide +kernel))
abbrev cX11_many : ByteArray := prog_1_method_46_code
def yX11_many : MethodName := ⟨RX11, "many", "(I)I"⟩
abbrev M_X11_many : am_M := (yX11_many, cX11_many, 2, (some .int))
theorem cw_X11_many : am_cwd M_X11_many 1 := ⟨(tb_5 (i := 144) (by decide +kernel)), (tb_1 (i := 1) (by decide +kernel)), by decide +kernel, by decide⟩
theorem ins_X11_many : Cond.instanceMethod yX11_many ∈ lw_tbl := (tb_5 (i := 142) (by decide +kernel))
theorem sel_X11_many : Cond.selects yX11_many.cls yX11_many yX11_many ∈ lw_tbl := (tb_5 (i := 143) (by decide +kernel))
abbrev cX11_digest : ByteArray := prog_1_method_47_code
def yX11_digest : MethodName := ⟨RX11, "digest", "()J"⟩
abbrev M_X11_digest : am_M := (yX11_digest, cX11_digest, 4, (some .long))
theorem cw_X11_digest : am_cwd M_X11_digest 0 := ⟨(tb_5 (i := 152) (by decide +kernel)), (tb_1 (i := 1) (by decide +kernel)), by decide +kernel, by decide⟩
theorem ins_X11_digest : Cond.instanceMethod yX11_digest ∈ lw_tbl := (tb_5 (i := 150) (by decide +kernel))
theorem sel_X11_digest : Cond.selects yX11_digest.cls yX11_digest yX11_digest ∈ lw_tbl := (tb_5 (i := 151) (by decide +kernel))
abbrev cX11_agreed : ByteArray := prog_1_method_48_code
def yX11_agreed : MethodName := ⟨RX11, "agreed", "(I)LSteadyFund$Clearing;"⟩
abbrev M_X11_agreed : am_M := (yX11_agreed, cX11_agreed, 3, (some (.object "SteadyFund$Clearing")))
theorem cw_X11_agreed : am_cwd M_X11_agreed 1 := ⟨(tb_4 (i := 17) (by decide +kernel)), (tb_1 (i := 1) (by decide +kernel)), by decide +kernel, by decide⟩
theorem ins_X11_agreed : Cond.instanceMethod yX11_agreed ∈ lw_tbl := (tb_4 (i := 16) (by decide +kernel))
theorem sel_X11_agreed : Cond.selects yX11_agreed.cls yX11_agreed yX11_agreed ∈ lw_tbl := (tb_0 (i := 3) rfl)
abbrev cX11_within : ByteArray := prog_1_method_49_code
def yX11_within : MethodName := ⟨RX11, "within", "(III)Z"⟩
abbrev M_X11_within : am_M := (yX11_within, cX11_within, 3, (some .boolean))
theorem cw_X11_within : am_cwd M_X11_within 3 := ⟨(tb_2 (i := 231) (by decide +kernel)), (tb_1 (i := 1) (by decide +kernel)), by decide +kernel, by decide⟩
theorem sta_X11_within : Cond.static yX11_within ∈ lw_tbl := (tb_2 (i := 230) (by decide +kernel))
abbrev cX11_isSpan : ByteArray := prog_1_method_50_code
def yX11_isSpan : MethodName := ⟨RX11, "isSpan", "(II)Z"⟩
abbrev M_X11_isSpan : am_M := (yX11_isSpan, cX11_isSpan, 2, (some .boolean))
theorem cw_X11_isSpan : am_cwd M_X11_isSpan 2 := ⟨(tb_3 (i := 56) (by decide +kernel)), (tb_1 (i := 1) (by decide +kernel)), by decide +kernel, by decide⟩
theorem sta_X11_isSpan : Cond.static yX11_isSpan ∈ lw_tbl := (tb_3 (i := 55) (by decide +kernel))
abbrev cX11_isEven : ByteArray := prog_1_method_51_code
def yX11_isEven : MethodName := ⟨RX11, "isEven", "(IIII)Z"⟩
abbrev M_X11_isEven : am_M := (yX11_isEven, cX11_isEven, 4, (some .boolean))
theorem cw_X11_isEven : am_cwd M_X11_isEven 4 := ⟨(tb_3 (i := 101) (by decide +kernel)), (tb_1 (i := 1) (by decide +kernel)), by decide +kernel, by decide⟩
theorem sta_X11_isEven : Cond.static yX11_isEven ∈ lw_tbl := (tb_3 (i := 100) (by decide +kernel))
abbrev cX11_waysUp : ByteArray := prog_1_method_52_code
def yX11_waysUp : MethodName := ⟨RX11, "waysUp", "(IIII)J"⟩
abbrev M_X11_waysUp : am_M := (yX11_waysUp, cX11_waysUp, 7, (some .long))
theorem cw_X11_waysUp : am_cwd M_X11_waysUp 4 := ⟨(tb_3 (i := 104) (by decide +kernel)), (tb_1 (i := 1) (by decide +kernel)), by decide +kernel, by decide⟩
theorem sta_X11_waysUp : Cond.static yX11_waysUp ∈ lw_tbl := (tb_3 (i := 103) (by decide +kernel))
abbrev cX11_choose : ByteArray := prog_1_method_53_code
def yX11_choose : MethodName := ⟨RX11, "choose", "(II)J"⟩
abbrev M_X11_choose : am_M := (yX11_choose, cX11_choose, 5, (some .long))
theorem cw_X11_choose : am_cwd M_X11_choose 2 := ⟨(tb_3 (i := 107) (by decide +kernel)), (tb_1 (i := 1) (by decide +kernel)), by decide +kernel, by decide⟩
theorem sta_X11_choose : Cond.static yX11_choose ∈ lw_tbl := (tb_3 (i := 106) (by decide +kernel))
abbrev cX11_power : ByteArray := prog_1_method_54_code
def yX11_power : MethodName := ⟨RX11, "power", "(JI)J"⟩
abbrev M_X11_power : am_M := (yX11_power, cX11_power, 6, (some .long))
theorem cw_X11_power : am_cwd M_X11_power 2 := ⟨(tb_3 (i := 113) (by decide +kernel)), (tb_1 (i := 1) (by decide +kernel)), by decide +kernel, by decide⟩
theorem sta_X11_power : Cond.static yX11_power ∈ lw_tbl := (tb_3 (i := 112) (by decide +kernel))
abbrev cX11_partOf : ByteArray := prog_1_method_55_code
def yX11_partOf : MethodName := ⟨RX11, "partOf", "(IJJ)J"⟩
abbrev M_X11_partOf : am_M := (yX11_partOf, cX11_partOf, 10, (some .long))
theorem cw_X11_partOf : am_cwd M_X11_partOf 3 := ⟨(tb_3 (i := 128) (by decide +kernel)), (tb_1 (i := 1) (by decide +kernel)), by decide +kernel, by decide⟩
theorem sta_X11_partOf : Cond.static yX11_partOf ∈ lw_tbl := (tb_3 (i := 127) (by decide +kernel))
abbrev cX11_cut : ByteArray := prog_1_method_56_code
def yX11_cut : MethodName := ⟨RX11, "cut", "(JJ)J"⟩
abbrev M_X11_cut : am_M := (yX11_cut, cX11_cut, 4, (some .long))
theorem cw_X11_cut : am_cwd M_X11_cut 2 := ⟨(tb_3 (i := 110) (by decide +kernel)), (tb_1 (i := 1) (by decide +kernel)), by decide +kernel, by decide⟩
theorem sta_X11_cut : Cond.static yX11_cut ∈ lw_tbl := (tb_3 (i := 109) (by decide +kernel))
abbrev cX12_init : ByteArray := prog_14_method_1_code
def yX12_init : MethodName := ⟨RX12, "<init>", "()V"⟩
abbrev M_X12_init : am_M := (yX12_init, cX12_init, 2, none)
theorem cw_X12_init : am_cwd M_X12_init 0 := ⟨(tb_5 (i := 203) (by decide +kernel)), (tb_1 (i := 14) (by decide +kernel)), by decide +kernel, by decide⟩
theorem ins_X12_init : Cond.instanceMethod yX12_init ∈ lw_tbl := (tb_5 (i := 202) (by decide +kernel))
abbrev cX12_in : ByteArray := prog_14_method_3_code
def yX12_in : MethodName := ⟨RX12, "in", "(JJJ)Z"⟩
abbrev M_X12_in : am_M := (yX12_in, cX12_in, 6, (some .boolean))
theorem cw_X12_in : am_cwd M_X12_in 3 := ⟨(tb_6 (i := 46) (by decide +kernel)), (tb_1 (i := 14) (by decide +kernel)), by decide +kernel, by decide⟩
theorem sta_X12_in : Cond.static yX12_in ∈ lw_tbl := (tb_6 (i := 45) (by decide +kernel))
abbrev cX12_got : ByteArray := prog_14_method_4_code
def yX12_got : MethodName := ⟨RX12, "got", "(I)I"⟩
abbrev M_X12_got : am_M := (yX12_got, cX12_got, 2, (some .int))
theorem cw_X12_got : am_cwd M_X12_got 1 := ⟨(tb_6 (i := 50) (by decide +kernel)), (tb_1 (i := 14) (by decide +kernel)), by decide +kernel, by decide⟩
theorem ins_X12_got : Cond.instanceMethod yX12_got ∈ lw_tbl := (tb_6 (i := 49) (by decide +kernel))
theorem sel_X12_got : Cond.selects yX12_got.cls yX12_got yX12_got ∈ lw_tbl := (tb_0 (i := 24) rfl)
abbrev cX12_has : ByteArray := prog_14_method_5_code
def yX12_has : MethodName := ⟨RX12, "has", "(II)Z"⟩
abbrev M_X12_has : am_M := (yX12_has, cX12_has, 3, (some .boolean))
theorem cw_X12_has : am_cwd M_X12_has 2 := ⟨(tb_6 (i := 64) (by decide +kernel)), (tb_1 (i := 14) (by decide +kernel)), by decide +kernel, by decide⟩
theorem ins_X12_has : Cond.instanceMethod yX12_has ∈ lw_tbl := (tb_6 (i := 63) (by decide +kernel))
theorem sel_X12_has : Cond.selects yX12_has.cls yX12_has yX12_has ∈ lw_tbl := (tb_0 (i := 25) rfl)
abbrev cX12_isMonth : ByteArray := prog_14_method_6_code
def yX12_isMonth : MethodName := ⟨RX12, "isMonth", "(I)Z"⟩
abbrev M_X12_isMonth : am_M := (yX12_isMonth, cX12_isMonth, 1, (some .boolean))
theorem cw_X12_isMonth : am_cwd M_X12_isMonth 1 := ⟨(tb_6 (i := 176) (by decide +kernel)), (tb_1 (i := 14) (by decide +kernel)), by decide +kernel, by decide⟩
theorem sta_X12_isMonth : Cond.static yX12_isMonth ∈ lw_tbl := (tb_6 (i := 175) (by decide +kernel))
abbrev cX12_isFallen : ByteArray := prog_14_method_7_code
def yX12_isFallen : MethodName := ⟨RX12, "isFallen", "()Z"⟩
abbrev M_X12_isFallen : am_M := (yX12_isFallen, cX12_isFallen, 1, (some .boolean))
theorem cw_X12_isFallen : am_cwd M_X12_isFallen 0 := ⟨(tb_6 (i := 72) (by decide +kernel)), (tb_1 (i := 14) (by decide +kernel)), by decide +kernel, by decide⟩
theorem ins_X12_isFallen : Cond.instanceMethod yX12_isFallen ∈ lw_tbl := (tb_6 (i := 71) (by decide +kernel))
theorem sel_X12_isFallen : Cond.selects yX12_isFallen.cls yX12_isFallen yX12_isFallen ∈ lw_tbl := (tb_0 (i := 26) rfl)
abbrev cX12_person : ByteArray := prog_14_method_8_code
def yX12_person : MethodName := ⟨RX12, "person", "(IZ)I"⟩
abbrev M_X12_person : am_M := (yX12_person, cX12_person, 4, (some .int))
theorem cw_X12_person : am_cwd M_X12_person 2 := ⟨(tb_6 (i := 42) (by decide +kernel)), (tb_1 (i := 14) (by decide +kernel)), by decide +kernel, by decide⟩
theorem ins_X12_person : Cond.instanceMethod yX12_person ∈ lw_tbl := (tb_6 (i := 40) (by decide +kernel))
theorem sel_X12_person : Cond.selects yX12_person.cls yX12_person yX12_person ∈ lw_tbl := (tb_6 (i := 41) (by decide +kernel))
abbrev cX12_terms : ByteArray := prog_14_method_9_code
def yX12_terms : MethodName := ⟨RX12, "terms", "(II)I"⟩
abbrev M_X12_terms : am_M := (yX12_terms, cX12_terms, 3, (some .int))
theorem cw_X12_terms : am_cwd M_X12_terms 2 := ⟨(tb_6 (i := 54) (by decide +kernel)), (tb_1 (i := 14) (by decide +kernel)), by decide +kernel, by decide⟩
theorem ins_X12_terms : Cond.instanceMethod yX12_terms ∈ lw_tbl := (tb_6 (i := 52) (by decide +kernel))
theorem sel_X12_terms : Cond.selects yX12_terms.cls yX12_terms yX12_terms ∈ lw_tbl := (tb_6 (i := 53) (by decide +kernel))
abbrev cX12_isSum : ByteArray := prog_14_method_10_code
def yX12_isSum : MethodName := ⟨RX12, "isSum", "(I)Z"⟩
abbrev M_X12_isSum : am_M := (yX12_isSum, cX12_isSum, 1, (some .boolean))
theorem cw_X12_isSum : am_cwd M_X12_isSum 1 := ⟨(tb_6 (i := 67) (by decide +kernel)), (tb_1 (i := 14) (by decide +kernel)), by decide +kernel, by decide⟩
theorem sta_X12_isSum : Cond.static yX12_isSum ∈ lw_tbl := (tb_6 (i := 66) (by decide +kernel))
abbrev cX12_addRow : ByteArray := prog_14_method_11_code
def yX12_addRow : MethodName := ⟨RX12, "addRow", "(IJ)V"⟩
abbrev M_X12_addRow : am_M := (yX12_addRow, cX12_addRow, 5, none)
theorem cw_X12_addRow : am_cwd M_X12_addRow 2 := ⟨(tb_6 (i := 76) (by decide +kernel)), (tb_1 (i := 14) (by decide +kernel)), by decide +kernel, by decide⟩
theorem ins_X12_addRow : Cond.instanceMethod yX12_addRow ∈ lw_tbl := (tb_6 (i := 75) (by decide +kernel))
theorem sel_X12_addRow : Cond.selects yX12_addRow.cls yX12_addRow yX12_addRow ∈ lw_tbl := (tb_0 (i := 27) rfl)
abbrev cX12_puts : ByteArray := prog_14_method_12_code
def yX12_puts : MethodName := ⟨RX12, "puts", "(II)I"⟩
abbrev M_X12_puts : am_M := (yX12_puts, cX12_puts, 3, (some .int))
theorem cw_X12_puts : am_cwd M_X12_puts 2 := ⟨(tb_6 (i := 60) (by decide +kernel)), (tb_1 (i := 14) (by decide +kernel)), by decide +kernel, by decide⟩
theorem ins_X12_puts : Cond.instanceMethod yX12_puts ∈ lw_tbl := (tb_6 (i := 58) (by decide +kernel))
theorem sel_X12_puts : Cond.selects yX12_puts.cls yX12_puts yX12_puts ∈ lw_tbl := (tb_6 (i := 59) (by decide +kernel))
abbrev cX12_draws : ByteArray := prog_14_method_13_code
def yX12_draws : MethodName := ⟨RX12, "draws", "(II)I"⟩
abbrev M_X12_draws : am_M := (yX12_draws, cX12_draws, 3, (some .int))
theorem cw_X12_draws : am_cwd M_X12_draws 2 := ⟨(tb_6 (i := 80) (by decide +kernel)), (tb_1 (i := 14) (by decide +kernel)), by decide +kernel, by decide⟩
theorem ins_X12_draws : Cond.instanceMethod yX12_draws ∈ lw_tbl := (tb_6 (i := 78) (by decide +kernel))
theorem sel_X12_draws : Cond.selects yX12_draws.cls yX12_draws yX12_draws ∈ lw_tbl := (tb_6 (i := 79) (by decide +kernel))
abbrev cX12_allShown : ByteArray := prog_14_method_14_code
def yX12_allShown : MethodName := ⟨RX12, "allShown", "()J"⟩
abbrev M_X12_allShown : am_M := (yX12_allShown, cX12_allShown, 4, (some .long))
theorem cw_X12_allShown : am_cwd M_X12_allShown 0 := ⟨(tb_6 (i := 90) (by decide +kernel)), (tb_1 (i := 14) (by decide +kernel)), by decide +kernel, by decide⟩
theorem ins_X12_allShown : Cond.instanceMethod yX12_allShown ∈ lw_tbl := (tb_6 (i := 89) (by decide +kernel))
theorem sel_X12_allShown : Cond.selects yX12_allShown.cls yX12_allShown yX12_allShown ∈ lw_tbl := (tb_0 (i := 28) rfl)
abbrev cX12_months : ByteArray := prog_14_method_15_code
def yX12_months : MethodName := ⟨RX12, "months", "(I)I"⟩
abbrev M_X12_months : am_M := (yX12_months, cX12_months, 6, (some .int))
theorem cw_X12_months : am_cwd M_X12_months 1 := ⟨(tb_6 (i := 84) (by decide +kernel)), (tb_1 (i := 14) (by decide +kernel)), by decide +kernel, by decide⟩
theorem ins_X12_months : Cond.instanceMethod yX12_months ∈ lw_tbl := (tb_6 (i := 82) (by decide +kernel))
theorem sel_X12_months : Cond.selects yX12_months.cls yX12_months yX12_months ∈ lw_tbl := (tb_6 (i := 83) (by decide +kernel))
abbrev cX12_shown : ByteArray := prog_14_method_16_code
def yX12_shown : MethodName := ⟨RX12, "shown", "(I)J"⟩
abbrev M_X12_shown : am_M := (yX12_shown, cX12_shown, 2, (some .long))
theorem cw_X12_shown : am_cwd M_X12_shown 1 := ⟨(tb_6 (i := 94) (by decide +kernel)), (tb_1 (i := 14) (by decide +kernel)), by decide +kernel, by decide⟩
theorem ins_X12_shown : Cond.instanceMethod yX12_shown ∈ lw_tbl := (tb_6 (i := 92) (by decide +kernel))
theorem sel_X12_shown : Cond.selects yX12_shown.cls yX12_shown yX12_shown ∈ lw_tbl := (tb_6 (i := 93) (by decide +kernel))
abbrev cX12_went : ByteArray := prog_14_method_17_code
def yX12_went : MethodName := ⟨RX12, "went", "(IIIZ)J"⟩
abbrev M_X12_went : am_M := (yX12_went, cX12_went, 11, (some .long))
theorem cw_X12_went : am_cwd M_X12_went 4 := ⟨(tb_6 (i := 102) (by decide +kernel)), (tb_1 (i := 14) (by decide +kernel)), by decide +kernel, by decide⟩
theorem ins_X12_went : Cond.instanceMethod yX12_went ∈ lw_tbl := (tb_6 (i := 101) (by decide +kernel))
theorem sel_X12_went : Cond.selects yX12_went.cls yX12_went yX12_went ∈ lw_tbl := (tb_0 (i := 29) rfl)
abbrev cX12_account : ByteArray := prog_14_method_18_code
def yX12_account : MethodName := ⟨RX12, "account", "(I)J"⟩
abbrev M_X12_account : am_M := (yX12_account, cX12_account, 2, (some .long))
theorem cw_X12_account : am_cwd M_X12_account 1 := ⟨(tb_6 (i := 98) (by decide +kernel)), (tb_1 (i := 14) (by decide +kernel)), by decide +kernel, by decide⟩
theorem ins_X12_account : Cond.instanceMethod yX12_account ∈ lw_tbl := (tb_6 (i := 96) (by decide +kernel))
theorem sel_X12_account : Cond.selects yX12_account.cls yX12_account yX12_account ∈ lw_tbl := (tb_6 (i := 97) (by decide +kernel))
abbrev cX12_isSpan : ByteArray := prog_14_method_19_code
def yX12_isSpan : MethodName := ⟨RX12, "isSpan", "(II)Z"⟩
abbrev M_X12_isSpan : am_M := (yX12_isSpan, cX12_isSpan, 2, (some .boolean))
theorem cw_X12_isSpan : am_cwd M_X12_isSpan 2 := ⟨(tb_6 (i := 111) (by decide +kernel)), (tb_1 (i := 14) (by decide +kernel)), by decide +kernel, by decide⟩
theorem sta_X12_isSpan : Cond.static yX12_isSpan ∈ lw_tbl := (tb_6 (i := 110) (by decide +kernel))
abbrev cX12_spans : ByteArray := prog_14_method_20_code
def yX12_spans : MethodName := ⟨RX12, "spans", "(IIIII)I"⟩
abbrev M_X12_spans : am_M := (yX12_spans, cX12_spans, 6, (some .int))
theorem cw_X12_spans : am_cwd M_X12_spans 5 := ⟨(tb_6 (i := 107) (by decide +kernel)), (tb_1 (i := 14) (by decide +kernel)), by decide +kernel, by decide⟩
theorem ins_X12_spans : Cond.instanceMethod yX12_spans ∈ lw_tbl := (tb_6 (i := 105) (by decide +kernel))
theorem sel_X12_spans : Cond.selects yX12_spans.cls yX12_spans yX12_spans ∈ lw_tbl := (tb_6 (i := 106) (by decide +kernel))
abbrev cX12_falls : ByteArray := prog_14_method_21_code
def yX12_falls : MethodName := ⟨RX12, "falls", "(I)I"⟩
abbrev M_X12_falls : am_M := (yX12_falls, cX12_falls, 5, (some .int))
theorem cw_X12_falls : am_cwd M_X12_falls 1 := ⟨(tb_6 (i := 115) (by decide +kernel)), (tb_1 (i := 14) (by decide +kernel)), by decide +kernel, by decide⟩
theorem ins_X12_falls : Cond.instanceMethod yX12_falls ∈ lw_tbl := (tb_6 (i := 113) (by decide +kernel))
theorem sel_X12_falls : Cond.selects yX12_falls.cls yX12_falls yX12_falls ∈ lw_tbl := (tb_6 (i := 114) (by decide +kernel))
abbrev cX12_isDay : ByteArray := prog_14_method_22_code
def yX12_isDay : MethodName := ⟨RX12, "isDay", "(I)Z"⟩
abbrev M_X12_isDay : am_M := (yX12_isDay, cX12_isDay, 1, (some .boolean))
theorem cw_X12_isDay : am_cwd M_X12_isDay 1 := ⟨(tb_6 (i := 122) (by decide +kernel)), (tb_1 (i := 14) (by decide +kernel)), by decide +kernel, by decide⟩
theorem sta_X12_isDay : Cond.static yX12_isDay ∈ lw_tbl := (tb_6 (i := 121) (by decide +kernel))
abbrev cX12_day : ByteArray := prog_14_method_23_code
def yX12_day : MethodName := ⟨RX12, "day", "(IIII)I"⟩
abbrev M_X12_day : am_M := (yX12_day, cX12_day, 5, (some .int))
theorem cw_X12_day : am_cwd M_X12_day 4 := ⟨(tb_6 (i := 119) (by decide +kernel)), (tb_1 (i := 14) (by decide +kernel)), by decide +kernel, by decide⟩
theorem ins_X12_day : Cond.instanceMethod yX12_day ∈ lw_tbl := (tb_6 (i := 117) (by decide +kernel))
theorem sel_X12_day : Cond.selects yX12_day.cls yX12_day yX12_day ∈ lw_tbl := (tb_6 (i := 118) (by decide +kernel))
abbrev cX12_trade : ByteArray := prog_14_method_24_code
def yX12_trade : MethodName := ⟨RX12, "trade", "(IIII)I"⟩
abbrev M_X12_trade : am_M := (yX12_trade, cX12_trade, 6, (some .int))
theorem cw_X12_trade : am_cwd M_X12_trade 4 := ⟨(tb_6 (i := 129) (by decide +kernel)), (tb_1 (i := 14) (by decide +kernel)), by decide +kernel, by decide⟩
theorem ins_X12_trade : Cond.instanceMethod yX12_trade ∈ lw_tbl := (tb_6 (i := 127) (by decide +kernel))
theorem sel_X12_trade : Cond.selects yX12_trade.cls yX12_trade yX12_trade ∈ lw_tbl := (tb_6 (i := 128) (by decide +kernel))
abbrev cX12_wrongOf : ByteArray := prog_14_method_25_code
def yX12_wrongOf : MethodName := ⟨RX12, "wrongOf", "(I)I"⟩
abbrev M_X12_wrongOf : am_M := (yX12_wrongOf, cX12_wrongOf, 6, (some .int))
theorem cw_X12_wrongOf : am_cwd M_X12_wrongOf 1 := ⟨(tb_6 (i := 138) (by decide +kernel)), (tb_1 (i := 14) (by decide +kernel)), by decide +kernel, by decide⟩
theorem ins_X12_wrongOf : Cond.instanceMethod yX12_wrongOf ∈ lw_tbl := (tb_6 (i := 137) (by decide +kernel))
theorem sel_X12_wrongOf : Cond.selects yX12_wrongOf.cls yX12_wrongOf yX12_wrongOf ∈ lw_tbl := (tb_0 (i := 30) rfl)
abbrev cX12_wrong : ByteArray := prog_14_method_26_code
def yX12_wrong : MethodName := ⟨RX12, "wrong", "(I)I"⟩
abbrev M_X12_wrong : am_M := (yX12_wrong, cX12_wrong, 2, (some .int))
theorem cw_X12_wrong : am_cwd M_X12_wrong 1 := ⟨(tb_6 (i := 134) (by decide +kernel)), (tb_1 (i := 14) (by decide +kernel)), by decide +kernel, by decide⟩
theorem ins_X12_wrong : Cond.instanceMethod yX12_wrong ∈ lw_tbl := (tb_6 (i := 132) (by decide +kernel))
theorem sel_X12_wrong : Cond.selects yX12_wrong.cls yX12_wrong yX12_wrong ∈ lw_tbl := (tb_6 (i := 133) (by decide +kernel))
abbrev cX12_first : ByteArray := prog_14_method_27_code
def yX12_first : MethodName := ⟨RX12, "first", "()I"⟩
abbrev M_X12_first : am_M := (yX12_first, cX12_first, 2, (some .int))
theorem cw_X12_first : am_cwd M_X12_first 0 := ⟨(tb_6 (i := 142) (by decide +kernel)), (tb_1 (i := 14) (by decide +kernel)), by decide +kernel, by decide⟩
theorem ins_X12_first : Cond.instanceMethod yX12_first ∈ lw_tbl := (tb_6 (i := 140) (by decide +kernel))
theorem sel_X12_first : Cond.selects yX12_first.cls yX12_first yX12_first ∈ lw_tbl := (tb_6 (i := 141) (by decide +kernel))
abbrev cX12_tell : ByteArray := prog_14_method_28_code
def yX12_tell : MethodName := ⟨RX12, "tell", "(JJ)V"⟩
abbrev M_X12_tell : am_M := (yX12_tell, cX12_tell, 11, none)
theorem cw_X12_tell : am_cwd M_X12_tell 2 := ⟨(tb_6 (i := 161) (by decide +kernel)), (tb_1 (i := 14) (by decide +kernel)), by decide +kernel, by decide⟩
theorem ins_X12_tell : Cond.instanceMethod yX12_tell ∈ lw_tbl := (tb_6 (i := 160) (by decide +kernel))
theorem sel_X12_tell : Cond.selects yX12_tell.cls yX12_tell yX12_tell ∈ lw_tbl := (tb_0 (i := 31) rfl)
abbrev cX12_power : ByteArray := prog_14_method_29_code
def yX12_power : MethodName := ⟨RX12, "power", "(JI)J"⟩
abbrev M_X12_power : am_M := (yX12_power, cX12_power, 6, (some .long))
theorem cw_X12_power : am_cwd M_X12_power 2 := ⟨(tb_6 (i := 157) (by decide +kernel)), (tb_1 (i := 14) (by decide +kernel)), by decide +kernel, by decide⟩
theorem sta_X12_power : Cond.static yX12_power ∈ lw_tbl := (tb_6 (i := 156) (by decide +kernel))
abbrev cX12_isEven : ByteArray := prog_14_method_30_code
def yX12_isEven : MethodName := ⟨RX12, "isEven", "(IIII)Z"⟩
abbrev M_X12_isEven : am_M := (yX12_isEven, cX12_isEven, 4, (some .boolean))
theorem cw_X12_isEven : am_cwd M_X12_isEven 4 := ⟨(tb_6 (i := 149) (by decide +kernel)), (tb_1 (i := 14) (by decide +kernel)), by decide +kernel, by decide⟩
theorem sta_X12_isEven : Cond.static yX12_isEven ∈ lw_tbl := (tb_6 (i := 148) (by decide +kernel))
abbrev cX12_evens : ByteArray := prog_14_method_31_code
def yX12_evens : MethodName := ⟨RX12, "evens", "(IIII)J"⟩
abbrev M_X12_evens : am_M := (yX12_evens, cX12_evens, 9, (some .long))
theorem cw_X12_evens : am_cwd M_X12_evens 4 := ⟨(tb_6 (i := 154) (by decide +kernel)), (tb_1 (i := 14) (by decide +kernel)), by decide +kernel, by decide⟩
theorem sta_X12_evens : Cond.static yX12_evens ∈ lw_tbl := (tb_6 (i := 153) (by decide +kernel))
abbrev cX12_even : ByteArray := prog_14_method_32_code
def yX12_even : MethodName := ⟨RX12, "even", "(IIII)I"⟩
abbrev M_X12_even : am_M := (yX12_even, cX12_even, 5, (some .int))
theorem cw_X12_even : am_cwd M_X12_even 4 := ⟨(tb_6 (i := 146) (by decide +kernel)), (tb_1 (i := 14) (by decide +kernel)), by decide +kernel, by decide⟩
theorem ins_X12_even : Cond.instanceMethod yX12_even ∈ lw_tbl := (tb_6 (i := 144) (by decide +kernel))
theorem sel_X12_even : Cond.selects yX12_even.cls yX12_even yX12_even ∈ lw_tbl := (tb_6 (i := 145) (by decide +kernel))
abbrev cX12_funds : ByteArray := prog_14_method_33_code
def yX12_funds : MethodName := ⟨RX12, "funds", "(IIIII)I"⟩
abbrev M_X12_funds : am_M := (yX12_funds, cX12_funds, 15, (some .int))
theorem cw_X12_funds : am_cwd M_X12_funds 5 := ⟨(tb_6 (i := 165) (by decide +kernel)), (tb_1 (i := 14) (by decide +kernel)), by decide +kernel, by decide⟩
theorem ins_X12_funds : Cond.instanceMethod yX12_funds ∈ lw_tbl := (tb_6 (i := 163) (by decide +kernel))
theorem sel_X12_funds : Cond.selects yX12_funds.cls yX12_funds yX12_funds ∈ lw_tbl := (tb_6 (i := 164) (by decide +kernel))
abbrev cX12_part : ByteArray := prog_14_method_34_code
def yX12_part : MethodName := ⟨RX12, "part", "(I)J"⟩
abbrev M_X12_part : am_M := (yX12_part, cX12_part, 2, (some .long))
theorem cw_X12_part : am_cwd M_X12_part 1 := ⟨(tb_6 (i := 169) (by decide +kernel)), (tb_1 (i := 14) (by decide +kernel)), by decide +kernel, by decide⟩
theorem ins_X12_part : Cond.instanceMethod yX12_part ∈ lw_tbl := (tb_6 (i := 167) (by decide +kernel))
theorem sel_X12_part : Cond.selects yX12_part.cls yX12_part yX12_part ∈ lw_tbl := (tb_6 (i := 168) (by decide +kernel))
abbrev cX12_index : ByteArray := prog_14_method_35_code
def yX12_index : MethodName := ⟨RX12, "index", "(II)I"⟩
abbrev M_X12_index : am_M := (yX12_index, cX12_index, 4, (some .int))
theorem cw_X12_index : am_cwd M_X12_index 2 := ⟨(tb_6 (i := 173) (by decide +kernel)), (tb_1 (i := 14) (by decide +kernel)), by decide +kernel, by decide⟩
theorem ins_X12_index : Cond.instanceMethod yX12_index ∈ lw_tbl := (tb_6 (i := 171) (by decide +kernel))
theorem sel_X12_index : Cond.selects yX12_index.cls yX12_index yX12_index ∈ lw_tbl := (tb_6 (i := 172) (by decide +kernel))
abbrev cX12_countOf : ByteArray := prog_14_method_36_code
def yX12_countOf : MethodName := ⟨RX12, "countOf", "(II)J"⟩
abbrev M_X12_countOf : am_M := (yX12_countOf, cX12_countOf, 8, (some .long))
theorem cw_X12_countOf : am_cwd M_X12_countOf 2 := ⟨(tb_6 (i := 189) (by decide +kernel)), (tb_1 (i := 14) (by decide +kernel)), by decide +kernel, by decide⟩
theorem ins_X12_countOf : Cond.instanceMethod yX12_countOf ∈ lw_tbl := (tb_6 (i := 188) (by decide +kernel))
theorem sel_X12_countOf : Cond.selects yX12_countOf.cls yX12_countOf yX12_countOf ∈ lw_tbl := (tb_0 (i := 33) rfl)
abbrev cX12_allCounts : ByteArray := prog_14_method_37_code
def yX12_allCounts : MethodName := ⟨RX12, "allCounts", "(I)J"⟩
abbrev M_X12_allCounts : am_M := (yX12_allCounts, cX12_allCounts, 5, (some .long))
theorem cw_X12_allCounts : am_cwd M_X12_allCounts 1 := ⟨(tb_6 (i := 185) (by decide +kernel)), (tb_1 (i := 14) (by decide +kernel)), by decide +kernel, by decide⟩
theorem ins_X12_allCounts : Cond.instanceMethod yX12_allCounts ∈ lw_tbl := (tb_6 (i := 184) (by decide +kernel))
theorem sel_X12_allCounts : Cond.selects yX12_allCounts.cls yX12_allCounts yX12_allCounts ∈ lw_tbl := (tb_0 (i := 32) rfl)
abbrev cX12_count : ByteArray := prog_14_method_38_code
def yX12_count : MethodName := ⟨RX12, "count", "(II)J"⟩
abbrev M_X12_count : am_M := (yX12_count, cX12_count, 3, (some .long))
theorem cw_X12_count : am_cwd M_X12_count 2 := ⟨(tb_6 (i := 181) (by decide +kernel)), (tb_1 (i := 14) (by decide +kernel)), by decide +kernel, by decide⟩
theorem ins_X12_count : Cond.instanceMethod yX12_count ∈ lw_tbl := (tb_6 (i := 179) (by decide +kernel))
theorem sel_X12_count : Cond.selects yX12_count.cls yX12_count yX12_count ∈ lw_tbl := (tb_6 (i := 180) (by decide +kernel))
abbrev cX12_putIn : ByteArray := prog_14_method_39_code
def yX12_putIn : MethodName := ⟨RX12, "putIn", "(I)J"⟩
abbrev M_X12_putIn : am_M := (yX12_putIn, cX12_putIn, 2, (some .long))
theorem cw_X12_putIn : am_cwd M_X12_putIn 1 := ⟨(tb_6 (i := 213) (by decide +kernel)), (tb_1 (i := 14) (by decide +kernel)), by decide +kernel, by decide⟩
theorem ins_X12_putIn : Cond.instanceMethod yX12_putIn ∈ lw_tbl := (tb_6 (i := 212) (by decide +kernel))
theorem sel_X12_putIn : Cond.selects yX12_putIn.cls yX12_putIn yX12_putIn ∈ lw_tbl := (tb_0 (i := 37) rfl)
abbrev cX12_drawn : ByteArray := prog_14_method_40_code
def yX12_drawn : MethodName := ⟨RX12, "drawn", "(I)J"⟩
abbrev M_X12_drawn : am_M := (yX12_drawn, cX12_drawn, 2, (some .long))
theorem cw_X12_drawn : am_cwd M_X12_drawn 1 := ⟨(tb_6 (i := 217) (by decide +kernel)), (tb_1 (i := 14) (by decide +kernel)), by decide +kernel, by decide⟩
theorem ins_X12_drawn : Cond.instanceMethod yX12_drawn ∈ lw_tbl := (tb_6 (i := 216) (by decide +kernel))
theorem sel_X12_drawn : Cond.selects yX12_drawn.cls yX12_drawn yX12_drawn ∈ lw_tbl := (tb_0 (i := 38) rfl)
abbrev cX12_wetBy : ByteArray := prog_14_method_41_code
def yX12_wetBy : MethodName := ⟨RX12, "wetBy", "(I)J"⟩
abbrev M_X12_wetBy : am_M := (yX12_wetBy, cX12_wetBy, 4, (some .long))
theorem cw_X12_wetBy : am_cwd M_X12_wetBy 1 := ⟨(tb_6 (i := 209) (by decide +kernel)), (tb_1 (i := 14) (by decide +kernel)), by decide +kernel, by decide⟩
theorem ins_X12_wetBy : Cond.instanceMethod yX12_wetBy ∈ lw_tbl := (tb_6 (i := 208) (by decide +kernel))
theorem sel_X12_wetBy : Cond.selects yX12_wetBy.cls yX12_wetBy yX12_wetBy ∈ lw_tbl := (tb_0 (i := 36) rfl)
abbrev cX12_findTide : ByteArray := prog_14_method_42_code
def yX12_findTide : MethodName := ⟨RX12, "findTide", "(J)V"⟩
abbrev M_X12_findTide : am_M := (yX12_findTide, cX12_findTide, 12, none)
theorem cw_X12_findTide : am_cwd M_X12_findTide 1 := ⟨(tb_6 (i := 205) (by decide +kernel)), (tb_1 (i := 14) (by decide +kernel)), by decide +kernel, by decide⟩
theorem ins_X12_findTide : Cond.instanceMethod yX12_findTide ∈ lw_tbl := (tb_6 (i := 204) (by decide +kernel))
theorem sel_X12_findTide : Cond.selects yX12_findTide.cls yX12_findTide yX12_findTide ∈ lw_tbl := (tb_0 (i := 35) rfl)
abbrev cX12_lowest : ByteArray := prog_14_method_43_code
def yX12_lowest : MethodName := ⟨RX12, "lowest", "(I)I"⟩
abbrev M_X12_lowest : am_M := (yX12_lowest, cX12_lowest, 4, (some .int))
theorem cw_X12_lowest : am_cwd M_X12_lowest 1 := ⟨(tb_6 (i := 221) (by decide +kernel)), (tb_1 (i := 14) (by decide +kernel)), by decide +kernel, by decide⟩
theorem ins_X12_lowest : Cond.instanceMethod yX12_lowest ∈ lw_tbl := (tb_6 (i := 220) (by decide +kernel))
theorem sel_X12_lowest : Cond.selects yX12_lowest.cls yX12_lowest yX12_lowest ∈ lw_tbl := (tb_0 (i := 39) rfl)
abbrev cX12_dealtTo : ByteArray := prog_14_method_44_code
def yX12_dealtTo : MethodName := ⟨RX12, "dealtTo", "(IIJ)J"⟩
abbrev M_X12_dealtTo : am_M := (yX12_dealtTo, cX12_dealtTo, 11, (some .long))
theorem cw_X12_dealtTo : am_cwd M_X12_dealtTo 3 := ⟨(tb_6 (i := 201) (by decide +kernel)), (tb_1 (i := 14) (by decide +kernel)), by decide +kernel, by decide⟩
theorem ins_X12_dealtTo : Cond.instanceMethod yX12_dealtTo ∈ lw_tbl := (tb_6 (i := 200) (by decide +kernel))
theorem sel_X12_dealtTo : Cond.selects yX12_dealtTo.cls yX12_dealtTo yX12_dealtTo ∈ lw_tbl := (tb_0 (i := 34) rfl)
abbrev cX12_isDealt : ByteArray := prog_14_method_45_code
def yX12_isDealt : MethodName := ⟨RX12, "isDealt", "(I)Z"⟩
abbrev M_X12_isDealt : am_M := (yX12_isDealt, cX12_isDealt, 1, (some .boolean))
theorem cw_X12_isDealt : am_cwd M_X12_isDealt 1 := ⟨(tb_6 (i := 196) (by decide +kernel)), (tb_1 (i := 14) (by decide +kernel)), by decide +kernel, by decide⟩
theorem sta_X12_isDealt : Cond.static yX12_isDealt ∈ lw_tbl := (tb_6 (i := 195) (by decide +kernel))
abbrev cX12_dealt : ByteArray := prog_14_method_46_code
def yX12_dealt : MethodName := ⟨RX12, "dealt", "(III)J"⟩
abbrev M_X12_dealt : am_M := (yX12_dealt, cX12_dealt, 4, (some .long))
theorem cw_X12_dealt : am_cwd M_X12_dealt 3 := ⟨(tb_6 (i := 193) (by decide +kernel)), (tb_1 (i := 14) (by decide +kernel)), by decide +kernel, by decide⟩
theorem ins_X12_dealt : Cond.instanceMethod yX12_dealt ∈ lw_tbl := (tb_6 (i := 191) (by decide +kernel))
theorem sel_X12_dealt : Cond.selects yX12_dealt.cls yX12_dealt yX12_dealt ∈ lw_tbl := (tb_6 (i := 192) (by decide +kernel))
abbrev cX12_tide : ByteArray := prog_14_method_47_code
def yX12_tide : MethodName := ⟨RX12, "tide", "(I)I"⟩
abbrev M_X12_tide : am_M := (yX12_tide, cX12_tide, 2, (some .int))
theorem cw_X12_tide : am_cwd M_X12_tide 1 := ⟨(tb_6 (i := 225) (by decide +kernel)), (tb_1 (i := 14) (by decide +kernel)), by decide +kernel, by decide⟩
theorem ins_X12_tide : Cond.instanceMethod yX12_tide ∈ lw_tbl := (tb_6 (i := 223) (by decide +kernel))
theorem sel_X12_tide : Cond.selects yX12_tide.cls yX12_tide yX12_tide ∈ lw_tbl := (tb_6 (i := 224) (by decide +kernel))
abbrev cX12_moved : ByteArray := prog_14_method_48_code
def yX12_moved : MethodName := ⟨RX12, "moved", "(II)I"⟩
abbrev M_X12_moved : am_M := (yX12_moved, cX12_moved, 7, (some .int))
theorem cw_X12_moved : am_cwd M_X12_moved 2 := ⟨(tb_6 (i := 229) (by decide +kernel)), (tb_1 (i := 14) (by decide +kernel)), by decide +kernel, by decide⟩
theorem ins_X12_moved : Cond.instanceMethod yX12_moved ∈ lw_tbl := (tb_6 (i := 227) (by decide +kernel))
theorem sel_X12_moved : Cond.selects yX12_moved.cls yX12_moved yX12_moved ∈ lw_tbl := (tb_6 (i := 228) (by decide +kernel))
abbrev cX12_gift : ByteArray := prog_14_method_49_code
def yX12_gift : MethodName := ⟨RX12, "gift", "(IIII)I"⟩
abbrev M_X12_gift : am_M := (yX12_gift, cX12_gift, 6, (some .int))
theorem cw_X12_gift : am_cwd M_X12_gift 4 := ⟨(tb_6 (i := 233) (by decide +kernel)), (tb_1 (i := 14) (by decide +kernel)), by decide +kernel, by decide⟩
theorem ins_X12_gift : Cond.instanceMethod yX12_gift ∈ lw_tbl := (tb_6 (i := 231) (by decide +kernel))
theorem sel_X12_gift : Cond.selects yX12_gift.cls yX12_gift yX12_gift ∈ lw_tbl := (tb_6 (i := 232) (by decide +kernel))
abbrev cX12_years : ByteArray := prog_14_method_50_code
def yX12_years : MethodName := ⟨RX12, "years", "(II)I"⟩
abbrev M_X12_years : am_M := (yX12_years, cX12_years, 3, (some .int))
theorem cw_X12_years : am_cwd M_X12_years 2 := ⟨(tb_6 (i := 237) (by decide +kernel)), (tb_1 (i := 14) (by decide +kernel)), by decide +kernel, by decide⟩
theorem ins_X12_years : Cond.instanceMethod yX12_years ∈ lw_tbl := (tb_6 (i := 235) (by decide +kernel))
theorem sel_X12_years : Cond.selects yX12_years.cls yX12_years yX12_years ∈ lw_tbl := (tb_6 (i := 236) (by decide +kernel))
abbrev cX12_toTake : ByteArray := prog_14_method_51_code
def yX12_toTake : MethodName := ⟨RX12, "toTake", "(I)J"⟩
abbrev M_X12_toTake : am_M := (yX12_toTake, cX12_toTake, 8, (some .long))
theorem cw_X12_toTake : am_cwd M_X12_toTake 1 := ⟨(tb_7 (i := 5) (by decide +kernel)), (tb_1 (i := 14) (by decide +kernel)), by decide +kernel, by decide⟩
theorem ins_X12_toTake : Cond.instanceMethod yX12_toTake ∈ lw_tbl := (tb_7 (i := 4) (by decide +kernel))
theorem sel_X12_toTake : Cond.selects yX12_toTake.cls yX12_toTake yX12_toTake ∈ lw_tbl := (tb_0 (i := 40) rfl)
abbrev cX12_take : ByteArray := prog_14_method_52_code
def yX12_take : MethodName := ⟨RX12, "take", "(II)J"⟩
abbrev M_X12_take : am_M := (yX12_take, cX12_take, 8, (some .long))
theorem cw_X12_take : am_cwd M_X12_take 2 := ⟨(tb_7 (i := 1) (by decide +kernel)), (tb_1 (i := 14) (by decide +kernel)), by decide +kernel, by decide⟩
theorem ins_X12_take : Cond.instanceMethod yX12_take ∈ lw_tbl := (tb_6 (i := 239) (by decide +kernel))
theorem sel_X12_take : Cond.selects yX12_take.cls yX12_take yX12_take ∈ lw_tbl := (tb_7 (i := 0) (by decide +kernel))
abbrev cX12_isHouse : ByteArray := prog_14_method_53_code
def yX12_isHouse : MethodName := ⟨RX12, "isHouse", "(I)Z"⟩
abbrev M_X12_isHouse : am_M := (yX12_isHouse, cX12_isHouse, 1, (some .boolean))
theorem cw_X12_isHouse : am_cwd M_X12_isHouse 1 := ⟨(tb_7 (i := 12) (by decide +kernel)), (tb_1 (i := 14) (by decide +kernel)), by decide +kernel, by decide⟩
theorem sta_X12_isHouse : Cond.static yX12_isHouse ∈ lw_tbl := (tb_7 (i := 11) (by decide +kernel))
abbrev cX12_coin : ByteArray := prog_14_method_54_code
def yX12_coin : MethodName := ⟨RX12, "coin", "(II)I"⟩
abbrev M_X12_coin : am_M := (yX12_coin, cX12_coin, 4, (some .int))
theorem cw_X12_coin : am_cwd M_X12_coin 2 := ⟨(tb_7 (i := 9) (by decide +kernel)), (tb_1 (i := 14) (by decide +kernel)), by decide +kernel, by decide⟩
theorem ins_X12_coin : Cond.instanceMethod yX12_coin ∈ lw_tbl := (tb_7 (i := 7) (by decide +kernel))
theorem sel_X12_coin : Cond.selects yX12_coin.cls yX12_coin yX12_coin ∈ lw_tbl := (tb_7 (i := 8) (by decide +kernel))
abbrev cX12_due : ByteArray := prog_14_method_55_code
def yX12_due : MethodName := ⟨RX12, "due", "(III)I"⟩
abbrev M_X12_due : am_M := (yX12_due, cX12_due, 5, (some .int))
theorem cw_X12_due : am_cwd M_X12_due 3 := ⟨(tb_7 (i := 16) (by decide +kernel)), (tb_1 (i := 14) (by decide +kernel)), by decide +kernel, by decide⟩
theorem ins_X12_due : Cond.instanceMethod yX12_due ∈ lw_tbl := (tb_7 (i := 14) (by decide +kernel))
theorem sel_X12_due : Cond.selects yX12_due.cls yX12_due yX12_due ∈ lw_tbl := (tb_7 (i := 15) (by decide +kernel))
abbrev cX12_struck : ByteArray := prog_14_method_56_code
def yX12_struck : MethodName := ⟨RX12, "struck", "(Z)I"⟩
abbrev M_X12_struck : am_M := (yX12_struck, cX12_struck, 2, (some .int))
theorem cw_X12_struck : am_cwd M_X12_struck 1 := ⟨(tb_7 (i := 20) (by decide +kernel)), (tb_1 (i := 14) (by decide +kernel)), by decide +kernel, by decide⟩
theorem ins_X12_struck : Cond.instanceMethod yX12_struck ∈ lw_tbl := (tb_7 (i := 18) (by decide +kernel))
theorem sel_X12_struck : Cond.selects yX12_struck.cls yX12_struck yX12_struck ∈ lw_tbl := (tb_7 (i := 19) (by decide +kernel))
abbrev cX12_findPays : ByteArray := prog_14_method_57_code
def yX12_findPays : MethodName := ⟨RX12, "findPays", "(Z)V"⟩
abbrev M_X12_findPays : am_M := (yX12_findPays, cX12_findPays, 7, none)
theorem cw_X12_findPays : am_cwd M_X12_findPays 1 := ⟨(tb_7 (i := 28) (by decide +kernel)), (tb_1 (i := 14) (by decide +kernel)), by decide +kernel, by decide⟩
theorem ins_X12_findPays : Cond.instanceMethod yX12_findPays ∈ lw_tbl := (tb_7 (i := 27) (by decide +kernel))
theorem sel_X12_findPays : Cond.selects yX12_findPays.cls yX12_findPays yX12_findPays ∈ lw_tbl := (tb_0 (i := 41) rfl)
abbrev cX12_pays : ByteArray := prog_14_method_58_code
def yX12_pays : MethodName := ⟨RX12, "pays", "(II)I"⟩
abbrev M_X12_pays : am_M := (yX12_pays, cX12_pays, 3, (some .int))
theorem cw_X12_pays : am_cwd M_X12_pays 2 := ⟨(tb_7 (i := 24) (by decide +kernel)), (tb_1 (i := 14) (by decide +kernel)), by decide +kernel, by decide⟩
theorem ins_X12_pays : Cond.instanceMethod yX12_pays ∈ lw_tbl := (tb_7 (i := 22) (by decide +kernel))
theorem sel_X12_pays : Cond.selects yX12_pays.cls yX12_pays yX12_pays ∈ lw_tbl := (tb_7 (i := 23) (by decide +kernel))
abbrev cX12_rounds : ByteArray := prog_14_method_59_code
def yX12_rounds : MethodName := ⟨RX12, "rounds", "(II)I"⟩
abbrev M_X12_rounds : am_M := (yX12_rounds, cX12_rounds, 5, (some .int))
theorem cw_X12_rounds : am_cwd M_X12_rounds 2 := ⟨(tb_7 (i := 32) (by decide +kernel)), (tb_1 (i := 14) (by decide +kernel)), by decide +kernel, by decide⟩
theorem ins_X12_rounds : Cond.instanceMethod yX12_rounds ∈ lw_tbl := (tb_7 (i := 30) (by decide +kernel))
theorem sel_X12_rounds : Cond.selects yX12_rounds.cls yX12_rounds yX12_rounds ∈ lw_tbl := (tb_7 (i := 31) (by decide +kernel))
abbrev cX12_letter : ByteArray := prog_14_method_60_code
def yX12_letter : MethodName := ⟨RX12, "letter", "(III)I"⟩
abbrev M_X12_letter : am_M := (yX12_letter, cX12_letter, 5, (some .int))
theorem cw_X12_letter : am_cwd M_X12_letter 3 := ⟨(tb_7 (i := 36) (by decide +kernel)), (tb_1 (i := 14) (by decide +kernel)), by decide +kernel, by decide⟩
theorem ins_X12_letter : Cond.instanceMethod yX12_letter ∈ lw_tbl := (tb_7 (i := 34) (by decide +kernel))
theorem sel_X12_letter : Cond.selects yX12_letter.cls yX12_letter yX12_letter ∈ lw_tbl := (tb_7 (i := 35) (by decide +kernel))
abbrev cX12_write : ByteArray := prog_14_method_61_code
def yX12_write : MethodName := ⟨RX12, "write", "(I)I"⟩
abbrev M_X12_write : am_M := (yX12_write, cX12_write, 2, (some .int))
theorem cw_X12_write : am_cwd M_X12_write 1 := ⟨(tb_7 (i := 40) (by decide +kernel)), (tb_1 (i := 14) (by decide +kernel)), by decide +kernel, by decide⟩
theorem ins_X12_write : Cond.instanceMethod yX12_write ∈ lw_tbl := (tb_7 (i := 38) (by decide +kernel))
theorem sel_X12_write : Cond.selects yX12_write.cls yX12_write yX12_write ∈ lw_tbl := (tb_7 (i := 39) (by decide +kernel))
abbrev cX12_erase : ByteArray := prog_14_method_62_code
def yX12_erase : MethodName := ⟨RX12, "erase", "()I"⟩
abbrev M_X12_erase : am_M := (yX12_erase, cX12_erase, 2, (some .int))
theorem cw_X12_erase : am_cwd M_X12_erase 0 := ⟨(tb_7 (i := 45) (by decide +kernel)), (tb_1 (i := 14) (by decide +kernel)), by decide +kernel, by decide⟩
theorem ins_X12_erase : Cond.instanceMethod yX12_erase ∈ lw_tbl := (tb_7 (i := 43) (by decide +kernel))
theorem sel_X12_erase : Cond.selects yX12_erase.cls yX12_erase yX12_erase ∈ lw_tbl := (tb_7 (i := 44) (by decide +kernel))
abbrev cX12_ahead : ByteArray := prog_14_method_63_code
def yX12_ahead : MethodName := ⟨RX12, "ahead", "()I"⟩
abbrev M_X12_ahead : am_M := (yX12_ahead, cX12_ahead, 1, (some .int))
theorem cw_X12_ahead : am_cwd M_X12_ahead 0 := ⟨(tb_7 (i := 57) (by decide +kernel)), (tb_1 (i := 14) (by decide +kernel)), by decide +kernel, by decide⟩
theorem ins_X12_ahead : Cond.instanceMethod yX12_ahead ∈ lw_tbl := (tb_7 (i := 56) (by decide +kernel))
theorem sel_X12_ahead : Cond.selects yX12_ahead.cls yX12_ahead yX12_ahead ∈ lw_tbl := (tb_0 (i := 43) rfl)
abbrev cX12_rank : ByteArray := prog_14_method_64_code
def yX12_rank : MethodName := ⟨RX12, "rank", "(I)I"⟩
abbrev M_X12_rank : am_M := (yX12_rank, cX12_rank, 1, (some .int))
theorem cw_X12_rank : am_cwd M_X12_rank 1 := ⟨(tb_7 (i := 78) (by decide +kernel)), (tb_1 (i := 14) (by decide +kernel)), by decide +kernel, by decide⟩
theorem sta_X12_rank : Cond.static yX12_rank ∈ lw_tbl := (tb_7 (i := 77) (by decide +kernel))
abbrev cX12_works : ByteArray := prog_14_method_65_code
def yX12_works : MethodName := ⟨RX12, "works", "()V"⟩
abbrev M_X12_works : am_M := (yX12_works, cX12_works, 7, none)
theorem cw_X12_works : am_cwd M_X12_works 0 := ⟨(tb_7 (i := 82) (by decide +kernel)), (tb_1 (i := 14) (by decide +kernel)), by decide +kernel, by decide⟩
theorem ins_X12_works : Cond.instanceMethod yX12_works ∈ lw_tbl := (tb_7 (i := 81) (by decide +kernel))
theorem sel_X12_works : Cond.selects yX12_works.cls yX12_works yX12_works ∈ lw_tbl := (tb_0 (i := 47) rfl)
abbrev cX12_worksDown : ByteArray := prog_14_method_66_code
def yX12_worksDown : MethodName := ⟨RX12, "worksDown", "(I)V"⟩
abbrev M_X12_worksDown : am_M := (yX12_worksDown, cX12_worksDown, 2, none)
theorem cw_X12_worksDown : am_cwd M_X12_worksDown 1 := ⟨(tb_7 (i := 75) (by decide +kernel)), (tb_1 (i := 14) (by decide +kernel)), by decide +kernel, by decide⟩
theorem ins_X12_worksDown : Cond.instanceMethod yX12_worksDown ∈ lw_tbl := (tb_7 (i := 74) (by decide +kernel))
theorem sel_X12_worksDown : Cond.selects yX12_worksDown.cls yX12_worksDown yX12_worksDown ∈ lw_tbl := (tb_0 (i := 46) rfl)
abbrev cX12_stands : ByteArray := prog_14_method_67_code
def yX12_stands : MethodName := ⟨RX12, "stands", "(J)V"⟩
abbrev M_X12_stands : am_M := (yX12_stands, cX12_stands, 5, none)
theorem cw_X12_stands : am_cwd M_X12_stands 1 := ⟨(tb_7 (i := 68) (by decide +kernel)), (tb_1 (i := 14) (by decide +kernel)), by decide +kernel, by decide⟩
theorem ins_X12_stands : Cond.instanceMethod yX12_stands ∈ lw_tbl := (tb_7 (i := 67) (by decide +kernel))
theorem sel_X12_stands : Cond.selects yX12_stands.cls yX12_stands yX12_stands ∈ lw_tbl := (tb_0 (i := 45) rfl)
abbrev cX12_nameOf : ByteArray := prog_14_method_68_code
def yX12_nameOf : MethodName := ⟨RX12, "nameOf", "(I)I"⟩
abbrev M_X12_nameOf : am_M := (yX12_nameOf, cX12_nameOf, 1, (some .int))
theorem cw_X12_nameOf : am_cwd M_X12_nameOf 1 := ⟨(tb_7 (i := 71) (by decide +kernel)), (tb_1 (i := 14) (by decide +kernel)), by decide +kernel, by decide⟩
theorem sta_X12_nameOf : Cond.static yX12_nameOf ∈ lw_tbl := (tb_7 (i := 70) (by decide +kernel))
abbrev cX12_digits : ByteArray := prog_14_method_69_code
def yX12_digits : MethodName := ⟨RX12, "digits", "()J"⟩
abbrev M_X12_digits : am_M := (yX12_digits, cX12_digits, 4, (some .long))
theorem cw_X12_digits : am_cwd M_X12_digits 0 := ⟨(tb_7 (i := 64) (by decide +kernel)), (tb_1 (i := 14) (by decide +kernel)), by decide +kernel, by decide⟩
theorem ins_X12_digits : Cond.instanceMethod yX12_digits ∈ lw_tbl := (tb_7 (i := 63) (by decide +kernel))
theorem sel_X12_digits : Cond.selects yX12_digits.cls yX12_digits yX12_digits ∈ lw_tbl := (tb_0 (i := 44) rfl)
abbrev cX12_reads : ByteArray := prog_14_method_70_code
def yX12_reads : MethodName := ⟨RX12, "reads", "()Z"⟩
abbrev M_X12_reads : am_M := (yX12_reads, cX12_reads, 5, (some .boolean))
theorem cw_X12_reads : am_cwd M_X12_reads 0 := ⟨(tb_7 (i := 53) (by decide +kernel)), (tb_1 (i := 14) (by decide +kernel)), by decide +kernel, by decide⟩
theorem ins_X12_reads : Cond.instanceMethod yX12_reads ∈ lw_tbl := (tb_7 (i := 52) (by decide +kernel))
theorem sel_X12_reads : Cond.selects yX12_reads.cls yX12_reads yX12_reads ∈ lw_tbl := (tb_0 (i := 42) rfl)
abbrev cX12_fault : ByteArray := prog_14_method_71_code
def yX12_fault : MethodName := ⟨RX12, "fault", "()I"⟩
abbrev M_X12_fault : am_M := (yX12_fault, cX12_fault, 2, (some .int))
theorem cw_X12_fault : am_cwd M_X12_fault 0 := ⟨(tb_7 (i := 49) (by decide +kernel)), (tb_1 (i := 14) (by decide +kernel)), by decide +kernel, by decide⟩
theorem ins_X12_fault : Cond.instanceMethod yX12_fault ∈ lw_tbl := (tb_7 (i := 47) (by decide +kernel))
theorem sel_X12_fault : Cond.selects yX12_fault.cls yX12_fault yX12_fault ∈ lw_tbl := (tb_7 (i := 48) (by decide +kernel))
abbrev cX12_lay : ByteArray := prog_14_method_72_code
def yX12_lay : MethodName := ⟨RX12, "lay", "(I)V"⟩
abbrev M_X12_lay : am_M := (yX12_lay, cX12_lay, 5, none)
theorem cw_X12_lay : am_cwd M_X12_lay 1 := ⟨(tb_7 (i := 91) (by decide +kernel)), (tb_1 (i := 14) (by decide +kernel)), by decide +kernel, by decide⟩
theorem ins_X12_lay : Cond.instanceMethod yX12_lay ∈ lw_tbl := (tb_7 (i := 90) (by decide +kernel))
theorem sel_X12_lay : Cond.selects yX12_lay.cls yX12_lay yX12_lay ∈ lw_tbl := (tb_0 (i := 48) rfl)
abbrev cX12_bound : ByteArray := prog_14_method_73_code
def yX12_bound : MethodName := ⟨RX12, "bound", "()J"⟩
abbrev M_X12_bound : am_M := (yX12_bound, cX12_bound, 5, (some .long))
theorem cw_X12_bound : am_cwd M_X12_bound 0 := ⟨(tb_7 (i := 86) (by decide +kernel)), (tb_1 (i := 14) (by decide +kernel)), by decide +kernel, by decide⟩
theorem ins_X12_bound : Cond.instanceMethod yX12_bound ∈ lw_tbl := (tb_7 (i := 84) (by decide +kernel))
theorem sel_X12_bound : Cond.selects yX12_bound.cls yX12_bound yX12_bound ∈ lw_tbl := (tb_7 (i := 85) (by decide +kernel))
abbrev cX12_lost : ByteArray := prog_14_method_74_code
def yX12_lost : MethodName := ⟨RX12, "lost", "(I)J"⟩
abbrev M_X12_lost : am_M := (yX12_lost, cX12_lost, 7, (some .long))
theorem cw_X12_lost : am_cwd M_X12_lost 1 := ⟨(tb_7 (i := 95) (by decide +kernel)), (tb_1 (i := 14) (by decide +kernel)), by decide +kernel, by decide⟩
theorem ins_X12_lost : Cond.instanceMethod yX12_lost ∈ lw_tbl := (tb_7 (i := 93) (by decide +kernel))
theorem sel_X12_lost : Cond.selects yX12_lost.cls yX12_lost yX12_lost ∈ lw_tbl := (tb_7 (i := 94) (by decide +kernel))
abbrev cX12_hand : ByteArray := prog_14_method_75_code
def yX12_hand : MethodName := ⟨RX12, "hand", "(II)I"⟩
abbrev M_X12_hand : am_M := (yX12_hand, cX12_hand, 4, (some .int))
theorem cw_X12_hand : am_cwd M_X12_hand 2 := ⟨(tb_7 (i := 99) (by decide +kernel)), (tb_1 (i := 14) (by decide +kernel)), by decide +kernel, by decide⟩
theorem ins_X12_hand : Cond.instanceMethod yX12_hand ∈ lw_tbl := (tb_7 (i := 97) (by decide +kernel))
theorem sel_X12_hand : Cond.selects yX12_hand.cls yX12_hand yX12_hand ∈ lw_tbl := (tb_7 (i := 98) (by decide +kernel))
abbrev cX12_mayHave : ByteArray := prog_14_method_76_code
def yX12_mayHave : MethodName := ⟨RX12, "mayHave", "(I)I"⟩
abbrev M_X12_mayHave : am_M := (yX12_mayHave, cX12_mayHave, 5, (some .int))
theorem cw_X12_mayHave : am_cwd M_X12_mayHave 1 := ⟨(tb_7 (i := 116) (by decide +kernel)), (tb_1 (i := 14) (by decide +kernel)), by decide +kernel, by decide⟩
theorem ins_X12_mayHave : Cond.instanceMethod yX12_mayHave ∈ lw_tbl := (tb_7 (i := 115) (by decide +kernel))
theorem sel_X12_mayHave : Cond.selects yX12_mayHave.cls yX12_mayHave yX12_mayHave ∈ lw_tbl := (tb_0 (i := 50) rfl)
abbrev cX12_size : ByteArray := prog_14_method_77_code
def yX12_size : MethodName := ⟨RX12, "size", "(I)I"⟩
abbrev M_X12_size : am_M := (yX12_size, cX12_size, 3, (some .int))
theorem cw_X12_size : am_cwd M_X12_size 1 := ⟨(tb_7 (i := 108) (by decide +kernel)), (tb_1 (i := 14) (by decide +kernel)), by decide +kernel, by decide⟩
theorem sta_X12_size : Cond.static yX12_size ∈ lw_tbl := (tb_7 (i := 107) (by decide +kernel))
abbrev cX12_doesHave : ByteArray := prog_14_method_78_code
def yX12_doesHave : MethodName := ⟨RX12, "doesHave", "(I)Z"⟩
abbrev M_X12_doesHave : am_M := (yX12_doesHave, cX12_doesHave, 4, (some .boolean))
theorem cw_X12_doesHave : am_cwd M_X12_doesHave 1 := ⟨(tb_7 (i := 112) (by decide +kernel)), (tb_1 (i := 14) (by decide +kernel)), by decide +kernel, by decide⟩
theorem ins_X12_doesHave : Cond.instanceMethod yX12_doesHave ∈ lw_tbl := (tb_7 (i := 111) (by decide +kernel))
theorem sel_X12_doesHave : Cond.selects yX12_doesHave.cls yX12_doesHave yX12_doesHave ∈ lw_tbl := (tb_0 (i := 49) rfl)
abbrev cX12_whose : ByteArray := prog_14_method_79_code
def yX12_whose : MethodName := ⟨RX12, "whose", "(I)I"⟩
abbrev M_X12_whose : am_M := (yX12_whose, cX12_whose, 7, (some .int))
theorem cw_X12_whose : am_cwd M_X12_whose 1 := ⟨(tb_7 (i := 105) (by decide +kernel)), (tb_1 (i := 14) (by decide +kernel)), by decide +kernel, by decide⟩
theorem ins_X12_whose : Cond.instanceMethod yX12_whose ∈ lw_tbl := (tb_7 (i := 103) (by decide +kernel))
theorem sel_X12_whose : Cond.selects yX12_whose.cls yX12_whose yX12_whose ∈ lw_tbl := (tb_7 (i := 104) (by decide +kernel))
abbrev cX12_suit : ByteArray := prog_14_method_80_code
def yX12_suit : MethodName := ⟨RX12, "suit", "(III)I"⟩
abbrev M_X12_suit : am_M := (yX12_suit, cX12_suit, 5, (some .int))
theorem cw_X12_suit : am_cwd M_X12_suit 3 := ⟨(tb_7 (i := 120) (by decide +kernel)), (tb_1 (i := 14) (by decide +kernel)), by decide +kernel, by decide⟩
theorem ins_X12_suit : Cond.instanceMethod yX12_suit ∈ lw_tbl := (tb_7 (i := 118) (by decide +kernel))
theorem sel_X12_suit : Cond.selects yX12_suit.cls yX12_suit yX12_suit ∈ lw_tbl := (tb_7 (i := 119) (by decide +kernel))
abbrev cX12_best : ByteArray := prog_14_method_81_code
def yX12_best : MethodName := ⟨RX12, "best", "(II)I"⟩
abbrev M_X12_best : am_M := (yX12_best, cX12_best, 14, (some .int))
theorem cw_X12_best : am_cwd M_X12_best 2 := ⟨(tb_7 (i := 125) (by decide +kernel)), (tb_1 (i := 14) (by decide +kernel)), by decide +kernel, by decide⟩
theorem ins_X12_best : Cond.instanceMethod yX12_best ∈ lw_tbl := (tb_7 (i := 123) (by decide +kernel))
theorem sel_X12_best : Cond.selects yX12_best.cls yX12_best yX12_best ∈ lw_tbl := (tb_7 (i := 124) (by decide +kernel))
abbrev cX12_sealOf : ByteArray := prog_14_method_82_code
def yX12_sealOf : MethodName := ⟨RX12, "sealOf", "(II)I"⟩
abbrev M_X12_sealOf : am_M := (yX12_sealOf, cX12_sealOf, 5, (some .int))
theorem cw_X12_sealOf : am_cwd M_X12_sealOf 2 := ⟨(tb_7 (i := 133) (by decide +kernel)), (tb_1 (i := 14) (by decide +kernel)), by decide +kernel, by decide⟩
theorem ins_X12_sealOf : Cond.instanceMethod yX12_sealOf ∈ lw_tbl := (tb_7 (i := 132) (by decide +kernel))
theorem sel_X12_sealOf : Cond.selects yX12_sealOf.cls yX12_sealOf yX12_sealOf ∈ lw_tbl := (tb_0 (i := 51) rfl)
abbrev cX12_keep : ByteArray := prog_14_method_83_code
def yX12_keep : MethodName := ⟨RX12, "keep", "()I"⟩
abbrev M_X12_keep : am_M := (yX12_keep, cX12_keep, 2, (some .int))
theorem cw_X12_keep : am_cwd M_X12_keep 0 := ⟨(tb_7 (i := 129) (by decide +kernel)), (tb_1 (i := 14) (by decide +kernel)), by decide +kernel, by decide⟩
theorem ins_X12_keep : Cond.instanceMethod yX12_keep ∈ lw_tbl := (tb_7 (i := 127) (by decide +kernel))
theorem sel_X12_keep : Cond.selects yX12_keep.cls yX12_keep yX12_keep ∈ lw_tbl := (tb_7 (i := 128) (by decide +kernel))
abbrev cX12_alter : ByteArray := prog_14_method_84_code
def yX12_alter : MethodName := ⟨RX12, "alter", "(II)I"⟩
abbrev M_X12_alter : am_M := (yX12_alter, cX12_alter, 3, (some .int))
theorem cw_X12_alter : am_cwd M_X12_alter 2 := ⟨(tb_7 (i := 137) (by decide +kernel)), (tb_1 (i := 14) (by decide +kernel)), by decide +kernel, by decide⟩
theorem ins_X12_alter : Cond.instanceMethod yX12_alter ∈ lw_tbl := (tb_7 (i := 135) (by decide +kernel))
theorem sel_X12_alter : Cond.selects yX12_alter.cls yX12_alter yX12_alter ∈ lw_tbl := (tb_7 (i := 136) (by decide +kernel))
abbrev cX12_inverse : ByteArray := prog_14_method_85_code
def yX12_inverse : MethodName := ⟨RX12, "inverse", "(I)I"⟩
abbrev M_X12_inverse : am_M := (yX12_inverse, cX12_inverse, 3, (some .int))
theorem cw_X12_inverse : am_cwd M_X12_inverse 1 := ⟨(tb_7 (i := 147) (by decide +kernel)), (tb_1 (i := 14) (by decide +kernel)), by decide +kernel, by decide⟩
theorem sta_X12_inverse : Cond.static yX12_inverse ∈ lw_tbl := (tb_7 (i := 146) (by decide +kernel))
abbrev cX12_wrapped : ByteArray := prog_14_method_86_code
def yX12_wrapped : MethodName := ⟨RX12, "wrapped", "(II)I"⟩
abbrev M_X12_wrapped : am_M := (yX12_wrapped, cX12_wrapped, 4, (some .int))
theorem cw_X12_wrapped : am_cwd M_X12_wrapped 2 := ⟨(tb_7 (i := 144) (by decide +kernel)), (tb_1 (i := 14) (by decide +kernel)), by decide +kernel, by decide⟩
theorem sta_X12_wrapped : Cond.static yX12_wrapped ∈ lw_tbl := (tb_7 (i := 143) (by decide +kernel))
abbrev cX12_check : ByteArray := prog_14_method_87_code
def yX12_check : MethodName := ⟨RX12, "check", "(I)I"⟩
abbrev M_X12_check : am_M := (yX12_check, cX12_check, 8, (some .int))
theorem cw_X12_check : am_cwd M_X12_check 1 := ⟨(tb_7 (i := 141) (by decide +kernel)), (tb_1 (i := 14) (by decide +kernel)), by decide +kernel, by decide⟩
theorem ins_X12_check : Cond.instanceMethod yX12_check ∈ lw_tbl := (tb_7 (i := 139) (by decide +kernel))
theorem sel_X12_check : Cond.selects yX12_check.cls yX12_check yX12_check ∈ lw_tbl := (tb_7 (i := 140) (by decide +kernel))
abbrev cX12_image : ByteArray := prog_14_method_88_code
def yX12_image : MethodName := ⟨RX12, "image", "(I)I"⟩
abbrev M_X12_image : am_M := (yX12_image, cX12_image, 3, (some .int))
theorem cw_X12_image : am_cwd M_X12_image 1 := ⟨(tb_7 (i := 151) (by decide +kernel)), (tb_1 (i := 14) (by decide +kernel)), by decide +kernel, by decide⟩
theorem ins_X12_image : Cond.instanceMethod yX12_image ∈ lw_tbl := (tb_7 (i := 149) (by decide +kernel))
theorem sel_X12_image : Cond.selects yX12_image.cls yX12_image yX12_image ∈ lw_tbl := (tb_7 (i := 150) (by decide +kernel))
abbrev cX12_from : ByteArray := prog_14_method_89_code
def yX12_from : MethodName := ⟨RX12, "from", "(I)I"⟩
abbrev M_X12_from : am_M := (yX12_from, cX12_from, 3, (some .int))
theorem cw_X12_from : am_cwd M_X12_from 1 := ⟨(tb_7 (i := 155) (by decide +kernel)), (tb_1 (i := 14) (by decide +kernel)), by decide +kernel, by decide⟩
theorem ins_X12_from : Cond.instanceMethod yX12_from ∈ lw_tbl := (tb_7 (i := 153) (by decide +kernel))
theorem sel_X12_from : Cond.selects yX12_from.cls yX12_from yX12_from ∈ lw_tbl := (tb_7 (i := 154) (by decide +kernel))
abbrev cX12_many : ByteArray := prog_14_method_90_code
def yX12_many : MethodName := ⟨RX12, "many", "(I)I"⟩
abbrev M_X12_many : am_M := (yX12_many, cX12_many, 4, (some .int))
theorem cw_X12_many : am_cwd M_X12_many 1 := ⟨(tb_7 (i := 159) (by decide +kernel)), (tb_1 (i := 14) (by decide +kernel)), by decide +kernel, by decide⟩
theorem ins_X12_many : Cond.instanceMethod yX12_many ∈ lw_tbl := (tb_7 (i := 157) (by decide +kernel))
theorem sel_X12_many : Cond.selects yX12_many.cls yX12_many yX12_many ∈ lw_tbl := (tb_7 (i := 158) (by decide +kernel))
abbrev cX12_sums : ByteArray := prog_14_method_91_code
def yX12_sums : MethodName := ⟨RX12, "sums", "(JII)J"⟩
abbrev M_X12_sums : am_M := (yX12_sums, cX12_sums, 8, (some .long))
theorem cw_X12_sums : am_cwd M_X12_sums 3 := ⟨(tb_7 (i := 171) (by decide +kernel)), (tb_1 (i := 14) (by decide +kernel)), by decide +kernel, by decide⟩
theorem ins_X12_sums : Cond.instanceMethod yX12_sums ∈ lw_tbl := (tb_7 (i := 170) (by decide +kernel))
theorem sel_X12_sums : Cond.selects yX12_sums.cls yX12_sums yX12_sums ∈ lw_tbl := (tb_0 (i := 52) rfl)
abbrev cX12_digest : ByteArray := prog_14_method_92_code
def yX12_digest : MethodName := ⟨RX12, "digest", "()J"⟩
abbrev M_X12_digest : am_M := (yX12_digest, cX12_digest, 4, (some .long))
theorem cw_X12_digest : am_cwd M_X12_digest 0 := ⟨(tb_7 (i := 163) (by decide +kernel)), (tb_1 (i := 14) (by decide +kernel)), by decide +kernel, by decide⟩
theorem ins_X12_digest : Cond.instanceMethod yX12_digest ∈ lw_tbl := (tb_7 (i := 161) (by decide +kernel))
theorem sel_X12_digest : Cond.selects yX12_digest.cls yX12_digest yX12_digest ∈ lw_tbl := (tb_7 (i := 162) (by decide +kernel))
abbrev cJ6_bitCount_0f7a4 : ByteArray := prog_16_method_49_code
def yJ6_bitCount_0f7a4 : MethodName := ⟨RJ6, "bitCount", "(I)I"⟩
abbrev M_J6_bitCount_0f7a4 : am_M := (yJ6_bitCount_0f7a4, cJ6_bitCount_0f7a4, 1, (some .int))
theorem cw_J6_bitCount_0f7a4 : am_cwd M_J6_bitCount_0f7a4 1 := ⟨(tb_5 (i := 43) (by decide +kernel)), (tb_1 (i := 21) (by decide +kernel)), by decide +kernel, by decide⟩
theorem sta_J6_bitCount_0f7a4 : Cond.static yJ6_bitCount_0f7a4 ∈ lw_tbl := (tb_5 (i := 42) (by decide +kernel))
abbrev cJ7_fill_d0a16 : ByteArray := prog_22_method_101_code
def yJ7_fill_d0a16 : MethodName := ⟨RJ7, "fill", "([JJ)V"⟩
abbrev M_J7_fill_d0a16 : am_M := (yJ7_fill_d0a16, cJ7_fill_d0a16, 5, none)
theorem cw_J7_fill_d0a16 : am_cwd M_J7_fill_d0a16 2 := ⟨(tb_4 (i := 38) (by decide +kernel)), (tb_1 (i := 6) (by decide +kernel)), by decide +kernel, by decide⟩
theorem sta_J7_fill_d0a16 : Cond.static yJ7_fill_d0a16 ∈ lw_tbl := (tb_4 (i := 37) (by decide +kernel))
abbrev cJ7_fill_53178 : ByteArray := prog_22_method_103_code
def yJ7_fill_53178 : MethodName := ⟨RJ7, "fill", "([II)V"⟩
abbrev M_J7_fill_53178 : am_M := (yJ7_fill_53178, cJ7_fill_53178, 4, none)
theorem cw_J7_fill_53178 : am_cwd M_J7_fill_53178 2 := ⟨(tb_1 (i := 196) (by decide +kernel)), (tb_1 (i := 6) (by decide +kernel)), by decide +kernel, by decide⟩
theorem sta_J7_fill_53178 : Cond.static yJ7_fill_53178 ∈ lw_tbl := (tb_1 (i := 195) (by decide +kernel))
end
section
theorem fl_X0_9 : am_fl RX0 9 0 0 RX0 TX0 13 := ⟨cls_0, by decide, (tb_1 (i := 197) (by decide +kernel))⟩
theorem fl_X0_15 : am_fl RX0 15 0 1 RX0 TX0 13 := ⟨cls_0, by decide, (tb_1 (i := 199) (by decide +kernel))⟩
theorem fl_X0_18 : am_fl RX0 18 0 2 RX0 TX0 13 := ⟨cls_0, by decide, (tb_1 (i := 200) (by decide +kernel))⟩
theorem fl_X0_21 : am_fl RX0 21 0 3 RX0 TX0 13 := ⟨cls_0, by decide, (tb_1 (i := 201) (by decide +kernel))⟩
theorem fl_X0_24 : am_fl RX0 24 0 4 RX0 TX0 13 := ⟨cls_0, by decide, (tb_1 (i := 202) (by decide +kernel))⟩
theorem fl_X0_27 : am_fl RX0 27 0 6 RX0 TX0 13 := ⟨cls_0, by decide, (tb_1 (i := 205) (by decide +kernel))⟩
theorem fl_X0_31 : am_fl RX0 31 0 7 RX0 TX0 13 := ⟨cls_0, by decide, (tb_1 (i := 207) (by decide +kernel))⟩
theorem fl_X0_34 : am_fl RX0 34 0 8 RX0 TX0 13 := ⟨cls_0, by decide, (tb_1 (i := 209) (by decide +kernel))⟩
theorem fl_X0_37 : am_fl RX0 37 0 9 RX0 TX0 13 := ⟨cls_0, by decide, (tb_1 (i := 210) (by decide +kernel))⟩
theorem fl_X0_40 : am_fl RX0 40 0 10 RX0 TX0 13 := ⟨cls_0, by decide, (tb_1 (i := 211) (by decide +kernel))⟩
theorem fl_X0_43 : am_fl RX0 43 0 12 RX0 TX0 13 := ⟨cls_0, by decide, (tb_1 (i := 214) (by decide +kernel))⟩
theorem fl_X0_59 : am_fl RX0 59 4 2 RX4 TX4 20 := ⟨cls_4, by decide, (tb_1 (i := 48) (by decide +kernel))⟩
theorem fl_X0_66 : am_fl RX0 66 4 7 RX4 TX4 20 := ⟨cls_4, by decide, (tb_1 (i := 65) (by decide +kernel))⟩
theorem fl_X0_69 : am_fl RX0 69 4 4 RX4 TX4 20 := ⟨cls_4, by decide, (tb_1 (i := 57) (by decide +kernel))⟩
theorem fl_X0_72 : am_fl RX0 72 4 6 RX4 TX4 20 := ⟨cls_4, by decide, (tb_1 (i := 63) (by decide +kernel))⟩
theorem fl_X0_75 : am_fl RX0 75 4 8 RX4 TX4 20 := ⟨cls_4, by decide, (tb_1 (i := 68) (by decide +kernel))⟩
theorem fl_X0_78 : am_fl RX0 78 4 5 RX4 TX4 20 := ⟨cls_4, by decide, (tb_1 (i := 60) (by decide +kernel))⟩
theorem fl_X0_90 : am_fl RX0 90 4 3 RX4 TX4 20 := ⟨cls_4, by decide, (tb_1 (i := 54) (by decide +kernel))⟩
theorem fl_X0_103 : am_fl RX0 103 0 5 RX0 TX0 13 := ⟨cls_0, by decide, (tb_1 (i := 203) (by decide +kernel))⟩
theorem fl_X0_106 : am_fl RX0 106 4 1 RX4 TX4 20 := ⟨cls_4, by decide, (tb_1 (i := 46) (by decide +kernel))⟩
theorem fl_X0_123 : am_fl RX0 123 0 11 RX0 TX0 13 := ⟨cls_0, by decide, (tb_1 (i := 212) (by decide +kernel))⟩
theorem fl_X1_9 : am_fl RX1 9 1 1 RX1 TX1 9 := ⟨cls_1, by decide, (tb_2 (i := 149) (by decide +kernel))⟩
theorem fl_X1_15 : am_fl RX1 15 1 2 RX1 TX1 9 := ⟨cls_1, by decide, (tb_2 (i := 150) (by decide +kernel))⟩
theorem fl_X1_19 : am_fl RX1 19 1 3 RX1 TX1 9 := ⟨cls_1, by decide, (tb_2 (i := 151) (by decide +kernel))⟩
theorem fl_X1_22 : am_fl RX1 22 1 4 RX1 TX1 9 := ⟨cls_1, by decide, (tb_2 (i := 152) (by decide +kernel))⟩
theorem fl_X1_25 : am_fl RX1 25 1 5 RX1 TX1 9 := ⟨cls_1, by decide, (tb_2 (i := 153) (by decide +kernel))⟩
theorem fl_X1_28 : am_fl RX1 28 1 6 RX1 TX1 9 := ⟨cls_1, by decide, (tb_2 (i := 154) (by decide +kernel))⟩
theorem fl_X1_31 : am_fl RX1 31 1 7 RX1 TX1 9 := ⟨cls_1, by decide, (tb_2 (i := 155) (by decide +kernel))⟩
theorem fl_X1_34 : am_fl RX1 34 1 0 RX1 TX1 9 := ⟨cls_1, by decide, (tb_2 (i := 148) (by decide +kernel))⟩
theorem fl_X1_45 : am_fl RX1 45 1 8 RX1 TX1 9 := ⟨cls_1, by decide, (tb_2 (i := 157) (by decide +kernel))⟩
theorem fl_X1_54 : am_fl RX1 54 10 3 RX10 TX10 5 := ⟨cls_10, by decide, (tb_2 (i := 60) (by decide +kernel))⟩
theorem fl_X1_60 : am_fl RX1 60 10 0 RX10 TX10 5 := ⟨cls_10, by decide, (tb_2 (i := 54) (by decide +kernel))⟩
theorem fl_X1_70 : am_fl RX1 70 3 1 RX3 TX3 3 := ⟨cls_3, by decide, (tb_2 (i := 11) (by decide +kernel))⟩
theorem fl_X10_10 : am_fl RX10 10 10 0 RX10 TX10 5 := ⟨cls_10, by decide, (tb_2 (i := 52) (by decide +kernel))⟩
theorem fl_X10_19 : am_fl RX10 19 10 1 RX10 TX10 5 := ⟨cls_10, by decide, (tb_2 (i := 55) (by decide +kernel))⟩
theorem fl_X10_26 : am_fl RX10 26 10 2 RX10 TX10 5 := ⟨cls_10, by decide, (tb_2 (i := 57) (by decide +kernel))⟩
theorem fl_X10_33 : am_fl RX10 33 10 3 RX10 TX10 5 := ⟨cls_10, by decide, (tb_2 (i := 59) (by decide +kernel))⟩
theorem fl_X10_40 : am_fl RX10 40 10 4 RX10 TX10 5 := ⟨cls_10, by decide, (tb_2 (i := 62) (by decide +kernel))⟩
theorem fl_X11_10 : am_fl RX11 10 11 0 RX11 TX11 8 := ⟨cls_11, by decide, (tb_2 (i := 200) (by decide +kernel))⟩
theorem fl_X11_16 : am_fl RX11 16 11 1 RX11 TX11 8 := ⟨cls_11, by decide, (tb_2 (i := 201) (by decide +kernel))⟩
theorem fl_X11_23 : am_fl RX11 23 11 2 RX11 TX11 8 := ⟨cls_11, by decide, (tb_2 (i := 202) (by decide +kernel))⟩
theorem fl_X11_30 : am_fl RX11 30 11 3 RX11 TX11 8 := ⟨cls_11, by decide, (tb_2 (i := 203) (by decide +kernel))⟩
theorem fl_X11_37 : am_fl RX11 37 11 4 RX11 TX11 8 := ⟨cls_11, by decide, (tb_2 (i := 204) (by decide +kernel))⟩
theorem fl_X11_46 : am_fl RX11 46 11 5 RX11 TX11 8 := ⟨cls_11, by decide, (tb_2 (i := 205) (by decide +kernel))⟩
theorem fl_X11_50 : am_fl RX11 50 11 6 RX11 TX11 8 := ⟨cls_11, by decide, (tb_2 (i := 206) (by decide +kernel))⟩
theorem fl_X11_55 : am_fl RX11 55 10 4 RX10 TX10 5 := ⟨cls_10, by decide, (tb_2 (i := 63) (by decide +kernel))⟩
theorem fl_X11_62 : am_fl RX11 62 11 7 RX11 TX11 8 := ⟨cls_11, by decide, (tb_2 (i := 207) (by decide +kernel))⟩
theorem fl_X11_70 : am_fl RX11 70 10 0 RX10 TX10 5 := ⟨cls_10, by decide, (tb_2 (i := 53) (by decide +kernel))⟩
theorem fl_X11_74 : am_fl RX11 74 4 3 RX4 TX4 20 := ⟨cls_4, by decide, (tb_1 (i := 51) (by decide +kernel))⟩
theorem fl_X11_84 : am_fl RX11 84 4 9 RX4 TX4 20 := ⟨cls_4, by decide, (tb_1 (i := 71) (by decide +kernel))⟩
theorem fl_X11_87 : am_fl RX11 87 4 10 RX4 TX4 20 := ⟨cls_4, by decide, (tb_1 (i := 74) (by decide +kernel))⟩
theorem fl_X11_95 : am_fl RX11 95 4 13 RX4 TX4 20 := ⟨cls_4, by decide, (tb_1 (i := 80) (by decide +kernel))⟩
theorem fl_X11_98 : am_fl RX11 98 4 7 RX4 TX4 20 := ⟨cls_4, by decide, (tb_1 (i := 67) (by decide +kernel))⟩
theorem fl_X11_105 : am_fl RX11 105 4 2 RX4 TX4 20 := ⟨cls_4, by decide, (tb_1 (i := 49) (by decide +kernel))⟩
theorem fl_X11_109 : am_fl RX11 109 4 11 RX4 TX4 20 := ⟨cls_4, by decide, (tb_1 (i := 76) (by decide +kernel))⟩
theorem fl_X11_113 : am_fl RX11 113 4 8 RX4 TX4 20 := ⟨cls_4, by decide, (tb_1 (i := 70) (by decide +kernel))⟩
theorem fl_X11_125 : am_fl RX11 125 4 12 RX4 TX4 20 := ⟨cls_4, by decide, (tb_1 (i := 78) (by decide +kernel))⟩
theorem fl_X11_141 : am_fl RX11 141 4 16 RX4 TX4 20 := ⟨cls_4, by decide, (tb_1 (i := 86) (by decide +kernel))⟩
theorem fl_X11_145 : am_fl RX11 145 4 17 RX4 TX4 20 := ⟨cls_4, by decide, (tb_1 (i := 88) (by decide +kernel))⟩
theorem fl_X11_148 : am_fl RX11 148 4 18 RX4 TX4 20 := ⟨cls_4, by decide, (tb_1 (i := 90) (by decide +kernel))⟩
theorem fl_X11_151 : am_fl RX11 151 4 19 RX4 TX4 20 := ⟨cls_4, by decide, (tb_1 (i := 92) (by decide +kernel))⟩
theorem fl_X11_159 : am_fl RX11 159 10 1 RX10 TX10 5 := ⟨cls_10, by decide, (tb_2 (i := 56) (by decide +kernel))⟩
theorem fl_X11_163 : am_fl RX11 163 6 0 RX6 TX6 13 := ⟨cls_6, by decide, (tb_1 (i := 143) (by decide +kernel))⟩
theorem fl_X11_168 : am_fl RX11 168 6 1 RX6 TX6 13 := ⟨cls_6, by decide, (tb_1 (i := 145) (by decide +kernel))⟩
theorem fl_X11_171 : am_fl RX11 171 6 2 RX6 TX6 13 := ⟨cls_6, by decide, (tb_1 (i := 147) (by decide +kernel))⟩
theorem fl_X11_174 : am_fl RX11 174 6 7 RX6 TX6 13 := ⟨cls_6, by decide, (tb_1 (i := 153) (by decide +kernel))⟩
theorem fl_X11_209 : am_fl RX11 209 2 0 RX2 TX2 2 := ⟨cls_2, by decide, (tb_2 (i := 113) (by decide +kernel))⟩
theorem fl_X11_212 : am_fl RX11 212 2 1 RX2 TX2 2 := ⟨cls_2, by decide, (tb_2 (i := 115) (by decide +kernel))⟩
theorem fl_X11_215 : am_fl RX11 215 10 2 RX10 TX10 5 := ⟨cls_10, by decide, (tb_2 (i := 58) (by decide +kernel))⟩
theorem fl_X11_219 : am_fl RX11 219 0 0 RX0 TX0 13 := ⟨cls_0, by decide, (tb_1 (i := 198) (by decide +kernel))⟩
theorem fl_X11_245 : am_fl RX11 245 9 2 RX9 TX9 4 := ⟨cls_9, by decide, (tb_2 (i := 130) (by decide +kernel))⟩
theorem fl_X11_246 : am_fl RX11 246 9 3 RX9 TX9 4 := ⟨cls_9, by decide, (tb_2 (i := 132) (by decide +kernel))⟩
theorem fl_X11_247 : am_fl RX11 247 0 5 RX0 TX0 13 := ⟨cls_0, by decide, (tb_1 (i := 204) (by decide +kernel))⟩
theorem fl_X11_253 : am_fl RX11 253 0 6 RX0 TX0 13 := ⟨cls_0, by decide, (tb_1 (i := 206) (by decide +kernel))⟩
theorem fl_X11_256 : am_fl RX11 256 0 7 RX0 TX0 13 := ⟨cls_0, by decide, (tb_1 (i := 208) (by decide +kernel))⟩
theorem fl_X11_265 : am_fl RX11 265 10 3 RX10 TX10 5 := ⟨cls_10, by decide, (tb_2 (i := 61) (by decide +kernel))⟩
theorem fl_X11_269 : am_fl RX11 269 3 0 RX3 TX3 3 := ⟨cls_3, by decide, (tb_2 (i := 9) (by decide +kernel))⟩
theorem fl_X11_274 : am_fl RX11 274 3 1 RX3 TX3 3 := ⟨cls_3, by decide, (tb_2 (i := 12) (by decide +kernel))⟩
theorem fl_X11_277 : am_fl RX11 277 3 2 RX3 TX3 3 := ⟨cls_3, by decide, (tb_2 (i := 14) (by decide +kernel))⟩
theorem fl_X11_285 : am_fl RX11 285 1 7 RX1 TX1 9 := ⟨cls_1, by decide, (tb_2 (i := 156) (by decide +kernel))⟩
theorem fl_X11_288 : am_fl RX11 288 1 8 RX1 TX1 9 := ⟨cls_1, by decide, (tb_2 (i := 158) (by decide +kernel))⟩
theorem fl_X11_294 : am_fl RX11 294 5 3 RX5 TX5 6 := ⟨cls_5, by decide, (tb_2 (i := 32) (by decide +kernel))⟩
theorem fl_X11_303 : am_fl RX11 303 5 5 RX5 TX5 6 := ⟨cls_5, by decide, (tb_2 (i := 38) (by decide +kernel))⟩
theorem fl_X11_306 : am_fl RX11 306 5 4 RX5 TX5 6 := ⟨cls_5, by decide, (tb_2 (i := 35) (by decide +kernel))⟩
theorem fl_X11_324 : am_fl RX11 324 6 10 RX6 TX6 13 := ⟨cls_6, by decide, (tb_1 (i := 157) (by decide +kernel))⟩
theorem fl_X11_333 : am_fl RX11 333 0 11 RX0 TX0 13 := ⟨cls_0, by decide, (tb_1 (i := 213) (by decide +kernel))⟩
theorem fl_X11_349 : am_fl RX11 349 8 4 RX8 TX8 7 := ⟨cls_8, by decide, (tb_2 (i := 88) (by decide +kernel))⟩
theorem fl_X11_350 : am_fl RX11 350 8 2 RX8 TX8 7 := ⟨cls_8, by decide, (tb_2 (i := 85) (by decide +kernel))⟩
theorem fl_X12_7 : am_fl RX12 7 12 0 RX12 TX12 23 := ⟨cls_12, by decide, (tb_5 (i := 209) (by decide +kernel))⟩
theorem fl_X12_13 : am_fl RX12 13 12 1 RX12 TX12 23 := ⟨cls_12, by decide, (tb_5 (i := 210) (by decide +kernel))⟩
theorem fl_X12_16 : am_fl RX12 16 12 2 RX12 TX12 23 := ⟨cls_12, by decide, (tb_5 (i := 211) (by decide +kernel))⟩
theorem fl_X12_20 : am_fl RX12 20 12 5 RX12 TX12 23 := ⟨cls_12, by decide, (tb_5 (i := 214) (by decide +kernel))⟩
theorem fl_X12_23 : am_fl RX12 23 12 6 RX12 TX12 23 := ⟨cls_12, by decide, (tb_5 (i := 215) (by decide +kernel))⟩
theorem fl_X12_26 : am_fl RX12 26 12 7 RX12 TX12 23 := ⟨cls_12, by decide, (tb_5 (i := 216) (by decide +kernel))⟩
theorem fl_X12_29 : am_fl RX12 29 12 8 RX12 TX12 23 := ⟨cls_12, by decide, (tb_5 (i := 217) (by decide +kernel))⟩
theorem fl_X12_32 : am_fl RX12 32 12 9 RX12 TX12 23 := ⟨cls_12, by decide, (tb_5 (i := 218) (by decide +kernel))⟩
theorem fl_X12_35 : am_fl RX12 35 12 13 RX12 TX12 23 := ⟨cls_12, by decide, (tb_5 (i := 222) (by decide +kernel))⟩
theorem fl_X12_38 : am_fl RX12 38 12 15 RX12 TX12 23 := ⟨cls_12, by decide, (tb_5 (i := 224) (by decide +kernel))⟩
theorem fl_X12_42 : am_fl RX12 42 12 17 RX12 TX12 23 := ⟨cls_12, by decide, (tb_5 (i := 226) (by decide +kernel))⟩
theorem fl_X12_45 : am_fl RX12 45 12 19 RX12 TX12 23 := ⟨cls_12, by decide, (tb_5 (i := 228) (by decide +kernel))⟩
theorem fl_X12_154 : am_fl RX12 154 12 3 RX12 TX12 23 := ⟨cls_12, by decide, (tb_5 (i := 212) (by decide +kernel))⟩
theorem fl_X12_161 : am_fl RX12 161 12 4 RX12 TX12 23 := ⟨cls_12, by decide, (tb_5 (i := 213) (by decide +kernel))⟩
theorem fl_X12_192 : am_fl RX12 192 12 10 RX12 TX12 23 := ⟨cls_12, by decide, (tb_5 (i := 219) (by decide +kernel))⟩
theorem fl_X12_202 : am_fl RX12 202 12 11 RX12 TX12 23 := ⟨cls_12, by decide, (tb_5 (i := 220) (by decide +kernel))⟩
theorem fl_X12_207 : am_fl RX12 207 12 16 RX12 TX12 23 := ⟨cls_12, by decide, (tb_5 (i := 225) (by decide +kernel))⟩
theorem fl_X12_210 : am_fl RX12 210 12 14 RX12 TX12 23 := ⟨cls_12, by decide, (tb_5 (i := 223) (by decide +kernel))⟩
theorem fl_X12_223 : am_fl RX12 223 12 12 RX12 TX12 23 := ⟨cls_12, by decide, (tb_5 (i := 221) (by decide +kernel))⟩
theorem fl_X12_243 : am_fl RX12 243 12 18 RX12 TX12 23 := ⟨cls_12, by decide, (tb_5 (i := 227) (by decide +kernel))⟩
theorem fl_X12_269 : am_fl RX12 269 12 20 RX12 TX12 23 := ⟨cls_12, by decide, (tb_5 (i := 229) (by decide +kernel))⟩
theorem fl_X12_276 : am_fl RX12 276 12 21 RX12 TX12 23 := ⟨cls_12, by decide, (tb_5 (i := 230) (by decide +kernel))⟩
theorem fl_X12_279 : am_fl RX12 279 12 22 RX12 TX12 23 := ⟨cls_12, by decide, (tb_5 (i := 231) (by decide +kernel))⟩
theorem fl_X2_7 : am_fl RX2 7 2 0 RX2 TX2 2 := ⟨cls_2, by decide, (tb_2 (i := 112) (by decide +kernel))⟩
theorem fl_X2_13 : am_fl RX2 13 2 1 RX2 TX2 2 := ⟨cls_2, by decide, (tb_2 (i := 114) (by decide +kernel))⟩
theorem fl_X3_9 : am_fl RX3 9 3 0 RX3 TX3 3 := ⟨cls_3, by decide, (tb_2 (i := 8) (by decide +kernel))⟩
theorem fl_X3_15 : am_fl RX3 15 3 1 RX3 TX3 3 := ⟨cls_3, by decide, (tb_2 (i := 10) (by decide +kernel))⟩
theorem fl_X3_18 : am_fl RX3 18 3 2 RX3 TX3 3 := ⟨cls_3, by decide, (tb_2 (i := 13) (by decide +kernel))⟩
theorem fl_X3_22 : am_fl RX3 22 4 3 RX4 TX4 20 := ⟨cls_4, by decide, (tb_1 (i := 52) (by decide +kernel))⟩
theorem fl_X3_28 : am_fl RX3 28 4 0 RX4 TX4 20 := ⟨cls_4, by decide, (tb_1 (i := 44) (by decide +kernel))⟩
theorem fl_X4_9 : am_fl RX4 9 4 0 RX4 TX4 20 := ⟨cls_4, by decide, (tb_1 (i := 43) (by decide +kernel))⟩
theorem fl_X4_15 : am_fl RX4 15 4 1 RX4 TX4 20 := ⟨cls_4, by decide, (tb_1 (i := 45) (by decide +kernel))⟩
theorem fl_X4_18 : am_fl RX4 18 4 2 RX4 TX4 20 := ⟨cls_4, by decide, (tb_1 (i := 47) (by decide +kernel))⟩
theorem fl_X4_22 : am_fl RX4 22 4 4 RX4 TX4 20 := ⟨cls_4, by decide, (tb_1 (i := 55) (by decide +kernel))⟩
theorem fl_X4_25 : am_fl RX4 25 4 5 RX4 TX4 20 := ⟨cls_4, by decide, (tb_1 (i := 58) (by decide +kernel))⟩
theorem fl_X4_28 : am_fl RX4 28 4 6 RX4 TX4 20 := ⟨cls_4, by decide, (tb_1 (i := 61) (by decide +kernel))⟩
theorem fl_X4_31 : am_fl RX4 31 4 10 RX4 TX4 20 := ⟨cls_4, by decide, (tb_1 (i := 73) (by decide +kernel))⟩
theorem fl_X4_35 : am_fl RX4 35 4 13 RX4 TX4 20 := ⟨cls_4, by decide, (tb_1 (i := 79) (by decide +kernel))⟩
theorem fl_X4_38 : am_fl RX4 38 4 14 RX4 TX4 20 := ⟨cls_4, by decide, (tb_1 (i := 81) (by decide +kernel))⟩
theorem fl_X4_41 : am_fl RX4 41 4 15 RX4 TX4 20 := ⟨cls_4, by decide, (tb_1 (i := 83) (by decide +kernel))⟩
theorem fl_X4_44 : am_fl RX4 44 4 16 RX4 TX4 20 := ⟨cls_4, by decide, (tb_1 (i := 85) (by decide +kernel))⟩
theorem fl_X4_47 : am_fl RX4 47 4 17 RX4 TX4 20 := ⟨cls_4, by decide, (tb_1 (i := 87) (by decide +kernel))⟩
theorem fl_X4_50 : am_fl RX4 50 4 18 RX4 TX4 20 := ⟨cls_4, by decide, (tb_1 (i := 89) (by decide +kernel))⟩
theorem fl_X4_53 : am_fl RX4 53 4 19 RX4 TX4 20 := ⟨cls_4, by decide, (tb_1 (i := 91) (by decide +kernel))⟩
theorem fl_X4_56 : am_fl RX4 56 4 3 RX4 TX4 20 := ⟨cls_4, by decide, (tb_1 (i := 50) (by decide +kernel))⟩
theorem fl_X4_63 : am_fl RX4 63 4 7 RX4 TX4 20 := ⟨cls_4, by decide, (tb_1 (i := 66) (by decide +kernel))⟩
theorem fl_X4_66 : am_fl RX4 66 4 8 RX4 TX4 20 := ⟨cls_4, by decide, (tb_1 (i := 69) (by decide +kernel))⟩
theorem fl_X4_69 : am_fl RX4 69 4 11 RX4 TX4 20 := ⟨cls_4, by decide, (tb_1 (i := 75) (by decide +kernel))⟩
theorem fl_X4_73 : am_fl RX4 73 4 9 RX4 TX4 20 := ⟨cls_4, by decide, (tb_1 (i := 72) (by decide +kernel))⟩
theorem fl_X4_78 : am_fl RX4 78 4 12 RX4 TX4 20 := ⟨cls_4, by decide, (tb_1 (i := 77) (by decide +kernel))⟩
theorem fl_X5_9 : am_fl RX5 9 5 0 RX5 TX5 6 := ⟨cls_5, by decide, (tb_2 (i := 28) (by decide +kernel))⟩
theorem fl_X5_15 : am_fl RX5 15 5 1 RX5 TX5 6 := ⟨cls_5, by decide, (tb_2 (i := 29) (by decide +kernel))⟩
theorem fl_X5_18 : am_fl RX5 18 5 2 RX5 TX5 6 := ⟨cls_5, by decide, (tb_2 (i := 30) (by decide +kernel))⟩
theorem fl_X5_21 : am_fl RX5 21 5 4 RX5 TX5 6 := ⟨cls_5, by decide, (tb_2 (i := 33) (by decide +kernel))⟩
theorem fl_X5_24 : am_fl RX5 24 5 3 RX5 TX5 6 := ⟨cls_5, by decide, (tb_2 (i := 31) (by decide +kernel))⟩
theorem fl_X5_30 : am_fl RX5 30 5 5 RX5 TX5 6 := ⟨cls_5, by decide, (tb_2 (i := 36) (by decide +kernel))⟩
theorem fl_X6_9 : am_fl RX6 9 6 0 RX6 TX6 13 := ⟨cls_6, by decide, (tb_1 (i := 142) (by decide +kernel))⟩
theorem fl_X6_15 : am_fl RX6 15 6 1 RX6 TX6 13 := ⟨cls_6, by decide, (tb_1 (i := 144) (by decide +kernel))⟩
theorem fl_X6_18 : am_fl RX6 18 6 2 RX6 TX6 13 := ⟨cls_6, by decide, (tb_1 (i := 146) (by decide +kernel))⟩
theorem fl_X6_21 : am_fl RX6 21 6 3 RX6 TX6 13 := ⟨cls_6, by decide, (tb_1 (i := 148) (by decide +kernel))⟩
theorem fl_X6_24 : am_fl RX6 24 6 4 RX6 TX6 13 := ⟨cls_6, by decide, (tb_1 (i := 149) (by decide +kernel))⟩
theorem fl_X6_27 : am_fl RX6 27 6 5 RX6 TX6 13 := ⟨cls_6, by decide, (tb_1 (i := 150) (by decide +kernel))⟩
theorem fl_X6_30 : am_fl RX6 30 6 6 RX6 TX6 13 := ⟨cls_6, by decide, (tb_1 (i := 151) (by decide +kernel))⟩
theorem fl_X6_33 : am_fl RX6 33 6 8 RX6 TX6 13 := ⟨cls_6, by decide, (tb_1 (i := 154) (by decide +kernel))⟩
theorem fl_X6_36 : am_fl RX6 36 6 9 RX6 TX6 13 := ⟨cls_6, by decide, (tb_1 (i := 155) (by decide +kernel))⟩
theorem fl_X6_39 : am_fl RX6 39 6 11 RX6 TX6 13 := ⟨cls_6, by decide, (tb_1 (i := 158) (by decide +kernel))⟩
theorem fl_X6_42 : am_fl RX6 42 6 12 RX6 TX6 13 := ⟨cls_6, by decide, (tb_1 (i := 159) (by decide +kernel))⟩
theorem fl_X6_46 : am_fl RX6 46 6 7 RX6 TX6 13 := ⟨cls_6, by decide, (tb_1 (i := 152) (by decide +kernel))⟩
theorem fl_X6_50 : am_fl RX6 50 6 10 RX6 TX6 13 := ⟨cls_6, by decide, (tb_1 (i := 156) (by decide +kernel))⟩
theorem fl_X7_9 : am_fl RX7 9 7 0 RX7 TX7 5 := ⟨cls_7, by decide, (tb_2 (i := 184) (by decide +kernel))⟩
theorem fl_X7_15 : am_fl RX7 15 7 1 RX7 TX7 5 := ⟨cls_7, by decide, (tb_2 (i := 185) (by decide +kernel))⟩
theorem fl_X7_23 : am_fl RX7 23 7 4 RX7 TX7 5 := ⟨cls_7, by decide, (tb_2 (i := 188) (by decide +kernel))⟩
theorem fl_X7_27 : am_fl RX7 27 4 14 RX4 TX4 20 := ⟨cls_4, by decide, (tb_1 (i := 82) (by decide +kernel))⟩
theorem fl_X7_32 : am_fl RX7 32 4 15 RX4 TX4 20 := ⟨cls_4, by decide, (tb_1 (i := 84) (by decide +kernel))⟩
theorem fl_X7_51 : am_fl RX7 51 7 2 RX7 TX7 5 := ⟨cls_7, by decide, (tb_2 (i := 186) (by decide +kernel))⟩
theorem fl_X7_54 : am_fl RX7 54 7 3 RX7 TX7 5 := ⟨cls_7, by decide, (tb_2 (i := 187) (by decide +kernel))⟩
theorem fl_X7_112 : am_fl RX7 112 5 5 RX5 TX5 6 := ⟨cls_5, by decide, (tb_2 (i := 37) (by decide +kernel))⟩
theorem fl_X7_115 : am_fl RX7 115 5 4 RX5 TX5 6 := ⟨cls_5, by decide, (tb_2 (i := 34) (by decide +kernel))⟩
theorem fl_X8_9 : am_fl RX8 9 8 0 RX8 TX8 7 := ⟨cls_8, by decide, (tb_2 (i := 82) (by decide +kernel))⟩
theorem fl_X8_15 : am_fl RX8 15 8 1 RX8 TX8 7 := ⟨cls_8, by decide, (tb_2 (i := 83) (by decide +kernel))⟩
theorem fl_X8_18 : am_fl RX8 18 8 2 RX8 TX8 7 := ⟨cls_8, by decide, (tb_2 (i := 84) (by decide +kernel))⟩
theorem fl_X8_21 : am_fl RX8 21 8 3 RX8 TX8 7 := ⟨cls_8, by decide, (tb_2 (i := 86) (by decide +kernel))⟩
theorem fl_X8_25 : am_fl RX8 25 8 5 RX8 TX8 7 := ⟨cls_8, by decide, (tb_2 (i := 89) (by decide +kernel))⟩
theorem fl_X8_29 : am_fl RX8 29 8 6 RX8 TX8 7 := ⟨cls_8, by decide, (tb_2 (i := 90) (by decide +kernel))⟩
theorem fl_X8_32 : am_fl RX8 32 4 7 RX4 TX4 20 := ⟨cls_4, by decide, (tb_1 (i := 64) (by decide +kernel))⟩
theorem fl_X8_37 : am_fl RX8 37 8 4 RX8 TX8 7 := ⟨cls_8, by decide, (tb_2 (i := 87) (by decide +kernel))⟩
theorem fl_X8_38 : am_fl RX8 38 4 4 RX4 TX4 20 := ⟨cls_4, by decide, (tb_1 (i := 56) (by decide +kernel))⟩
theorem fl_X8_47 : am_fl RX8 47 4 5 RX4 TX4 20 := ⟨cls_4, by decide, (tb_1 (i := 59) (by decide +kernel))⟩
theorem fl_X8_50 : am_fl RX8 50 4 6 RX4 TX4 20 := ⟨cls_4, by decide, (tb_1 (i := 62) (by decide +kernel))⟩
theorem fl_X9_9 : am_fl RX9 9 9 0 RX9 TX9 4 := ⟨cls_9, by decide, (tb_2 (i := 127) (by decide +kernel))⟩
theorem fl_X9_15 : am_fl RX9 15 9 1 RX9 TX9 4 := ⟨cls_9, by decide, (tb_2 (i := 128) (by decide +kernel))⟩
theorem fl_X9_18 : am_fl RX9 18 9 2 RX9 TX9 4 := ⟨cls_9, by decide, (tb_2 (i := 129) (by decide +kernel))⟩
theorem fl_X9_22 : am_fl RX9 22 9 3 RX9 TX9 4 := ⟨cls_9, by decide, (tb_2 (i := 131) (by decide +kernel))⟩
theorem fl_X9_29 : am_fl RX9 29 4 3 RX4 TX4 20 := ⟨cls_4, by decide, (tb_1 (i := 53) (by decide +kernel))⟩
theorem ml_X0_3 : Cond.methodLink RX0 3 Lib.objectInit ∈ lw_tbl := (tb_1 (i := 193) (by decide +kernel))
theorem ml_X0_47 : Cond.methodLink RX0 47 yJ7_fill_53178 ∈ lw_tbl := (tb_1 (i := 194) (by decide +kernel))
theorem ml_X0_53 : Cond.methodLink RX0 53 yX4_netOf ∈ lw_tbl := (tb_3 (i := 150) (by decide +kernel))
theorem ml_X0_62 : Cond.methodLink RX0 62 yX0_indexedOf ∈ lw_tbl := (tb_3 (i := 157) (by decide +kernel))
theorem ml_X0_93 : Cond.methodLink RX0 93 yX0_countOf ∈ lw_tbl := (tb_3 (i := 146) (by decide +kernel))
theorem ml_X0_97 : Cond.methodLink RX0 97 yX0_countOfAll ∈ lw_tbl := (tb_3 (i := 173) (by decide +kernel))
theorem ml_X0_109 : Cond.methodLink RX0 109 yX4_outOf ∈ lw_tbl := (tb_3 (i := 227) (by decide +kernel))
theorem ml_X0_112 : Cond.methodLink RX0 112 yX4_inOf ∈ lw_tbl := (tb_3 (i := 228) (by decide +kernel))
theorem ml_X0_116 : Cond.methodLink RX0 116 yX0_toTakeFrom ∈ lw_tbl := (tb_3 (i := 233) (by decide +kernel))
theorem ml_X0_119 : Cond.methodLink RX0 119 yX0_leadOn ∈ lw_tbl := (tb_3 (i := 234) (by decide +kernel))
theorem ml_X0_126 : Cond.methodLink RX0 126 yX0_monthsOf ∈ lw_tbl := (tb_5 (i := 63) (by decide +kernel))
theorem ml_X0_130 : Cond.methodLink RX0 130 yX0_gainOf ∈ lw_tbl := (tb_5 (i := 67) (by decide +kernel))
theorem ml_X0_135 : Cond.methodLink RX0 135 arraycopyName ∈ lw_tbl := (tb_5 (i := 126) (by decide +kernel))
theorem ml_X1_3 : Cond.methodLink RX1 3 Lib.objectInit ∈ lw_tbl := (tb_2 (i := 147) (by decide +kernel))
theorem ml_X1_38 : Cond.methodLink RX1 38 yX1_learn ∈ lw_tbl := (tb_4 (i := 22) (by decide +kernel))
theorem ml_X1_42 : Cond.methodLink RX1 42 yX1_begin ∈ lw_tbl := (tb_4 (i := 32) (by decide +kernel))
theorem ml_X1_50 : Cond.methodLink RX1 50 yX1_changesInRound ∈ lw_tbl := (tb_4 (i := 45) (by decide +kernel))
theorem ml_X1_64 : Cond.methodLink RX1 64 yX3_coinsOf ∈ lw_tbl := (tb_4 (i := 26) (by decide +kernel))
theorem ml_X1_71 : Cond.methodLink RX1 71 yJ7_fill_d0a16 ∈ lw_tbl := (tb_4 (i := 36) (by decide +kernel))
theorem ml_X1_77 : Cond.methodLink RX1 77 yX1_handOn ∈ lw_tbl := (tb_4 (i := 39) (by decide +kernel))
theorem ml_X10_1 : Cond.methodLink RX10 1 Lib.objectInit ∈ lw_tbl := (tb_1 (i := 36) (by decide +kernel))
theorem ml_X10_25 : Cond.methodLink RX10 25 yX0_init ∈ lw_tbl := (tb_1 (i := 190) (by decide +kernel))
theorem ml_X10_44 : Cond.methodLink RX10 44 yX4_copyFrom ∈ lw_tbl := (tb_5 (i := 112) (by decide +kernel))
theorem ml_X10_48 : Cond.methodLink RX10 48 yX6_copyFrom ∈ lw_tbl := (tb_5 (i := 117) (by decide +kernel))
theorem ml_X10_51 : Cond.methodLink RX10 51 yX0_copyFrom ∈ lw_tbl := (tb_5 (i := 122) (by decide +kernel))
theorem ml_X10_54 : Cond.methodLink RX10 54 yX3_copyFrom ∈ lw_tbl := (tb_5 (i := 127) (by decide +kernel))
theorem ml_X10_57 : Cond.methodLink RX10 57 yX5_copyFrom ∈ lw_tbl := (tb_5 (i := 132) (by decide +kernel))
theorem ml_X11_1 : Cond.methodLink RX11 1 Lib.objectInit ∈ lw_tbl := (tb_1 (i := 28) (by decide +kernel))
theorem ml_X11_43 : Cond.methodLink RX11 43 yX1_init ∈ lw_tbl := (tb_2 (i := 144) (by decide +kernel))
theorem ml_X11_59 : Cond.methodLink RX11 59 yX7_init ∈ lw_tbl := (tb_2 (i := 180) (by decide +kernel))
theorem ml_X11_66 : Cond.methodLink RX11 66 yX11_within ∈ lw_tbl := (tb_2 (i := 229) (by decide +kernel))
theorem ml_X11_80 : Cond.methodLink RX11 80 yX4_addPerson ∈ lw_tbl := (tb_2 (i := 232) (by decide +kernel))
theorem ml_X11_90 : Cond.methodLink RX11 90 yX4_has ∈ lw_tbl := (tb_3 (i := 4) (by decide +kernel))
theorem ml_X11_101 : Cond.methodLink RX11 101 yX4_addRow ∈ lw_tbl := (tb_3 (i := 10) (by decide +kernel))
theorem ml_X11_116 : Cond.methodLink RX11 116 yX4_endMonth ∈ lw_tbl := (tb_3 (i := 22) (by decide +kernel))
theorem ml_X11_121 : Cond.methodLink RX11 121 yX4_shownToAll ∈ lw_tbl := (tb_3 (i := 40) (by decide +kernel))
theorem ml_X11_128 : Cond.methodLink RX11 128 yX4_inOfAll ∈ lw_tbl := (tb_3 (i := 41) (by decide +kernel))
theorem ml_X11_132 : Cond.methodLink RX11 132 yX4_outOfAll ∈ lw_tbl := (tb_3 (i := 45) (by decide +kernel))
theorem ml_X11_137 : Cond.methodLink RX11 137 yX11_isSpan ∈ lw_tbl := (tb_3 (i := 54) (by decide +kernel))
theorem ml_X11_154 : Cond.methodLink RX11 154 yX4_firstBelow ∈ lw_tbl := (tb_3 (i := 61) (by decide +kernel))
theorem ml_X11_177 : Cond.methodLink RX11 177 yX6_addTrade ∈ lw_tbl := (tb_3 (i := 74) (by decide +kernel))
theorem ml_X11_181 : Cond.methodLink RX11 181 yX6_wrongOf ∈ lw_tbl := (tb_3 (i := 82) (by decide +kernel))
theorem ml_X11_185 : Cond.methodLink RX11 185 yX6_firstWrong ∈ lw_tbl := (tb_3 (i := 90) (by decide +kernel))
theorem ml_X11_189 : Cond.methodLink RX11 189 yX11_isEven ∈ lw_tbl := (tb_3 (i := 99) (by decide +kernel))
theorem ml_X11_193 : Cond.methodLink RX11 193 yX11_waysUp ∈ lw_tbl := (tb_3 (i := 102) (by decide +kernel))
theorem ml_X11_197 : Cond.methodLink RX11 197 yX11_power ∈ lw_tbl := (tb_3 (i := 111) (by decide +kernel))
theorem ml_X11_201 : Cond.methodLink RX11 201 yX2_become ∈ lw_tbl := (tb_3 (i := 114) (by decide +kernel))
theorem ml_X11_205 : Cond.methodLink RX11 205 yX11_partOf ∈ lw_tbl := (tb_3 (i := 126) (by decide +kernel))
theorem ml_X11_224 : Cond.methodLink RX11 224 yX0_countOfAll ∈ lw_tbl := (tb_3 (i := 142) (by decide +kernel))
theorem ml_X11_228 : Cond.methodLink RX11 228 yX0_countOf ∈ lw_tbl := (tb_3 (i := 163) (by decide +kernel))
theorem ml_X11_233 : Cond.methodLink RX11 233 yX0_dealtTo ∈ lw_tbl := (tb_3 (i := 169) (by decide +kernel))
theorem ml_X11_237 : Cond.methodLink RX11 237 yX9_rise ∈ lw_tbl := (tb_3 (i := 177) (by decide +kernel))
theorem ml_X11_241 : Cond.methodLink RX11 241 yX9_paidTo ∈ lw_tbl := (tb_3 (i := 193) (by decide +kernel))
theorem ml_X11_250 : Cond.methodLink RX11 250 yX0_addGift ∈ lw_tbl := (tb_3 (i := 211) (by decide +kernel))
theorem ml_X11_259 : Cond.methodLink RX11 259 yX0_toTakeFrom ∈ lw_tbl := (tb_3 (i := 223) (by decide +kernel))
theorem ml_X11_262 : Cond.methodLink RX11 262 yX0_takenFrom ∈ lw_tbl := (tb_3 (i := 229) (by decide +kernel))
theorem ml_X11_281 : Cond.methodLink RX11 281 yX11_agreed ∈ lw_tbl := (tb_4 (i := 14) (by decide +kernel))
theorem ml_X11_291 : Cond.methodLink RX11 291 yX1_fallen ∈ lw_tbl := (tb_4 (i := 54) (by decide +kernel))
theorem ml_X11_299 : Cond.methodLink RX11 299 yX5_addLetter ∈ lw_tbl := (tb_4 (i := 62) (by decide +kernel))
theorem ml_X11_309 : Cond.methodLink RX11 309 yX7_faultFound ∈ lw_tbl := (tb_4 (i := 78) (by decide +kernel))
theorem ml_X11_314 : Cond.methodLink RX11 314 yX7_learn ∈ lw_tbl := (tb_4 (i := 232) (by decide +kernel))
theorem ml_X11_317 : Cond.methodLink RX11 317 yX7_valueRead ∈ lw_tbl := (tb_5 (i := 6) (by decide +kernel))
theorem ml_X11_320 : Cond.methodLink RX11 320 yX4_lostBy ∈ lw_tbl := (tb_5 (i := 11) (by decide +kernel))
theorem ml_X11_327 : Cond.methodLink RX11 327 yX6_addHand ∈ lw_tbl := (tb_5 (i := 21) (by decide +kernel))
theorem ml_X11_330 : Cond.methodLink RX11 330 yX6_leastSets ∈ lw_tbl := (tb_5 (i := 29) (by decide +kernel))
theorem ml_X11_336 : Cond.methodLink RX11 336 yX0_addSuit ∈ lw_tbl := (tb_5 (i := 51) (by decide +kernel))
theorem ml_X11_339 : Cond.methodLink RX11 339 yX0_bestSet ∈ lw_tbl := (tb_5 (i := 59) (by decide +kernel))
theorem ml_X11_342 : Cond.methodLink RX11 342 yX0_gainOf ∈ lw_tbl := (tb_5 (i := 71) (by decide +kernel))
theorem ml_X11_345 : Cond.methodLink RX11 345 yX8_copyRows ∈ lw_tbl := (tb_5 (i := 76) (by decide +kernel))
theorem ml_X11_353 : Cond.methodLink RX11 353 yX8_findAltered ∈ lw_tbl := (tb_5 (i := 95) (by decide +kernel))
theorem ml_X11_356 : Cond.methodLink RX11 356 yX10_copyFrom ∈ lw_tbl := (tb_5 (i := 108) (by decide +kernel))
theorem ml_X11_360 : Cond.methodLink RX11 360 yX6_wrongOnes ∈ lw_tbl := (tb_5 (i := 145) (by decide +kernel))
theorem ml_X11_367 : Cond.methodLink RX11 367 yX11_many ∈ lw_tbl := (tb_5 (i := 155) (by decide +kernel))
theorem ml_X11_370 : Cond.methodLink RX11 370 yX11_account ∈ lw_tbl := (tb_5 (i := 156) (by decide +kernel))
theorem ml_X11_373 : Cond.methodLink RX11 373 yX4_digested ∈ lw_tbl := (tb_5 (i := 157) (by decide +kernel))
theorem ml_X11_377 : Cond.methodLink RX11 377 yX6_digestedTrades ∈ lw_tbl := (tb_5 (i := 162) (by decide +kernel))
theorem ml_X11_380 : Cond.methodLink RX11 380 yX0_digestedGifts ∈ lw_tbl := (tb_5 (i := 167) (by decide +kernel))
theorem ml_X11_383 : Cond.methodLink RX11 383 yX3_digested ∈ lw_tbl := (tb_5 (i := 172) (by decide +kernel))
theorem ml_X11_384 : Cond.methodLink RX11 384 yX5_digestedLetters ∈ lw_tbl := (tb_5 (i := 177) (by decide +kernel))
theorem ml_X11_387 : Cond.methodLink RX11 387 yX6_digestedHands ∈ lw_tbl := (tb_5 (i := 182) (by decide +kernel))
theorem ml_X11_390 : Cond.methodLink RX11 390 yX0_digestedSuits ∈ lw_tbl := (tb_5 (i := 186) (by decide +kernel))
theorem ml_X11_393 : Cond.methodLink RX11 393 yX5_digestedRules ∈ lw_tbl := (tb_5 (i := 190) (by decide +kernel))
theorem ml_X11_396 : Cond.methodLink RX11 396 yX8_digested ∈ lw_tbl := (tb_5 (i := 194) (by decide +kernel))
theorem ml_X11_397 : Cond.methodLink RX11 397 yX1_settle ∈ lw_tbl := (tb_4 (i := 18) (by decide +kernel))
theorem ml_X11_400 : Cond.methodLink RX11 400 yX11_choose ∈ lw_tbl := (tb_3 (i := 105) (by decide +kernel))
theorem ml_X11_403 : Cond.methodLink RX11 403 yX11_cut ∈ lw_tbl := (tb_3 (i := 108) (by decide +kernel))
theorem ml_X12_1 : Cond.methodLink RX12 1 Lib.objectInit ∈ lw_tbl := (tb_5 (i := 204) (by decide +kernel))
theorem ml_X12_56 : Cond.methodLink RX12 56 yX12_got ∈ lw_tbl := (tb_6 (i := 47) (by decide +kernel))
theorem ml_X12_60 : Cond.methodLink RX12 60 yX12_in ∈ lw_tbl := (tb_6 (i := 44) (by decide +kernel))
theorem ml_X12_74 : Cond.methodLink RX12 74 yX12_has ∈ lw_tbl := (tb_6 (i := 61) (by decide +kernel))
theorem ml_X12_78 : Cond.methodLink RX12 78 yX12_isSum ∈ lw_tbl := (tb_6 (i := 65) (by decide +kernel))
theorem ml_X12_82 : Cond.methodLink RX12 82 yX12_isFallen ∈ lw_tbl := (tb_6 (i := 69) (by decide +kernel))
theorem ml_X12_86 : Cond.methodLink RX12 86 yX12_addRow ∈ lw_tbl := (tb_6 (i := 73) (by decide +kernel))
theorem ml_X12_94 : Cond.methodLink RX12 94 yX12_allShown ∈ lw_tbl := (tb_6 (i := 87) (by decide +kernel))
theorem ml_X12_98 : Cond.methodLink RX12 98 yX12_went ∈ lw_tbl := (tb_6 (i := 99) (by decide +kernel))
theorem ml_X12_106 : Cond.methodLink RX12 106 yX12_isSpan ∈ lw_tbl := (tb_6 (i := 109) (by decide +kernel))
theorem ml_X12_111 : Cond.methodLink RX12 111 yX12_isDay ∈ lw_tbl := (tb_6 (i := 120) (by decide +kernel))
theorem ml_X12_120 : Cond.methodLink RX12 120 yX12_wrongOf ∈ lw_tbl := (tb_6 (i := 135) (by decide +kernel))
theorem ml_X12_127 : Cond.methodLink RX12 127 yX12_power ∈ lw_tbl := (tb_6 (i := 155) (by decide +kernel))
theorem ml_X12_131 : Cond.methodLink RX12 131 yX12_isEven ∈ lw_tbl := (tb_6 (i := 147) (by decide +kernel))
theorem ml_X12_135 : Cond.methodLink RX12 135 yX12_evens ∈ lw_tbl := (tb_6 (i := 152) (by decide +kernel))
theorem ml_X12_139 : Cond.methodLink RX12 139 yX12_tell ∈ lw_tbl := (tb_6 (i := 158) (by decide +kernel))
theorem ml_X12_143 : Cond.methodLink RX12 143 yX12_isMonth ∈ lw_tbl := (tb_6 (i := 174) (by decide +kernel))
theorem ml_X12_146 : Cond.methodLink RX12 146 yX12_countOf ∈ lw_tbl := (tb_6 (i := 186) (by decide +kernel))
theorem ml_X12_150 : Cond.methodLink RX12 150 yX12_allCounts ∈ lw_tbl := (tb_6 (i := 182) (by decide +kernel))
theorem ml_X12_158 : Cond.methodLink RX12 158 yX12_putIn ∈ lw_tbl := (tb_6 (i := 210) (by decide +kernel))
theorem ml_X12_164 : Cond.methodLink RX12 164 yX12_drawn ∈ lw_tbl := (tb_6 (i := 214) (by decide +kernel))
theorem ml_X12_167 : Cond.methodLink RX12 167 yX12_wetBy ∈ lw_tbl := (tb_6 (i := 206) (by decide +kernel))
theorem ml_X12_170 : Cond.methodLink RX12 170 yX12_lowest ∈ lw_tbl := (tb_6 (i := 218) (by decide +kernel))
theorem ml_X12_173 : Cond.methodLink RX12 173 yX12_findTide ∈ lw_tbl := (tb_6 (i := 202) (by decide +kernel))
theorem ml_X12_179 : Cond.methodLink RX12 179 yX12_isDealt ∈ lw_tbl := (tb_6 (i := 194) (by decide +kernel))
theorem ml_X12_182 : Cond.methodLink RX12 182 yX12_dealtTo ∈ lw_tbl := (tb_6 (i := 198) (by decide +kernel))
theorem ml_X12_186 : Cond.methodLink RX12 186 yX12_toTake ∈ lw_tbl := (tb_7 (i := 2) (by decide +kernel))
theorem ml_X12_189 : Cond.methodLink RX12 189 yX12_isHouse ∈ lw_tbl := (tb_7 (i := 10) (by decide +kernel))
theorem ml_X12_196 : Cond.methodLink RX12 196 yX12_findPays ∈ lw_tbl := (tb_7 (i := 25) (by decide +kernel))
theorem ml_X12_213 : Cond.methodLink RX12 213 yX12_rank ∈ lw_tbl := (tb_7 (i := 76) (by decide +kernel))
theorem ml_X12_216 : Cond.methodLink RX12 216 yX12_works ∈ lw_tbl := (tb_7 (i := 79) (by decide +kernel))
theorem ml_X12_226 : Cond.methodLink RX12 226 yX12_ahead ∈ lw_tbl := (tb_7 (i := 54) (by decide +kernel))
theorem ml_X12_230 : Cond.methodLink RX12 230 yX12_digits ∈ lw_tbl := (tb_7 (i := 61) (by decide +kernel))
theorem ml_X12_233 : Cond.methodLink RX12 233 yX12_stands ∈ lw_tbl := (tb_7 (i := 65) (by decide +kernel))
theorem ml_X12_236 : Cond.methodLink RX12 236 yX12_nameOf ∈ lw_tbl := (tb_7 (i := 69) (by decide +kernel))
theorem ml_X12_239 : Cond.methodLink RX12 239 yX12_worksDown ∈ lw_tbl := (tb_7 (i := 72) (by decide +kernel))
theorem ml_X12_246 : Cond.methodLink RX12 246 yX12_reads ∈ lw_tbl := (tb_7 (i := 50) (by decide +kernel))
theorem ml_X12_251 : Cond.methodLink RX12 251 yX12_lay ∈ lw_tbl := (tb_7 (i := 88) (by decide +kernel))
theorem ml_X12_258 : Cond.methodLink RX12 258 yX12_mayHave ∈ lw_tbl := (tb_7 (i := 113) (by decide +kernel))
theorem ml_X12_261 : Cond.methodLink RX12 261 yX12_size ∈ lw_tbl := (tb_7 (i := 106) (by decide +kernel))
theorem ml_X12_264 : Cond.methodLink RX12 264 yX12_doesHave ∈ lw_tbl := (tb_7 (i := 109) (by decide +kernel))
theorem ml_X12_272 : Cond.methodLink RX12 272 yX12_sealOf ∈ lw_tbl := (tb_7 (i := 130) (by decide +kernel))
theorem ml_X12_282 : Cond.methodLink RX12 282 yX12_wrapped ∈ lw_tbl := (tb_7 (i := 142) (by decide +kernel))
theorem ml_X12_285 : Cond.methodLink RX12 285 yX12_inverse ∈ lw_tbl := (tb_7 (i := 145) (by decide +kernel))
theorem ml_X12_292 : Cond.methodLink RX12 292 yX12_many ∈ lw_tbl := (tb_7 (i := 166) (by decide +kernel))
theorem ml_X12_295 : Cond.methodLink RX12 295 yX12_account ∈ lw_tbl := (tb_7 (i := 167) (by decide +kernel))
theorem ml_X12_298 : Cond.methodLink RX12 298 yX12_sums ∈ lw_tbl := (tb_7 (i := 168) (by decide +kernel))
theorem ml_X2_1 : Cond.methodLink RX2 1 Lib.objectInit ∈ lw_tbl := (tb_2 (i := 111) (by decide +kernel))
theorem ml_X2_16 : Cond.methodLink RX2 16 yX2_commonDivisor ∈ lw_tbl := (tb_3 (i := 118) (by decide +kernel))
theorem ml_X3_3 : Cond.methodLink RX3 3 Lib.objectInit ∈ lw_tbl := (tb_2 (i := 7) (by decide +kernel))
theorem ml_X3_31 : Cond.methodLink RX3 31 yX4_netOf ∈ lw_tbl := (tb_4 (i := 30) (by decide +kernel))
theorem ml_X3_43 : Cond.methodLink RX3 43 arraycopyName ∈ lw_tbl := (tb_5 (i := 131) (by decide +kernel))
theorem ml_X4_3 : Cond.methodLink RX4 3 Lib.objectInit ∈ lw_tbl := (tb_1 (i := 42) (by decide +kernel))
theorem ml_X4_81 : Cond.methodLink RX4 81 yX4_shownToAll ∈ lw_tbl := (tb_3 (i := 27) (by decide +kernel))
theorem ml_X4_91 : Cond.methodLink RX4 91 yX4_netOf ∈ lw_tbl := (tb_5 (i := 15) (by decide +kernel))
theorem ml_X4_97 : Cond.methodLink RX4 97 arraycopyName ∈ lw_tbl := (tb_5 (i := 116) (by decide +kernel))
theorem ml_X5_3 : Cond.methodLink RX5 3 Lib.objectInit ∈ lw_tbl := (tb_2 (i := 27) (by decide +kernel))
theorem ml_X5_33 : Cond.methodLink RX5 33 arraycopyName ∈ lw_tbl := (tb_5 (i := 136) (by decide +kernel))
theorem ml_X6_3 : Cond.methodLink RX6 3 Lib.objectInit ∈ lw_tbl := (tb_1 (i := 141) (by decide +kernel))
theorem ml_X6_53 : Cond.methodLink RX6 53 yX6_wrongOf ∈ lw_tbl := (tb_3 (i := 94) (by decide +kernel))
theorem ml_X6_57 : Cond.methodLink RX6 57 yX6_lookWhoCould ∈ lw_tbl := (tb_5 (i := 33) (by decide +kernel))
theorem ml_X6_60 : Cond.methodLink RX6 60 yX6_printsAll ∈ lw_tbl := (tb_5 (i := 37) (by decide +kernel))
theorem ml_X6_64 : Cond.methodLink RX6 64 yJ6_bitCount_0f7a4 ∈ lw_tbl := (tb_5 (i := 41) (by decide +kernel))
theorem ml_X6_71 : Cond.methodLink RX6 71 arraycopyName ∈ lw_tbl := (tb_5 (i := 121) (by decide +kernel))
theorem ml_X7_3 : Cond.methodLink RX7 3 Lib.objectInit ∈ lw_tbl := (tb_2 (i := 183) (by decide +kernel))
theorem ml_X7_19 : Cond.methodLink RX7 19 yX7_valueRead ∈ lw_tbl := (tb_4 (i := 82) (by decide +kernel))
theorem ml_X7_35 : Cond.methodLink RX7 35 yX4_inOfAll ∈ lw_tbl := (tb_4 (i := 236) (by decide +kernel))
theorem ml_X7_39 : Cond.methodLink RX7 39 yX4_outOfAll ∈ lw_tbl := (tb_4 (i := 237) (by decide +kernel))
theorem ml_X7_42 : Cond.methodLink RX7 42 yX5_askedBy ∈ lw_tbl := (tb_4 (i := 238) (by decide +kernel))
theorem ml_X7_48 : Cond.methodLink RX7 48 yX5_readBy ∈ lw_tbl := (tb_5 (i := 2) (by decide +kernel))
theorem ml_X7_57 : Cond.methodLink RX7 57 yX7_anyHolds ∈ lw_tbl := (tb_4 (i := 86) (by decide +kernel))
theorem ml_X7_61 : Cond.methodLink RX7 61 yX7_next ∈ lw_tbl := (tb_4 (i := 110) (by decide +kernel))
theorem ml_X7_65 : Cond.methodLink RX7 65 yX7_refuse ∈ lw_tbl := (tb_4 (i := 114) (by decide +kernel))
theorem ml_X7_68 : Cond.methodLink RX7 68 yX7_allHold ∈ lw_tbl := (tb_4 (i := 90) (by decide +kernel))
theorem ml_X7_71 : Cond.methodLink RX7 71 yX7_takes ∈ lw_tbl := (tb_4 (i := 131) (by decide +kernel))
theorem ml_X7_75 : Cond.methodLink RX7 75 yX7_truth ∈ lw_tbl := (tb_4 (i := 135) (by decide +kernel))
theorem ml_X7_79 : Cond.methodLink RX7 79 yX7_held ∈ lw_tbl := (tb_4 (i := 94) (by decide +kernel))
theorem ml_X7_82 : Cond.methodLink RX7 82 yX7_added ∈ lw_tbl := (tb_4 (i := 98) (by decide +kernel))
theorem ml_X7_85 : Cond.methodLink RX7 85 yX7_multiplied ∈ lw_tbl := (tb_4 (i := 102) (by decide +kernel))
theorem ml_X7_88 : Cond.methodLink RX7 88 yX7_unit ∈ lw_tbl := (tb_4 (i := 106) (by decide +kernel))
theorem ml_X7_95 : Cond.methodLink RX7 95 yX7_isDigit ∈ lw_tbl := (tb_4 (i := 118) (by decide +kernel))
theorem ml_X7_99 : Cond.methodLink RX7 99 yX7_number ∈ lw_tbl := (tb_4 (i := 121) (by decide +kernel))
theorem ml_X7_102 : Cond.methodLink RX7 102 yX7_inBrackets ∈ lw_tbl := (tb_4 (i := 127) (by decide +kernel))
theorem ml_X8_3 : Cond.methodLink RX8 3 Lib.objectInit ∈ lw_tbl := (tb_2 (i := 81) (by decide +kernel))
theorem ml_X8_41 : Cond.methodLink RX8 41 arraycopyName ∈ lw_tbl := (tb_5 (i := 80) (by decide +kernel))
theorem ml_X8_53 : Cond.methodLink RX8 53 yX8_sealed ∈ lw_tbl := (tb_5 (i := 83) (by decide +kernel))
theorem ml_X8_57 : Cond.methodLink RX8 57 yX8_lookWhichFit ∈ lw_tbl := (tb_5 (i := 99) (by decide +kernel))
theorem ml_X9_3 : Cond.methodLink RX9 3 Lib.objectInit ∈ lw_tbl := (tb_2 (i := 126) (by decide +kernel))
theorem ml_X9_25 : Cond.methodLink RX9 25 yX9_lookAt ∈ lw_tbl := (tb_3 (i := 181) (by decide +kernel))
theorem ml_X9_35 : Cond.methodLink RX9 35 yX4_inOf ∈ lw_tbl := (tb_3 (i := 185) (by decide +kernel))
theorem ml_X9_39 : Cond.methodLink RX9 39 yX4_outOf ∈ lw_tbl := (tb_3 (i := 189) (by decide +kernel))
theorem ct_J6_265 : Cond.constant RJ6 265 (1431655765) ∈ lw_tbl := (tb_5 (i := 44) (by decide +kernel))
theorem ct_J6_266 : Cond.constant RJ6 266 (858993459) ∈ lw_tbl := (tb_5 (i := 45) (by decide +kernel))
theorem ct_J6_267 : Cond.constant RJ6 267 (252645135) ∈ lw_tbl := (tb_5 (i := 46) (by decide +kernel))
theorem ct_X0_133 : Cond.constantLong RX0 133 (31) ∈ lw_tbl := (tb_5 (i := 171) (by decide +kernel))
theorem ct_X1_49 : Cond.constant RX1 49 (1000000) ∈ lw_tbl := (tb_4 (i := 44) (by decide +kernel))
theorem ct_X11_94 : Cond.constant RX11 94 (1000000) ∈ lw_tbl := (tb_3 (i := 9) (by decide +kernel))
theorem ct_X11_119 : Cond.constantLong RX11 119 (-1) ∈ lw_tbl := (tb_3 (i := 35) (by decide +kernel))
theorem ct_X11_135 : Cond.constantLong RX11 135 (-2) ∈ lw_tbl := (tb_3 (i := 49) (by decide +kernel))
theorem ct_X11_158 : Cond.constant RX11 158 (100000) ∈ lw_tbl := (tb_3 (i := 69) (by decide +kernel))
theorem ct_X11_232 : Cond.constant RX11 232 (10000000) ∈ lw_tbl := (tb_3 (i := 168) (by decide +kernel))
theorem ct_X11_312 : Cond.constantLong RX11 312 (-3) ∈ lw_tbl := (tb_4 (i := 231) (by decide +kernel))
theorem ct_X11_323 : Cond.constant RX11 323 (1073741823) ∈ lw_tbl := (tb_5 (i := 20) (by decide +kernel))
theorem ct_X11_363 : Cond.constantLong RX11 363 (383) ∈ lw_tbl := (tb_5 (i := 153) (by decide +kernel))
theorem ct_X11_365 : Cond.constantLong RX11 365 (31) ∈ lw_tbl := (tb_5 (i := 154) (by decide +kernel))
theorem ct_X11_407 : Cond.constantLong RX11 407 (2) ∈ lw_tbl := (tb_3 (i := 129) (by decide +kernel))
theorem ct_X12_48 : Cond.constantLong RX12 48 (100) ∈ lw_tbl := (tb_5 (i := 205) (by decide +kernel))
theorem ct_X12_50 : Cond.constantLong RX12 50 (10) ∈ lw_tbl := (tb_5 (i := 206) (by decide +kernel))
theorem ct_X12_52 : Cond.constantLong RX12 52 (-1) ∈ lw_tbl := (tb_5 (i := 207) (by decide +kernel))
theorem ct_X12_54 : Cond.constantLong RX12 54 (60) ∈ lw_tbl := (tb_5 (i := 208) (by decide +kernel))
theorem ct_X12_64 : Cond.constantLong RX12 64 (59) ∈ lw_tbl := (tb_6 (i := 177) (by decide +kernel))
theorem ct_X12_66 : Cond.constantLong RX12 66 (7) ∈ lw_tbl := (tb_6 (i := 43) (by decide +kernel))
theorem ct_X12_68 : Cond.constantLong RX12 68 (20) ∈ lw_tbl := (tb_6 (i := 55) (by decide +kernel))
theorem ct_X12_70 : Cond.constantLong RX12 70 (50) ∈ lw_tbl := (tb_6 (i := 56) (by decide +kernel))
theorem ct_X12_72 : Cond.constantLong RX12 72 (1000000) ∈ lw_tbl := (tb_6 (i := 68) (by decide +kernel))
theorem ct_X12_90 : Cond.constantLong RX12 90 (12) ∈ lw_tbl := (tb_6 (i := 85) (by decide +kernel))
theorem ct_X12_92 : Cond.constantLong RX12 92 (1000) ∈ lw_tbl := (tb_6 (i := 86) (by decide +kernel))
theorem ct_X12_102 : Cond.constantLong RX12 102 (-2) ∈ lw_tbl := (tb_6 (i := 103) (by decide +kernel))
theorem ct_X12_104 : Cond.constantLong RX12 104 (11) ∈ lw_tbl := (tb_6 (i := 108) (by decide +kernel))
theorem ct_X12_109 : Cond.constantLong RX12 109 (29) ∈ lw_tbl := (tb_6 (i := 123) (by decide +kernel))
theorem ct_X12_114 : Cond.constantLong RX12 114 (10000) ∈ lw_tbl := (tb_6 (i := 124) (by decide +kernel))
theorem ct_X12_116 : Cond.constantLong RX12 116 (100000) ∈ lw_tbl := (tb_6 (i := 125) (by decide +kernel))
theorem ct_X12_118 : Cond.constantLong RX12 118 (3) ∈ lw_tbl := (tb_6 (i := 130) (by decide +kernel))
theorem ct_X12_123 : Cond.constantLong RX12 123 (18) ∈ lw_tbl := (tb_6 (i := 150) (by decide +kernel))
theorem ct_X12_125 : Cond.constantLong RX12 125 (2) ∈ lw_tbl := (tb_6 (i := 151) (by decide +kernel))
theorem ct_X12_177 : Cond.constantLong RX12 177 (10000000) ∈ lw_tbl := (tb_6 (i := 197) (by decide +kernel))
theorem ct_X12_200 : Cond.constantLong RX12 200 (127) ∈ lw_tbl := (tb_7 (i := 41) (by decide +kernel))
theorem ct_X12_205 : Cond.constantLong RX12 205 (32) ∈ lw_tbl := (tb_7 (i := 58) (by decide +kernel))
theorem ct_X12_219 : Cond.constantLong RX12 219 (48) ∈ lw_tbl := (tb_7 (i := 59) (by decide +kernel))
theorem ct_X12_221 : Cond.constantLong RX12 221 (57) ∈ lw_tbl := (tb_7 (i := 60) (by decide +kernel))
theorem ct_X12_249 : Cond.constantLong RX12 249 (-3) ∈ lw_tbl := (tb_7 (i := 87) (by decide +kernel))
theorem ct_X12_254 : Cond.constantLong RX12 254 (1073741823) ∈ lw_tbl := (tb_7 (i := 100) (by decide +kernel))
theorem ct_X12_256 : Cond.constantLong RX12 256 (15) ∈ lw_tbl := (tb_7 (i := 101) (by decide +kernel))
theorem ct_X12_267 : Cond.constantLong RX12 267 (24) ∈ lw_tbl := (tb_7 (i := 121) (by decide +kernel))
theorem ct_X12_288 : Cond.constantLong RX12 288 (31) ∈ lw_tbl := (tb_7 (i := 165) (by decide +kernel))
theorem ct_X12_290 : Cond.constantLong RX12 290 (383) ∈ lw_tbl := (tb_7 (i := 164) (by decide +kernel))
theorem ct_X3_41 : Cond.constantLong RX3 41 (31) ∈ lw_tbl := (tb_5 (i := 176) (by decide +kernel))
theorem ct_X4_76 : Cond.constantLong RX4 76 (1000) ∈ lw_tbl := (tb_3 (i := 26) (by decide +kernel))
theorem ct_X4_95 : Cond.constantLong RX4 95 (31) ∈ lw_tbl := (tb_5 (i := 161) (by decide +kernel))
theorem ct_X5_28 : Cond.constantLong RX5 28 (31) ∈ lw_tbl := (tb_5 (i := 181) (by decide +kernel))
theorem ct_X6_69 : Cond.constantLong RX6 69 (31) ∈ lw_tbl := (tb_5 (i := 166) (by decide +kernel))
theorem ct_X7_119 : Cond.constantLong RX7 119 (10) ∈ lw_tbl := (tb_4 (i := 125) (by decide +kernel))
theorem ct_X7_121 : Cond.constantLong RX7 121 (48) ∈ lw_tbl := (tb_4 (i := 126) (by decide +kernel))
theorem ct_X8_60 : Cond.constant RX8 60 (35937) ∈ lw_tbl := (tb_5 (i := 103) (by decide +kernel))
theorem ct_X8_61 : Cond.constantLong RX8 61 (31) ∈ lw_tbl := (tb_5 (i := 198) (by decide +kernel))
theorem nl_X11_9 : (RX11, 9, yX10_init, "SteadyFund") ∈ am_nest := List.mem_of_getElem? (i := 0) rfl
theorem nl_X10_9 : (RX10, 9, yX4_init, "SteadyFund") ∈ am_nest := List.mem_of_getElem? (i := 1) rfl
theorem nl_X10_18 : (RX10, 18, yX6_init, "SteadyFund") ∈ am_nest := List.mem_of_getElem? (i := 2) rfl
theorem nl_X10_32 : (RX10, 32, yX3_init, "SteadyFund") ∈ am_nest := List.mem_of_getElem? (i := 3) rfl
theorem nl_X10_39 : (RX10, 39, yX5_init, "SteadyFund") ∈ am_nest := List.mem_of_getElem? (i := 4) rfl
theorem nl_X11_22 : (RX11, 22, yX8_init, "SteadyFund") ∈ am_nest := List.mem_of_getElem? (i := 5) rfl
theorem nl_X11_29 : (RX11, 29, yX2_init, "SteadyFund") ∈ am_nest := List.mem_of_getElem? (i := 6) rfl
theorem nl_X11_36 : (RX11, 36, yX9_init, "SteadyFund") ∈ am_nest := List.mem_of_getElem? (i := 7) rfl
theorem nl_X4_59 : (RX4, 59, yX11_within, "SteadyFund") ∈ am_nest := List.mem_of_getElem? (i := 8) rfl
theorem nl_X2_20 : (RX2, 20, yX11_cut, "SteadyFund") ∈ am_nest := List.mem_of_getElem? (i := 9) rfl
theorem nl_X0_81 : (RX0, 81, yX11_cut, "SteadyFund") ∈ am_nest := List.mem_of_getElem? (i := 10) rfl
theorem nl_X9_43 : (RX9, 43, yX11_cut, "SteadyFund") ∈ am_nest := List.mem_of_getElem? (i := 11) rfl
theorem nl_X1_87 : (RX1, 87, yX11_cut, "SteadyFund") ∈ am_nest := List.mem_of_getElem? (i := 12) rfl
theorem nl_X7_91 : (RX7, 91, yX11_cut, "SteadyFund") ∈ am_nest := List.mem_of_getElem? (i := 13) rfl
theorem kb_m128 : (Int8.ofInt (-128)).toInt32 = -128 := by decide
theorem kb_m127 : (Int8.ofInt (-127)).toInt32 = -127 := by decide
theorem kb_m126 : (Int8.ofInt (-126)).toInt32 = -126 := by decide
theorem kb_m125 : (Int8.ofInt (-125)).toInt32 = -125 := by decide
theorem kb_m124 : (Int8.ofInt (-124)).toInt32 = -124 := by decide
theorem kb_m123 : (Int8.ofInt (-123)).toInt32 = -123 := by decide
theorem kb_m122 : (Int8.ofInt (-122)).toInt32 = -122 := by decide
theorem kb_m121 : (Int8.ofInt (-121)).toInt32 = -121 := by decide
theorem kb_m120 : (Int8.ofInt (-120)).toInt32 = -120 := by decide
theorem kb_m119 : (Int8.ofInt (-119)).toInt32 = -119 := by decide
theorem kb_m118 : (Int8.ofInt (-118)).toInt32 = -118 := by decide
theorem kb_m117 : (Int8.ofInt (-117)).toInt32 = -117 := by decide
theorem kb_m116 : (Int8.ofInt (-116)).toInt32 = -116 := by decide
theorem kb_m115 : (Int8.ofInt (-115)).toInt32 = -115 := by decide
theorem kb_m114 : (Int8.ofInt (-114)).toInt32 = -114 := by decide
theorem kb_m113 : (Int8.ofInt (-113)).toInt32 = -113 := by decide
theorem kb_m112 : (Int8.ofInt (-112)).toInt32 = -112 := by decide
theorem kb_m111 : (Int8.ofInt (-111)).toInt32 = -111 := by decide
theorem kb_m110 : (Int8.ofInt (-110)).toInt32 = -110 := by decide
theorem kb_m109 : (Int8.ofInt (-109)).toInt32 = -109 := by decide
theorem kb_m108 : (Int8.ofInt (-108)).toInt32 = -108 := by decide
theorem kb_m107 : (Int8.ofInt (-107)).toInt32 = -107 := by decide
theorem kb_m106 : (Int8.ofInt (-106)).toInt32 = -106 := by decide
theorem kb_m105 : (Int8.ofInt (-105)).toInt32 = -105 := by decide
theorem kb_m104 : (Int8.ofInt (-104)).toInt32 = -104 := by decide
theorem kb_m103 : (Int8.ofInt (-103)).toInt32 = -103 := by decide
theorem kb_m102 : (Int8.ofInt (-102)).toInt32 = -102 := by decide
theorem kb_m101 : (Int8.ofInt (-101)).toInt32 = -101 := by decide
theorem kb_m100 : (Int8.ofInt (-100)).toInt32 = -100 := by decide
theorem kb_m99 : (Int8.ofInt (-99)).toInt32 = -99 := by decide
theorem kb_m98 : (Int8.ofInt (-98)).toInt32 = -98 := by decide
theorem kb_m97 : (Int8.ofInt (-97)).toInt32 = -97 := by decide
theorem kb_m96 : (Int8.ofInt (-96)).toInt32 = -96 := by decide
theorem kb_m95 : (Int8.ofInt (-95)).toInt32 = -95 := by decide
theorem kb_m94 : (Int8.ofInt (-94)).toInt32 = -94 := by decide
theorem kb_m93 : (Int8.ofInt (-93)).toInt32 = -93 := by decide
theorem kb_m92 : (Int8.ofInt (-92)).toInt32 = -92 := by decide
theorem kb_m91 : (Int8.ofInt (-91)).toInt32 = -91 := by decide
theorem kb_m90 : (Int8.ofInt (-90)).toInt32 = -90 := by decide
theorem kb_m89 : (Int8.ofInt (-89)).toInt32 = -89 := by decide
theorem kb_m88 : (Int8.ofInt (-88)).toInt32 = -88 := by decide
theorem kb_m87 : (Int8.ofInt (-87)).toInt32 = -87 := by decide
theorem kb_m86 : (Int8.ofInt (-86)).toInt32 = -86 := by decide
theorem kb_m85 : (Int8.ofInt (-85)).toInt32 = -85 := by decide
theorem kb_m84 : (Int8.ofInt (-84)).toInt32 = -84 := by decide
theorem kb_m83 : (Int8.ofInt (-83)).toInt32 = -83 := by decide
theorem kb_m82 : (Int8.ofInt (-82)).toInt32 = -82 := by decide
theorem kb_m81 : (Int8.ofInt (-81)).toInt32 = -81 := by decide
theorem kb_m80 : (Int8.ofInt (-80)).toInt32 = -80 := by decide
theorem kb_m79 : (Int8.ofInt (-79)).toInt32 = -79 := by decide
theorem kb_m78 : (Int8.ofInt (-78)).toInt32 = -78 := by decide
theorem kb_m77 : (Int8.ofInt (-77)).toInt32 = -77 := by decide
theorem kb_m76 : (Int8.ofInt (-76)).toInt32 = -76 := by decide
theorem kb_m75 : (Int8.ofInt (-75)).toInt32 = -75 := by decide
theorem kb_m74 : (Int8.ofInt (-74)).toInt32 = -74 := by decide
theorem kb_m73 : (Int8.ofInt (-73)).toInt32 = -73 := by decide
theorem kb_m72 : (Int8.ofInt (-72)).toInt32 = -72 := by decide
theorem kb_m71 : (Int8.ofInt (-71)).toInt32 = -71 := by decide
theorem kb_m70 : (Int8.ofInt (-70)).toInt32 = -70 := by decide
theorem kb_m69 : (Int8.ofInt (-69)).toInt32 = -69 := by decide
theorem kb_m68 : (Int8.ofInt (-68)).toInt32 = -68 := by decide
theorem kb_m67 : (Int8.ofInt (-67)).toInt32 = -67 := by decide
theorem kb_m66 : (Int8.ofInt (-66)).toInt32 = -66 := by decide
theorem kb_m65 : (Int8.ofInt (-65)).toInt32 = -65 := by decide
theorem kb_m64 : (Int8.ofInt (-64)).toInt32 = -64 := by decide
theorem kb_m63 : (Int8.ofInt (-63)).toInt32 = -63 := by decide
theorem kb_m62 : (Int8.ofInt (-62)).toInt32 = -62 := by decide
theorem kb_m61 : (Int8.ofInt (-61)).toInt32 = -61 := by decide
theorem kb_m60 : (Int8.ofInt (-60)).toInt32 = -60 := by decide
theorem kb_m59 : (Int8.ofInt (-59)).toInt32 = -59 := by decide
theorem kb_m58 : (Int8.ofInt (-58)).toInt32 = -58 := by decide
theorem kb_m57 : (Int8.ofInt (-57)).toInt32 = -57 := by decide
theorem kb_m56 : (Int8.ofInt (-56)).toInt32 = -56 := by decide
theorem kb_m55 : (Int8.ofInt (-55)).toInt32 = -55 := by decide
theorem kb_m54 : (Int8.ofInt (-54)).toInt32 = -54 := by decide
theorem kb_m53 : (Int8.ofInt (-53)).toInt32 = -53 := by decide
theorem kb_m52 : (Int8.ofInt (-52)).toInt32 = -52 := by decide
theorem kb_m51 : (Int8.ofInt (-51)).toInt32 = -51 := by decide
theorem kb_m50 : (Int8.ofInt (-50)).toInt32 = -50 := by decide
theorem kb_m49 : (Int8.ofInt (-49)).toInt32 = -49 := by decide
theorem kb_m48 : (Int8.ofInt (-48)).toInt32 = -48 := by decide
theorem kb_m47 : (Int8.ofInt (-47)).toInt32 = -47 := by decide
theorem kb_m46 : (Int8.ofInt (-46)).toInt32 = -46 := by decide
theorem kb_m45 : (Int8.ofInt (-45)).toInt32 = -45 := by decide
theorem kb_m44 : (Int8.ofInt (-44)).toInt32 = -44 := by decide
theorem kb_m43 : (Int8.ofInt (-43)).toInt32 = -43 := by decide
theorem kb_m42 : (Int8.ofInt (-42)).toInt32 = -42 := by decide
theorem kb_m41 : (Int8.ofInt (-41)).toInt32 = -41 := by decide
theorem kb_m40 : (Int8.ofInt (-40)).toInt32 = -40 := by decide
theorem kb_m39 : (Int8.ofInt (-39)).toInt32 = -39 := by decide
theorem kb_m38 : (Int8.ofInt (-38)).toInt32 = -38 := by decide
theorem kb_m37 : (Int8.ofInt (-37)).toInt32 = -37 := by decide
theorem kb_m36 : (Int8.ofInt (-36)).toInt32 = -36 := by decide
theorem kb_m35 : (Int8.ofInt (-35)).toInt32 = -35 := by decide
theorem kb_m34 : (Int8.ofInt (-34)).toInt32 = -34 := by decide
theorem kb_m33 : (Int8.ofInt (-33)).toInt32 = -33 := by decide
theorem kb_m32 : (Int8.ofInt (-32)).toInt32 = -32 := by decide
theorem kb_m31 : (Int8.ofInt (-31)).toInt32 = -31 := by decide
theorem kb_m30 : (Int8.ofInt (-30)).toInt32 = -30 := by decide
theorem kb_m29 : (Int8.ofInt (-29)).toInt32 = -29 := by decide
theorem kb_m28 : (Int8.ofInt (-28)).toInt32 = -28 := by decide
theorem kb_m27 : (Int8.ofInt (-27)).toInt32 = -27 := by decide
theorem kb_m26 : (Int8.ofInt (-26)).toInt32 = -26 := by decide
theorem kb_m25 : (Int8.ofInt (-25)).toInt32 = -25 := by decide
theorem kb_m24 : (Int8.ofInt (-24)).toInt32 = -24 := by decide
theorem kb_m23 : (Int8.ofInt (-23)).toInt32 = -23 := by decide
theorem kb_m22 : (Int8.ofInt (-22)).toInt32 = -22 := by decide
theorem kb_m21 : (Int8.ofInt (-21)).toInt32 = -21 := by decide
theorem kb_m20 : (Int8.ofInt (-20)).toInt32 = -20 := by decide
theorem kb_m19 : (Int8.ofInt (-19)).toInt32 = -19 := by decide
theorem kb_m18 : (Int8.ofInt (-18)).toInt32 = -18 := by decide
theorem kb_m17 : (Int8.ofInt (-17)).toInt32 = -17 := by decide
theorem kb_m16 : (Int8.ofInt (-16)).toInt32 = -16 := by decide
theorem kb_m15 : (Int8.ofInt (-15)).toInt32 = -15 := by decide
theorem kb_m14 : (Int8.ofInt (-14)).toInt32 = -14 := by decide
theorem kb_m13 : (Int8.ofInt (-13)).toInt32 = -13 := by decide
theorem kb_m12 : (Int8.ofInt (-12)).toInt32 = -12 := by decide
theorem kb_m11 : (Int8.ofInt (-11)).toInt32 = -11 := by decide
theorem kb_m10 : (Int8.ofInt (-10)).toInt32 = -10 := by decide
theorem kb_m9 : (Int8.ofInt (-9)).toInt32 = -9 := by decide
theorem kb_m8 : (Int8.ofInt (-8)).toInt32 = -8 := by decide
theorem kb_m7 : (Int8.ofInt (-7)).toInt32 = -7 := by decide
theorem kb_m6 : (Int8.ofInt (-6)).toInt32 = -6 := by decide
theorem kb_m5 : (Int8.ofInt (-5)).toInt32 = -5 := by decide
theorem kb_m4 : (Int8.ofInt (-4)).toInt32 = -4 := by decide
theorem kb_m3 : (Int8.ofInt (-3)).toInt32 = -3 := by decide
theorem kb_m2 : (Int8.ofInt (-2)).toInt32 = -2 := by decide
theorem kb_m1 : (Int8.ofInt (-1)).toInt32 = -1 := by decide
theorem kb_0 : (Int8.ofInt (0)).toInt32 = 0 := by decide
theorem kb_1 : (Int8.ofInt (1)).toInt32 = 1 := by decide
theorem kb_2 : (Int8.ofInt (2)).toInt32 = 2 := by decide
theorem kb_3 : (Int8.ofInt (3)).toInt32 = 3 := by decide
theorem kb_4 : (Int8.ofInt (4)).toInt32 = 4 := by decide
theorem kb_5 : (Int8.ofInt (5)).toInt32 = 5 := by decide
theorem kb_6 : (Int8.ofInt (6)).toInt32 = 6 := by decide
theorem kb_7 : (Int8.ofInt (7)).toInt32 = 7 := by decide
theorem kb_8 : (Int8.ofInt (8)).toInt32 = 8 := by decide
theorem kb_9 : (Int8.ofInt (9)).toInt32 = 9 := by decide
theorem kb_10 : (Int8.ofInt (10)).toInt32 = 10 := by decide
theorem kb_11 : (Int8.ofInt (11)).toInt32 = 11 := by decide
theorem kb_12 : (Int8.ofInt (12)).toInt32 = 12 := by decide
theorem kb_13 : (Int8.ofInt (13)).toInt32 = 13 := by decide
theorem kb_14 : (Int8.ofInt (14)).toInt32 = 14 := by decide
theorem kb_15 : (Int8.ofInt (15)).toInt32 = 15 := by decide
theorem kb_16 : (Int8.ofInt (16)).toInt32 = 16 := by decide
theorem kb_17 : (Int8.ofInt (17)).toInt32 = 17 := by decide
theorem kb_18 : (Int8.ofInt (18)).toInt32 = 18 := by decide
theorem kb_19 : (Int8.ofInt (19)).toInt32 = 19 := by decide
theorem kb_20 : (Int8.ofInt (20)).toInt32 = 20 := by decide
theorem kb_21 : (Int8.ofInt (21)).toInt32 = 21 := by decide
theorem kb_22 : (Int8.ofInt (22)).toInt32 = 22 := by decide
theorem kb_23 : (Int8.ofInt (23)).toInt32 = 23 := by decide
theorem kb_24 : (Int8.ofInt (24)).toInt32 = 24 := by decide
theorem kb_25 : (Int8.ofInt (25)).toInt32 = 25 := by decide
theorem kb_26 : (Int8.ofInt (26)).toInt32 = 26 := by decide
theorem kb_27 : (Int8.ofInt (27)).toInt32 = 27 := by decide
theorem kb_28 : (Int8.ofInt (28)).toInt32 = 28 := by decide
theorem kb_29 : (Int8.ofInt (29)).toInt32 = 29 := by decide
theorem kb_30 : (Int8.ofInt (30)).toInt32 = 30 := by decide
theorem kb_31 : (Int8.ofInt (31)).toInt32 = 31 := by decide
theorem kb_32 : (Int8.ofInt (32)).toInt32 = 32 := by decide
theorem kb_33 : (Int8.ofInt (33)).toInt32 = 33 := by decide
theorem kb_34 : (Int8.ofInt (34)).toInt32 = 34 := by decide
theorem kb_35 : (Int8.ofInt (35)).toInt32 = 35 := by decide
theorem kb_36 : (Int8.ofInt (36)).toInt32 = 36 := by decide
theorem kb_37 : (Int8.ofInt (37)).toInt32 = 37 := by decide
theorem kb_38 : (Int8.ofInt (38)).toInt32 = 38 := by decide
theorem kb_39 : (Int8.ofInt (39)).toInt32 = 39 := by decide
theorem kb_40 : (Int8.ofInt (40)).toInt32 = 40 := by decide
theorem kb_41 : (Int8.ofInt (41)).toInt32 = 41 := by decide
theorem kb_42 : (Int8.ofInt (42)).toInt32 = 42 := by decide
theorem kb_43 : (Int8.ofInt (43)).toInt32 = 43 := by decide
theorem kb_44 : (Int8.ofInt (44)).toInt32 = 44 := by decide
theorem kb_45 : (Int8.ofInt (45)).toInt32 = 45 := by decide
theorem kb_46 : (Int8.ofInt (46)).toInt32 = 46 := by decide
theorem kb_47 : (Int8.ofInt (47)).toInt32 = 47 := by decide
theorem kb_48 : (Int8.ofInt (48)).toInt32 = 48 := by decide
theorem kb_49 : (Int8.ofInt (49)).toInt32 = 49 := by decide
theorem kb_50 : (Int8.ofInt (50)).toInt32 = 50 := by decide
theorem kb_51 : (Int8.ofInt (51)).toInt32 = 51 := by decide
theorem kb_52 : (Int8.ofInt (52)).toInt32 = 52 := by decide
theorem kb_53 : (Int8.ofInt (53)).toInt32 = 53 := by decide
theorem kb_54 : (Int8.ofInt (54)).toInt32 = 54 := by decide
theorem kb_55 : (Int8.ofInt (55)).toInt32 = 55 := by decide
theorem kb_56 : (Int8.ofInt (56)).toInt32 = 56 := by decide
theorem kb_57 : (Int8.ofInt (57)).toInt32 = 57 := by decide
theorem kb_58 : (Int8.ofInt (58)).toInt32 = 58 := by decide
theorem kb_59 : (Int8.ofInt (59)).toInt32 = 59 := by decide
theorem kb_60 : (Int8.ofInt (60)).toInt32 = 60 := by decide
theorem kb_61 : (Int8.ofInt (61)).toInt32 = 61 := by decide
theorem kb_62 : (Int8.ofInt (62)).toInt32 = 62 := by decide
theorem kb_63 : (Int8.ofInt (63)).toInt32 = 63 := by decide
theorem kb_64 : (Int8.ofInt (64)).toInt32 = 64 := by decide
theorem kb_65 : (Int8.ofInt (65)).toInt32 = 65 := by decide
theorem kb_66 : (Int8.ofInt (66)).toInt32 = 66 := by decide
theorem kb_67 : (Int8.ofInt (67)).toInt32 = 67 := by decide
theorem kb_68 : (Int8.ofInt (68)).toInt32 = 68 := by decide
theorem kb_69 : (Int8.ofInt (69)).toInt32 = 69 := by decide
theorem kb_70 : (Int8.ofInt (70)).toInt32 = 70 := by decide
theorem kb_71 : (Int8.ofInt (71)).toInt32 = 71 := by decide
theorem kb_72 : (Int8.ofInt (72)).toInt32 = 72 := by decide
theorem kb_73 : (Int8.ofInt (73)).toInt32 = 73 := by decide
theorem kb_74 : (Int8.ofInt (74)).toInt32 = 74 := by decide
theorem kb_75 : (Int8.ofInt (75)).toInt32 = 75 := by decide
theorem kb_76 : (Int8.ofInt (76)).toInt32 = 76 := by decide
theorem kb_77 : (Int8.ofInt (77)).toInt32 = 77 := by decide
theorem kb_78 : (Int8.ofInt (78)).toInt32 = 78 := by decide
theorem kb_79 : (Int8.ofInt (79)).toInt32 = 79 := by decide
theorem kb_80 : (Int8.ofInt (80)).toInt32 = 80 := by decide
theorem kb_81 : (Int8.ofInt (81)).toInt32 = 81 := by decide
theorem kb_82 : (Int8.ofInt (82)).toInt32 = 82 := by decide
theorem kb_83 : (Int8.ofInt (83)).toInt32 = 83 := by decide
theorem kb_84 : (Int8.ofInt (84)).toInt32 = 84 := by decide
theorem kb_85 : (Int8.ofInt (85)).toInt32 = 85 := by decide
theorem kb_86 : (Int8.ofInt (86)).toInt32 = 86 := by decide
theorem kb_87 : (Int8.ofInt (87)).toInt32 = 87 := by decide
theorem kb_88 : (Int8.ofInt (88)).toInt32 = 88 := by decide
theorem kb_89 : (Int8.ofInt (89)).toInt32 = 89 := by decide
theorem kb_90 : (Int8.ofInt (90)).toInt32 = 90 := by decide
theorem kb_91 : (Int8.ofInt (91)).toInt32 = 91 := by decide
theorem kb_92 : (Int8.ofInt (92)).toInt32 = 92 := by decide
theorem kb_93 : (Int8.ofInt (93)).toInt32 = 93 := by decide
theorem kb_94 : (Int8.ofInt (94)).toInt32 = 94 := by decide
theorem kb_95 : (Int8.ofInt (95)).toInt32 = 95 := by decide
theorem kb_96 : (Int8.ofInt (96)).toInt32 = 96 := by decide
theorem kb_97 : (Int8.ofInt (97)).toInt32 = 97 := by decide
theorem kb_98 : (Int8.ofInt (98)).toInt32 = 98 := by decide
theorem kb_99 : (Int8.ofInt (99)).toInt32 = 99 := by decide
theorem kb_100 : (Int8.ofInt (100)).toInt32 = 100 := by decide
theorem kb_101 : (Int8.ofInt (101)).toInt32 = 101 := by decide
theorem kb_102 : (Int8.ofInt (102)).toInt32 = 102 := by decide
theorem kb_103 : (Int8.ofInt (103)).toInt32 = 103 := by decide
theorem kb_104 : (Int8.ofInt (104)).toInt32 = 104 := by decide
theorem kb_105 : (Int8.ofInt (105)).toInt32 = 105 := by decide
theorem kb_106 : (Int8.ofInt (106)).toInt32 = 106 := by decide
theorem kb_107 : (Int8.ofInt (107)).toInt32 = 107 := by decide
theorem kb_108 : (Int8.ofInt (108)).toInt32 = 108 := by decide
theorem kb_109 : (Int8.ofInt (109)).toInt32 = 109 := by decide
theorem kb_110 : (Int8.ofInt (110)).toInt32 = 110 := by decide
theorem kb_111 : (Int8.ofInt (111)).toInt32 = 111 := by decide
theorem kb_112 : (Int8.ofInt (112)).toInt32 = 112 := by decide
theorem kb_113 : (Int8.ofInt (113)).toInt32 = 113 := by decide
theorem kb_114 : (Int8.ofInt (114)).toInt32 = 114 := by decide
theorem kb_115 : (Int8.ofInt (115)).toInt32 = 115 := by decide
theorem kb_116 : (Int8.ofInt (116)).toInt32 = 116 := by decide
theorem kb_117 : (Int8.ofInt (117)).toInt32 = 117 := by decide
theorem kb_118 : (Int8.ofInt (118)).toInt32 = 118 := by decide
theorem kb_119 : (Int8.ofInt (119)).toInt32 = 119 := by decide
theorem kb_120 : (Int8.ofInt (120)).toInt32 = 120 := by decide
theorem kb_121 : (Int8.ofInt (121)).toInt32 = 121 := by decide
theorem kb_122 : (Int8.ofInt (122)).toInt32 = 122 := by decide
theorem kb_123 : (Int8.ofInt (123)).toInt32 = 123 := by decide
theorem kb_124 : (Int8.ofInt (124)).toInt32 = 124 := by decide
theorem kb_125 : (Int8.ofInt (125)).toInt32 = 125 := by decide
theorem kb_126 : (Int8.ofInt (126)).toInt32 = 126 := by decide
theorem kb_127 : (Int8.ofInt (127)).toInt32 = 127 := by decide
theorem ki_m1 : Int32.ofInt (-1) = -1 := by decide
theorem ki_0 : Int32.ofInt (0) = 0 := by decide
theorem ki_1 : Int32.ofInt (1) = 1 := by decide
theorem ki_2 : Int32.ofInt (2) = 2 := by decide
theorem ki_3 : Int32.ofInt (3) = 3 := by decide
theorem ki_4 : Int32.ofInt (4) = 4 := by decide
theorem ki_5 : Int32.ofInt (5) = 5 := by decide
theorem ks_128 : (Int16.ofInt (128)).toInt32 = 128 := by decide
theorem ks_200 : (Int16.ofInt (200)).toInt32 = 200 := by decide
theorem ks_300 : (Int16.ofInt (300)).toInt32 = 300 := by decide
theorem ks_336 : (Int16.ofInt (336)).toInt32 = 336 := by decide
theorem ks_384 : (Int16.ofInt (384)).toInt32 = 384 := by decide
theorem ks_504 : (Int16.ofInt (504)).toInt32 = 504 := by decide
theorem ks_664 : (Int16.ofInt (664)).toInt32 = 664 := by decide
theorem ks_724 : (Int16.ofInt (724)).toInt32 = 724 := by decide
theorem ks_844 : (Int16.ofInt (844)).toInt32 = 844 := by decide
theorem ks_852 : (Int16.ofInt (852)).toInt32 = 852 := by decide
theorem ks_916 : (Int16.ofInt (916)).toInt32 = 916 := by decide
theorem ks_976 : (Int16.ofInt (976)).toInt32 = 976 := by decide
theorem ks_1000 : (Int16.ofInt (1000)).toInt32 = 1000 := by decide
theorem ks_1001 : (Int16.ofInt (1001)).toInt32 = 1001 := by decide
theorem ks_1002 : (Int16.ofInt (1002)).toInt32 = 1002 := by decide
theorem ks_1016 : (Int16.ofInt (1016)).toInt32 = 1016 := by decide
theorem ks_1032 : (Int16.ofInt (1032)).toInt32 = 1032 := by decide
theorem ks_1056 : (Int16.ofInt (1056)).toInt32 = 1056 := by decide
theorem ks_1116 : (Int16.ofInt (1116)).toInt32 = 1116 := by decide
theorem ks_1176 : (Int16.ofInt (1176)).toInt32 = 1176 := by decide
theorem ks_1177 : (Int16.ofInt (1177)).toInt32 = 1177 := by decide
theorem ks_1178 : (Int16.ofInt (1178)).toInt32 = 1178 := by decide
theorem ks_1179 : (Int16.ofInt (1179)).toInt32 = 1179 := by decide
theorem ks_1180 : (Int16.ofInt (1180)).toInt32 = 1180 := by decide
theorem ks_1181 : (Int16.ofInt (1181)).toInt32 = 1181 := by decide
theorem ks_1182 : (Int16.ofInt (1182)).toInt32 = 1182 := by decide
theorem ks_1183 : (Int16.ofInt (1183)).toInt32 = 1183 := by decide
theorem ks_1184 : (Int16.ofInt (1184)).toInt32 = 1184 := by decide
theorem ks_1185 : (Int16.ofInt (1185)).toInt32 = 1185 := by decide
theorem ks_1186 : (Int16.ofInt (1186)).toInt32 = 1186 := by decide
theorem ks_1187 : (Int16.ofInt (1187)).toInt32 = 1187 := by decide
theorem ks_1188 : (Int16.ofInt (1188)).toInt32 = 1188 := by decide
theorem ks_1189 : (Int16.ofInt (1189)).toInt32 = 1189 := by decide
theorem ks_1190 : (Int16.ofInt (1190)).toInt32 = 1190 := by decide
theorem ks_1191 : (Int16.ofInt (1191)).toInt32 = 1191 := by decide
theorem ks_1192 : (Int16.ofInt (1192)).toInt32 = 1192 := by decide
theorem ks_1193 : (Int16.ofInt (1193)).toInt32 = 1193 := by decide
theorem ks_1194 : (Int16.ofInt (1194)).toInt32 = 1194 := by decide
theorem ks_1200 : (Int16.ofInt (1200)).toInt32 = 1200 := by decide
theorem ks_2400 : (Int16.ofInt (2400)).toInt32 = 2400 := by decide
theorem ks_10000 : (Int16.ofInt (10000)).toInt32 = 10000 := by decide
theorem ks_29791 : (Int16.ofInt (29791)).toInt32 = 29791 := by decide
theorem kl_0 : Int64.ofNat ((0 : Fin 2) : Nat) = 0 := by decide
theorem kl_1 : Int64.ofNat ((1 : Fin 2) : Nat) = 1 := by decide
end
section
/-! ends of calls; switches; the small tests that both sides ask everywhere -/
section BM2
variable {M : am_M} {d : Nat} {Q : am_S} {I : am_I} {L : am_L} {pc : Nat} {l : List (Nat × Value)} {st : List Value}
theorem am_kfi {x : Int32} {I1 : am_I} {L1 : am_L} (k : am_B M d Q I1 L1 pc l (.int x :: st)) : ∀ r I2 L2, am_qf (some (.int x)) I1 L1 r I2 L2 → am_B M d Q I2 L2 pc l (r.toList ++ st) := by
  rintro r I2 L2 ⟨rfl, rfl, rfl⟩; exact k
theorem am_kfl {x : Int64} {I1 : am_I} {L1 : am_L} (k : am_B M d Q I1 L1 pc l (.long x :: st)) : ∀ r I2 L2, am_qf (some (.long x)) I1 L1 r I2 L2 → am_B M d Q I2 L2 pc l (r.toList ++ st) := by
  rintro r I2 L2 ⟨rfl, rfl, rfl⟩; exact k
theorem am_ki {Pp : Int32 → am_I → am_L → Prop} (k : ∀ (v : Int32) I1 L1, Pp v I1 L1 → am_B M d Q I1 L1 pc l (.int v :: st)) : ∀ r I2 L2, am_qi Pp r I2 L2 → am_B M d Q I2 L2 pc l (r.toList ++ st) := by
  rintro r I2 L2 ⟨v, rfl, h⟩; exact k v I2 L2 h
theorem am_kl {Pp : Int64 → am_I → am_L → Prop} (k : ∀ (v : Int64) I1 L1, Pp v I1 L1 → am_B M d Q I1 L1 pc l (.long v :: st)) : ∀ r I2 L2, am_ql Pp r I2 L2 → am_B M d Q I2 L2 pc l (r.toList ++ st) := by
  rintro r I2 L2 ⟨v, rfl, h⟩; exact k v I2 L2 h
theorem am_kv {Pp : am_I → am_L → Prop} (k : ∀ I1 L1, Pp I1 L1 → am_B M d Q I1 L1 pc l st) : ∀ r I2 L2, am_qv Pp r I2 L2 → am_B M d Q I2 L2 pc l (r.toList ++ st) := by
  rintro r I2 L2 ⟨rfl, h⟩; exact k I2 L2 h
theorem am_kr {b : Nat} {Pp : am_I → am_L → Prop} (k : ∀ I1 L1, Pp I1 L1 → am_B M d Q I1 L1 pc l (.ref b :: st)) : ∀ r I2 L2, am_qr b Pp r I2 L2 → am_B M d Q I2 L2 pc l (r.toList ++ st) := by
  rintro r I2 L2 ⟨rfl, h⟩; exact k I2 L2 h
theorem am_qf_i {as : List Value} {x : Int32} {I1 : am_I} {L1 : am_L} (h : am_K M d as I L (am_qf (some (.int x)) I1 L1)) : am_K M d as I L (am_qi fun v I2 L2 => v = x ∧ I2 = I1 ∧ L2 = L1) := h.mono fun r I' L' hq => ⟨x, hq.1, rfl, hq.2⟩
theorem am_qf_l {as : List Value} {x : Int64} {I1 : am_I} {L1 : am_L} (h : am_K M d as I L (am_qf (some (.long x)) I1 L1)) : am_K M d as I L (am_ql fun v I2 L2 => v = x ∧ I2 = I1 ∧ L2 = L1) := h.mono fun r I' L' hq => ⟨x, hq.1, rfl, hq.2⟩
theorem am_qf_v {as : List Value} {I1 : am_I} {L1 : am_L} (h : am_K M d as I L (am_qf none I1 L1)) : am_K M d as I L (am_qv fun I2 L2 => I2 = I1 ∧ L2 = L1) := h.mono fun r I' L' hq => ⟨hq.1, hq.2⟩
theorem am_nart (Pp : Prop) [Decidable Pp] : narrow .boolean (.int (if Pp then (1 : Int32) else 0)) = .int (if Pp then (1 : Int32) else 0) := by
  by_cases h : Pp <;> simp only [h, if_true, if_false] <;> decide
theorem am_ne32 {x k : Int32} (h : ¬ x = k) {z : Int} (hz : k.toInt = z) : ¬ x.toInt = z := fun e => h (Int32.toInt_inj.mp (e.trans hz.symm))
theorem am_ne33 {x k : Int32} (h : ¬ x = k) {z : Int} (hz : k.toInt = z) : z ≠ x.toInt := fun e => h (Int32.toInt_inj.mp (e.symm.trans hz.symm))
theorem am_lkd {ps : List (Int × Int)} {df x : Int} : (∀ q ∈ ps, q.1 ≠ x) → Op.lookupswitch.offset ps df x = df := by
  induction ps with
  | nil => intro _; rfl
  | cons q t ih =>
    obtain ⟨a, o⟩ := q
    intro h
    rw [Op.lookupswitch.offset_cons, if_neg (h (a, o) List.mem_cons_self), ih fun q hq => h q (List.mem_cons_of_mem _ hq)]
theorem am_ldcw {X : am_X} {Q : am_P} {g : am_G} {h : am_H} {index : Nat} {v : Int32} (hw : Cond.constant M.1.cls index v ∈ lw_tbl) (hd : decode M.2.1 pc = .ok (.ldc_w index, 3)) (k : am_OK M X Q g h (pc + 3) l (.int v :: st)) : am_OK M X Q g h pc l st :=
  fun p lc e s m args below meth c D ca ad0 A cx ad H locs ls dy hl => lv_ldcw cx.1.1 cx.1.2.1 cx.1.2.2.2.1 (cx.1.2.2.2.2 _ (am_tbl hw)) hd (k p lc e s m args below meth c D ca ad0 A cx ad H locs ls dy hl)
theorem bm_ldcw {index : Nat} {v : Int32} (hw : Cond.constant M.1.cls index v ∈ lw_tbl) (hd : decode M.2.1 pc = .ok (.ldc_w index, 3)) (k : am_B M d Q I L (pc + 3) l (.int v :: st)) : am_B M d Q I L pc l st := fun al R hs => am_ldcw hw hd (k al R hs)
theorem am_alen {X : am_X} {Q : am_P} {g : am_G} {h : am_H} {a n t0 : Nat} {ty : FieldType} {v : Int32} (hy : am_lay a = .inl (ty, n)) (ha : a ∈ g.1) (ht : ∀ ca : FieldType → ClassId, (am_TY ca)[t0]? = some (ca ty, ty)) (hv : Int32.ofNat n = v) (hd : decode M.2.1 pc = .ok (.arraylength, 1)) (k : am_OK M X Q g h (pc + 1) l (.int v :: st)) : am_OK M X Q g h pc l (.ref a :: st) := by
  intro p lc e s m args below meth c D ca ad0 A cx ad H locs ls dy hl
  obtain ⟨q0, hq, he⟩ := am_wl_at (ca := ca) (ad := ad) (h := h) ha
  rw [am_ce_a hy] at he
  exact va_alen cx.1.1 cx.1.2.1 cx.2.2.2.1 dy.2.2.1 q0 t0 he (ht ca) (by rw [← hv]; cases ty <;> rfl) hd (k p lc e s m args below meth c D ca ad0 A cx ad H locs ls dy hl)
theorem bm_alen {a n : Nat} {ty : FieldType} {v : Int32} (hy : am_lay a = .inl (ty, n)) (ha : ∀ (al : List Nat) (R : am_R), am_st al R → a ∈ al) (ht : ty = .int ∨ ty = .long) (hv : Int32.ofNat n = v) (hd : decode M.2.1 pc = .ok (.arraylength, 1)) (k : am_B M d Q I L (pc + 1) l (.int v :: st)) : am_B M d Q I L pc l (.ref a :: st) := by
  intro al R hs
  rcases ht with rfl | rfl
  · exact am_alen (t0 := 0) hy (ha al R hs) (fun _ => rfl) hv hd (k al R hs)
  · exact am_alen (t0 := 1) hy (ha al R hs) (fun _ => rfl) hv hd (k al R hs)
end BM2
theorem am_qt1 {Pp : Prop} [Decidable Pp] {I : am_I} {L : am_L} (h : Pp) : am_qf (some (.int (if Pp then 1 else 0))) I L (some (.int 1)) I L := ⟨by rw [if_pos h], rfl, rfl⟩
theorem am_qt0 {Pp : Prop} [Decidable Pp] {I : am_I} {L : am_L} (h : ¬ Pp) : am_qf (some (.int (if Pp then 1 else 0))) I L (some (.int 0)) I L := ⟨by rw [if_neg h], rfl, rfl⟩
theorem am_le64 (a b : Int32) : a.toInt64 ≤ b.toInt64 ↔ a ≤ b := by rw [Int64.le_iff_toInt_le, Int32.le_iff_toInt_le, Int32.toInt_toInt64, Int32.toInt_toInt64]
theorem am_lt64 (a b : Int32) : a.toInt64 < b.toInt64 ↔ a < b := by rw [Int64.lt_iff_toInt_lt, Int32.lt_iff_toInt_lt, Int32.toInt_toInt64, Int32.toInt_toInt64]

theorem dc_X12_in : am_dcs cX12_in [(0, .lload_n 0, 1), (1, .lload_n 2, 1), (2, .lcmp, 1), (3, .ifCond .lt 14, 3), (6, .lload_n 0, 1), (7, .lload 4, 2), (9, .lcmp, 1), (10, .ifCond .gt 7, 3), (13, .iconst 1, 1), (14, .goto 4, 3), (17, .iconst 0, 1), (18, .ireturn, 1)] = true := by decide +kernel
def B_X12_in_0 (Q : am_S) (I : am_I) (L : am_L) (a0 : Int64) (a2 : Int64) (a4 : Int64) : Prop := am_B M_X12_in 0 Q I L 0 [(0, .long a0), (2, .long a2), (4, .long a4)] []
theorem s_X12_in_0 {Q : am_S} {I : am_I} {L : am_L} {a0 : Int64} {a2 : Int64} {a4 : Int64} 
    (hv : (a0 < a2 → (Q (some (.int (0 : Int32))) I L)) ∧ (¬ a0 < a2 → ((a4 < a0 → (Q (some (.int (0 : Int32))) I L)) ∧ (¬ a4 < a0 → (Q (some (.int (1 : Int32))) I L))))) : B_X12_in_0 Q I L a0 a2 a4 :=
  bm_lload_n 0 rfl rfl (dg dc_X12_in 0 rfl) <| bm_lload_n 1 rfl rfl (dg dc_X12_in 1 rfl) <| have h1 := hv; bm_lcmp_lt (tgt := 17) (dg dc_X12_in 2 rfl) rfl rfl (dg dc_X12_in 3 rfl) (fun c2 => have h3 := h1.1 c2; bm_iconst ki_0 (dg dc_X12_in 10 rfl) <| bm_iret rfl (by decide) (dg dc_X12_in 11 rfl) h3) (fun c2 => have h4 := h1.2 c2; bm_lload_n 0 rfl rfl (dg dc_X12_in 4 rfl) <| bm_lload 2 rfl (dg dc_X12_in 5 rfl) <| have h5 := h4; bm_lcmp_gt (tgt := 17) (dg dc_X12_in 6 rfl) rfl rfl (dg dc_X12_in 7 rfl) (fun c6 => have h7 := h5.1 c6; bm_iconst ki_0 (dg dc_X12_in 10 rfl) <| bm_iret rfl (by decide) (dg dc_X12_in 11 rfl) h7) (fun c6 => have h8 := h5.2 c6; bm_iconst ki_1 (dg dc_X12_in 8 rfl) <| bm_goto (tgt := 18) rfl (dg dc_X12_in 9 rfl) <| bm_iret rfl (by decide) (dg dc_X12_in 11 rfl) h8))

theorem k_X12_in {v lo hi : Int64} {I : am_I} {L : am_L} : am_K M_X12_in 0 [.long v, .long lo, .long hi] I L (am_qf (some (.int (if lo ≤ v ∧ v ≤ hi then 1 else 0))) I L) := by
  refine bm_intro (by decide +kernel) (by decide) (show B_X12_in_0 _ _ _ _ _ _ from s_X12_in_0 ?_)
  refine ⟨fun h1 => am_qt0 ?_, fun h1 => ⟨fun h2 => am_qt0 ?_, fun h2 => am_qt1 ?_⟩⟩ <;> simp only [Int64.lt_iff_toInt_lt, Int64.le_iff_toInt_le] at * <;> omega
theorem k_in32 {x lo hi : Int32} {lo' hi' : Int64} {I : am_I} {L : am_L} (h1 : lo.toInt64 = lo') (h2 : hi.toInt64 = hi') : am_K M_X12_in 0 [.long x.toInt64, .long lo', .long hi'] I L (am_qf (some (.int (if lo ≤ x ∧ x ≤ hi then 1 else 0))) I L) := by
  subst h1; subst h2
  have h := k_X12_in (v := x.toInt64) (lo := lo.toInt64) (hi := hi.toInt64) (I := I) (L := L)
  simp only [am_le64] at h
  exact h
theorem dc_X12_got : am_dcs cX12_got [(0, .aload_n 0, 1), (1, .getfield 7, 3), (4, .sipush 1176, 3), (7, .iload_n 1, 1), (8, .iadd, 1), (9, .laload, 1), (10, .l2i, 1), (11, .ireturn, 1)] = true := by decide +kernel
def B_X12_got_0 (Q : am_S) (I : am_I) (L : am_L) (a1 : Int32) : Prop := am_B M_X12_got 0 Q I L 0 [(0, .ref 190), (1, .int a1)] []
theorem s_X12_got_0 {Q : am_S} {I : am_I} {L : am_L} {a1 : Int32} 
    (hv : vp_in ((1176 : Int32) + a1) 1200 ∧ (Q (some (.int (Int64.toInt32 (L 191 (((1176 : Int32) + a1).toNatClampNeg))))) I L)) : B_X12_got_0 Q I L a1 :=
  bm_aload_n 0 rfl rfl (dg dc_X12_got 0 rfl) <| bm_getr fl_X12_7 ly_190 (@ba_190) (Or.inl ⟨_, rfl⟩) (@sr_190_0) (dg dc_X12_got 1 rfl) <| bm_sipush ks_1176 (dg dc_X12_got 2 rfl) <| bm_iload_n 1 rfl rfl (dg dc_X12_got 3 rfl) <| bm_iadd (dg dc_X12_got 4 rfl) <| have h1 := hv; bm_lald ly_191 (@ba_191) h1.1 rfl (dg dc_X12_got 5 rfl) <| bm_l2i (dg dc_X12_got 6 rfl) <| bm_iret rfl rfl (dg dc_X12_got 7 rfl) h1.2

theorem k_X12_got {w : Int32} {n : Nat} {I : am_I} {L : am_L} (h1 : (1176 + w).toNatClampNeg = n) (h2 : vp_in (1176 + w) 1200) : am_K M_X12_got 0 [.ref 190, .int w] I L (am_qf (some (.int (Int64.toInt32 (L 191 n)))) I L) := by
  subst h1
  exact bm_intro (by decide +kernel) (by decide) (show B_X12_got_0 _ _ _ _ from s_X12_got_0 ⟨h2, rfl, rfl, rfl⟩)
theorem dc_X12_has : am_dcs cX12_has [(0, .iload_n 2, 1), (1, .i2l, 1), (2, .lconst 0, 1), (3, .aload_n 0, 1), (4, .iload_n 1, 1), (5, .invokevirtual 56, 3), (8, .iconst 1, 1), (9, .isub, 1), (10, .i2l, 1), (11, .invokestatic 60, 3), (14, .ireturn, 1)] = true := by decide +kernel
def B_X12_has_0 (Q : am_S) (I : am_I) (L : am_L) (a1 : Int32) (a2 : Int32) : Prop := am_B M_X12_has 1 Q I L 0 [(0, .ref 190), (1, .int a1), (2, .int a2)] []
theorem s_X12_has_0 {Q : am_S} {I : am_I} {L : am_L} {a1 : Int32} {a2 : Int32} 
    (hv : ∃ P1 : Int32 → am_I → am_L → Prop, am_K M_X12_got 0 [.ref 190, .int a1] I L (am_qi P1) ∧ ∀ (v5 : Int32) I3 L4, P1 v5 I3 L4 → (Q (some (.int (if (0 : Int32) ≤ a2 ∧ a2 ≤ v5 - (1 : Int32) then (1 : Int32) else 0))) I3 L4)) : B_X12_has_0 Q I L a1 a2 :=
  bm_iload_n 2 rfl rfl (dg dc_X12_has 0 rfl) <| bm_i2l (dg dc_X12_has 1 rfl) <| bm_lconst kl_0 (dg dc_X12_has 2 rfl) <| bm_aload_n 0 rfl rfl (dg dc_X12_has 3 rfl) <| bm_iload_n 1 rfl rfl (dg dc_X12_has 4 rfl) <| Exists.elim hv fun P1 h2 => bm_invV (as := [.int a1]) h2.1 cw_X12_got ml_X12_56 ins_X12_got sel_X12_got cls_12 rfl ly_190 (@ba_190) rfl (by decide) (by decide) (dg dc_X12_has 5 rfl) <| am_ki fun v5 I3 L4 h6 => have h7 := h2.2 v5 I3 L4 h6; bm_iconst ki_1 (dg dc_X12_has 6 rfl) <| bm_isub (dg dc_X12_has 7 rfl) <| bm_i2l (dg dc_X12_has 8 rfl) <| bm_invS (as := [.long (Int32.toInt64 a2), .long (0 : Int64), .long (Int32.toInt64 (v5 - (1 : Int32)))]) (k_in32 (x := a2) (lo := (0 : Int32)) (hi := v5 - (1 : Int32)) (by decide) (by rfl)) cw_X12_in ml_X12_60 sta_X12_in rfl (by decide) (by decide) (dg dc_X12_has 9 rfl) <| am_kfi <| bm_iret rfl (am_nart _) (dg dc_X12_has 10 rfl) h7

theorem k_X12_has {w i : Int32} {n : Nat} {I : am_I} {L : am_L} (h1 : (1176 + w).toNatClampNeg = n) (h2 : vp_in (1176 + w) 1200) : am_K M_X12_has 1 [.ref 190, .int w, .int i] I L (am_qf (some (.int (if 0 ≤ i ∧ i ≤ Int64.toInt32 (L 191 n) - 1 then 1 else 0))) I L) :=
  bm_intro (by decide +kernel) (by decide) (show B_X12_has_0 _ _ _ _ _ from s_X12_has_0 ⟨_, am_qf_i (k_X12_got h1 h2), fun v I1 L1 e => by obtain ⟨rfl, rfl, rfl⟩ := e; exact ⟨rfl, rfl, rfl⟩⟩)
theorem dc_X12_isMonth : am_dcs cX12_isMonth [(0, .iload_n 0, 1), (1, .i2l, 1), (2, .lconst 0, 1), (3, .ldc2_w 64, 3), (6, .invokestatic 60, 3), (9, .ireturn, 1)] = true := by decide +kernel
def B_X12_isMonth_0 (Q : am_S) (I : am_I) (L : am_L) (a0 : Int32) : Prop := am_B M_X12_isMonth 1 Q I L 0 [(0, .int a0)] []
theorem s_X12_isMonth_0 {Q : am_S} {I : am_I} {L : am_L} {a0 : Int32} 
    (hv : Q (some (.int (if (0 : Int32) ≤ a0 ∧ a0 ≤ (59 : Int32) then (1 : Int32) else 0))) I L) : B_X12_isMonth_0 Q I L a0 :=
  bm_iload_n 0 rfl rfl (dg dc_X12_isMonth 0 rfl) <| bm_i2l (dg dc_X12_isMonth 1 rfl) <| bm_lconst kl_0 (dg dc_X12_isMonth 2 rfl) <| bm_ldc2 ct_X12_64 (dg dc_X12_isMonth 3 rfl) <| bm_invS (as := [.long (Int32.toInt64 a0), .long (0 : Int64), .long (59 : Int64)]) (k_in32 (x := a0) (lo := (0 : Int32)) (hi := (59 : Int32)) (by decide) (by decide)) cw_X12_in ml_X12_60 sta_X12_in rfl (by decide) (by decide) (dg dc_X12_isMonth 4 rfl) <| am_kfi <| bm_iret rfl (am_nart _) (dg dc_X12_isMonth 5 rfl) hv

theorem k_X12_isMonth {x : Int32} {I : am_I} {L : am_L} : am_K M_X12_isMonth 1 [.int x] I L (am_qf (some (.int (if 0 ≤ x ∧ x ≤ 59 then 1 else 0))) I L) :=
  bm_intro (by decide +kernel) (by decide) (show B_X12_isMonth_0 _ _ _ _ from s_X12_isMonth_0 ⟨rfl, rfl, rfl⟩)
theorem dc_X12_isSum : am_dcs cX12_isSum [(0, .iload_n 0, 1), (1, .i2l, 1), (2, .lconst 1, 1), (3, .ldc2_w 72, 3), (6, .invokestatic 60, 3), (9, .ireturn, 1)] = true := by decide +kernel
def B_X12_isSum_0 (Q : am_S) (I : am_I) (L : am_L) (a0 : Int32) : Prop := am_B M_X12_isSum 1 Q I L 0 [(0, .int a0)] []
theorem s_X12_isSum_0 {Q : am_S} {I : am_I} {L : am_L} {a0 : Int32} 
    (hv : Q (some (.int (if (1 : Int32) ≤ a0 ∧ a0 ≤ (1000000 : Int32) then (1 : Int32) else 0))) I L) : B_X12_isSum_0 Q I L a0 :=
  bm_iload_n 0 rfl rfl (dg dc_X12_isSum 0 rfl) <| bm_i2l (dg dc_X12_isSum 1 rfl) <| bm_lconst kl_1 (dg dc_X12_isSum 2 rfl) <| bm_ldc2 ct_X12_72 (dg dc_X12_isSum 3 rfl) <| bm_invS (as := [.long (Int32.toInt64 a0), .long (1 : Int64), .long (1000000 : Int64)]) (k_in32 (x := a0) (lo := (1 : Int32)) (hi := (1000000 : Int32)) (by decide) (by decide)) cw_X12_in ml_X12_60 sta_X12_in rfl (by decide) (by decide) (dg dc_X12_isSum 4 rfl) <| am_kfi <| bm_iret rfl (am_nart _) (dg dc_X12_isSum 5 rfl) hv

theorem k_X12_isSum {x : Int32} {I : am_I} {L : am_L} : am_K M_X12_isSum 1 [.int x] I L (am_qf (some (.int (if 1 ≤ x ∧ x ≤ 1000000 then 1 else 0))) I L) :=
  bm_intro (by decide +kernel) (by decide) (show B_X12_isSum_0 _ _ _ _ from s_X12_isSum_0 ⟨rfl, rfl, rfl⟩)
theorem dc_X12_isDay : am_dcs cX12_isDay [(0, .iload_n 0, 1), (1, .i2l, 1), (2, .lconst 0, 1), (3, .ldc2_w 109, 3), (6, .invokestatic 60, 3), (9, .ireturn, 1)] = true := by decide +kernel
def B_X12_isDay_0 (Q : am_S) (I : am_I) (L : am_L) (a0 : Int32) : Prop := am_B M_X12_isDay 1 Q I L 0 [(0, .int a0)] []
theorem s_X12_isDay_0 {Q : am_S} {I : am_I} {L : am_L} {a0 : Int32} 
    (hv : Q (some (.int (if (0 : Int32) ≤ a0 ∧ a0 ≤ (29 : Int32) then (1 : Int32) else 0))) I L) : B_X12_isDay_0 Q I L a0 :=
  bm_iload_n 0 rfl rfl (dg dc_X12_isDay 0 rfl) <| bm_i2l (dg dc_X12_isDay 1 rfl) <| bm_lconst kl_0 (dg dc_X12_isDay 2 rfl) <| bm_ldc2 ct_X12_109 (dg dc_X12_isDay 3 rfl) <| bm_invS (as := [.long (Int32.toInt64 a0), .long (0 : Int64), .long (29 : Int64)]) (k_in32 (x := a0) (lo := (0 : Int32)) (hi := (29 : Int32)) (by decide) (by decide)) cw_X12_in ml_X12_60 sta_X12_in rfl (by decide) (by decide) (dg dc_X12_isDay 4 rfl) <| am_kfi <| bm_iret rfl (am_nart _) (dg dc_X12_isDay 5 rfl) hv

theorem k_X12_isDay {x : Int32} {I : am_I} {L : am_L} : am_K M_X12_isDay 1 [.int x] I L (am_qf (some (.int (if 0 ≤ x ∧ x ≤ 29 then 1 else 0))) I L) :=
  bm_intro (by decide +kernel) (by decide) (show B_X12_isDay_0 _ _ _ _ from s_X12_isDay_0 ⟨rfl, rfl, rfl⟩)
theorem dc_X12_isDealt : am_dcs cX12_isDealt [(0, .iload_n 0, 1), (1, .i2l, 1), (2, .lconst 0, 1), (3, .ldc2_w 177, 3), (6, .invokestatic 60, 3), (9, .ireturn, 1)] = true := by decide +kernel
def B_X12_isDealt_0 (Q : am_S) (I : am_I) (L : am_L) (a0 : Int32) : Prop := am_B M_X12_isDealt 1 Q I L 0 [(0, .int a0)] []
theorem s_X12_isDealt_0 {Q : am_S} {I : am_I} {L : am_L} {a0 : Int32} 
    (hv : Q (some (.int (if (0 : Int32) ≤ a0 ∧ a0 ≤ (10000000 : Int32) then (1 : Int32) else 0))) I L) : B_X12_isDealt_0 Q I L a0 :=
  bm_iload_n 0 rfl rfl (dg dc_X12_isDealt 0 rfl) <| bm_i2l (dg dc_X12_isDealt 1 rfl) <| bm_lconst kl_0 (dg dc_X12_isDealt 2 rfl) <| bm_ldc2 ct_X12_177 (dg dc_X12_isDealt 3 rfl) <| bm_invS (as := [.long (Int32.toInt64 a0), .long (0 : Int64), .long (10000000 : Int64)]) (k_in32 (x := a0) (lo := (0 : Int32)) (hi := (10000000 : Int32)) (by decide) (by decide)) cw_X12_in ml_X12_60 sta_X12_in rfl (by decide) (by decide) (dg dc_X12_isDealt 4 rfl) <| am_kfi <| bm_iret rfl (am_nart _) (dg dc_X12_isDealt 5 rfl) hv

theorem k_X12_isDealt {x : Int32} {I : am_I} {L : am_L} : am_K M_X12_isDealt 1 [.int x] I L (am_qf (some (.int (if 0 ≤ x ∧ x ≤ 10000000 then 1 else 0))) I L) :=
  bm_intro (by decide +kernel) (by decide) (show B_X12_isDealt_0 _ _ _ _ from s_X12_isDealt_0 ⟨rfl, rfl, rfl⟩)
theorem dc_X12_isHouse : am_dcs cX12_isHouse [(0, .iload_n 0, 1), (1, .i2l, 1), (2, .lconst 0, 1), (3, .ldc2_w 66, 3), (6, .invokestatic 60, 3), (9, .ireturn, 1)] = true := by decide +kernel
def B_X12_isHouse_0 (Q : am_S) (I : am_I) (L : am_L) (a0 : Int32) : Prop := am_B M_X12_isHouse 1 Q I L 0 [(0, .int a0)] []
theorem s_X12_isHouse_0 {Q : am_S} {I : am_I} {L : am_L} {a0 : Int32} 
    (hv : Q (some (.int (if (0 : Int32) ≤ a0 ∧ a0 ≤ (7 : Int32) then (1 : Int32) else 0))) I L) : B_X12_isHouse_0 Q I L a0 :=
  bm_iload_n 0 rfl rfl (dg dc_X12_isHouse 0 rfl) <| bm_i2l (dg dc_X12_isHouse 1 rfl) <| bm_lconst kl_0 (dg dc_X12_isHouse 2 rfl) <| bm_ldc2 ct_X12_66 (dg dc_X12_isHouse 3 rfl) <| bm_invS (as := [.long (Int32.toInt64 a0), .long (0 : Int64), .long (7 : Int64)]) (k_in32 (x := a0) (lo := (0 : Int32)) (hi := (7 : Int32)) (by decide) (by decide)) cw_X12_in ml_X12_60 sta_X12_in rfl (by decide) (by decide) (dg dc_X12_isHouse 4 rfl) <| am_kfi <| bm_iret rfl (am_nart _) (dg dc_X12_isHouse 5 rfl) hv

theorem k_X12_isHouse {x : Int32} {I : am_I} {L : am_L} : am_K M_X12_isHouse 1 [.int x] I L (am_qf (some (.int (if 0 ≤ x ∧ x ≤ 7 then 1 else 0))) I L) :=
  bm_intro (by decide +kernel) (by decide) (show B_X12_isHouse_0 _ _ _ _ from s_X12_isHouse_0 ⟨rfl, rfl, rfl⟩)
theorem dc_X12_isFallen : am_dcs cX12_isFallen [(0, .aload_n 0, 1), (1, .getfield 7, 3), (4, .sipush 1188, 3), (7, .laload, 1), (8, .ldc2_w 52, 3), (11, .lcmp, 1), (12, .ifCond .eq 7, 3), (15, .iconst 1, 1), (16, .goto 4, 3), (19, .iconst 0, 1), (20, .ireturn, 1)] = true := by decide +kernel
def B_X12_isFallen_0 (Q : am_S) (I : am_I) (L : am_L)  : Prop := am_B M_X12_isFallen 0 Q I L 0 [(0, .ref 190)] []
theorem s_X12_isFallen_0 {Q : am_S} {I : am_I} {L : am_L}  
    (hv : ((L 191 1188) = (-1 : Int64) → (Q (some (.int (0 : Int32))) I L)) ∧ (¬ (L 191 1188) = (-1 : Int64) → (Q (some (.int (1 : Int32))) I L))) : B_X12_isFallen_0 Q I L  :=
  bm_aload_n 0 rfl rfl (dg dc_X12_isFallen 0 rfl) <| bm_getr fl_X12_7 ly_190 (@ba_190) (Or.inl ⟨_, rfl⟩) (@sr_190_0) (dg dc_X12_isFallen 1 rfl) <| bm_sipush ks_1188 (dg dc_X12_isFallen 2 rfl) <| bm_lald (x := L 191 1188) ly_191 (@ba_191) (by decide) rfl (dg dc_X12_isFallen 3 rfl) <| bm_ldc2 ct_X12_52 (dg dc_X12_isFallen 4 rfl) <| have h1 := hv; bm_lcmp_eq (tgt := 19) (dg dc_X12_isFallen 5 rfl) rfl rfl (dg dc_X12_isFallen 6 rfl) (fun c2 => have h3 := h1.1 c2; bm_iconst ki_0 (dg dc_X12_isFallen 9 rfl) <| bm_iret rfl (by decide) (dg dc_X12_isFallen 10 rfl) h3) (fun c2 => have h4 := h1.2 c2; bm_iconst ki_1 (dg dc_X12_isFallen 7 rfl) <| bm_goto (tgt := 20) rfl (dg dc_X12_isFallen 8 rfl) <| bm_iret rfl (by decide) (dg dc_X12_isFallen 10 rfl) h4)

theorem k_X12_isFallen {I : am_I} {L : am_L} : am_K M_X12_isFallen 0 [.ref 190] I L (am_qf (some (.int (if ¬ L 191 1188 = -1 then 1 else 0))) I L) := by
  refine bm_intro (by decide +kernel) (by decide) (show B_X12_isFallen_0 _ _ _ from s_X12_isFallen_0 ?_)
  refine ⟨fun h1 => am_qt0 (fun h => h h1), fun h1 => am_qt1 h1⟩
theorem dc_X12_isSpan : am_dcs cX12_isSpan [(0, .iload_n 0, 1), (1, .i2l, 1), (2, .lconst 0, 1), (3, .ldc2_w 72, 3), (6, .invokestatic 60, 3), (9, .ifCond .eq 20, 3), (12, .iload_n 1, 1), (13, .i2l, 1), (14, .iload_n 0, 1), (15, .i2l, 1), (16, .ldc2_w 72, 3), (19, .invokestatic 60, 3), (22, .ifCond .eq 7, 3), (25, .iconst 1, 1), (26, .goto 4, 3), (29, .iconst 0, 1), (30, .ireturn, 1)] = true := by decide +kernel
def B_X12_isSpan_0 (Q : am_S) (I : am_I) (L : am_L) (a0 : Int32) (a1 : Int32) : Prop := am_B M_X12_isSpan 1 Q I L 0 [(0, .int a0), (1, .int a1)] []
theorem s_X12_isSpan_0 {Q : am_S} {I : am_I} {L : am_L} {a0 : Int32} {a1 : Int32} 
    (hv : (¬ ((0 : Int32) ≤ a0 ∧ a0 ≤ (1000000 : Int32)) → (Q (some (.int (0 : Int32))) I L)) ∧ ((0 : Int32) ≤ a0 ∧ a0 ≤ (1000000 : Int32) → ((¬ (a0 ≤ a1 ∧ a1 ≤ (1000000 : Int32)) → (Q (some (.int (0 : Int32))) I L)) ∧ (a0 ≤ a1 ∧ a1 ≤ (1000000 : Int32) → (Q (some (.int (1 : Int32))) I L))))) : B_X12_isSpan_0 Q I L a0 a1 :=
  bm_iload_n 0 rfl rfl (dg dc_X12_isSpan 0 rfl) <| bm_i2l (dg dc_X12_isSpan 1 rfl) <| bm_lconst kl_0 (dg dc_X12_isSpan 2 rfl) <| bm_ldc2 ct_X12_72 (dg dc_X12_isSpan 3 rfl) <| bm_invS (as := [.long (Int32.toInt64 a0), .long (0 : Int64), .long (1000000 : Int64)]) (k_in32 (x := a0) (lo := (0 : Int32)) (hi := (1000000 : Int32)) (by decide) (by decide)) cw_X12_in ml_X12_60 sta_X12_in rfl (by decide) (by decide) (dg dc_X12_isSpan 4 rfl) <| am_kfi <| have h1 := hv; bm_ift_eq (tgt := 29) rfl (dg dc_X12_isSpan 5 rfl) (fun c2 => have h3 := h1.1 c2; bm_iconst ki_0 (dg dc_X12_isSpan 15 rfl) <| bm_iret rfl (by decide) (dg dc_X12_isSpan 16 rfl) h3) (fun c2 => have h4 := h1.2 c2; bm_iload_n 1 rfl rfl (dg dc_X12_isSpan 6 rfl) <| bm_i2l (dg dc_X12_isSpan 7 rfl) <| bm_iload_n 0 rfl rfl (dg dc_X12_isSpan 8 rfl) <| bm_i2l (dg dc_X12_isSpan 9 rfl) <| bm_ldc2 ct_X12_72 (dg dc_X12_isSpan 10 rfl) <| bm_invS (as := [.long (Int32.toInt64 a1), .long (Int32.toInt64 a0), .long (1000000 : Int64)]) (k_in32 (x := a1) (lo := a0) (hi := (1000000 : Int32)) (by rfl) (by decide)) cw_X12_in ml_X12_60 sta_X12_in rfl (by decide) (by decide) (dg dc_X12_isSpan 11 rfl) <| am_kfi <| have h5 := h4; bm_ift_eq (tgt := 29) rfl (dg dc_X12_isSpan 12 rfl) (fun c6 => have h7 := h5.1 c6; bm_iconst ki_0 (dg dc_X12_isSpan 15 rfl) <| bm_iret rfl (by decide) (dg dc_X12_isSpan 16 rfl) h7) (fun c6 => have h8 := h5.2 c6; bm_iconst ki_1 (dg dc_X12_isSpan 13 rfl) <| bm_goto (tgt := 30) rfl (dg dc_X12_isSpan 14 rfl) <| bm_iret rfl (by decide) (dg dc_X12_isSpan 16 rfl) h8))

theorem k_X12_isSpan {a b : Int32} {I : am_I} {L : am_L} : am_K M_X12_isSpan 1 [.int a, .int b] I L (am_qf (some (.int (if (0 ≤ a ∧ a ≤ 1000000) ∧ a ≤ b ∧ b ≤ 1000000 then 1 else 0))) I L) := by
  refine bm_intro (by decide +kernel) (by decide) (show B_X12_isSpan_0 _ _ _ _ _ from s_X12_isSpan_0 ?_)
  refine ⟨fun h1 => am_qt0 (fun h => h1 h.1), fun h1 => ⟨fun h2 => am_qt0 (fun h => h2 h.2), fun h2 => am_qt1 ⟨h1, h2⟩⟩⟩
theorem dc_X12_isEven : am_dcs cX12_isEven [(0, .iload_n 0, 1), (1, .i2l, 1), (2, .lconst 1, 1), (3, .ldc2_w 123, 3), (6, .invokestatic 60, 3), (9, .ifCond .eq 45, 3), (12, .iload_n 1, 1), (13, .i2l, 1), (14, .lconst 0, 1), (15, .iload_n 0, 1), (16, .i2l, 1), (17, .invokestatic 60, 3), (20, .ifCond .eq 34, 3), (23, .iload_n 3, 1), (24, .i2l, 1), (25, .ldc2_w 125, 3), (28, .ldc2_w 50, 3), (31, .invokestatic 60, 3), (34, .ifCond .eq 20, 3), (37, .iload_n 2, 1), (38, .i2l, 1), (39, .lconst 1, 1), (40, .iload_n 3, 1), (41, .iconst 1, 1), (42, .isub, 1), (43, .i2l, 1), (44, .invokestatic 60, 3), (47, .ifCond .eq 7, 3), (50, .iconst 1, 1), (51, .goto 4, 3), (54, .iconst 0, 1), (55, .ireturn, 1)] = true := by decide +kernel
def B_X12_isEven_0 (Q : am_S) (I : am_I) (L : am_L) (a0 : Int32) (a1 : Int32) (a2 : Int32) (a3 : Int32) : Prop := am_B M_X12_isEven 1 Q I L 0 [(0, .int a0), (1, .int a1), (2, .int a2), (3, .int a3)] []
theorem s_X12_isEven_0 {Q : am_S} {I : am_I} {L : am_L} {a0 : Int32} {a1 : Int32} {a2 : Int32} {a3 : Int32} 
    (hv : (¬ ((1 : Int32) ≤ a0 ∧ a0 ≤ (18 : Int32)) → (Q (some (.int (0 : Int32))) I L)) ∧ ((1 : Int32) ≤ a0 ∧ a0 ≤ (18 : Int32) → ((¬ ((0 : Int32) ≤ a1 ∧ a1 ≤ a0) → (Q (some (.int (0 : Int32))) I L)) ∧ ((0 : Int32) ≤ a1 ∧ a1 ≤ a0 → ((¬ ((2 : Int32) ≤ a3 ∧ a3 ≤ (10 : Int32)) → (Q (some (.int (0 : Int32))) I L)) ∧ ((2 : Int32) ≤ a3 ∧ a3 ≤ (10 : Int32) → ((¬ ((1 : Int32) ≤ a2 ∧ a2 ≤ a3 - (1 : Int32)) → (Q (some (.int (0 : Int32))) I L)) ∧ ((1 : Int32) ≤ a2 ∧ a2 ≤ a3 - (1 : Int32) → (Q (some (.int (1 : Int32))) I L))))))))) : B_X12_isEven_0 Q I L a0 a1 a2 a3 :=
  bm_iload_n 0 rfl rfl (dg dc_X12_isEven 0 rfl) <| bm_i2l (dg dc_X12_isEven 1 rfl) <| bm_lconst kl_1 (dg dc_X12_isEven 2 rfl) <| bm_ldc2 ct_X12_123 (dg dc_X12_isEven 3 rfl) <| bm_invS (as := [.long (Int32.toInt64 a0), .long (1 : Int64), .long (18 : Int64)]) (k_in32 (x := a0) (lo := (1 : Int32)) (hi := (18 : Int32)) (by decide) (by decide)) cw_X12_in ml_X12_60 sta_X12_in rfl (by decide) (by decide) (dg dc_X12_isEven 4 rfl) <| am_kfi <| have h1 := hv; bm_ift_eq (tgt := 54) rfl (dg dc_X12_isEven 5 rfl) (fun c2 => have h3 := h1.1 c2; bm_iconst ki_0 (dg dc_X12_isEven 30 rfl) <| bm_iret rfl (by decide) (dg dc_X12_isEven 31 rfl) h3) (fun c2 => have h4 := h1.2 c2; bm_iload_n 1 rfl rfl (dg dc_X12_isEven 6 rfl) <| bm_i2l (dg dc_X12_isEven 7 rfl) <| bm_lconst kl_0 (dg dc_X12_isEven 8 rfl) <| bm_iload_n 0 rfl rfl (dg dc_X12_isEven 9 rfl) <| bm_i2l (dg dc_X12_isEven 10 rfl) <| bm_invS (as := [.long (Int32.toInt64 a1), .long (0 : Int64), .long (Int32.toInt64 a0)]) (k_in32 (x := a1) (lo := (0 : Int32)) (hi := a0) (by decide) (by rfl)) cw_X12_in ml_X12_60 sta_X12_in rfl (by decide) (by decide) (dg dc_X12_isEven 11 rfl) <| am_kfi <| have h5 := h4; bm_ift_eq (tgt := 54) rfl (dg dc_X12_isEven 12 rfl) (fun c6 => have h7 := h5.1 c6; bm_iconst ki_0 (dg dc_X12_isEven 30 rfl) <| bm_iret rfl (by decide) (dg dc_X12_isEven 31 rfl) h7) (fun c6 => have h8 := h5.2 c6; bm_iload_n 3 rfl rfl (dg dc_X12_isEven 13 rfl) <| bm_i2l (dg dc_X12_isEven 14 rfl) <| bm_ldc2 ct_X12_125 (dg dc_X12_isEven 15 rfl) <| bm_ldc2 ct_X12_50 (dg dc_X12_isEven 16 rfl) <| bm_invS (as := [.long (Int32.toInt64 a3), .long (2 : Int64), .long (10 : Int64)]) (k_in32 (x := a3) (lo := (2 : Int32)) (hi := (10 : Int32)) (by decide) (by decide)) cw_X12_in ml_X12_60 sta_X12_in rfl (by decide) (by decide) (dg dc_X12_isEven 17 rfl) <| am_kfi <| have h9 := h8; bm_ift_eq (tgt := 54) rfl (dg dc_X12_isEven 18 rfl) (fun c10 => have h11 := h9.1 c10; bm_iconst ki_0 (dg dc_X12_isEven 30 rfl) <| bm_iret rfl (by decide) (dg dc_X12_isEven 31 rfl) h11) (fun c10 => have h12 := h9.2 c10; bm_iload_n 2 rfl rfl (dg dc_X12_isEven 19 rfl) <| bm_i2l (dg dc_X12_isEven 20 rfl) <| bm_lconst kl_1 (dg dc_X12_isEven 21 rfl) <| bm_iload_n 3 rfl rfl (dg dc_X12_isEven 22 rfl) <| bm_iconst ki_1 (dg dc_X12_isEven 23 rfl) <| bm_isub (dg dc_X12_isEven 24 rfl) <| bm_i2l (dg dc_X12_isEven 25 rfl) <| bm_invS (as := [.long (Int32.toInt64 a2), .long (1 : Int64), .long (Int32.toInt64 (a3 - (1 : Int32)))]) (k_in32 (x := a2) (lo := (1 : Int32)) (hi := a3 - (1 : Int32)) (by decide) (by rfl)) cw_X12_in ml_X12_60 sta_X12_in rfl (by decide) (by decide) (dg dc_X12_isEven 26 rfl) <| am_kfi <| have h13 := h12; bm_ift_eq (tgt := 54) rfl (dg dc_X12_isEven 27 rfl) (fun c14 => have h15 := h13.1 c14; bm_iconst ki_0 (dg dc_X12_isEven 30 rfl) <| bm_iret rfl (by decide) (dg dc_X12_isEven 31 rfl) h15) (fun c14 => have h16 := h13.2 c14; bm_iconst ki_1 (dg dc_X12_isEven 28 rfl) <| bm_goto (tgt := 55) rfl (dg dc_X12_isEven 29 rfl) <| bm_iret rfl (by decide) (dg dc_X12_isEven 31 rfl) h16))))

theorem k_X12_isEven {n k a b : Int32} {I : am_I} {L : am_L} : am_K M_X12_isEven 1 [.int n, .int k, .int a, .int b] I L (am_qf (some (.int (if (1 ≤ n ∧ n ≤ 18) ∧ (0 ≤ k ∧ k ≤ n) ∧ (2 ≤ b ∧ b ≤ 10) ∧ 1 ≤ a ∧ a ≤ b - 1 then 1 else 0))) I L) := by
  refine bm_intro (by decide +kernel) (by decide) (show B_X12_isEven_0 _ _ _ _ _ _ _ from s_X12_isEven_0 ?_)
  refine ⟨fun h1 => am_qt0 (fun h => h1 h.1), fun h1 => ⟨fun h2 => am_qt0 (fun h => h2 h.2.1), fun h2 => ⟨fun h3 => am_qt0 (fun h => h3 h.2.2.1), fun h3 => ⟨fun h4 => am_qt0 (fun h => h4 h.2.2.2), fun h4 => am_qt1 ⟨h1, h2, h3, h4⟩⟩⟩⟩⟩
theorem dc_X11_within : am_dcs cX11_within [(0, .iload_n 1, 1), (1, .iload_n 0, 1), (2, .if_icmp .gt 12, 3), (5, .iload_n 0, 1), (6, .iload_n 2, 1), (7, .if_icmp .gt 7, 3), (10, .iconst 1, 1), (11, .goto 4, 3), (14, .iconst 0, 1), (15, .ireturn, 1)] = true := by decide +kernel
def B_X11_within_0 (Q : am_S) (I : am_I) (L : am_L) (a0 : Int32) (a1 : Int32) (a2 : Int32) : Prop := am_B M_X11_within 0 Q I L 0 [(0, .int a0), (1, .int a1), (2, .int a2)] []
theorem s_X11_within_0 {Q : am_S} {I : am_I} {L : am_L} {a0 : Int32} {a1 : Int32} {a2 : Int32} 
    (hv : (a0 < a1 → (Q (some (.int (0 : Int32))) I L)) ∧ (¬ a0 < a1 → ((a2 < a0 → (Q (some (.int (0 : Int32))) I L)) ∧ (¬ a2 < a0 → (Q (some (.int (1 : Int32))) I L))))) : B_X11_within_0 Q I L a0 a1 a2 :=
  bm_iload_n 1 rfl rfl (dg dc_X11_within 0 rfl) <| bm_iload_n 0 rfl rfl (dg dc_X11_within 1 rfl) <| have h1 := hv; bm_icmp_gt (tgt := 14) rfl (dg dc_X11_within 2 rfl) (fun c2 => have h3 := h1.1 c2; bm_iconst ki_0 (dg dc_X11_within 8 rfl) <| bm_iret rfl (by decide) (dg dc_X11_within 9 rfl) h3) (fun c2 => have h4 := h1.2 c2; bm_iload_n 0 rfl rfl (dg dc_X11_within 3 rfl) <| bm_iload_n 2 rfl rfl (dg dc_X11_within 4 rfl) <| have h5 := h4; bm_icmp_gt (tgt := 14) rfl (dg dc_X11_within 5 rfl) (fun c6 => have h7 := h5.1 c6; bm_iconst ki_0 (dg dc_X11_within 8 rfl) <| bm_iret rfl (by decide) (dg dc_X11_within 9 rfl) h7) (fun c6 => have h8 := h5.2 c6; bm_iconst ki_1 (dg dc_X11_within 6 rfl) <| bm_goto (tgt := 15) rfl (dg dc_X11_within 7 rfl) <| bm_iret rfl (by decide) (dg dc_X11_within 9 rfl) h8))

theorem k_X11_within {v lo hi : Int32} {I : am_I} {L : am_L} : am_K M_X11_within 0 [.int v, .int lo, .int hi] I L (am_qf (some (.int (if lo ≤ v ∧ v ≤ hi then 1 else 0))) I L) := by
  refine bm_intro (by decide +kernel) (by decide) (show B_X11_within_0 _ _ _ _ _ _ from s_X11_within_0 ?_)
  refine ⟨fun h1 => am_qt0 ?_, fun h1 => ⟨fun h2 => am_qt0 ?_, fun h2 => am_qt1 ?_⟩⟩ <;> simp only [Int32.lt_iff_toInt_lt, Int32.le_iff_toInt_le] at * <;> omega
theorem dc_X11_isSpan : am_dcs cX11_isSpan [(0, .iload_n 0, 1), (1, .iconst 0, 1), (2, .ldc 94, 2), (4, .invokestatic 66, 3), (7, .ifCond .eq 17, 3), (10, .iload_n 1, 1), (11, .iload_n 0, 1), (12, .ldc 94, 2), (14, .invokestatic 66, 3), (17, .ifCond .eq 7, 3), (20, .iconst 1, 1), (21, .goto 4, 3), (24, .iconst 0, 1), (25, .ireturn, 1)] = true := by decide +kernel
def B_X11_isSpan_0 (Q : am_S) (I : am_I) (L : am_L) (a0 : Int32) (a1 : Int32) : Prop := am_B M_X11_isSpan 1 Q I L 0 [(0, .int a0), (1, .int a1)] []
theorem s_X11_isSpan_0 {Q : am_S} {I : am_I} {L : am_L} {a0 : Int32} {a1 : Int32} 
    (hv : (¬ ((0 : Int32) ≤ a0 ∧ a0 ≤ (1000000 : Int32)) → (Q (some (.int (0 : Int32))) I L)) ∧ ((0 : Int32) ≤ a0 ∧ a0 ≤ (1000000 : Int32) → ((¬ (a0 ≤ a1 ∧ a1 ≤ (1000000 : Int32)) → (Q (some (.int (0 : Int32))) I L)) ∧ (a0 ≤ a1 ∧ a1 ≤ (1000000 : Int32) → (Q (some (.int (1 : Int32))) I L))))) : B_X11_isSpan_0 Q I L a0 a1 :=
  bm_iload_n 0 rfl rfl (dg dc_X11_isSpan 0 rfl) <| bm_iconst ki_0 (dg dc_X11_isSpan 1 rfl) <| bm_ldc ct_X11_94 (dg dc_X11_isSpan 2 rfl) <| bm_invS (as := [.int a0, .int (0 : Int32), .int (1000000 : Int32)]) k_X11_within cw_X11_within ml_X11_66 sta_X11_within rfl (by decide) (by decide) (dg dc_X11_isSpan 3 rfl) <| am_kfi <| have h1 := hv; bm_ift_eq (tgt := 24) rfl (dg dc_X11_isSpan 4 rfl) (fun c2 => have h3 := h1.1 c2; bm_iconst ki_0 (dg dc_X11_isSpan 12 rfl) <| bm_iret rfl (by decide) (dg dc_X11_isSpan 13 rfl) h3) (fun c2 => have h4 := h1.2 c2; bm_iload_n 1 rfl rfl (dg dc_X11_isSpan 5 rfl) <| bm_iload_n 0 rfl rfl (dg dc_X11_isSpan 6 rfl) <| bm_ldc ct_X11_94 (dg dc_X11_isSpan 7 rfl) <| bm_invS (as := [.int a1, .int a0, .int (1000000 : Int32)]) k_X11_within cw_X11_within ml_X11_66 sta_X11_within rfl (by decide) (by decide) (dg dc_X11_isSpan 8 rfl) <| am_kfi <| have h5 := h4; bm_ift_eq (tgt := 24) rfl (dg dc_X11_isSpan 9 rfl) (fun c6 => have h7 := h5.1 c6; bm_iconst ki_0 (dg dc_X11_isSpan 12 rfl) <| bm_iret rfl (by decide) (dg dc_X11_isSpan 13 rfl) h7) (fun c6 => have h8 := h5.2 c6; bm_iconst ki_1 (dg dc_X11_isSpan 10 rfl) <| bm_goto (tgt := 25) rfl (dg dc_X11_isSpan 11 rfl) <| bm_iret rfl (by decide) (dg dc_X11_isSpan 13 rfl) h8))

theorem k_X11_isSpan {a b : Int32} {I : am_I} {L : am_L} : am_K M_X11_isSpan 1 [.int a, .int b] I L (am_qf (some (.int (if (0 ≤ a ∧ a ≤ 1000000) ∧ a ≤ b ∧ b ≤ 1000000 then 1 else 0))) I L) := by
  refine bm_intro (by decide +kernel) (by decide) (show B_X11_isSpan_0 _ _ _ _ _ from s_X11_isSpan_0 ?_)
  refine ⟨fun h1 => am_qt0 (fun h => h1 h.1), fun h1 => ⟨fun h2 => am_qt0 (fun h => h2 h.2), fun h2 => am_qt1 ⟨h1, h2⟩⟩⟩
theorem dc_X11_isEven : am_dcs cX11_isEven [(0, .iload_n 0, 1), (1, .iconst 1, 1), (2, .bipush 18, 2), (4, .invokestatic 66, 3), (7, .ifCond .eq 37, 3), (10, .iload_n 1, 1), (11, .iconst 0, 1), (12, .iload_n 0, 1), (13, .invokestatic 66, 3), (16, .ifCond .eq 28, 3), (19, .iload_n 3, 1), (20, .iconst 2, 1), (21, .bipush 10, 2), (23, .invokestatic 66, 3), (26, .ifCond .eq 18, 3), (29, .iload_n 2, 1), (30, .iconst 1, 1), (31, .iload_n 3, 1), (32, .iconst 1, 1), (33, .isub, 1), (34, .invokestatic 66, 3), (37, .ifCond .eq 7, 3), (40, .iconst 1, 1), (41, .goto 4, 3), (44, .iconst 0, 1), (45, .ireturn, 1)] = true := by decide +kernel
def B_X11_isEven_0 (Q : am_S) (I : am_I) (L : am_L) (a0 : Int32) (a1 : Int32) (a2 : Int32) (a3 : Int32) : Prop := am_B M_X11_isEven 1 Q I L 0 [(0, .int a0), (1, .int a1), (2, .int a2), (3, .int a3)] []
theorem s_X11_isEven_0 {Q : am_S} {I : am_I} {L : am_L} {a0 : Int32} {a1 : Int32} {a2 : Int32} {a3 : Int32} 
    (hv : (¬ ((1 : Int32) ≤ a0 ∧ a0 ≤ (18 : Int32)) → (Q (some (.int (0 : Int32))) I L)) ∧ ((1 : Int32) ≤ a0 ∧ a0 ≤ (18 : Int32) → ((¬ ((0 : Int32) ≤ a1 ∧ a1 ≤ a0) → (Q (some (.int (0 : Int32))) I L)) ∧ ((0 : Int32) ≤ a1 ∧ a1 ≤ a0 → ((¬ ((2 : Int32) ≤ a3 ∧ a3 ≤ (10 : Int32)) → (Q (some (.int (0 : Int32))) I L)) ∧ ((2 : Int32) ≤ a3 ∧ a3 ≤ (10 : Int32) → ((¬ ((1 : Int32) ≤ a2 ∧ a2 ≤ a3 - (1 : Int32)) → (Q (some (.int (0 : Int32))) I L)) ∧ ((1 : Int32) ≤ a2 ∧ a2 ≤ a3 - (1 : Int32) → (Q (some (.int (1 : Int32))) I L))))))))) : B_X11_isEven_0 Q I L a0 a1 a2 a3 :=
  bm_iload_n 0 rfl rfl (dg dc_X11_isEven 0 rfl) <| bm_iconst ki_1 (dg dc_X11_isEven 1 rfl) <| bm_bipush kb_18 (dg dc_X11_isEven 2 rfl) <| bm_invS (as := [.int a0, .int (1 : Int32), .int (18 : Int32)]) k_X11_within cw_X11_within ml_X11_66 sta_X11_within rfl (by decide) (by decide) (dg dc_X11_isEven 3 rfl) <| am_kfi <| have h1 := hv; bm_ift_eq (tgt := 44) rfl (dg dc_X11_isEven 4 rfl) (fun c2 => have h3 := h1.1 c2; bm_iconst ki_0 (dg dc_X11_isEven 24 rfl) <| bm_iret rfl (by decide) (dg dc_X11_isEven 25 rfl) h3) (fun c2 => have h4 := h1.2 c2; bm_iload_n 1 rfl rfl (dg dc_X11_isEven 5 rfl) <| bm_iconst ki_0 (dg dc_X11_isEven 6 rfl) <| bm_iload_n 0 rfl rfl (dg dc_X11_isEven 7 rfl) <| bm_invS (as := [.int a1, .int (0 : Int32), .int a0]) k_X11_within cw_X11_within ml_X11_66 sta_X11_within rfl (by decide) (by decide) (dg dc_X11_isEven 8 rfl) <| am_kfi <| have h5 := h4; bm_ift_eq (tgt := 44) rfl (dg dc_X11_isEven 9 rfl) (fun c6 => have h7 := h5.1 c6; bm_iconst ki_0 (dg dc_X11_isEven 24 rfl) <| bm_iret rfl (by decide) (dg dc_X11_isEven 25 rfl) h7) (fun c6 => have h8 := h5.2 c6; bm_iload_n 3 rfl rfl (dg dc_X11_isEven 10 rfl) <| bm_iconst ki_2 (dg dc_X11_isEven 11 rfl) <| bm_bipush kb_10 (dg dc_X11_isEven 12 rfl) <| bm_invS (as := [.int a3, .int (2 : Int32), .int (10 : Int32)]) k_X11_within cw_X11_within ml_X11_66 sta_X11_within rfl (by decide) (by decide) (dg dc_X11_isEven 13 rfl) <| am_kfi <| have h9 := h8; bm_ift_eq (tgt := 44) rfl (dg dc_X11_isEven 14 rfl) (fun c10 => have h11 := h9.1 c10; bm_iconst ki_0 (dg dc_X11_isEven 24 rfl) <| bm_iret rfl (by decide) (dg dc_X11_isEven 25 rfl) h11) (fun c10 => have h12 := h9.2 c10; bm_iload_n 2 rfl rfl (dg dc_X11_isEven 15 rfl) <| bm_iconst ki_1 (dg dc_X11_isEven 16 rfl) <| bm_iload_n 3 rfl rfl (dg dc_X11_isEven 17 rfl) <| bm_iconst ki_1 (dg dc_X11_isEven 18 rfl) <| bm_isub (dg dc_X11_isEven 19 rfl) <| bm_invS (as := [.int a2, .int (1 : Int32), .int (a3 - (1 : Int32))]) k_X11_within cw_X11_within ml_X11_66 sta_X11_within rfl (by decide) (by decide) (dg dc_X11_isEven 20 rfl) <| am_kfi <| have h13 := h12; bm_ift_eq (tgt := 44) rfl (dg dc_X11_isEven 21 rfl) (fun c14 => have h15 := h13.1 c14; bm_iconst ki_0 (dg dc_X11_isEven 24 rfl) <| bm_iret rfl (by decide) (dg dc_X11_isEven 25 rfl) h15) (fun c14 => have h16 := h13.2 c14; bm_iconst ki_1 (dg dc_X11_isEven 22 rfl) <| bm_goto (tgt := 45) rfl (dg dc_X11_isEven 23 rfl) <| bm_iret rfl (by decide) (dg dc_X11_isEven 25 rfl) h16))))

theorem k_X11_isEven {n k a b : Int32} {I : am_I} {L : am_L} : am_K M_X11_isEven 1 [.int n, .int k, .int a, .int b] I L (am_qf (some (.int (if (1 ≤ n ∧ n ≤ 18) ∧ (0 ≤ k ∧ k ≤ n) ∧ (2 ≤ b ∧ b ≤ 10) ∧ 1 ≤ a ∧ a ≤ b - 1 then 1 else 0))) I L) := by
  refine bm_intro (by decide +kernel) (by decide) (show B_X11_isEven_0 _ _ _ _ _ _ _ from s_X11_isEven_0 ?_)
  refine ⟨fun h1 => am_qt0 (fun h => h1 h.1), fun h1 => ⟨fun h2 => am_qt0 (fun h => h2 h.2.1), fun h2 => ⟨fun h3 => am_qt0 (fun h => h3 h.2.2.1), fun h3 => ⟨fun h4 => am_qt0 (fun h => h4 h.2.2.2), fun h4 => am_qt1 ⟨h1, h2, h3, h4⟩⟩⟩⟩⟩
theorem dc_X11_cut : am_dcs cX11_cut [(0, .lload_n 2, 1), (1, .lconst 0, 1), (2, .lcmp, 1), (3, .ifCond .ne 7, 3), (6, .lconst 0, 1), (7, .goto 6, 3), (10, .lload_n 0, 1), (11, .lload_n 2, 1), (12, .ldiv, 1), (13, .lreturn, 1)] = true := by decide +kernel
def B_X11_cut_0 (Q : am_S) (I : am_I) (L : am_L) (a0 : Int64) (a2 : Int64) : Prop := am_B M_X11_cut 0 Q I L 0 [(0, .long a0), (2, .long a2)] []
theorem s_X11_cut_0 {Q : am_S} {I : am_I} {L : am_L} {a0 : Int64} {a2 : Int64} 
    (hv : (¬ a2 = (0 : Int64) → (¬ a2 = 0 ∧ (Q (some (.long (a0 / a2))) I L))) ∧ (a2 = (0 : Int64) → (Q (some (.long (0 : Int64))) I L))) : B_X11_cut_0 Q I L a0 a2 :=
  bm_lload_n 1 rfl rfl (dg dc_X11_cut 0 rfl) <| bm_lconst kl_0 (dg dc_X11_cut 1 rfl) <| have h1 := hv; bm_lcmp_ne (tgt := 10) (dg dc_X11_cut 2 rfl) rfl rfl (dg dc_X11_cut 3 rfl) (fun c2 => have h3 := h1.1 c2; bm_lload_n 0 rfl rfl (dg dc_X11_cut 6 rfl) <| bm_lload_n 1 rfl rfl (dg dc_X11_cut 7 rfl) <| have h5 := h3; bm_ldiv h5.1 (dg dc_X11_cut 8 rfl) <| bm_lret rfl (dg dc_X11_cut 9 rfl) h5.2) (fun c2 => have h4 := h1.2 c2; bm_lconst kl_0 (dg dc_X11_cut 4 rfl) <| bm_goto (tgt := 13) rfl (dg dc_X11_cut 5 rfl) <| bm_lret rfl (dg dc_X11_cut 9 rfl) h4)

theorem k_X11_cut {a b : Int64} {I : am_I} {L : am_L} : am_K M_X11_cut 0 [.long a, .long b] I L (am_qf (some (.long (if b = 0 then 0 else a / b))) I L) := by
  refine bm_intro (by decide +kernel) (by decide) (show B_X11_cut_0 _ _ _ _ _ from s_X11_cut_0 ?_)
  refine ⟨fun h1 => ⟨h1, ?_⟩, fun h1 => ?_⟩
  · rw [if_neg h1]; exact ⟨rfl, rfl, rfl⟩
  · rw [if_pos h1]; exact ⟨rfl, rfl, rfl⟩
theorem dc_X4_has : am_dcs cX4_has [(0, .iload_n 1, 1), (1, .iconst 0, 1), (2, .aload_n 0, 1), (3, .getfield 56, 3), (6, .iconst 1, 1), (7, .isub, 1), (8, .invokestatic 59, 3), (11, .ireturn, 1)] = true := by decide +kernel
def B_X4_has_0 (Q : am_S) (I : am_I) (L : am_L) (a1 : Int32) : Prop := am_B M_X4_has 1 Q I L 0 [(0, .ref 11), (1, .int a1)] []
theorem s_X4_has_0 {Q : am_S} {I : am_I} {L : am_L} {a1 : Int32} 
    (hv : Q (some (.int (if (0 : Int32) ≤ a1 ∧ a1 ≤ (I 11 3) - (1 : Int32) then (1 : Int32) else 0))) I L) : B_X4_has_0 Q I L a1 :=
  bm_iload_n 1 rfl rfl (dg dc_X4_has 0 rfl) <| bm_iconst ki_0 (dg dc_X4_has 1 rfl) <| bm_aload_n 0 rfl rfl (dg dc_X4_has 2 rfl) <| bm_geti fl_X4_56 ly_11 (@ba_11) (Or.inl rfl) rfl (dg dc_X4_has 3 rfl) <| bm_iconst ki_1 (dg dc_X4_has 4 rfl) <| bm_isub (dg dc_X4_has 5 rfl) <| bm_invSN (as := [.int a1, .int (0 : Int32), .int ((I 11 3) - (1 : Int32))]) k_X11_within cw_X11_within nl_X4_59 sta_X11_within rfl (by decide) (by decide) (dg dc_X4_has 6 rfl) <| am_kfi <| bm_iret rfl (am_nart _) (dg dc_X4_has 7 rfl) hv

theorem k_X4_has {p : Int32} {I : am_I} {L : am_L} : am_K M_X4_has 1 [.ref 11, .int p] I L (am_qf (some (.int (if 0 ≤ p ∧ p ≤ I 11 3 - 1 then 1 else 0))) I L) :=
  bm_intro (by decide +kernel) (by decide) (show B_X4_has_0 _ _ _ _ from s_X4_has_0 ⟨rfl, rfl, rfl⟩)
theorem dc_X7_isDigit : am_dcs cX7_isDigit [(0, .bipush 48, 2), (2, .iload_n 0, 1), (3, .if_icmp .gt 13, 3), (6, .iload_n 0, 1), (7, .bipush 57, 2), (9, .if_icmp .gt 7, 3), (12, .iconst 1, 1), (13, .goto 4, 3), (16, .iconst 0, 1), (17, .ireturn, 1)] = true := by decide +kernel
def B_X7_isDigit_0 (Q : am_S) (I : am_I) (L : am_L) (a0 : Int32) : Prop := am_B M_X7_isDigit 0 Q I L 0 [(0, .int a0)] []
theorem s_X7_isDigit_0 {Q : am_S} {I : am_I} {L : am_L} {a0 : Int32} 
    (hv : (a0 < (48 : Int32) → (Q (some (.int (0 : Int32))) I L)) ∧ (¬ a0 < (48 : Int32) → (((57 : Int32) < a0 → (Q (some (.int (0 : Int32))) I L)) ∧ (¬ (57 : Int32) < a0 → (Q (some (.int (1 : Int32))) I L))))) : B_X7_isDigit_0 Q I L a0 :=
  bm_bipush kb_48 (dg dc_X7_isDigit 0 rfl) <| bm_iload_n 0 rfl rfl (dg dc_X7_isDigit 1 rfl) <| have h1 := hv; bm_icmp_gt (tgt := 16) rfl (dg dc_X7_isDigit 2 rfl) (fun c2 => have h3 := h1.1 c2; bm_iconst ki_0 (dg dc_X7_isDigit 8 rfl) <| bm_iret rfl (by decide) (dg dc_X7_isDigit 9 rfl) h3) (fun c2 => have h4 := h1.2 c2; bm_iload_n 0 rfl rfl (dg dc_X7_isDigit 3 rfl) <| bm_bipush kb_57 (dg dc_X7_isDigit 4 rfl) <| have h5 := h4; bm_icmp_gt (tgt := 16) rfl (dg dc_X7_isDigit 5 rfl) (fun c6 => have h7 := h5.1 c6; bm_iconst ki_0 (dg dc_X7_isDigit 8 rfl) <| bm_iret rfl (by decide) (dg dc_X7_isDigit 9 rfl) h7) (fun c6 => have h8 := h5.2 c6; bm_iconst ki_1 (dg dc_X7_isDigit 6 rfl) <| bm_goto (tgt := 17) rfl (dg dc_X7_isDigit 7 rfl) <| bm_iret rfl (by decide) (dg dc_X7_isDigit 9 rfl) h8))

theorem k_X7_isDigit {c : Int32} {I : am_I} {L : am_L} : am_K M_X7_isDigit 0 [.int c] I L (am_qf (some (.int (if 48 ≤ c ∧ c ≤ 57 then 1 else 0))) I L) := by
  refine bm_intro (by decide +kernel) (by decide) (show B_X7_isDigit_0 _ _ _ _ from s_X7_isDigit_0 ?_)
  refine ⟨fun h1 => am_qt0 ?_, fun h1 => ⟨fun h2 => am_qt0 ?_, fun h2 => am_qt1 ?_⟩⟩ <;> simp only [Int32.lt_iff_toInt_lt, Int32.le_iff_toInt_le] at * <;> omega
theorem dc_X7_truth : am_dcs cX7_truth [(0, .iload_n 0, 1), (1, .ifCond .eq 7, 3), (4, .lconst 1, 1), (5, .goto 4, 3), (8, .lconst 0, 1), (9, .lreturn, 1)] = true := by decide +kernel
def B_X7_truth_0 (Q : am_S) (I : am_I) (L : am_L) (a0 : Int32) : Prop := am_B M_X7_truth 0 Q I L 0 [(0, .int a0)] []
theorem s_X7_truth_0 {Q : am_S} {I : am_I} {L : am_L} {a0 : Int32} 
    (hv : (a0 = 0 → (Q (some (.long (0 : Int64))) I L)) ∧ (¬ a0 = 0 → (Q (some (.long (1 : Int64))) I L))) : B_X7_truth_0 Q I L a0 :=
  bm_iload_n 0 rfl rfl (dg dc_X7_truth 0 rfl) <| have h1 := hv; bm_if_eq (tgt := 8) rfl (dg dc_X7_truth 1 rfl) (fun c2 => have h3 := h1.1 c2; bm_lconst kl_0 (dg dc_X7_truth 4 rfl) <| bm_lret rfl (dg dc_X7_truth 5 rfl) h3) (fun c2 => have h4 := h1.2 c2; bm_lconst kl_1 (dg dc_X7_truth 2 rfl) <| bm_goto (tgt := 9) rfl (dg dc_X7_truth 3 rfl) <| bm_lret rfl (dg dc_X7_truth 5 rfl) h4)

theorem k_X7_truth {Pp : Prop} {dp : Decidable Pp} {I : am_I} {L : am_L} : am_K M_X7_truth 0 [.int (@ite _ Pp dp 1 0)] I L (am_qf (some (.long (if Pp then 1 else 0))) I L) := by
  refine bm_intro (by decide +kernel) (by decide) (show B_X7_truth_0 _ _ _ _ from s_X7_truth_0 ?_)
  rw [am_tr]
  refine ⟨fun h1 => ?_, fun h1 => ?_⟩
  · rw [if_neg h1]; exact ⟨rfl, rfl, rfl⟩
  · rw [if_pos (Classical.not_not.mp h1)]; exact ⟨rfl, rfl, rfl⟩
end
