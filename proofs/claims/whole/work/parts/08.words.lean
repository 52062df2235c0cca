theorem tb_in {w : Cond} (h : w ∈ tables_1) : w ∈ lw_tbl := List.mem_append_right _ h
theorem tb_1 {w : Cond} {i : Nat} (h : tables_1_1[i]? = some w) : w ∈ lw_tbl := tb_in (show w ∈ tables_1_1 ++ (tables_1_2 ++ (tables_1_3 ++ (tables_1_4 ++ (tables_1_5 ++ (tables_1_6 ++ tables_1_7))))) from List.mem_append_left _ (List.mem_of_getElem? h))
theorem tb_2 {w : Cond} {i : Nat} (h : tables_1_2[i]? = some w) : w ∈ lw_tbl := tb_in (show w ∈ tables_1_1 ++ (tables_1_2 ++ (tables_1_3 ++ (tables_1_4 ++ (tables_1_5 ++ (tables_1_6 ++ tables_1_7))))) from List.mem_append_right _ (List.mem_append_left _ (List.mem_of_getElem? h)))
theorem tb_3 {w : Cond} {i : Nat} (h : tables_1_3[i]? = some w) : w ∈ lw_tbl := tb_in (show w ∈ tables_1_1 ++ (tables_1_2 ++ (tables_1_3 ++ (tables_1_4 ++ (tables_1_5 ++ (tables_1_6 ++ tables_1_7))))) from List.mem_append_right _ (List.mem_append_right _ (List.mem_append_left _ (List.mem_of_getElem? h))))
theorem tb_4 {w : Cond} {i : Nat} (h : tables_1_4[i]? = some w) : w ∈ lw_tbl := tb_in (show w ∈ tables_1_1 ++ (tables_1_2 ++ (tables_1_3 ++ (tables_1_4 ++ (tables_1_5 ++ (tables_1_6 ++ tables_1_7))))) from List.mem_append_right _ (List.mem_append_right _ (List.mem_append_right _ (List.mem_append_left _ (List.mem_of_getElem? h)))))
theorem tb_5 {w : Cond} {i : Nat} (h : tables_1_5[i]? = some w) : w ∈ lw_tbl := tb_in (show w ∈ tables_1_1 ++ (tables_1_2 ++ (tables_1_3 ++ (tables_1_4 ++ (tables_1_5 ++ (tables_1_6 ++ tables_1_7))))) from List.mem_append_right _ (List.mem_append_right _ (List.mem_append_right _ (List.mem_append_right _ (List.mem_append_left _ (List.mem_of_getElem? h))))))
theorem tb_6 {w : Cond} {i : Nat} (h : tables_1_6[i]? = some w) : w ∈ lw_tbl := tb_in (show w ∈ tables_1_1 ++ (tables_1_2 ++ (tables_1_3 ++ (tables_1_4 ++ (tables_1_5 ++ (tables_1_6 ++ tables_1_7))))) from List.mem_append_right _ (List.mem_append_right _ (List.mem_append_right _ (List.mem_append_right _ (List.mem_append_right _ (List.mem_append_left _ (List.mem_of_getElem? h)))))))
theorem tb_7 {w : Cond} {i : Nat} (h : tables_1_7[i]? = some w) : w ∈ lw_tbl := tb_in (show w ∈ tables_1_1 ++ (tables_1_2 ++ (tables_1_3 ++ (tables_1_4 ++ (tables_1_5 ++ (tables_1_6 ++ tables_1_7))))) from List.mem_append_right _ (List.mem_append_right _ (List.mem_append_right _ (List.mem_append_right _ (List.mem_append_right _ (List.mem_append_right _ (List.mem_of_getElem? h)))))))
theorem tb_0 {y : MethodName} {n i : Nat} (h : lw_privs[i]? = some (y, n)) : Cond.selects y.cls y y ∈ lw_tbl := List.mem_append_left _ (List.mem_map.mpr ⟨(y, n), List.mem_of_getElem? h, rfl⟩)
def RJ6 : String := "java/lang/Integer"
def RJ7 : String := "java/util/Arrays"
abbrev cX0_init : ByteArray := prog_2_method_1_code
def yX0_init : MethodName := ⟨RX0, "<init>", "()V"⟩
abbrev M_X0_init : am_M := (yX0_init, cX0_init, 1, none)
theorem cw_X0_init : am_cwd M_X0_init 0 := ⟨(tb_1 (i := 192) (by decide +kernel)), (tb_1 (i := 5) (by decide +kernel)), by decide +kernel, by decide⟩
theorem ins_X0_init : Cond.instanceMethod yX0_init ∈ lw_tbl := (tb_1 (i := 191) (by decide +kernel))
abbrev cX0_countOf : ByteArray := prog_2_method_2_code
def yX0_countOf : MethodName := ⟨RX0, "countOf", "(LSteadyFund$Ledger;II)J"⟩
abbrev M_X0_countOf : am_M := (yX0_countOf, cX0_countOf, 4, (some .long))
theorem cw_X0_countOf : am_cwd M_X0_countOf 3 := ⟨(tb_3 (i := 152) (by decide +kernel)), (tb_1 (i := 5) (by decide +kernel)), by decide +kernel, by decide⟩
theorem ins_X0_countOf : Cond.instanceMethod yX0_countOf ∈ lw_tbl := (tb_3 (i := 150) (by decide +kernel))
theorem sel_X0_countOf : Cond.selects yX0_countOf.cls yX0_countOf yX0_countOf ∈ lw_tbl := (tb_3 (i := 151) (by decide +kernel))
abbrev cX0_indexedOf : ByteArray := prog_2_method_3_code
def yX0_indexedOf : MethodName := ⟨RX0, "indexedOf", "(LSteadyFund$Ledger;I)J"⟩
abbrev M_X0_indexedOf : am_M := (yX0_indexedOf, cX0_indexedOf, 6, (some .long))
theorem cw_X0_indexedOf : am_cwd M_X0_indexedOf 2 := ⟨(tb_3 (i := 163) (by decide +kernel)), (tb_1 (i := 5) (by decide +kernel)), by decide +kernel, by decide⟩
theorem ins_X0_indexedOf : Cond.instanceMethod yX0_indexedOf ∈ lw_tbl := (tb_3 (i := 162) (by decide +kernel))
theorem sel_X0_indexedOf : Cond.selects yX0_indexedOf.cls yX0_indexedOf yX0_indexedOf ∈ lw_tbl := (tb_0 (i := 0) rfl)
abbrev cX0_countOfAll : ByteArray := prog_2_method_4_code
def yX0_countOfAll : MethodName := ⟨RX0, "countOfAll", "(LSteadyFund$Ledger;I)J"⟩
abbrev M_X0_countOfAll : am_M := (yX0_countOfAll, cX0_countOfAll, 6, (some .long))
theorem cw_X0_countOfAll : am_cwd M_X0_countOfAll 2 := ⟨(tb_3 (i := 148) (by decide +kernel)), (tb_1 (i := 5) (by decide +kernel)), by decide +kernel, by decide⟩
theorem ins_X0_countOfAll : Cond.instanceMethod yX0_countOfAll ∈ lw_tbl := (tb_3 (i := 146) (by decide +kernel))
theorem sel_X0_countOfAll : Cond.selects yX0_countOfAll.cls yX0_countOfAll yX0_countOfAll ∈ lw_tbl := (tb_3 (i := 147) (by decide +kernel))
abbrev cX0_dealtTo : ByteArray := prog_2_method_5_code
def yX0_dealtTo : MethodName := ⟨RX0, "dealtTo", "(LSteadyFund$Ledger;III)J"⟩
abbrev M_X0_dealtTo : am_M := (yX0_dealtTo, cX0_dealtTo, 7, (some .long))
theorem cw_X0_dealtTo : am_cwd M_X0_dealtTo 4 := ⟨(tb_3 (i := 175) (by decide +kernel)), (tb_1 (i := 5) (by decide +kernel)), by decide +kernel, by decide⟩
theorem ins_X0_dealtTo : Cond.instanceMethod yX0_dealtTo ∈ lw_tbl := (tb_3 (i := 173) (by decide +kernel))
theorem sel_X0_dealtTo : Cond.selects yX0_dealtTo.cls yX0_dealtTo yX0_dealtTo ∈ lw_tbl := (tb_3 (i := 174) (by decide +kernel))
abbrev cX0_addGift : ByteArray := prog_2_method_6_code
def yX0_addGift : MethodName := ⟨RX0, "addGift", "(IIII)I"⟩
abbrev M_X0_addGift : am_M := (yX0_addGift, cX0_addGift, 5, (some .int))
theorem cw_X0_addGift : am_cwd M_X0_addGift 4 := ⟨(tb_3 (i := 217) (by decide +kernel)), (tb_1 (i := 5) (by decide +kernel)), by decide +kernel, by decide⟩
theorem ins_X0_addGift : Cond.instanceMethod yX0_addGift ∈ lw_tbl := (tb_3 (i := 215) (by decide +kernel))
theorem sel_X0_addGift : Cond.selects yX0_addGift.cls yX0_addGift yX0_addGift ∈ lw_tbl := (tb_3 (i := 216) (by decide +kernel))
abbrev cX0_toTakeFrom : ByteArray := prog_2_method_7_code
def yX0_toTakeFrom : MethodName := ⟨RX0, "toTakeFrom", "(LSteadyFund$Ledger;I)J"⟩
abbrev M_X0_toTakeFrom : am_M := (yX0_toTakeFrom, cX0_toTakeFrom, 8, (some .long))
theorem cw_X0_toTakeFrom : am_cwd M_X0_toTakeFrom 2 := ⟨(tb_3 (i := 229) (by decide +kernel)), (tb_1 (i := 5) (by decide +kernel)), by decide +kernel, by decide⟩
theorem ins_X0_toTakeFrom : Cond.instanceMethod yX0_toTakeFrom ∈ lw_tbl := (tb_3 (i := 227) (by decide +kernel))
theorem sel_X0_toTakeFrom : Cond.selects yX0_toTakeFrom.cls yX0_toTakeFrom yX0_toTakeFrom ∈ lw_tbl := (tb_3 (i := 228) (by decide +kernel))
abbrev cX0_takenFrom : ByteArray := prog_2_method_8_code
def yX0_takenFrom : MethodName := ⟨RX0, "takenFrom", "(LSteadyFund$Ledger;I)J"⟩
abbrev M_X0_takenFrom : am_M := (yX0_takenFrom, cX0_takenFrom, 5, (some .long))
theorem cw_X0_takenFrom : am_cwd M_X0_takenFrom 2 := ⟨(tb_3 (i := 235) (by decide +kernel)), (tb_1 (i := 5) (by decide +kernel)), by decide +kernel, by decide⟩
theorem ins_X0_takenFrom : Cond.instanceMethod yX0_takenFrom ∈ lw_tbl := (tb_3 (i := 233) (by decide +kernel))
theorem sel_X0_takenFrom : Cond.selects yX0_takenFrom.cls yX0_takenFrom yX0_takenFrom ∈ lw_tbl := (tb_3 (i := 234) (by decide +kernel))
abbrev cX0_leadOn : ByteArray := prog_2_method_9_code
def yX0_leadOn : MethodName := ⟨RX0, "leadOn", "(I)V"⟩
abbrev M_X0_leadOn : am_M := (yX0_leadOn, cX0_leadOn, 4, none)
theorem cw_X0_leadOn : am_cwd M_X0_leadOn 1 := ⟨(tb_4 (i := 0) (by decide +kernel)), (tb_1 (i := 5) (by decide +kernel)), by decide +kernel, by decide⟩
theorem ins_X0_leadOn : Cond.instanceMethod yX0_leadOn ∈ lw_tbl := (tb_3 (i := 239) (by decide +kernel))
theorem sel_X0_leadOn : Cond.selects yX0_leadOn.cls yX0_leadOn yX0_leadOn ∈ lw_tbl := (tb_0 (i := 2) rfl)
abbrev cX0_addSuit : ByteArray := prog_2_method_10_code
def yX0_addSuit : MethodName := ⟨RX0, "addSuit", "(III)I"⟩
abbrev M_X0_addSuit : am_M := (yX0_addSuit, cX0_addSuit, 4, (some .int))
theorem cw_X0_addSuit : am_cwd M_X0_addSuit 3 := ⟨(tb_5 (i := 60) (by decide +kernel)), (tb_1 (i := 5) (by decide +kernel)), by decide +kernel, by decide⟩
theorem ins_X0_addSuit : Cond.instanceMethod yX0_addSuit ∈ lw_tbl := (tb_5 (i := 58) (by decide +kernel))
theorem sel_X0_addSuit : Cond.selects yX0_addSuit.cls yX0_addSuit yX0_addSuit ∈ lw_tbl := (tb_5 (i := 59) (by decide +kernel))
abbrev cX0_bestSet : ByteArray := prog_2_method_11_code
def yX0_bestSet : MethodName := ⟨RX0, "bestSet", "(I)I"⟩
abbrev M_X0_bestSet : am_M := (yX0_bestSet, cX0_bestSet, 4, (some .int))
theorem cw_X0_bestSet : am_cwd M_X0_bestSet 1 := ⟨(tb_5 (i := 68) (by decide +kernel)), (tb_1 (i := 5) (by decide +kernel)), by decide +kernel, by decide⟩
theorem ins_X0_bestSet : Cond.instanceMethod yX0_bestSet ∈ lw_tbl := (tb_5 (i := 66) (by decide +kernel))
theorem sel_X0_bestSet : Cond.selects yX0_bestSet.cls yX0_bestSet yX0_bestSet ∈ lw_tbl := (tb_5 (i := 67) (by decide +kernel))
abbrev cX0_gainOf : ByteArray := prog_2_method_12_code
def yX0_gainOf : MethodName := ⟨RX0, "gainOf", "(I)I"⟩
abbrev M_X0_gainOf : am_M := (yX0_gainOf, cX0_gainOf, 4, (some .int))
theorem cw_X0_gainOf : am_cwd M_X0_gainOf 1 := ⟨(tb_5 (i := 76) (by decide +kernel)), (tb_1 (i := 5) (by decide +kernel)), by decide +kernel, by decide⟩
theorem ins_X0_gainOf : Cond.instanceMethod yX0_gainOf ∈ lw_tbl := (tb_5 (i := 74) (by decide +kernel))
theorem sel_X0_gainOf : Cond.selects yX0_gainOf.cls yX0_gainOf yX0_gainOf ∈ lw_tbl := (tb_5 (i := 75) (by decide +kernel))
abbrev cX0_monthsOf : ByteArray := prog_2_method_13_code
def yX0_monthsOf : MethodName := ⟨RX0, "monthsOf", "(I)I"⟩
abbrev M_X0_monthsOf : am_M := (yX0_monthsOf, cX0_monthsOf, 4, (some .int))
theorem cw_X0_monthsOf : am_cwd M_X0_monthsOf 1 := ⟨(tb_5 (i := 72) (by decide +kernel)), (tb_1 (i := 5) (by decide +kernel)), by decide +kernel, by decide⟩
theorem ins_X0_monthsOf : Cond.instanceMethod yX0_monthsOf ∈ lw_tbl := (tb_5 (i := 71) (by decide +kernel))
theorem sel_X0_monthsOf : Cond.selects yX0_monthsOf.cls yX0_monthsOf yX0_monthsOf ∈ lw_tbl := (tb_0 (i := 21) rfl)
abbrev cX0_digestedGifts : ByteArray := prog_2_method_14_code
def yX0_digestedGifts : MethodName := ⟨RX0, "digestedGifts", "(J)J"⟩
abbrev M_X0_digestedGifts : am_M := (yX0_digestedGifts, cX0_digestedGifts, 6, (some .long))
theorem cw_X0_digestedGifts : am_cwd M_X0_digestedGifts 1 := ⟨(tb_5 (i := 174) (by decide +kernel)), (tb_1 (i := 5) (by decide +kernel)), by decide +kernel, by decide⟩
theorem ins_X0_digestedGifts : Cond.instanceMethod yX0_digestedGifts ∈ lw_tbl := (tb_5 (i := 172) (by decide +kernel))
theorem sel_X0_digestedGifts : Cond.selects yX0_digestedGifts.cls yX0_digestedGifts yX0_digestedGifts ∈ lw_tbl := (tb_5 (i := 173) (by decide +kernel))
abbrev cX0_digestedSuits : ByteArray := prog_2_method_15_code
def yX0_digestedSuits : MethodName := ⟨RX0, "digestedSuits", "(J)J"⟩
abbrev M_X0_digestedSuits : am_M := (yX0_digestedSuits, cX0_digestedSuits, 6, (some .long))
theorem cw_X0_digestedSuits : am_cwd M_X0_digestedSuits 1 := ⟨(tb_5 (i := 193) (by decide +kernel)), (tb_1 (i := 5) (by decide +kernel)), by decide +kernel, by decide⟩
theorem ins_X0_digestedSuits : Cond.instanceMethod yX0_digestedSuits ∈ lw_tbl := (tb_5 (i := 191) (by decide +kernel))
theorem sel_X0_digestedSuits : Cond.selects yX0_digestedSuits.cls yX0_digestedSuits yX0_digestedSuits ∈ lw_tbl := (tb_5 (i := 192) (by decide +kernel))
abbrev cX0_copyFrom : ByteArray := prog_2_method_16_code
def yX0_copyFrom : MethodName := ⟨RX0, "copyFrom", "(LSteadyFund$Claims;)V"⟩
abbrev M_X0_copyFrom : am_M := (yX0_copyFrom, cX0_copyFrom, 2, none)
theorem cw_X0_copyFrom : am_cwd M_X0_copyFrom 1 := ⟨(tb_5 (i := 129) (by decide +kernel)), (tb_1 (i := 5) (by decide +kernel)), by decide +kernel, by decide⟩
theorem ins_X0_copyFrom : Cond.instanceMethod yX0_copyFrom ∈ lw_tbl := (tb_5 (i := 127) (by decide +kernel))
theorem sel_X0_copyFrom : Cond.selects yX0_copyFrom.cls yX0_copyFrom yX0_copyFrom ∈ lw_tbl := (tb_5 (i := 128) (by decide +kernel))
abbrev cX1_init : ByteArray := prog_3_method_1_code
def yX1_init : MethodName := ⟨RX1, "<init>", "(Z)V"⟩
abbrev M_X1_init : am_M := (yX1_init, cX1_init, 2, none)
theorem cw_X1_init : am_cwd M_X1_init 1 := ⟨(tb_2 (i := 146) (by decide +kernel)), (tb_1 (i := 12) (by decide +kernel)), by decide +kernel, by decide⟩
theorem ins_X1_init : Cond.instanceMethod yX1_init ∈ lw_tbl := (tb_2 (i := 145) (by decide +kernel))
abbrev cX1_settle : ByteArray := prog_3_method_2_code
def yX1_settle : MethodName := ⟨RX1, "settle", "(LSteadyFund$World;)V"⟩
abbrev M_X1_settle : am_M := (yX1_settle, cX1_settle, 3, none)
theorem cw_X1_settle : am_cwd M_X1_settle 1 := ⟨(tb_4 (i := 24) (by decide +kernel)), (tb_1 (i := 12) (by decide +kernel)), by decide +kernel, by decide⟩
theorem ins_X1_settle : Cond.instanceMethod yX1_settle ∈ lw_tbl := (tb_4 (i := 22) (by decide +kernel))
theorem sel_X1_settle : Cond.selects yX1_settle.cls yX1_settle yX1_settle ∈ lw_tbl := (tb_4 (i := 23) (by decide +kernel))
abbrev cX1_learn : ByteArray := prog_3_method_3_code
def yX1_learn : MethodName := ⟨RX1, "learn", "(LSteadyFund$World;)Z"⟩
abbrev M_X1_learn : am_M := (yX1_learn, cX1_learn, 6, (some .boolean))
theorem cw_X1_learn : am_cwd M_X1_learn 1 := ⟨(tb_4 (i := 28) (by decide +kernel)), (tb_1 (i := 12) (by decide +kernel)), by decide +kernel, by decide⟩
theorem ins_X1_learn : Cond.instanceMethod yX1_learn ∈ lw_tbl := (tb_4 (i := 27) (by decide +kernel))
theorem sel_X1_learn : Cond.selects yX1_learn.cls yX1_learn yX1_learn ∈ lw_tbl := (tb_0 (i := 4) rfl)
abbrev cX1_begin : ByteArray := prog_3_method_4_code
def yX1_begin : MethodName := ⟨RX1, "begin", "()V"⟩
abbrev M_X1_begin : am_M := (yX1_begin, cX1_begin, 3, none)
theorem cw_X1_begin : am_cwd M_X1_begin 0 := ⟨(tb_4 (i := 38) (by decide +kernel)), (tb_1 (i := 12) (by decide +kernel)), by decide +kernel, by decide⟩
theorem ins_X1_begin : Cond.instanceMethod yX1_begin ∈ lw_tbl := (tb_4 (i := 37) (by decide +kernel))
theorem sel_X1_begin : Cond.selects yX1_begin.cls yX1_begin yX1_begin ∈ lw_tbl := (tb_0 (i := 5) rfl)
abbrev cX1_changesInRound : ByteArray := prog_3_method_5_code
def yX1_changesInRound : MethodName := ⟨RX1, "changesInRound", "()Z"⟩
abbrev M_X1_changesInRound : am_M := (yX1_changesInRound, cX1_changesInRound, 3, (some .boolean))
theorem cw_X1_changesInRound : am_cwd M_X1_changesInRound 0 := ⟨(tb_4 (i := 51) (by decide +kernel)), (tb_1 (i := 12) (by decide +kernel)), by decide +kernel, by decide⟩
theorem ins_X1_changesInRound : Cond.instanceMethod yX1_changesInRound ∈ lw_tbl := (tb_4 (i := 50) (by decide +kernel))
theorem sel_X1_changesInRound : Cond.selects yX1_changesInRound.cls yX1_changesInRound yX1_changesInRound ∈ lw_tbl := (tb_0 (i := 7) rfl)
abbrev cX1_handOn : ByteArray := prog_3_method_6_code
def yX1_handOn : MethodName := ⟨RX1, "handOn", "(I)V"⟩
abbrev M_X1_handOn : am_M := (yX1_handOn, cX1_handOn, 6, none)
theorem cw_X1_handOn : am_cwd M_X1_handOn 1 := ⟨(tb_4 (i := 45) (by decide +kernel)), (tb_1 (i := 12) (by decide +kernel)), by decide +kernel, by decide⟩
theorem ins_X1_handOn : Cond.instanceMethod yX1_handOn ∈ lw_tbl := (tb_4 (i := 44) (by decide +kernel))
theorem sel_X1_handOn : Cond.selects yX1_handOn.cls yX1_handOn yX1_handOn ∈ lw_tbl := (tb_0 (i := 6) rfl)
abbrev cX1_fallen : ByteArray := prog_3_method_7_code
def yX1_fallen : MethodName := ⟨RX1, "fallen", "()I"⟩
abbrev M_X1_fallen : am_M := (yX1_fallen, cX1_fallen, 3, (some .int))
theorem cw_X1_fallen : am_cwd M_X1_fallen 0 := ⟨(tb_4 (i := 60) (by decide +kernel)), (tb_1 (i := 12) (by decide +kernel)), by decide +kernel, by decide⟩
theorem ins_X1_fallen : Cond.instanceMethod yX1_fallen ∈ lw_tbl := (tb_4 (i := 58) (by decide +kernel))
theorem sel_X1_fallen : Cond.selects yX1_fallen.cls yX1_fallen yX1_fallen ∈ lw_tbl := (tb_4 (i := 59) (by decide +kernel))
abbrev cX2_init : ByteArray := prog_4_method_1_code
def yX2_init : MethodName := ⟨RX2, "<init>", "()V"⟩
abbrev M_X2_init : am_M := (yX2_init, cX2_init, 1, none)
theorem cw_X2_init : am_cwd M_X2_init 0 := ⟨(tb_2 (i := 110) (by decide +kernel)), (tb_1 (i := 10) (by decide +kernel)), by decide +kernel, by decide⟩
theorem ins_X2_init : Cond.instanceMethod yX2_init ∈ lw_tbl := (tb_2 (i := 109) (by decide +kernel))
abbrev cX2_become : ByteArray := prog_4_method_2_code
def yX2_become : MethodName := ⟨RX2, "become", "(JJ)V"⟩
abbrev M_X2_become : am_M := (yX2_become, cX2_become, 7, none)
theorem cw_X2_become : am_cwd M_X2_become 2 := ⟨(tb_3 (i := 120) (by decide +kernel)), (tb_1 (i := 10) (by decide +kernel)), by decide +kernel, by decide⟩
theorem ins_X2_become : Cond.instanceMethod yX2_become ∈ lw_tbl := (tb_3 (i := 118) (by decide +kernel))
theorem sel_X2_become : Cond.selects yX2_become.cls yX2_become yX2_become ∈ lw_tbl := (tb_3 (i := 119) (by decide +kernel))
abbrev cX2_commonDivisor : ByteArray := prog_4_method_3_code
def yX2_commonDivisor : MethodName := ⟨RX2, "commonDivisor", "(JJ)J"⟩
abbrev M_X2_commonDivisor : am_M := (yX2_commonDivisor, cX2_commonDivisor, 11, (some .long))
theorem cw_X2_commonDivisor : am_cwd M_X2_commonDivisor 2 := ⟨(tb_3 (i := 123) (by decide +kernel)), (tb_1 (i := 10) (by decide +kernel)), by decide +kernel, by decide⟩
theorem sta_X2_commonDivisor : Cond.static yX2_commonDivisor ∈ lw_tbl := (tb_3 (i := 122) (by decide +kernel))
abbrev cX3_init : ByteArray := prog_5_method_1_code
def yX3_init : MethodName := ⟨RX3, "<init>", "()V"⟩
abbrev M_X3_init : am_M := (yX3_init, cX3_init, 1, none)
theorem cw_X3_init : am_cwd M_X3_init 0 := ⟨(tb_2 (i := 6) (by decide +kernel)), (tb_1 (i := 7) (by decide +kernel)), by decide +kernel, by decide⟩
theorem ins_X3_init : Cond.instanceMethod yX3_init ∈ lw_tbl := (tb_2 (i := 5) (by decide +kernel))
abbrev cX3_coinsOf : ByteArray := prog_5_method_2_code
def yX3_coinsOf : MethodName := ⟨RX3, "coinsOf", "(ILSteadyFund$Ledger;)J"⟩
abbrev M_X3_coinsOf : am_M := (yX3_coinsOf, cX3_coinsOf, 6, (some .long))
theorem cw_X3_coinsOf : am_cwd M_X3_coinsOf 2 := ⟨(tb_4 (i := 32) (by decide +kernel)), (tb_1 (i := 7) (by decide +kernel)), by decide +kernel, by decide⟩
theorem ins_X3_coinsOf : Cond.instanceMethod yX3_coinsOf ∈ lw_tbl := (tb_4 (i := 30) (by decide +kernel))
theorem sel_X3_coinsOf : Cond.selects yX3_coinsOf.cls yX3_coinsOf yX3_coinsOf ∈ lw_tbl := (tb_4 (i := 31) (by decide +kernel))
abbrev cX3_digested : ByteArray := prog_5_method_3_code
def yX3_digested : MethodName := ⟨RX3, "digested", "(J)J"⟩
abbrev M_X3_digested : am_M := (yX3_digested, cX3_digested, 7, (some .long))
theorem cw_X3_digested : am_cwd M_X3_digested 1 := ⟨(tb_5 (i := 179) (by decide +kernel)), (tb_1 (i := 7) (by decide +kernel)), by decide +kernel, by decide⟩
theorem ins_X3_digested : Cond.instanceMethod yX3_digested ∈ lw_tbl := (tb_5 (i := 177) (by decide +kernel))
theorem sel_X3_digested : Cond.selects yX3_digested.cls yX3_digested yX3_digested ∈ lw_tbl := (tb_5 (i := 178) (by decide +kernel))
abbrev cX3_copyFrom : ByteArray := prog_5_method_4_code
def yX3_copyFrom : MethodName := ⟨RX3, "copyFrom", "(LSteadyFund$Houses;)V"⟩
abbrev M_X3_copyFrom : am_M := (yX3_copyFrom, cX3_copyFrom, 2, none)
theorem cw_X3_copyFrom : am_cwd M_X3_copyFrom 1 := ⟨(tb_5 (i := 134) (by decide +kernel)), (tb_1 (i := 7) (by decide +kernel)), by decide +kernel, by decide⟩
theorem ins_X3_copyFrom : Cond.instanceMethod yX3_copyFrom ∈ lw_tbl := (tb_5 (i := 132) (by decide +kernel))
theorem sel_X3_copyFrom : Cond.selects yX3_copyFrom.cls yX3_copyFrom yX3_copyFrom ∈ lw_tbl := (tb_5 (i := 133) (by decide +kernel))
abbrev cX4_init : ByteArray := prog_6_method_1_code
def yX4_init : MethodName := ⟨RX4, "<init>", "()V"⟩
abbrev M_X4_init : am_M := (yX4_init, cX4_init, 1, none)
theorem cw_X4_init : am_cwd M_X4_init 0 := ⟨(tb_1 (i := 41) (by decide +kernel)), (tb_1 (i := 3) (by decide +kernel)), by decide +kernel, by decide⟩
theorem ins_X4_init : Cond.instanceMethod yX4_init ∈ lw_tbl := (tb_1 (i := 40) (by decide +kernel))
abbrev cX4_has : ByteArray := prog_6_method_2_code
def yX4_has : MethodName := ⟨RX4, "has", "(I)Z"⟩
abbrev M_X4_has : am_M := (yX4_has, cX4_has, 2, (some .boolean))
theorem cw_X4_has : am_cwd M_X4_has 1 := ⟨(tb_3 (i := 10) (by decide +kernel)), (tb_1 (i := 3) (by decide +kernel)), by decide +kernel, by decide⟩
theorem ins_X4_has : Cond.instanceMethod yX4_has ∈ lw_tbl := (tb_3 (i := 8) (by decide +kernel))
theorem sel_X4_has : Cond.selects yX4_has.cls yX4_has yX4_has ∈ lw_tbl := (tb_3 (i := 9) (by decide +kernel))
abbrev cX4_addPerson : ByteArray := prog_6_method_3_code
def yX4_addPerson : MethodName := ⟨RX4, "addPerson", "(IZ)I"⟩
abbrev M_X4_addPerson : am_M := (yX4_addPerson, cX4_addPerson, 3, (some .int))
theorem cw_X4_addPerson : am_cwd M_X4_addPerson 2 := ⟨(tb_2 (i := 238) (by decide +kernel)), (tb_1 (i := 3) (by decide +kernel)), by decide +kernel, by decide⟩
theorem ins_X4_addPerson : Cond.instanceMethod yX4_addPerson ∈ lw_tbl := (tb_2 (i := 236) (by decide +kernel))
theorem sel_X4_addPerson : Cond.selects yX4_addPerson.cls yX4_addPerson yX4_addPerson ∈ lw_tbl := (tb_2 (i := 237) (by decide +kernel))
abbrev cX4_addRow : ByteArray := prog_6_method_4_code
def yX4_addRow : MethodName := ⟨RX4, "addRow", "(II)I"⟩
abbrev M_X4_addRow : am_M := (yX4_addRow, cX4_addRow, 3, (some .int))
theorem cw_X4_addRow : am_cwd M_X4_addRow 2 := ⟨(tb_3 (i := 16) (by decide +kernel)), (tb_1 (i := 3) (by decide +kernel)), by decide +kernel, by decide⟩
theorem ins_X4_addRow : Cond.instanceMethod yX4_addRow ∈ lw_tbl := (tb_3 (i := 14) (by decide +kernel))
theorem sel_X4_addRow : Cond.selects yX4_addRow.cls yX4_addRow yX4_addRow ∈ lw_tbl := (tb_3 (i := 15) (by decide +kernel))
abbrev cX4_endMonth : ByteArray := prog_6_method_5_code
def yX4_endMonth : MethodName := ⟨RX4, "endMonth", "()V"⟩
abbrev M_X4_endMonth : am_M := (yX4_endMonth, cX4_endMonth, 4, none)
theorem cw_X4_endMonth : am_cwd M_X4_endMonth 0 := ⟨(tb_3 (i := 28) (by decide +kernel)), (tb_1 (i := 3) (by decide +kernel)), by decide +kernel, by decide⟩
theorem ins_X4_endMonth : Cond.instanceMethod yX4_endMonth ∈ lw_tbl := (tb_3 (i := 26) (by decide +kernel))
theorem sel_X4_endMonth : Cond.selects yX4_endMonth.cls yX4_endMonth yX4_endMonth ∈ lw_tbl := (tb_3 (i := 27) (by decide +kernel))
abbrev cX4_shownToAll : ByteArray := prog_6_method_6_code
def yX4_shownToAll : MethodName := ⟨RX4, "shownToAll", "()J"⟩
abbrev M_X4_shownToAll : am_M := (yX4_shownToAll, cX4_shownToAll, 4, (some .long))
theorem cw_X4_shownToAll : am_cwd M_X4_shownToAll 0 := ⟨(tb_3 (i := 33) (by decide +kernel)), (tb_1 (i := 3) (by decide +kernel)), by decide +kernel, by decide⟩
theorem ins_X4_shownToAll : Cond.instanceMethod yX4_shownToAll ∈ lw_tbl := (tb_3 (i := 31) (by decide +kernel))
theorem sel_X4_shownToAll : Cond.selects yX4_shownToAll.cls yX4_shownToAll yX4_shownToAll ∈ lw_tbl := (tb_3 (i := 32) (by decide +kernel))
abbrev cX4_inOfAll : ByteArray := prog_6_method_7_code
def yX4_inOfAll : MethodName := ⟨RX4, "inOfAll", "(II)J"⟩
abbrev M_X4_inOfAll : am_M := (yX4_inOfAll, cX4_inOfAll, 6, (some .long))
theorem cw_X4_inOfAll : am_cwd M_X4_inOfAll 2 := ⟨(tb_3 (i := 47) (by decide +kernel)), (tb_1 (i := 3) (by decide +kernel)), by decide +kernel, by decide⟩
theorem ins_X4_inOfAll : Cond.instanceMethod yX4_inOfAll ∈ lw_tbl := (tb_3 (i := 45) (by decide +kernel))
theorem sel_X4_inOfAll : Cond.selects yX4_inOfAll.cls yX4_inOfAll yX4_inOfAll ∈ lw_tbl := (tb_3 (i := 46) (by decide +kernel))
abbrev cX4_outOfAll : ByteArray := prog_6_method_8_code
def yX4_outOfAll : MethodName := ⟨RX4, "outOfAll", "(II)J"⟩
abbrev M_X4_outOfAll : am_M := (yX4_outOfAll, cX4_outOfAll, 6, (some .long))
theorem cw_X4_outOfAll : am_cwd M_X4_outOfAll 2 := ⟨(tb_3 (i := 51) (by decide +kernel)), (tb_1 (i := 3) (by decide +kernel)), by decide +kernel, by decide⟩
theorem ins_X4_outOfAll : Cond.instanceMethod yX4_outOfAll ∈ lw_tbl := (tb_3 (i := 49) (by decide +kernel))
theorem sel_X4_outOfAll : Cond.selects yX4_outOfAll.cls yX4_outOfAll yX4_outOfAll ∈ lw_tbl := (tb_3 (i := 50) (by decide +kernel))
abbrev cX4_inOf : ByteArray := prog_6_method_9_code
def yX4_inOf : MethodName := ⟨RX4, "inOf", "(I)J"⟩
abbrev M_X4_inOf : am_M := (yX4_inOf, cX4_inOf, 5, (some .long))
theorem cw_X4_inOf : am_cwd M_X4_inOf 1 := ⟨(tb_3 (i := 191) (by decide +kernel)), (tb_1 (i := 3) (by decide +kernel)), by decide +kernel, by decide⟩
theorem ins_X4_inOf : Cond.instanceMethod yX4_inOf ∈ lw_tbl := (tb_3 (i := 189) (by decide +kernel))
theorem sel_X4_inOf : Cond.selects yX4_inOf.cls yX4_inOf yX4_inOf ∈ lw_tbl := (tb_3 (i := 190) (by decide +kernel))
abbrev cX4_outOf : ByteArray := prog_6_method_10_code
def yX4_outOf : MethodName := ⟨RX4, "outOf", "(II)J"⟩
abbrev M_X4_outOf : am_M := (yX4_outOf, cX4_outOf, 6, (some .long))
theorem cw_X4_outOf : am_cwd M_X4_outOf 2 := ⟨(tb_3 (i := 195) (by decide +kernel)), (tb_1 (i := 3) (by decide +kernel)), by decide +kernel, by decide⟩
theorem ins_X4_outOf : Cond.instanceMethod yX4_outOf ∈ lw_tbl := (tb_3 (i := 193) (by decide +kernel))
theorem sel_X4_outOf : Cond.selects yX4_outOf.cls yX4_outOf yX4_outOf ∈ lw_tbl := (tb_3 (i := 194) (by decide +kernel))
abbrev cX4_netOf : ByteArray := prog_6_method_11_code
def yX4_netOf : MethodName := ⟨RX4, "netOf", "(II)J"⟩
abbrev M_X4_netOf : am_M := (yX4_netOf, cX4_netOf, 6, (some .long))
theorem cw_X4_netOf : am_cwd M_X4_netOf 2 := ⟨(tb_3 (i := 156) (by decide +kernel)), (tb_1 (i := 3) (by decide +kernel)), by decide +kernel, by decide⟩
theorem ins_X4_netOf : Cond.instanceMethod yX4_netOf ∈ lw_tbl := (tb_3 (i := 154) (by decide +kernel))
theorem sel_X4_netOf : Cond.selects yX4_netOf.cls yX4_netOf yX4_netOf ∈ lw_tbl := (tb_3 (i := 155) (by decide +kernel))
abbrev cX4_lostBy : ByteArray := prog_6_method_12_code
def yX4_lostBy : MethodName := ⟨RX4, "lostBy", "(I)J"⟩
abbrev M_X4_lostBy : am_M := (yX4_lostBy, cX4_lostBy, 5, (some .long))
theorem cw_X4_lostBy : am_cwd M_X4_lostBy 1 := ⟨(tb_5 (i := 20) (by decide +kernel)), (tb_1 (i := 3) (by decide +kernel)), by decide +kernel, by decide⟩
theorem ins_X4_lostBy : Cond.instanceMethod yX4_lostBy ∈ lw_tbl := (tb_5 (i := 18) (by decide +kernel))
theorem sel_X4_lostBy : Cond.selects yX4_lostBy.cls yX4_lostBy yX4_lostBy ∈ lw_tbl := (tb_5 (i := 19) (by decide +kernel))
abbrev cX4_firstBelow : ByteArray := prog_6_method_13_code
def yX4_firstBelow : MethodName := ⟨RX4, "firstBelow", "([I[I)I"⟩
abbrev M_X4_firstBelow : am_M := (yX4_firstBelow, cX4_firstBelow, 6, (some .int))
theorem cw_X4_firstBelow : am_cwd M_X4_firstBelow 2 := ⟨(tb_3 (i := 67) (by decide +kernel)), (tb_1 (i := 3) (by decide +kernel)), by decide +kernel, by decide⟩
theorem ins_X4_firstBelow : Cond.instanceMethod yX4_firstBelow ∈ lw_tbl := (tb_3 (i := 65) (by decide +kernel))
theorem sel_X4_firstBelow : Cond.selects yX4_firstBelow.cls yX4_firstBelow yX4_firstBelow ∈ lw_tbl := (tb_3 (i := 66) (by decide +kernel))
abbrev cX4_digested : ByteArray := prog_6_method_14_code
def yX4_digested : MethodName := ⟨RX4, "digested", "(J)J"⟩
abbrev M_X4_digested : am_M := (yX4_digested, cX4_digested, 6, (some .long))
theorem cw_X4_digested : am_cwd M_X4_digested 1 := ⟨(tb_5 (i := 164) (by decide +kernel)), (tb_1 (i := 3) (by decide +kernel)), by decide +kernel, by decide⟩
theorem ins_X4_digested : Cond.instanceMethod yX4_digested ∈ lw_tbl := (tb_5 (i := 162) (by decide +kernel))
theorem sel_X4_digested : Cond.selects yX4_digested.cls yX4_digested yX4_digested ∈ lw_tbl := (tb_5 (i := 163) (by decide +kernel))
abbrev cX4_copyFrom : ByteArray := prog_6_method_15_code
def yX4_copyFrom : MethodName := ⟨RX4, "copyFrom", "(LSteadyFund$Ledger;)V"⟩
abbrev M_X4_copyFrom : am_M := (yX4_copyFrom, cX4_copyFrom, 2, none)
theorem cw_X4_copyFrom : am_cwd M_X4_copyFrom 1 := ⟨(tb_5 (i := 119) (by decide +kernel)), (tb_1 (i := 3) (by decide +kernel)), by decide +kernel, by decide⟩
theorem ins_X4_copyFrom : Cond.instanceMethod yX4_copyFrom ∈ lw_tbl := (tb_5 (i := 117) (by decide +kernel))
theorem sel_X4_copyFrom : Cond.selects yX4_copyFrom.cls yX4_copyFrom yX4_copyFrom ∈ lw_tbl := (tb_5 (i := 118) (by decide +kernel))
abbrev cX5_init : ByteArray := prog_7_method_1_code
def yX5_init : MethodName := ⟨RX5, "<init>", "()V"⟩
abbrev M_X5_init : am_M := (yX5_init, cX5_init, 1, none)
theorem cw_X5_init : am_cwd M_X5_init 0 := ⟨(tb_2 (i := 26) (by decide +kernel)), (tb_1 (i := 8) (by decide +kernel)), by decide +kernel, by decide⟩
theorem ins_X5_init : Cond.instanceMethod yX5_init ∈ lw_tbl := (tb_2 (i := 25) (by decide +kernel))
abbrev cX5_addLetter : ByteArray := prog_7_method_2_code
def yX5_addLetter : MethodName := ⟨RX5, "addLetter", "(III)I"⟩
abbrev M_X5_addLetter : am_M := (yX5_addLetter, cX5_addLetter, 4, (some .int))
theorem cw_X5_addLetter : am_cwd M_X5_addLetter 3 := ⟨(tb_4 (i := 68) (by decide +kernel)), (tb_1 (i := 8) (by decide +kernel)), by decide +kernel, by decide⟩
theorem ins_X5_addLetter : Cond.instanceMethod yX5_addLetter ∈ lw_tbl := (tb_4 (i := 66) (by decide +kernel))
theorem sel_X5_addLetter : Cond.selects yX5_addLetter.cls yX5_addLetter yX5_addLetter ∈ lw_tbl := (tb_4 (i := 67) (by decide +kernel))
abbrev cX5_askedBy : ByteArray := prog_7_method_3_code
def yX5_askedBy : MethodName := ⟨RX5, "askedBy", "(I)I"⟩
abbrev M_X5_askedBy : am_M := (yX5_askedBy, cX5_askedBy, 4, (some .int))
theorem cw_X5_askedBy : am_cwd M_X5_askedBy 1 := ⟨(tb_5 (i := 7) (by decide +kernel)), (tb_1 (i := 8) (by decide +kernel)), by decide +kernel, by decide⟩
theorem ins_X5_askedBy : Cond.instanceMethod yX5_askedBy ∈ lw_tbl := (tb_5 (i := 5) (by decide +kernel))
theorem sel_X5_askedBy : Cond.selects yX5_askedBy.cls yX5_askedBy yX5_askedBy ∈ lw_tbl := (tb_5 (i := 6) (by decide +kernel))
abbrev cX5_readBy : ByteArray := prog_7_method_4_code
def yX5_readBy : MethodName := ⟨RX5, "readBy", "(I)I"⟩
abbrev M_X5_readBy : am_M := (yX5_readBy, cX5_readBy, 4, (some .int))
theorem cw_X5_readBy : am_cwd M_X5_readBy 1 := ⟨(tb_5 (i := 11) (by decide +kernel)), (tb_1 (i := 8) (by decide +kernel)), by decide +kernel, by decide⟩
theorem ins_X5_readBy : Cond.instanceMethod yX5_readBy ∈ lw_tbl := (tb_5 (i := 9) (by decide +kernel))
theorem sel_X5_readBy : Cond.selects yX5_readBy.cls yX5_readBy yX5_readBy ∈ lw_tbl := (tb_5 (i := 10) (by decide +kernel))
abbrev cX5_digestedLetters : ByteArray := prog_7_method_5_code
def yX5_digestedLetters : MethodName := ⟨RX5, "digestedLetters", "(J)J"⟩
abbrev M_X5_digestedLetters : am_M := (yX5_digestedLetters, cX5_digestedLetters, 6, (some .long))
theorem cw_X5_digestedLetters : am_cwd M_X5_digestedLetters 1 := ⟨(tb_5 (i := 184) (by decide +kernel)), (tb_1 (i := 8) (by decide +kernel)), by decide +kernel, by decide⟩
theorem ins_X5_digestedLetters : Cond.instanceMethod yX5_digestedLetters ∈ lw_tbl := (tb_5 (i := 182) (by decide +kernel))
theorem sel_X5_digestedLetters : Cond.selects yX5_digestedLetters.cls yX5_digestedLetters yX5_digestedLetters ∈ lw_tbl := (tb_5 (i := 183) (by decide +kernel))
abbrev cX5_digestedRules : ByteArray := prog_7_method_6_code
def yX5_digestedRules : MethodName := ⟨RX5, "digestedRules", "(J)J"⟩
abbrev M_X5_digestedRules : am_M := (yX5_digestedRules, cX5_digestedRules, 6, (some .long))
theorem cw_X5_digestedRules : am_cwd M_X5_digestedRules 1 := ⟨(tb_5 (i := 197) (by decide +kernel)), (tb_1 (i := 8) (by decide +kernel)), by decide +kernel, by decide⟩
theorem ins_X5_digestedRules : Cond.instanceMethod yX5_digestedRules ∈ lw_tbl := (tb_5 (i := 195) (by decide +kernel))
theorem sel_X5_digestedRules : Cond.selects yX5_digestedRules.cls yX5_digestedRules yX5_digestedRules ∈ lw_tbl := (tb_5 (i := 196) (by decide +kernel))
abbrev cX5_copyFrom : ByteArray := prog_7_method_7_code
def yX5_copyFrom : MethodName := ⟨RX5, "copyFrom", "(LSteadyFund$Letters;)V"⟩
abbrev M_X5_copyFrom : am_M := (yX5_copyFrom, cX5_copyFrom, 2, none)
theorem cw_X5_copyFrom : am_cwd M_X5_copyFrom 1 := ⟨(tb_5 (i := 139) (by decide +kernel)), (tb_1 (i := 8) (by decide +kernel)), by decide +kernel, by decide⟩
theorem ins_X5_copyFrom : Cond.instanceMethod yX5_copyFrom ∈ lw_tbl := (tb_5 (i := 137) (by decide +kernel))
theorem sel_X5_copyFrom : Cond.selects yX5_copyFrom.cls yX5_copyFrom yX5_copyFrom ∈ lw_tbl := (tb_5 (i := 138) (by decide +kernel))
abbrev cX6_init : ByteArray := prog_8_method_1_code
def yX6_init : MethodName := ⟨RX6, "<init>", "()V"⟩
abbrev M_X6_init : am_M := (yX6_init, cX6_init, 1, none)
theorem cw_X6_init : am_cwd M_X6_init 0 := ⟨(tb_1 (i := 140) (by decide +kernel)), (tb_1 (i := 4) (by decide +kernel)), by decide +kernel, by decide⟩
theorem ins_X6_init : Cond.instanceMethod yX6_init ∈ lw_tbl := (tb_1 (i := 139) (by decide +kernel))
abbrev cX6_addTrade : ByteArray := prog_8_method_2_code
def yX6_addTrade : MethodName := ⟨RX6, "addTrade", "(IIII)I"⟩
abbrev M_X6_addTrade : am_M := (yX6_addTrade, cX6_addTrade, 5, (some .int))
theorem cw_X6_addTrade : am_cwd M_X6_addTrade 4 := ⟨(tb_3 (i := 80) (by decide +kernel)), (tb_1 (i := 4) (by decide +kernel)), by decide +kernel, by decide⟩
theorem ins_X6_addTrade : Cond.instanceMethod yX6_addTrade ∈ lw_tbl := (tb_3 (i := 78) (by decide +kernel))
theorem sel_X6_addTrade : Cond.selects yX6_addTrade.cls yX6_addTrade yX6_addTrade ∈ lw_tbl := (tb_3 (i := 79) (by decide +kernel))
abbrev cX6_addHand : ByteArray := prog_8_method_3_code
def yX6_addHand : MethodName := ⟨RX6, "addHand", "(II)I"⟩
abbrev M_X6_addHand : am_M := (yX6_addHand, cX6_addHand, 3, (some .int))
theorem cw_X6_addHand : am_cwd M_X6_addHand 2 := ⟨(tb_5 (i := 30) (by decide +kernel)), (tb_1 (i := 4) (by decide +kernel)), by decide +kernel, by decide⟩
theorem ins_X6_addHand : Cond.instanceMethod yX6_addHand ∈ lw_tbl := (tb_5 (i := 28) (by decide +kernel))
theorem sel_X6_addHand : Cond.selects yX6_addHand.cls yX6_addHand yX6_addHand ∈ lw_tbl := (tb_5 (i := 29) (by decide +kernel))
abbrev cX6_wrongOf : ByteArray := prog_8_method_4_code
def yX6_wrongOf : MethodName := ⟨RX6, "wrongOf", "(I)I"⟩
abbrev M_X6_wrongOf : am_M := (yX6_wrongOf, cX6_wrongOf, 7, (some .int))
theorem cw_X6_wrongOf : am_cwd M_X6_wrongOf 1 := ⟨(tb_3 (i := 88) (by decide +kernel)), (tb_1 (i := 4) (by decide +kernel)), by decide +kernel, by decide⟩
theorem ins_X6_wrongOf : Cond.instanceMethod yX6_wrongOf ∈ lw_tbl := (tb_3 (i := 86) (by decide +kernel))
theorem sel_X6_wrongOf : Cond.selects yX6_wrongOf.cls yX6_wrongOf yX6_wrongOf ∈ lw_tbl := (tb_3 (i := 87) (by decide +kernel))
abbrev cX6_firstWrong : ByteArray := prog_8_method_5_code
def yX6_firstWrong : MethodName := ⟨RX6, "firstWrong", "()I"⟩
abbrev M_X6_firstWrong : am_M := (yX6_firstWrong, cX6_firstWrong, 2, (some .int))
theorem cw_X6_firstWrong : am_cwd M_X6_firstWrong 0 := ⟨(tb_3 (i := 96) (by decide +kernel)), (tb_1 (i := 4) (by decide +kernel)), by decide +kernel, by decide⟩
theorem ins_X6_firstWrong : Cond.instanceMethod yX6_firstWrong ∈ lw_tbl := (tb_3 (i := 94) (by decide +kernel))
theorem sel_X6_firstWrong : Cond.selects yX6_firstWrong.cls yX6_firstWrong yX6_firstWrong ∈ lw_tbl := (tb_3 (i := 95) (by decide +kernel))
abbrev cX6_wrongOnes : ByteArray := prog_8_method_6_code
def yX6_wrongOnes : MethodName := ⟨RX6, "wrongOnes", "()I"⟩
abbrev M_X6_wrongOnes : am_M := (yX6_wrongOnes, cX6_wrongOnes, 3, (some .int))
theorem cw_X6_wrongOnes : am_cwd M_X6_wrongOnes 0 := ⟨(tb_5 (i := 152) (by decide +kernel)), (tb_1 (i := 4) (by decide +kernel)), by decide +kernel, by decide⟩
theorem ins_X6_wrongOnes : Cond.instanceMethod yX6_wrongOnes ∈ lw_tbl := (tb_5 (i := 150) (by decide +kernel))
theorem sel_X6_wrongOnes : Cond.selects yX6_wrongOnes.cls yX6_wrongOnes yX6_wrongOnes ∈ lw_tbl := (tb_5 (i := 151) (by decide +kernel))
abbrev cX6_leastSets : ByteArray := prog_8_method_7_code
def yX6_leastSets : MethodName := ⟨RX6, "leastSets", "(I)I"⟩
abbrev M_X6_leastSets : am_M := (yX6_leastSets, cX6_leastSets, 8, (some .int))
theorem cw_X6_leastSets : am_cwd M_X6_leastSets 1 := ⟨(tb_5 (i := 38) (by decide +kernel)), (tb_1 (i := 4) (by decide +kernel)), by decide +kernel, by decide⟩
theorem ins_X6_leastSets : Cond.instanceMethod yX6_leastSets ∈ lw_tbl := (tb_5 (i := 36) (by decide +kernel))
theorem sel_X6_leastSets : Cond.selects yX6_leastSets.cls yX6_leastSets yX6_leastSets ∈ lw_tbl := (tb_5 (i := 37) (by decide +kernel))
abbrev cX6_lookWhoCould : ByteArray := prog_8_method_8_code
def yX6_lookWhoCould : MethodName := ⟨RX6, "lookWhoCould", "()V"⟩
abbrev M_X6_lookWhoCould : am_M := (yX6_lookWhoCould, cX6_lookWhoCould, 4, none)
theorem cw_X6_lookWhoCould : am_cwd M_X6_lookWhoCould 0 := ⟨(tb_5 (i := 42) (by decide +kernel)), (tb_1 (i := 4) (by decide +kernel)), by decide +kernel, by decide⟩
theorem ins_X6_lookWhoCould : Cond.instanceMethod yX6_lookWhoCould ∈ lw_tbl := (tb_5 (i := 41) (by decide +kernel))
theorem sel_X6_lookWhoCould : Cond.selects yX6_lookWhoCould.cls yX6_lookWhoCould yX6_lookWhoCould ∈ lw_tbl := (tb_0 (i := 19) rfl)
abbrev cX6_printsAll : ByteArray := prog_8_method_9_code
def yX6_printsAll : MethodName := ⟨RX6, "printsAll", "(I)Z"⟩
abbrev M_X6_printsAll : am_M := (yX6_printsAll, cX6_printsAll, 3, (some .boolean))
theorem cw_X6_printsAll : am_cwd M_X6_printsAll 1 := ⟨(tb_5 (i := 46) (by decide +kernel)), (tb_1 (i := 4) (by decide +kernel)), by decide +kernel, by decide⟩
theorem ins_X6_printsAll : Cond.instanceMethod yX6_printsAll ∈ lw_tbl := (tb_5 (i := 45) (by decide +kernel))
theorem sel_X6_printsAll : Cond.selects yX6_printsAll.cls yX6_printsAll yX6_printsAll ∈ lw_tbl := (tb_0 (i := 20) rfl)
abbrev cX6_digestedTrades : ByteArray := prog_8_method_10_code
def yX6_digestedTrades : MethodName := ⟨RX6, "digestedTrades", "(J)J"⟩
abbrev M_X6_digestedTrades : am_M := (yX6_digestedTrades, cX6_digestedTrades, 6, (some .long))
theorem cw_X6_digestedTrades : am_cwd M_X6_digestedTrades 1 := ⟨(tb_5 (i := 169) (by decide +kernel)), (tb_1 (i := 4) (by decide +kernel)), by decide +kernel, by decide⟩
theorem ins_X6_digestedTrades : Cond.instanceMethod yX6_digestedTrades ∈ lw_tbl := (tb_5 (i := 167) (by decide +kernel))
theorem sel_X6_digestedTrades : Cond.selects yX6_digestedTrades.cls yX6_digestedTrades yX6_digestedTrades ∈ lw_tbl := (tb_5 (i := 168) (by decide +kernel))
abbrev cX6_digestedHands : ByteArray := prog_8_method_11_code
def yX6_digestedHands : MethodName := ⟨RX6, "digestedHands", "(J)J"⟩
abbrev M_X6_digestedHands : am_M := (yX6_digestedHands, cX6_digestedHands, 6, (some .long))
theorem cw_X6_digestedHands : am_cwd M_X6_digestedHands 1 := ⟨(tb_5 (i := 189) (by decide +kernel)), (tb_1 (i := 4) (by decide +kernel)), by decide +kernel, by decide⟩
theorem ins_X6_digestedHands : Cond.instanceMethod yX6_digestedHands ∈ lw_tbl := (tb_5 (i := 187) (by decide +kernel))
theorem sel_X6_digestedHands : Cond.selects yX6_digestedHands.cls yX6_digestedHands yX6_digestedHands ∈ lw_tbl := (tb_5 (i := 188) (by decide +kernel))
abbrev cX6_copyFrom : ByteArray := prog_8_method_12_code
def yX6_copyFrom : MethodName := ⟨RX6, "copyFrom", "(LSteadyFund$Paper;)V"⟩
abbrev M_X6_copyFrom : am_M := (yX6_copyFrom, cX6_copyFrom, 2, none)
theorem cw_X6_copyFrom : am_cwd M_X6_copyFrom 1 := ⟨(tb_5 (i := 124) (by decide +kernel)), (tb_1 (i := 4) (by decide +kernel)), by decide +kernel, by decide⟩
theorem ins_X6_copyFrom : Cond.instanceMethod yX6_copyFrom ∈ lw_tbl := (tb_5 (i := 122) (by decide +kernel))
theorem sel_X6_copyFrom : Cond.selects yX6_copyFrom.cls yX6_copyFrom yX6_copyFrom ∈ lw_tbl := (tb_5 (i := 123) (by decide +kernel))
abbrev cX7_init : ByteArray := prog_9_method_1_code
def yX7_init : MethodName := ⟨RX7, "<init>", "()V"⟩
abbrev M_X7_init : am_M := (yX7_init, cX7_init, 1, none)
theorem cw_X7_init : am_cwd M_X7_init 0 := ⟨(tb_2 (i := 182) (by decide +kernel)), (tb_1 (i := 13) (by decide +kernel)), by decide +kernel, by decide⟩
theorem ins_X7_init : Cond.instanceMethod yX7_init ∈ lw_tbl := (tb_2 (i := 181) (by decide +kernel))
abbrev cX7_faultOf : ByteArray := prog_9_method_2_code
def yX7_faultOf : MethodName := ⟨RX7, "faultOf", "(LSteadyFund$Letters;)I"⟩
abbrev M_X7_faultOf : am_M := (yX7_faultOf, cX7_faultOf, 2, (some .int))
theorem cw_X7_faultOf : am_cwd M_X7_faultOf 1 := ⟨(tb_4 (i := 84) (by decide +kernel)), (tb_1 (i := 13) (by decide +kernel)), by decide +kernel, by decide⟩
theorem ins_X7_faultOf : Cond.instanceMethod yX7_faultOf ∈ lw_tbl := (tb_4 (i := 82) (by decide +kernel))
theorem sel_X7_faultOf : Cond.selects yX7_faultOf.cls yX7_faultOf yX7_faultOf ∈ lw_tbl := (tb_4 (i := 83) (by decide +kernel))
abbrev cX7_learn : ByteArray := prog_9_method_3_code
def yX7_learn : MethodName := ⟨RX7, "learn", "(LSteadyFund$Ledger;LSteadyFund$Letters;I)V"⟩
abbrev M_X7_learn : am_M := (yX7_learn, cX7_learn, 4, none)
theorem cw_X7_learn : am_cwd M_X7_learn 3 := ⟨(tb_5 (i := 1) (by decide +kernel)), (tb_1 (i := 13) (by decide +kernel)), by decide +kernel, by decide⟩
theorem ins_X7_learn : Cond.instanceMethod yX7_learn ∈ lw_tbl := (tb_4 (i := 239) (by decide +kernel))
theorem sel_X7_learn : Cond.selects yX7_learn.cls yX7_learn yX7_learn ∈ lw_tbl := (tb_5 (i := 0) (by decide +kernel))
abbrev cX7_valueRead : ByteArray := prog_9_method_4_code
def yX7_valueRead : MethodName := ⟨RX7, "valueRead", "()J"⟩
abbrev M_X7_valueRead : am_M := (yX7_valueRead, cX7_valueRead, 3, (some .long))
theorem cw_X7_valueRead : am_cwd M_X7_valueRead 0 := ⟨(tb_4 (i := 91) (by decide +kernel)), (tb_1 (i := 13) (by decide +kernel)), by decide +kernel, by decide⟩
theorem ins_X7_valueRead : Cond.instanceMethod yX7_valueRead ∈ lw_tbl := (tb_4 (i := 89) (by decide +kernel))
theorem sel_X7_valueRead : Cond.selects yX7_valueRead.cls yX7_valueRead yX7_valueRead ∈ lw_tbl := (tb_4 (i := 90) (by decide +kernel))
abbrev cX7_anyHolds : ByteArray := prog_9_method_5_code
def yX7_anyHolds : MethodName := ⟨RX7, "anyHolds", "(I)J"⟩
abbrev M_X7_anyHolds : am_M := (yX7_anyHolds, cX7_anyHolds, 7, (some .long))
theorem cw_X7_anyHolds : am_cwd M_X7_anyHolds 1 := ⟨(tb_4 (i := 95) (by decide +kernel)), (tb_1 (i := 13) (by decide +kernel)), by decide +kernel, by decide⟩
theorem ins_X7_anyHolds : Cond.instanceMethod yX7_anyHolds ∈ lw_tbl := (tb_4 (i := 94) (by decide +kernel))
theorem sel_X7_anyHolds : Cond.selects yX7_anyHolds.cls yX7_anyHolds yX7_anyHolds ∈ lw_tbl := (tb_0 (i := 8) rfl)
abbrev cX7_allHold : ByteArray := prog_9_method_6_code
def yX7_allHold : MethodName := ⟨RX7, "allHold", "(I)J"⟩
abbrev M_X7_allHold : am_M := (yX7_allHold, cX7_allHold, 7, (some .long))
theorem cw_X7_allHold : am_cwd M_X7_allHold 1 := ⟨(tb_4 (i := 99) (by decide +kernel)), (tb_1 (i := 13) (by decide +kernel)), by decide +kernel, by decide⟩
theorem ins_X7_allHold : Cond.instanceMethod yX7_allHold ∈ lw_tbl := (tb_4 (i := 98) (by decide +kernel))
theorem sel_X7_allHold : Cond.selects yX7_allHold.cls yX7_allHold yX7_allHold ∈ lw_tbl := (tb_0 (i := 9) rfl)
abbrev cX7_held : ByteArray := prog_9_method_7_code
def yX7_held : MethodName := ⟨RX7, "held", "(I)J"⟩
abbrev M_X7_held : am_M := (yX7_held, cX7_held, 4, (some .long))
theorem cw_X7_held : am_cwd M_X7_held 1 := ⟨(tb_4 (i := 103) (by decide +kernel)), (tb_1 (i := 13) (by decide +kernel)), by decide +kernel, by decide⟩
theorem ins_X7_held : Cond.instanceMethod yX7_held ∈ lw_tbl := (tb_4 (i := 102) (by decide +kernel))
theorem sel_X7_held : Cond.selects yX7_held.cls yX7_held yX7_held ∈ lw_tbl := (tb_0 (i := 10) rfl)
abbrev cX7_added : ByteArray := prog_9_method_8_code
def yX7_added : MethodName := ⟨RX7, "added", "(I)J"⟩
abbrev M_X7_added : am_M := (yX7_added, cX7_added, 5, (some .long))
theorem cw_X7_added : am_cwd M_X7_added 1 := ⟨(tb_4 (i := 107) (by decide +kernel)), (tb_1 (i := 13) (by decide +kernel)), by decide +kernel, by decide⟩
theorem ins_X7_added : Cond.instanceMethod yX7_added ∈ lw_tbl := (tb_4 (i := 106) (by decide +kernel))
theorem sel_X7_added : Cond.selects yX7_added.cls yX7_added yX7_added ∈ lw_tbl := (tb_0 (i := 11) rfl)
abbrev cX7_multiplied : ByteArray := prog_9_method_9_code
def yX7_multiplied : MethodName := ⟨RX7, "multiplied", "(I)J"⟩
abbrev M_X7_multiplied : am_M := (yX7_multiplied, cX7_multiplied, 5, (some .long))
theorem cw_X7_multiplied : am_cwd M_X7_multiplied 1 := ⟨(tb_4 (i := 111) (by decide +kernel)), (tb_1 (i := 13) (by decide +kernel)), by decide +kernel, by decide⟩
theorem ins_X7_multiplied : Cond.instanceMethod yX7_multiplied ∈ lw_tbl := (tb_4 (i := 110) (by decide +kernel))
theorem sel_X7_multiplied : Cond.selects yX7_multiplied.cls yX7_multiplied yX7_multiplied ∈ lw_tbl := (tb_0 (i := 12) rfl)
abbrev cX7_unit : ByteArray := prog_9_method_10_code
def yX7_unit : MethodName := ⟨RX7, "unit", "(I)J"⟩
abbrev M_X7_unit : am_M := (yX7_unit, cX7_unit, 4, (some .long))
theorem cw_X7_unit : am_cwd M_X7_unit 1 := ⟨(tb_4 (i := 115) (by decide +kernel)), (tb_1 (i := 13) (by decide +kernel)), by decide +kernel, by decide⟩
theorem ins_X7_unit : Cond.instanceMethod yX7_unit ∈ lw_tbl := (tb_4 (i := 114) (by decide +kernel))
theorem sel_X7_unit : Cond.selects yX7_unit.cls yX7_unit yX7_unit ∈ lw_tbl := (tb_0 (i := 13) rfl)
abbrev cX7_inBrackets : ByteArray := prog_9_method_11_code
def yX7_inBrackets : MethodName := ⟨RX7, "inBrackets", "(I)J"⟩
abbrev M_X7_inBrackets : am_M := (yX7_inBrackets, cX7_inBrackets, 4, (some .long))
theorem cw_X7_inBrackets : am_cwd M_X7_inBrackets 1 := ⟨(tb_4 (i := 136) (by decide +kernel)), (tb_1 (i := 13) (by decide +kernel)), by decide +kernel, by decide⟩
theorem ins_X7_inBrackets : Cond.instanceMethod yX7_inBrackets ∈ lw_tbl := (tb_4 (i := 135) (by decide +kernel))
theorem sel_X7_inBrackets : Cond.selects yX7_inBrackets.cls yX7_inBrackets yX7_inBrackets ∈ lw_tbl := (tb_0 (i := 17) rfl)
abbrev cX7_number : ByteArray := prog_9_method_12_code
def yX7_number : MethodName := ⟨RX7, "number", "()J"⟩
abbrev M_X7_number : am_M := (yX7_number, cX7_number, 4, (some .long))
theorem cw_X7_number : am_cwd M_X7_number 0 := ⟨(tb_4 (i := 130) (by decide +kernel)), (tb_1 (i := 13) (by decide +kernel)), by decide +kernel, by decide⟩
theorem ins_X7_number : Cond.instanceMethod yX7_number ∈ lw_tbl := (tb_4 (i := 129) (by decide +kernel))
theorem sel_X7_number : Cond.selects yX7_number.cls yX7_number yX7_number ∈ lw_tbl := (tb_0 (i := 16) rfl)
abbrev cX7_next : ByteArray := prog_9_method_13_code
def yX7_next : MethodName := ⟨RX7, "next", "()I"⟩
abbrev M_X7_next : am_M := (yX7_next, cX7_next, 1, (some .int))
theorem cw_X7_next : am_cwd M_X7_next 0 := ⟨(tb_4 (i := 119) (by decide +kernel)), (tb_1 (i := 13) (by decide +kernel)), by decide +kernel, by decide⟩
theorem ins_X7_next : Cond.instanceMethod yX7_next ∈ lw_tbl := (tb_4 (i := 118) (by decide +kernel))
theorem sel_X7_next : Cond.selects yX7_next.cls yX7_next yX7_next ∈ lw_tbl := (tb_0 (i := 14) rfl)
abbrev cX7_takes : ByteArray := prog_9_method_14_code
def yX7_takes : MethodName := ⟨RX7, "takes", "(C)Z"⟩
abbrev M_X7_takes : am_M := (yX7_takes, cX7_takes, 2, (some .boolean))
theorem cw_X7_takes : am_cwd M_X7_takes 1 := ⟨(tb_4 (i := 140) (by decide +kernel)), (tb_1 (i := 13) (by decide +kernel)), by decide +kernel, by decide⟩
theorem ins_X7_takes : Cond.instanceMethod yX7_takes ∈ lw_tbl := (tb_4 (i := 139) (by decide +kernel))
theorem sel_X7_takes : Cond.selects yX7_takes.cls yX7_takes yX7_takes ∈ lw_tbl := (tb_0 (i := 18) rfl)
abbrev cX7_refuse : ByteArray := prog_9_method_15_code
def yX7_refuse : MethodName := ⟨RX7, "refuse", "(I)J"⟩
abbrev M_X7_refuse : am_M := (yX7_refuse, cX7_refuse, 2, (some .long))
theorem cw_X7_refuse : am_cwd M_X7_refuse 1 := ⟨(tb_4 (i := 123) (by decide +kernel)), (tb_1 (i := 13) (by decide +kernel)), by decide +kernel, by decide⟩
theorem ins_X7_refuse : Cond.instanceMethod yX7_refuse ∈ lw_tbl := (tb_4 (i := 122) (by decide +kernel))
theorem sel_X7_refuse : Cond.selects yX7_refuse.cls yX7_refuse yX7_refuse ∈ lw_tbl := (tb_0 (i := 15) rfl)
abbrev cX7_isDigit : ByteArray := prog_9_method_16_code
def yX7_isDigit : MethodName := ⟨RX7, "isDigit", "(I)Z"⟩
abbrev M_X7_isDigit : am_M := (yX7_isDigit, cX7_isDigit, 1, (some .boolean))
theorem cw_X7_isDigit : am_cwd M_X7_isDigit 1 := ⟨(tb_4 (i := 126) (by decide +kernel)), (tb_1 (i := 13) (by decide +kernel)), by decide +kernel, by decide⟩
theorem sta_X7_isDigit : Cond.static yX7_isDigit ∈ lw_tbl := (tb_4 (i := 125) (by decide +kernel))
abbrev cX7_truth : ByteArray := prog_9_method_17_code
def yX7_truth : MethodName := ⟨RX7, "truth", "(Z)J"⟩
abbrev M_X7_truth : am_M := (yX7_truth, cX7_truth, 1, (some .long))
theorem cw_X7_truth : am_cwd M_X7_truth 1 := ⟨(tb_4 (i := 143) (by decide +kernel)), (tb_1 (i := 13) (by decide +kernel)), by decide +kernel, by decide⟩
theorem sta_X7_truth : Cond.static yX7_truth ∈ lw_tbl := (tb_4 (i := 142) (by decide +kernel))
abbrev cX8_init : ByteArray := prog_10_method_1_code
def yX8_init : MethodName := ⟨RX8, "<init>", "()V"⟩
abbrev M_X8_init : am_M := (yX8_init, cX8_init, 1, none)
theorem cw_X8_init : am_cwd M_X8_init 0 := ⟨(tb_2 (i := 80) (by decide +kernel)), (tb_1 (i := 9) (by decide +kernel)), by decide +kernel, by decide⟩
theorem ins_X8_init : Cond.instanceMethod yX8_init ∈ lw_tbl := (tb_2 (i := 79) (by decide +kernel))
abbrev cX8_copyRows : ByteArray := prog_10_method_2_code
def yX8_copyRows : MethodName := ⟨RX8, "copyRows", "(LSteadyFund$Ledger;)V"⟩
abbrev M_X8_copyRows : am_M := (yX8_copyRows, cX8_copyRows, 2, none)
theorem cw_X8_copyRows : am_cwd M_X8_copyRows 1 := ⟨(tb_5 (i := 85) (by decide +kernel)), (tb_1 (i := 9) (by decide +kernel)), by decide +kernel, by decide⟩
theorem ins_X8_copyRows : Cond.instanceMethod yX8_copyRows ∈ lw_tbl := (tb_5 (i := 83) (by decide +kernel))
theorem sel_X8_copyRows : Cond.selects yX8_copyRows.cls yX8_copyRows yX8_copyRows ∈ lw_tbl := (tb_5 (i := 84) (by decide +kernel))
abbrev cX8_sealed : ByteArray := prog_10_method_3_code
def yX8_sealed : MethodName := ⟨RX8, "sealed", "(II)I"⟩
abbrev M_X8_sealed : am_M := (yX8_sealed, cX8_sealed, 5, (some .int))
theorem cw_X8_sealed : am_cwd M_X8_sealed 2 := ⟨(tb_5 (i := 90) (by decide +kernel)), (tb_1 (i := 9) (by decide +kernel)), by decide +kernel, by decide⟩
theorem ins_X8_sealed : Cond.instanceMethod yX8_sealed ∈ lw_tbl := (tb_5 (i := 89) (by decide +kernel))
theorem sel_X8_sealed : Cond.selects yX8_sealed.cls yX8_sealed yX8_sealed ∈ lw_tbl := (tb_0 (i := 22) rfl)
abbrev cX8_findAltered : ByteArray := prog_10_method_4_code
def yX8_findAltered : MethodName := ⟨RX8, "findAltered", "(I)I"⟩
abbrev M_X8_findAltered : am_M := (yX8_findAltered, cX8_findAltered, 7, (some .int))
theorem cw_X8_findAltered : am_cwd M_X8_findAltered 1 := ⟨(tb_5 (i := 102) (by decide +kernel)), (tb_1 (i := 9) (by decide +kernel)), by decide +kernel, by decide⟩
theorem ins_X8_findAltered : Cond.instanceMethod yX8_findAltered ∈ lw_tbl := (tb_5 (i := 100) (by decide +kernel))
theorem sel_X8_findAltered : Cond.selects yX8_findAltered.cls yX8_findAltered yX8_findAltered ∈ lw_tbl := (tb_5 (i := 101) (by decide +kernel))
abbrev cX8_lookWhichFit : ByteArray := prog_10_method_5_code
def yX8_lookWhichFit : MethodName := ⟨RX8, "lookWhichFit", "(II)I"⟩
abbrev M_X8_lookWhichFit : am_M := (yX8_lookWhichFit, cX8_lookWhichFit, 7, (some .int))
theorem cw_X8_lookWhichFit : am_cwd M_X8_lookWhichFit 2 := ⟨(tb_5 (i := 106) (by decide +kernel)), (tb_1 (i := 9) (by decide +kernel)), by decide +kernel, by decide⟩
theorem ins_X8_lookWhichFit : Cond.instanceMethod yX8_lookWhichFit ∈ lw_tbl := (tb_5 (i := 105) (by decide +kernel))
theorem sel_X8_lookWhichFit : Cond.selects yX8_lookWhichFit.cls yX8_lookWhichFit yX8_lookWhichFit ∈ lw_tbl := (tb_0 (i := 23) rfl)
abbrev cX8_digested : ByteArray := prog_10_method_6_code
def yX8_digested : MethodName := ⟨RX8, "digested", "(J)J"⟩
abbrev M_X8_digested : am_M := (yX8_digested, cX8_digested, 6, (some .long))
theorem cw_X8_digested : am_cwd M_X8_digested 1 := ⟨(tb_5 (i := 201) (by decide +kernel)), (tb_1 (i := 9) (by decide +kernel)), by decide +kernel, by decide⟩
theorem ins_X8_digested : Cond.instanceMethod yX8_digested ∈ lw_tbl := (tb_5 (i := 199) (by decide +kernel))
theorem sel_X8_digested : Cond.selects yX8_digested.cls yX8_digested yX8_digested ∈ lw_tbl := (tb_5 (i := 200) (by decide +kernel))
abbrev cX9_init : ByteArray := prog_11_method_1_code
def yX9_init : MethodName := ⟨RX9, "<init>", "()V"⟩
abbrev M_X9_init : am_M := (yX9_init, cX9_init, 1, none)
theorem cw_X9_init : am_cwd M_X9_init 0 := ⟨(tb_2 (i := 125) (by decide +kernel)), (tb_1 (i := 11) (by decide +kernel)), by decide +kernel, by decide⟩
theorem ins_X9_init : Cond.instanceMethod yX9_init ∈ lw_tbl := (tb_2 (i := 124) (by decide +kernel))
abbrev cX9_rise : ByteArray := prog_11_method_2_code
def yX9_rise : MethodName := ⟨RX9, "rise", "(LSteadyFund$Ledger;I)V"⟩
abbrev M_X9_rise : am_M := (yX9_rise, cX9_rise, 9, none)
theorem cw_X9_rise : am_cwd M_X9_rise 2 := ⟨(tb_3 (i := 183) (by decide +kernel)), (tb_1 (i := 11) (by decide +kernel)), by decide +kernel, by decide⟩
theorem ins_X9_rise : Cond.instanceMethod yX9_rise ∈ lw_tbl := (tb_3 (i := 181) (by decide +kernel))
theorem sel_X9_rise : Cond.selects yX9_rise.cls yX9_rise yX9_rise ∈ lw_tbl := (tb_3 (i := 182) (by decide +kernel))
abbrev cX9_lookAt : ByteArray := prog_11_method_3_code
def yX9_lookAt : MethodName := ⟨RX9, "lookAt", "(LSteadyFund$Ledger;)V"⟩
abbrev M_X9_lookAt : am_M := (yX9_lookAt, cX9_lookAt, 3, none)
theorem cw_X9_lookAt : am_cwd M_X9_lookAt 1 := ⟨(tb_3 (i := 187) (by decide +kernel)), (tb_1 (i := 11) (by decide +kernel)), by decide +kernel, by decide⟩
theorem ins_X9_lookAt : Cond.instanceMethod yX9_lookAt ∈ lw_tbl := (tb_3 (i := 186) (by decide +kernel))
theorem sel_X9_lookAt : Cond.selects yX9_lookAt.cls yX9_lookAt yX9_lookAt ∈ lw_tbl := (tb_0 (i := 1) rfl)
abbrev cX9_paidTo : ByteArray := prog_11_method_4_code
def yX9_paidTo : MethodName := ⟨RX9, "paidTo", "(I)J"⟩
abbrev M_X9_paidTo : am_M := (yX9_paidTo, cX9_paidTo, 2, (some .long))
theorem cw_X9_paidTo : am_cwd M_X9_paidTo 1 := ⟨(tb_3 (i := 199) (by decide +kernel)), (tb_1 (i := 11) (by decide +kernel)), by decide +kernel, by decide⟩
theorem ins_X9_paidTo : Cond.instanceMethod yX9_paidTo ∈ lw_tbl := (tb_3 (i := 197) (by decide +kernel))
theorem sel_X9_paidTo : Cond.selects yX9_paidTo.cls yX9_paidTo yX9_paidTo ∈ lw_tbl := (tb_3 (i := 198) (by decide +kernel))
abbrev cX10_init : ByteArray := prog_12_method_1_code
def yX10_init : MethodName := ⟨RX10, "<init>", "()V"⟩
abbrev M_X10_init : am_M := (yX10_init, cX10_init, 1, none)
theorem cw_X10_init : am_cwd M_X10_init 0 := ⟨(tb_1 (i := 35) (by decide +kernel)), (tb_1 (i := 2) (by decide +kernel)), by decide +kernel, by decide⟩
theorem ins_X10_init : Cond.instanceMethod yX10_init ∈ lw_tbl := (tb_1 (i := 34) (by decide +kernel))
abbrev cX10_copyFrom : ByteArray := prog_12_method_2_code
def yX10_copyFrom : MethodName := ⟨RX10, "copyFrom", "(LSteadyFund$World;)V"⟩
abbrev M_X10_copyFrom : am_M := (yX10_copyFrom, cX10_copyFrom, 2, none)
theorem cw_X10_copyFrom : am_cwd M_X10_copyFrom 1 := ⟨(tb_5 (i := 115) (by decide +kernel)), (tb_1 (i := 2) (by decide +kernel)), by decide +kernel, by decide⟩
theorem ins_X10_copyFrom : Cond.instanceMethod yX10_copyFrom ∈ lw_tbl := (tb_5 (i := 113) (by decide +kernel))
theorem sel_X10_copyFrom : Cond.selects yX10_copyFrom.cls yX10_copyFrom yX10_copyFrom ∈ lw_tbl := (tb_5 (i := 114) (by decide +kernel))
abbrev cX11_init : ByteArray := prog_1_method_1_code
def yX11_init : MethodName := ⟨RX11, "<init>", "()V"⟩
abbrev M_X11_init : am_M := (yX11_init, cX11_init, 1, none)
theorem cw_X11_init : am_cwd M_X11_init 0 := ⟨(tb_1 (i := 27) (by decide +kernel)), (tb_1 (i := 1) (by decide +kernel)), by decide +kernel, by decide⟩
theorem ins_X11_init : Cond.instanceMethod yX11_init ∈ lw_tbl := (tb_1 (i := 26) (by decide +kernel))
abbrev cX11_person : ByteArray := prog_1_method_2_code
def yX11_person : MethodName := ⟨RX11, "person", "(IZ)I"⟩
abbrev M_X11_person : am_M := (yX11_person, cX11_person, 3, (some .int))
theorem cw_X11_person : am_cwd M_X11_person 2 := ⟨(tb_2 (i := 231) (by decide +kernel)), (tb_1 (i := 1) (by decide +kernel)), by decide +kernel, by decide⟩
theorem ins_X11_person : Cond.instanceMethod yX11_person ∈ lw_tbl := (tb_2 (i := 229) (by decide +kernel))
theorem sel_X11_person : Cond.selects yX11_person.cls yX11_person yX11_person ∈ lw_tbl := (tb_2 (i := 230) (by decide +kernel))
abbrev cX11_terms : ByteArray := prog_1_method_3_code
def yX11_terms : MethodName := ⟨RX11, "terms", "(II)I"⟩
abbrev M_X11_terms : am_M := (yX11_terms, cX11_terms, 3, (some .int))
theorem cw_X11_terms : am_cwd M_X11_terms 2 := ⟨(tb_3 (i := 2) (by decide +kernel)), (tb_1 (i := 1) (by decide +kernel)), by decide +kernel, by decide⟩
theorem ins_X11_terms : Cond.instanceMethod yX11_terms ∈ lw_tbl := (tb_3 (i := 0) (by decide +kernel))
theorem sel_X11_terms : Cond.selects yX11_terms.cls yX11_terms yX11_terms ∈ lw_tbl := (tb_3 (i := 1) (by decide +kernel))
abbrev cX11_puts : ByteArray := prog_1_method_4_code
def yX11_puts : MethodName := ⟨RX11, "puts", "(II)I"⟩
abbrev M_X11_puts : am_M := (yX11_puts, cX11_puts, 4, (some .int))
theorem cw_X11_puts : am_cwd M_X11_puts 2 := ⟨(tb_3 (i := 6) (by decide +kernel)), (tb_1 (i := 1) (by decide +kernel)), by decide +kernel, by decide⟩
theorem ins_X11_puts : Cond.instanceMethod yX11_puts ∈ lw_tbl := (tb_3 (i := 4) (by decide +kernel))
theorem sel_X11_puts : Cond.selects yX11_puts.cls yX11_puts yX11_puts ∈ lw_tbl := (tb_3 (i := 5) (by decide +kernel))
abbrev cX11_draws : ByteArray := prog_1_method_5_code
def yX11_draws : MethodName := ⟨RX11, "draws", "(II)I"⟩
abbrev M_X11_draws : am_M := (yX11_draws, cX11_draws, 4, (some .int))
theorem cw_X11_draws : am_cwd M_X11_draws 2 := ⟨(tb_3 (i := 20) (by decide +kernel)), (tb_1 (i := 1) (by decide +kernel)), by decide +kernel, by decide⟩
theorem ins_X11_draws : Cond.instanceMethod yX11_draws ∈ lw_tbl := (tb_3 (i := 18) (by decide +kernel))
theorem sel_X11_draws : Cond.selects yX11_draws.cls yX11_draws yX11_draws ∈ lw_tbl := (tb_3 (i := 19) (by decide +kernel))
abbrev cX11_months : ByteArray := prog_1_method_6_code
def yX11_months : MethodName := ⟨RX11, "months", "(I)I"⟩
abbrev M_X11_months : am_M := (yX11_months, cX11_months, 4, (some .int))
theorem cw_X11_months : am_cwd M_X11_months 1 := ⟨(tb_3 (i := 24) (by decide +kernel)), (tb_1 (i := 1) (by decide +kernel)), by decide +kernel, by decide⟩
theorem ins_X11_months : Cond.instanceMethod yX11_months ∈ lw_tbl := (tb_3 (i := 22) (by decide +kernel))
theorem sel_X11_months : Cond.selects yX11_months.cls yX11_months yX11_months ∈ lw_tbl := (tb_3 (i := 23) (by decide +kernel))
abbrev cX11_shown : ByteArray := prog_1_method_7_code
def yX11_shown : MethodName := ⟨RX11, "shown", "(I)J"⟩
abbrev M_X11_shown : am_M := (yX11_shown, cX11_shown, 2, (some .long))
theorem cw_X11_shown : am_cwd M_X11_shown 1 := ⟨(tb_3 (i := 37) (by decide +kernel)), (tb_1 (i := 1) (by decide +kernel)), by decide +kernel, by decide⟩
theorem ins_X11_shown : Cond.instanceMethod yX11_shown ∈ lw_tbl := (tb_3 (i := 35) (by decide +kernel))
theorem sel_X11_shown : Cond.selects yX11_shown.cls yX11_shown yX11_shown ∈ lw_tbl := (tb_3 (i := 36) (by decide +kernel))
abbrev cX11_account : ByteArray := prog_1_method_8_code
def yX11_account : MethodName := ⟨RX11, "account", "(I)J"⟩
abbrev M_X11_account : am_M := (yX11_account, cX11_account, 3, (some .long))
theorem cw_X11_account : am_cwd M_X11_account 1 := ⟨(tb_3 (i := 42) (by decide +kernel)), (tb_1 (i := 1) (by decide +kernel)), by decide +kernel, by decide⟩
theorem ins_X11_account : Cond.instanceMethod yX11_account ∈ lw_tbl := (tb_3 (i := 40) (by decide +kernel))
theorem sel_X11_account : Cond.selects yX11_account.cls yX11_account yX11_account ∈ lw_tbl := (tb_3 (i := 41) (by decide +kernel))
abbrev cX11_spans : ByteArray := prog_1_method_9_code
def yX11_spans : MethodName := ⟨RX11, "spans", "(IIIII)I"⟩
abbrev M_X11_spans : am_M := (yX11_spans, cX11_spans, 7, (some .int))
theorem cw_X11_spans : am_cwd M_X11_spans 5 := ⟨(tb_3 (i := 56) (by decide +kernel)), (tb_1 (i := 1) (by decide +kernel)), by decide +kernel, by decide⟩
theorem ins_X11_spans : Cond.instanceMethod yX11_spans ∈ lw_tbl := (tb_3 (i := 54) (by decide +kernel))
theorem sel_X11_spans : Cond.selects yX11_spans.cls yX11_spans yX11_spans ∈ lw_tbl := (tb_3 (i := 55) (by decide +kernel))
abbrev cX11_falls : ByteArray := prog_1_method_10_code
def yX11_falls : MethodName := ⟨RX11, "falls", "(I)I"⟩
abbrev M_X11_falls : am_M := (yX11_falls, cX11_falls, 3, (some .int))
theorem cw_X11_falls : am_cwd M_X11_falls 1 := ⟨(tb_3 (i := 63) (by decide +kernel)), (tb_1 (i := 1) (by decide +kernel)), by decide +kernel, by decide⟩
theorem ins_X11_falls : Cond.instanceMethod yX11_falls ∈ lw_tbl := (tb_3 (i := 61) (by decide +kernel))
theorem sel_X11_falls : Cond.selects yX11_falls.cls yX11_falls yX11_falls ∈ lw_tbl := (tb_3 (i := 62) (by decide +kernel))
abbrev cX11_day : ByteArray := prog_1_method_11_code
def yX11_day : MethodName := ⟨RX11, "day", "(IIII)I"⟩
abbrev M_X11_day : am_M := (yX11_day, cX11_day, 5, (some .int))
theorem cw_X11_day : am_cwd M_X11_day 4 := ⟨(tb_3 (i := 71) (by decide +kernel)), (tb_1 (i := 1) (by decide +kernel)), by decide +kernel, by decide⟩
theorem ins_X11_day : Cond.instanceMethod yX11_day ∈ lw_tbl := (tb_3 (i := 69) (by decide +kernel))
theorem sel_X11_day : Cond.selects yX11_day.cls yX11_day yX11_day ∈ lw_tbl := (tb_3 (i := 70) (by decide +kernel))
abbrev cX11_trade : ByteArray := prog_1_method_12_code
def yX11_trade : MethodName := ⟨RX11, "trade", "(IIII)I"⟩
abbrev M_X11_trade : am_M := (yX11_trade, cX11_trade, 5, (some .int))
theorem cw_X11_trade : am_cwd M_X11_trade 4 := ⟨(tb_3 (i := 76) (by decide +kernel)), (tb_1 (i := 1) (by decide +kernel)), by decide +kernel, by decide⟩
theorem ins_X11_trade : Cond.instanceMethod yX11_trade ∈ lw_tbl := (tb_3 (i := 74) (by decide +kernel))
theorem sel_X11_trade : Cond.selects yX11_trade.cls yX11_trade yX11_trade ∈ lw_tbl := (tb_3 (i := 75) (by decide +kernel))
abbrev cX11_wrong : ByteArray := prog_1_method_13_code
def yX11_wrong : MethodName := ⟨RX11, "wrong", "(I)I"⟩
abbrev M_X11_wrong : am_M := (yX11_wrong, cX11_wrong, 2, (some .int))
theorem cw_X11_wrong : am_cwd M_X11_wrong 1 := ⟨(tb_3 (i := 84) (by decide +kernel)), (tb_1 (i := 1) (by decide +kernel)), by decide +kernel, by decide⟩
theorem ins_X11_wrong : Cond.instanceMethod yX11_wrong ∈ lw_tbl := (tb_3 (i := 82) (by decide +kernel))
theorem sel_X11_wrong : Cond.selects yX11_wrong.cls yX11_wrong yX11_wrong ∈ lw_tbl := (tb_3 (i := 83) (by decide +kernel))
abbrev cX11_first : ByteArray := prog_1_method_14_code
def yX11_first : MethodName := ⟨RX11, "first", "()I"⟩
abbrev M_X11_first : am_M := (yX11_first, cX11_first, 1, (some .int))
theorem cw_X11_first : am_cwd M_X11_first 0 := ⟨(tb_3 (i := 92) (by decide +kernel)), (tb_1 (i := 1) (by decide +kernel)), by decide +kernel, by decide⟩
theorem ins_X11_first : Cond.instanceMethod yX11_first ∈ lw_tbl := (tb_3 (i := 90) (by decide +kernel))
theorem sel_X11_first : Cond.selects yX11_first.cls yX11_first yX11_first ∈ lw_tbl := (tb_3 (i := 91) (by decide +kernel))
abbrev cX11_even : ByteArray := prog_1_method_15_code
def yX11_even : MethodName := ⟨RX11, "even", "(IIII)I"⟩
abbrev M_X11_even : am_M := (yX11_even, cX11_even, 5, (some .int))
theorem cw_X11_even : am_cwd M_X11_even 4 := ⟨(tb_3 (i := 101) (by decide +kernel)), (tb_1 (i := 1) (by decide +kernel)), by decide +kernel, by decide⟩
theorem ins_X11_even : Cond.instanceMethod yX11_even ∈ lw_tbl := (tb_3 (i := 99) (by decide +kernel))
theorem sel_X11_even : Cond.selects yX11_even.cls yX11_even yX11_even ∈ lw_tbl := (tb_3 (i := 100) (by decide +kernel))
abbrev cX11_funds : ByteArray := prog_1_method_16_code
def yX11_funds : MethodName := ⟨RX11, "funds", "(IIIII)I"⟩
abbrev M_X11_funds : am_M := (yX11_funds, cX11_funds, 6, (some .int))
theorem cw_X11_funds : am_cwd M_X11_funds 5 := ⟨(tb_3 (i := 128) (by decide +kernel)), (tb_1 (i := 1) (by decide +kernel)), by decide +kernel, by decide⟩
theorem ins_X11_funds : Cond.instanceMethod yX11_funds ∈ lw_tbl := (tb_3 (i := 126) (by decide +kernel))
theorem sel_X11_funds : Cond.selects yX11_funds.cls yX11_funds yX11_funds ∈ lw_tbl := (tb_3 (i := 127) (by decide +kernel))
abbrev cX11_part : ByteArray := prog_1_method_17_code
def yX11_part : MethodName := ⟨RX11, "part", "(I)J"⟩
abbrev M_X11_part : am_M := (yX11_part, cX11_part, 2, (some .long))
theorem cw_X11_part : am_cwd M_X11_part 1 := ⟨(tb_3 (i := 136) (by decide +kernel)), (tb_1 (i := 1) (by decide +kernel)), by decide +kernel, by decide⟩
theorem ins_X11_part : Cond.instanceMethod yX11_part ∈ lw_tbl := (tb_3 (i := 134) (by decide +kernel))
theorem sel_X11_part : Cond.selects yX11_part.cls yX11_part yX11_part ∈ lw_tbl := (tb_3 (i := 135) (by decide +kernel))
abbrev cX11_index : ByteArray := prog_1_method_18_code
def yX11_index : MethodName := ⟨RX11, "index", "(II)I"⟩
abbrev M_X11_index : am_M := (yX11_index, cX11_index, 4, (some .int))
theorem cw_X11_index : am_cwd M_X11_index 2 := ⟨(tb_3 (i := 140) (by decide +kernel)), (tb_1 (i := 1) (by decide +kernel)), by decide +kernel, by decide⟩
theorem ins_X11_index : Cond.instanceMethod yX11_index ∈ lw_tbl := (tb_3 (i := 138) (by decide +kernel))
theorem sel_X11_index : Cond.selects yX11_index.cls yX11_index yX11_index ∈ lw_tbl := (tb_3 (i := 139) (by decide +kernel))
abbrev cX11_count : ByteArray := prog_1_method_19_code
def yX11_count : MethodName := ⟨RX11, "count", "(II)J"⟩
abbrev M_X11_count : am_M := (yX11_count, cX11_count, 3, (some .long))
theorem cw_X11_count : am_cwd M_X11_count 2 := ⟨(tb_3 (i := 144) (by decide +kernel)), (tb_1 (i := 1) (by decide +kernel)), by decide +kernel, by decide⟩
theorem ins_X11_count : Cond.instanceMethod yX11_count ∈ lw_tbl := (tb_3 (i := 142) (by decide +kernel))
theorem sel_X11_count : Cond.selects yX11_count.cls yX11_count yX11_count ∈ lw_tbl := (tb_3 (i := 143) (by decide +kernel))
abbrev cX11_dealt : ByteArray := prog_1_method_20_code
def yX11_dealt : MethodName := ⟨RX11, "dealt", "(III)J"⟩
abbrev M_X11_dealt : am_M := (yX11_dealt, cX11_dealt, 4, (some .long))
theorem cw_X11_dealt : am_cwd M_X11_dealt 3 := ⟨(tb_3 (i := 170) (by decide +kernel)), (tb_1 (i := 1) (by decide +kernel)), by decide +kernel, by decide⟩
theorem ins_X11_dealt : Cond.instanceMethod yX11_dealt ∈ lw_tbl := (tb_3 (i := 168) (by decide +kernel))
theorem sel_X11_dealt : Cond.selects yX11_dealt.cls yX11_dealt yX11_dealt ∈ lw_tbl := (tb_3 (i := 169) (by decide +kernel))
abbrev cX11_tide : ByteArray := prog_1_method_21_code
def yX11_tide : MethodName := ⟨RX11, "tide", "(I)I"⟩
abbrev M_X11_tide : am_M := (yX11_tide, cX11_tide, 2, (some .int))
theorem cw_X11_tide : am_cwd M_X11_tide 1 := ⟨(tb_3 (i := 205) (by decide +kernel)), (tb_1 (i := 1) (by decide +kernel)), by decide +kernel, by decide⟩
theorem ins_X11_tide : Cond.instanceMethod yX11_tide ∈ lw_tbl := (tb_3 (i := 203) (by decide +kernel))
theorem sel_X11_tide : Cond.selects yX11_tide.cls yX11_tide yX11_tide ∈ lw_tbl := (tb_3 (i := 204) (by decide +kernel))
abbrev cX11_moved : ByteArray := prog_1_method_22_code
def yX11_moved : MethodName := ⟨RX11, "moved", "(II)I"⟩
abbrev M_X11_moved : am_M := (yX11_moved, cX11_moved, 7, (some .int))
theorem cw_X11_moved : am_cwd M_X11_moved 2 := ⟨(tb_3 (i := 209) (by decide +kernel)), (tb_1 (i := 1) (by decide +kernel)), by decide +kernel, by decide⟩
theorem ins_X11_moved : Cond.instanceMethod yX11_moved ∈ lw_tbl := (tb_3 (i := 207) (by decide +kernel))
theorem sel_X11_moved : Cond.selects yX11_moved.cls yX11_moved yX11_moved ∈ lw_tbl := (tb_3 (i := 208) (by decide +kernel))
abbrev cX11_gift : ByteArray := prog_1_method_23_code
def yX11_gift : MethodName := ⟨RX11, "gift", "(IIII)I"⟩
abbrev M_X11_gift : am_M := (yX11_gift, cX11_gift, 5, (some .int))
theorem cw_X11_gift : am_cwd M_X11_gift 4 := ⟨(tb_3 (i := 213) (by decide +kernel)), (tb_1 (i := 1) (by decide +kernel)), by decide +kernel, by decide⟩
theorem ins_X11_gift : Cond.instanceMethod yX11_gift ∈ lw_tbl := (tb_3 (i := 211) (by decide +kernel))
theorem sel_X11_gift : Cond.selects yX11_gift.cls yX11_gift yX11_gift ∈ lw_tbl := (tb_3 (i := 212) (by decide +kernel))
abbrev cX11_years : ByteArray := prog_1_method_24_code
def yX11_years : MethodName := ⟨RX11, "years", "(II)I"⟩
abbrev M_X11_years : am_M := (yX11_years, cX11_years, 3, (some .int))
theorem cw_X11_years : am_cwd M_X11_years 2 := ⟨(tb_3 (i := 221) (by decide +kernel)), (tb_1 (i := 1) (by decide +kernel)), by decide +kernel, by decide⟩
theorem ins_X11_years : Cond.instanceMethod yX11_years ∈ lw_tbl := (tb_3 (i := 219) (by decide +kernel))
theorem sel_X11_years : Cond.selects yX11_years.cls yX11_years yX11_years ∈ lw_tbl := (tb_3 (i := 220) (by decide +kernel))
abbrev cX11_take : ByteArray := prog_1_method_25_code
def yX11_take : MethodName := ⟨RX11, "take", "(II)J"⟩
abbrev M_X11_take : am_M := (yX11_take, cX11_take, 3, (some .long))
theorem cw_X11_take : am_cwd M_X11_take 2 := ⟨(tb_3 (i := 225) (by decide +kernel)), (tb_1 (i := 1) (by decide +kernel)), by decide +kernel, by decide⟩
theorem ins_X11_take : Cond.instanceMethod yX11_take ∈ lw_tbl := (tb_3 (i := 223) (by decide +kernel))
theorem sel_X11_take : Cond.selects yX11_take.cls yX11_take yX11_take ∈ lw_tbl := (tb_3 (i := 224) (by decide +kernel))
abbrev cX11_coin : ByteArray := prog_1_method_26_code
def yX11_coin : MethodName := ⟨RX11, "coin", "(II)I"⟩
abbrev M_X11_coin : am_M := (yX11_coin, cX11_coin, 4, (some .int))
theorem cw_X11_coin : am_cwd M_X11_coin 2 := ⟨(tb_4 (i := 4) (by decide +kernel)), (tb_1 (i := 1) (by decide +kernel)), by decide +kernel, by decide⟩
theorem ins_X11_coin : Cond.instanceMethod yX11_coin ∈ lw_tbl := (tb_4 (i := 2) (by decide +kernel))
theorem sel_X11_coin : Cond.selects yX11_coin.cls yX11_coin yX11_coin ∈ lw_tbl := (tb_4 (i := 3) (by decide +kernel))
abbrev cX11_due : ByteArray := prog_1_method_27_code
def yX11_due : MethodName := ⟨RX11, "due", "(III)I"⟩
abbrev M_X11_due : am_M := (yX11_due, cX11_due, 5, (some .int))
theorem cw_X11_due : am_cwd M_X11_due 3 := ⟨(tb_4 (i := 8) (by decide +kernel)), (tb_1 (i := 1) (by decide +kernel)), by decide +kernel, by decide⟩
theorem ins_X11_due : Cond.instanceMethod yX11_due ∈ lw_tbl := (tb_4 (i := 6) (by decide +kernel))
theorem sel_X11_due : Cond.selects yX11_due.cls yX11_due yX11_due ∈ lw_tbl := (tb_4 (i := 7) (by decide +kernel))
abbrev cX11_struck : ByteArray := prog_1_method_28_code
def yX11_struck : MethodName := ⟨RX11, "struck", "(Z)I"⟩
abbrev M_X11_struck : am_M := (yX11_struck, cX11_struck, 2, (some .int))
theorem cw_X11_struck : am_cwd M_X11_struck 1 := ⟨(tb_4 (i := 12) (by decide +kernel)), (tb_1 (i := 1) (by decide +kernel)), by decide +kernel, by decide⟩
theorem ins_X11_struck : Cond.instanceMethod yX11_struck ∈ lw_tbl := (tb_4 (i := 10) (by decide +kernel))
theorem sel_X11_struck : Cond.selects yX11_struck.cls yX11_struck yX11_struck ∈ lw_tbl := (tb_4 (i := 11) (by decide +kernel))
abbrev cX11_pays : ByteArray := prog_1_method_29_code
def yX11_pays : MethodName := ⟨RX11, "pays", "(II)I"⟩
abbrev M_X11_pays : am_M := (yX11_pays, cX11_pays, 3, (some .int))
theorem cw_X11_pays : am_cwd M_X11_pays 2 := ⟨(tb_4 (i := 16) (by decide +kernel)), (tb_1 (i := 1) (by decide +kernel)), by decide +kernel, by decide⟩
theorem ins_X11_pays : Cond.instanceMethod yX11_pays ∈ lw_tbl := (tb_4 (i := 14) (by decide +kernel))
theorem sel_X11_pays : Cond.selects yX11_pays.cls yX11_pays yX11_pays ∈ lw_tbl := (tb_4 (i := 15) (by decide +kernel))
abbrev cX11_rounds : ByteArray := prog_1_method_30_code
def yX11_rounds : MethodName := ⟨RX11, "rounds", "(II)I"⟩
abbrev M_X11_rounds : am_M := (yX11_rounds, cX11_rounds, 4, (some .int))
theorem cw_X11_rounds : am_cwd M_X11_rounds 2 := ⟨(tb_4 (i := 56) (by decide +kernel)), (tb_1 (i := 1) (by decide +kernel)), by decide +kernel, by decide⟩
theorem ins_X11_rounds : Cond.instanceMethod yX11_rounds ∈ lw_tbl := (tb_4 (i := 54) (by decide +kernel))
theorem sel_X11_rounds : Cond.selects yX11_rounds.cls yX11_rounds yX11_rounds ∈ lw_tbl := (tb_4 (i := 55) (by decide +kernel))
abbrev cX11_letter : ByteArray := prog_1_method_31_code
def yX11_letter : MethodName := ⟨RX11, "letter", "(III)I"⟩
abbrev M_X11_letter : am_M := (yX11_letter, cX11_letter, 4, (some .int))
theorem cw_X11_letter : am_cwd M_X11_letter 3 := ⟨(tb_4 (i := 64) (by decide +kernel)), (tb_1 (i := 1) (by decide +kernel)), by decide +kernel, by decide⟩
theorem ins_X11_letter : Cond.instanceMethod yX11_letter ∈ lw_tbl := (tb_4 (i := 62) (by decide +kernel))
theorem sel_X11_letter : Cond.selects yX11_letter.cls yX11_letter yX11_letter ∈ lw_tbl := (tb_4 (i := 63) (by decide +kernel))
abbrev cX11_write : ByteArray := prog_1_method_32_code
def yX11_write : MethodName := ⟨RX11, "write", "(I)I"⟩
abbrev M_X11_write : am_M := (yX11_write, cX11_write, 2, (some .int))
theorem cw_X11_write : am_cwd M_X11_write 1 := ⟨(tb_4 (i := 72) (by decide +kernel)), (tb_1 (i := 1) (by decide +kernel)), by decide +kernel, by decide⟩
theorem ins_X11_write : Cond.instanceMethod yX11_write ∈ lw_tbl := (tb_4 (i := 70) (by decide +kernel))
theorem sel_X11_write : Cond.selects yX11_write.cls yX11_write yX11_write ∈ lw_tbl := (tb_4 (i := 71) (by decide +kernel))
abbrev cX11_erase : ByteArray := prog_1_method_33_code
def yX11_erase : MethodName := ⟨RX11, "erase", "()I"⟩
abbrev M_X11_erase : am_M := (yX11_erase, cX11_erase, 2, (some .int))
theorem cw_X11_erase : am_cwd M_X11_erase 0 := ⟨(tb_4 (i := 76) (by decide +kernel)), (tb_1 (i := 1) (by decide +kernel)), by decide +kernel, by decide⟩
theorem ins_X11_erase : Cond.instanceMethod yX11_erase ∈ lw_tbl := (tb_4 (i := 74) (by decide +kernel))
theorem sel_X11_erase : Cond.selects yX11_erase.cls yX11_erase yX11_erase ∈ lw_tbl := (tb_4 (i := 75) (by decide +kernel))
abbrev cX11_fault : ByteArray := prog_1_method_34_code
def yX11_fault : MethodName := ⟨RX11, "fault", "()I"⟩
abbrev M_X11_fault : am_M := (yX11_fault, cX11_fault, 1, (some .int))
theorem cw_X11_fault : am_cwd M_X11_fault 0 := ⟨(tb_4 (i := 80) (by decide +kernel)), (tb_1 (i := 1) (by decide +kernel)), by decide +kernel, by decide⟩
theorem ins_X11_fault : Cond.instanceMethod yX11_fault ∈ lw_tbl := (tb_4 (i := 78) (by decide +kernel))
theorem sel_X11_fault : Cond.selects yX11_fault.cls yX11_fault yX11_fault ∈ lw_tbl := (tb_4 (i := 79) (by decide +kernel))
abbrev cX11_bound : ByteArray := prog_1_method_35_code
def yX11_bound : MethodName := ⟨RX11, "bound", "()J"⟩
abbrev M_X11_bound : am_M := (yX11_bound, cX11_bound, 4, (some .long))
theorem cw_X11_bound : am_cwd M_X11_bound 0 := ⟨(tb_4 (i := 236) (by decide +kernel)), (tb_1 (i := 1) (by decide +kernel)), by decide +kernel, by decide⟩
theorem ins_X11_bound : Cond.instanceMethod yX11_bound ∈ lw_tbl := (tb_4 (i := 234) (by decide +kernel))
theorem sel_X11_bound : Cond.selects yX11_bound.cls yX11_bound yX11_bound ∈ lw_tbl := (tb_4 (i := 235) (by decide +kernel))
abbrev cX11_lost : ByteArray := prog_1_method_36_code
def yX11_lost : MethodName := ⟨RX11, "lost", "(I)J"⟩
abbrev M_X11_lost : am_M := (yX11_lost, cX11_lost, 2, (some .long))
theorem cw_X11_lost : am_cwd M_X11_lost 1 := ⟨(tb_5 (i := 16) (by decide +kernel)), (tb_1 (i := 1) (by decide +kernel)), by decide +kernel, by decide⟩
theorem ins_X11_lost : Cond.instanceMethod yX11_lost ∈ lw_tbl := (tb_5 (i := 14) (by decide +kernel))
theorem sel_X11_lost : Cond.selects yX11_lost.cls yX11_lost yX11_lost ∈ lw_tbl := (tb_5 (i := 15) (by decide +kernel))
abbrev cX11_hand : ByteArray := prog_1_method_37_code
def yX11_hand : MethodName := ⟨RX11, "hand", "(II)I"⟩
abbrev M_X11_hand : am_M := (yX11_hand, cX11_hand, 3, (some .int))
theorem cw_X11_hand : am_cwd M_X11_hand 2 := ⟨(tb_5 (i := 25) (by decide +kernel)), (tb_1 (i := 1) (by decide +kernel)), by decide +kernel, by decide⟩
theorem ins_X11_hand : Cond.instanceMethod yX11_hand ∈ lw_tbl := (tb_5 (i := 23) (by decide +kernel))
theorem sel_X11_hand : Cond.selects yX11_hand.cls yX11_hand yX11_hand ∈ lw_tbl := (tb_5 (i := 24) (by decide +kernel))
abbrev cX11_whose : ByteArray := prog_1_method_38_code
def yX11_whose : MethodName := ⟨RX11, "whose", "(I)I"⟩
abbrev M_X11_whose : am_M := (yX11_whose, cX11_whose, 2, (some .int))
theorem cw_X11_whose : am_cwd M_X11_whose 1 := ⟨(tb_5 (i := 34) (by decide +kernel)), (tb_1 (i := 1) (by decide +kernel)), by decide +kernel, by decide⟩
theorem ins_X11_whose : Cond.instanceMethod yX11_whose ∈ lw_tbl := (tb_5 (i := 32) (by decide +kernel))
theorem sel_X11_whose : Cond.selects yX11_whose.cls yX11_whose yX11_whose ∈ lw_tbl := (tb_5 (i := 33) (by decide +kernel))
abbrev cX11_suit : ByteArray := prog_1_method_39_code
def yX11_suit : MethodName := ⟨RX11, "suit", "(III)I"⟩
abbrev M_X11_suit : am_M := (yX11_suit, cX11_suit, 4, (some .int))
theorem cw_X11_suit : am_cwd M_X11_suit 3 := ⟨(tb_5 (i := 56) (by decide +kernel)), (tb_1 (i := 1) (by decide +kernel)), by decide +kernel, by decide⟩
theorem ins_X11_suit : Cond.instanceMethod yX11_suit ∈ lw_tbl := (tb_5 (i := 54) (by decide +kernel))
theorem sel_X11_suit : Cond.selects yX11_suit.cls yX11_suit yX11_suit ∈ lw_tbl := (tb_5 (i := 55) (by decide +kernel))
abbrev cX11_best : ByteArray := prog_1_method_40_code
def yX11_best : MethodName := ⟨RX11, "best", "(II)I"⟩
abbrev M_X11_best : am_M := (yX11_best, cX11_best, 4, (some .int))
theorem cw_X11_best : am_cwd M_X11_best 2 := ⟨(tb_5 (i := 64) (by decide +kernel)), (tb_1 (i := 1) (by decide +kernel)), by decide +kernel, by decide⟩
theorem ins_X11_best : Cond.instanceMethod yX11_best ∈ lw_tbl := (tb_5 (i := 62) (by decide +kernel))
theorem sel_X11_best : Cond.selects yX11_best.cls yX11_best yX11_best ∈ lw_tbl := (tb_5 (i := 63) (by decide +kernel))
abbrev cX11_keep : ByteArray := prog_1_method_41_code
def yX11_keep : MethodName := ⟨RX11, "keep", "()I"⟩
abbrev M_X11_keep : am_M := (yX11_keep, cX11_keep, 1, (some .int))
theorem cw_X11_keep : am_cwd M_X11_keep 0 := ⟨(tb_5 (i := 81) (by decide +kernel)), (tb_1 (i := 1) (by decide +kernel)), by decide +kernel, by decide⟩
theorem ins_X11_keep : Cond.instanceMethod yX11_keep ∈ lw_tbl := (tb_5 (i := 79) (by decide +kernel))
theorem sel_X11_keep : Cond.selects yX11_keep.cls yX11_keep yX11_keep ∈ lw_tbl := (tb_5 (i := 80) (by decide +kernel))
abbrev cX11_alter : ByteArray := prog_1_method_42_code
def yX11_alter : MethodName := ⟨RX11, "alter", "(II)I"⟩
abbrev M_X11_alter : am_M := (yX11_alter, cX11_alter, 3, (some .int))
theorem cw_X11_alter : am_cwd M_X11_alter 2 := ⟨(tb_5 (i := 94) (by decide +kernel)), (tb_1 (i := 1) (by decide +kernel)), by decide +kernel, by decide⟩
theorem ins_X11_alter : Cond.instanceMethod yX11_alter ∈ lw_tbl := (tb_5 (i := 92) (by decide +kernel))
theorem sel_X11_alter : Cond.selects yX11_alter.cls yX11_alter yX11_alter ∈ lw_tbl := (tb_5 (i := 93) (by decide +kernel))
abbrev cX11_check : ByteArray := prog_1_method_43_code
def yX11_check : MethodName := ⟨RX11, "check", "(I)I"⟩
abbrev M_X11_check : am_M := (yX11_check, cX11_check, 2, (some .int))
theorem cw_X11_check : am_cwd M_X11_check 1 := ⟨(tb_5 (i := 98) (by decide +kernel)), (tb_1 (i := 1) (by decide +kernel)), by decide +kernel, by decide⟩
theorem ins_X11_check : Cond.instanceMethod yX11_check ∈ lw_tbl := (tb_5 (i := 96) (by decide +kernel))
theorem sel_X11_check : Cond.selects yX11_check.cls yX11_check yX11_check ∈ lw_tbl := (tb_5 (i := 97) (by decide +kernel))
abbrev cX11_image : ByteArray := prog_1_method_44_code
def yX11_image : MethodName := ⟨RX11, "image", "(I)I"⟩
abbrev M_X11_image : am_M := (yX11_image, cX11_image, 2, (some .int))
theorem cw_X11_image : am_cwd M_X11_image 1 := ⟨(tb_5 (i := 111) (by decide +kernel)), (tb_1 (i := 1) (by decide +kernel)), by decide +kernel, by decide⟩
theorem ins_X11_image : Cond.instanceMethod yX11_image ∈ lw_tbl := (tb_5 (i := 109) (by decide +kernel))
theorem sel_X11_image : Cond.selects yX11_image.cls yX11_image yX11_image ∈ lw_tbl := (tb_5 (i := 110) (by decide +kernel))
abbrev cX11_from : ByteArray := prog_1_method_45_code
def yX11_from : MethodName := ⟨RX11, "from", "(I)I"⟩
abbrev M_X11_from : am_M := (yX11_from, cX11_from, 2, (some .int))
theorem cw_X11_from : am_cwd M_X11_from 1 := ⟨(tb_5 (i := 144) (by decide +kernel)), (tb_1 (i := 1) (by decide +kernel)), by decide +kernel, by decide⟩
theorem ins_X11_from : Cond.instanceMethod yX11_from ∈ lw_tbl := (tb_5 (i := 142) (by decide +kernel))
theorem sel_X11_from : Cond.selects yX11_from.cls yX11_from yX11_from ∈ lw_tbl := (tb_5 (i := 143) (by decide +kernel))
abbrev cX11_many : ByteArray := prog_1_method_46_code
def yX11_many : MethodName := ⟨RX11, "many", "(I)I"⟩
abbrev M_X11_many : am_M := (yX11_many, cX11_many, 2, (some .int))
theorem cw_X11_many : am_cwd M_X11_many 1 := ⟨(tb_5 (i := 148) (by decide +kernel)), (tb_1 (i := 1) (by decide +kernel)), by decide +kernel, by decide⟩
theorem ins_X11_many : Cond.instanceMethod yX11_many ∈ lw_tbl := (tb_5 (i := 146) (by decide +kernel))
theorem sel_X11_many : Cond.selects yX11_many.cls yX11_many yX11_many ∈ lw_tbl := (tb_5 (i := 147) (by decide +kernel))
abbrev cX11_digest : ByteArray := prog_1_method_47_code
def yX11_digest : MethodName := ⟨RX11, "digest", "()J"⟩
abbrev M_X11_digest : am_M := (yX11_digest, cX11_digest, 4, (some .long))
theorem cw_X11_digest : am_cwd M_X11_digest 0 := ⟨(tb_5 (i := 156) (by decide +kernel)), (tb_1 (i := 1) (by decide +kernel)), by decide +kernel, by decide⟩
theorem ins_X11_digest : Cond.instanceMethod yX11_digest ∈ lw_tbl := (tb_5 (i := 154) (by decide +kernel))
theorem sel_X11_digest : Cond.selects yX11_digest.cls yX11_digest yX11_digest ∈ lw_tbl := (tb_5 (i := 155) (by decide +kernel))
abbrev cX11_agreed : ByteArray := prog_1_method_48_code
def yX11_agreed : MethodName := ⟨RX11, "agreed", "(I)LSteadyFund$Clearing;"⟩
abbrev M_X11_agreed : am_M := (yX11_agreed, cX11_agreed, 3, (some (.object "SteadyFund$Clearing")))
theorem cw_X11_agreed : am_cwd M_X11_agreed 1 := ⟨(tb_4 (i := 20) (by decide +kernel)), (tb_1 (i := 1) (by decide +kernel)), by decide +kernel, by decide⟩
theorem ins_X11_agreed : Cond.instanceMethod yX11_agreed ∈ lw_tbl := (tb_4 (i := 19) (by decide +kernel))
theorem sel_X11_agreed : Cond.selects yX11_agreed.cls yX11_agreed yX11_agreed ∈ lw_tbl := (tb_0 (i := 3) rfl)
abbrev cX11_within : ByteArray := prog_1_method_49_code
def yX11_within : MethodName := ⟨RX11, "within", "(III)Z"⟩
abbrev M_X11_within : am_M := (yX11_within, cX11_within, 3, (some .boolean))
theorem cw_X11_within : am_cwd M_X11_within 3 := ⟨(tb_2 (i := 234) (by decide +kernel)), (tb_1 (i := 1) (by decide +kernel)), by decide +kernel, by decide⟩
theorem sta_X11_within : Cond.static yX11_within ∈ lw_tbl := (tb_2 (i := 233) (by decide +kernel))
abbrev cX11_isSpan : ByteArray := prog_1_method_50_code
def yX11_isSpan : MethodName := ⟨RX11, "isSpan", "(II)Z"⟩
abbrev M_X11_isSpan : am_M := (yX11_isSpan, cX11_isSpan, 2, (some .boolean))
theorem cw_X11_isSpan : am_cwd M_X11_isSpan 2 := ⟨(tb_3 (i := 59) (by decide +kernel)), (tb_1 (i := 1) (by decide +kernel)), by decide +kernel, by decide⟩
theorem sta_X11_isSpan : Cond.static yX11_isSpan ∈ lw_tbl := (tb_3 (i := 58) (by decide +kernel))
abbrev cX11_isEven : ByteArray := prog_1_method_51_code
def yX11_isEven : MethodName := ⟨RX11, "isEven", "(IIII)Z"⟩
abbrev M_X11_isEven : am_M := (yX11_isEven, cX11_isEven, 4, (some .boolean))
theorem cw_X11_isEven : am_cwd M_X11_isEven 4 := ⟨(tb_3 (i := 104) (by decide +kernel)), (tb_1 (i := 1) (by decide +kernel)), by decide +kernel, by decide⟩
theorem sta_X11_isEven : Cond.static yX11_isEven ∈ lw_tbl := (tb_3 (i := 103) (by decide +kernel))
abbrev cX11_waysUp : ByteArray := prog_1_method_52_code
def yX11_waysUp : MethodName := ⟨RX11, "waysUp", "(IIII)J"⟩
abbrev M_X11_waysUp : am_M := (yX11_waysUp, cX11_waysUp, 7, (some .long))
theorem cw_X11_waysUp : am_cwd M_X11_waysUp 4 := ⟨(tb_3 (i := 107) (by decide +kernel)), (tb_1 (i := 1) (by decide +kernel)), by decide +kernel, by decide⟩
theorem sta_X11_waysUp : Cond.static yX11_waysUp ∈ lw_tbl := (tb_3 (i := 106) (by decide +kernel))
abbrev cX11_choose : ByteArray := prog_1_method_53_code
def yX11_choose : MethodName := ⟨RX11, "choose", "(II)J"⟩
abbrev M_X11_choose : am_M := (yX11_choose, cX11_choose, 5, (some .long))
theorem cw_X11_choose : am_cwd M_X11_choose 2 := ⟨(tb_3 (i := 110) (by decide +kernel)), (tb_1 (i := 1) (by decide +kernel)), by decide +kernel, by decide⟩
theorem sta_X11_choose : Cond.static yX11_choose ∈ lw_tbl := (tb_3 (i := 109) (by decide +kernel))
abbrev cX11_power : ByteArray := prog_1_method_54_code
def yX11_power : MethodName := ⟨RX11, "power", "(JI)J"⟩
abbrev M_X11_power : am_M := (yX11_power, cX11_power, 6, (some .long))
theorem cw_X11_power : am_cwd M_X11_power 2 := ⟨(tb_3 (i := 116) (by decide +kernel)), (tb_1 (i := 1) (by decide +kernel)), by decide +kernel, by decide⟩
theorem sta_X11_power : Cond.static yX11_power ∈ lw_tbl := (tb_3 (i := 115) (by decide +kernel))
abbrev cX11_partOf : ByteArray := prog_1_method_55_code
def yX11_partOf : MethodName := ⟨RX11, "partOf", "(IJJ)J"⟩
abbrev M_X11_partOf : am_M := (yX11_partOf, cX11_partOf, 10, (some .long))
theorem cw_X11_partOf : am_cwd M_X11_partOf 3 := ⟨(tb_3 (i := 131) (by decide +kernel)), (tb_1 (i := 1) (by decide +kernel)), by decide +kernel, by decide⟩
theorem sta_X11_partOf : Cond.static yX11_partOf ∈ lw_tbl := (tb_3 (i := 130) (by decide +kernel))
abbrev cX11_cut : ByteArray := prog_1_method_56_code
def yX11_cut : MethodName := ⟨RX11, "cut", "(JJ)J"⟩
abbrev M_X11_cut : am_M := (yX11_cut, cX11_cut, 4, (some .long))
theorem cw_X11_cut : am_cwd M_X11_cut 2 := ⟨(tb_3 (i := 113) (by decide +kernel)), (tb_1 (i := 1) (by decide +kernel)), by decide +kernel, by decide⟩
theorem sta_X11_cut : Cond.static yX11_cut ∈ lw_tbl := (tb_3 (i := 112) (by decide +kernel))
abbrev cX12_init : ByteArray := prog_14_method_1_code
def yX12_init : MethodName := ⟨RX12, "<init>", "()V"⟩
abbrev M_X12_init : am_M := (yX12_init, cX12_init, 2, none)
theorem cw_X12_init : am_cwd M_X12_init 0 := ⟨(tb_5 (i := 207) (by decide +kernel)), (tb_1 (i := 14) (by decide +kernel)), by decide +kernel, by decide⟩
theorem ins_X12_init : Cond.instanceMethod yX12_init ∈ lw_tbl := (tb_5 (i := 206) (by decide +kernel))
abbrev cX12_in : ByteArray := prog_14_method_3_code
def yX12_in : MethodName := ⟨RX12, "in", "(JJJ)Z"⟩
abbrev M_X12_in : am_M := (yX12_in, cX12_in, 6, (some .boolean))
theorem cw_X12_in : am_cwd M_X12_in 3 := ⟨(tb_6 (i := 50) (by decide +kernel)), (tb_1 (i := 14) (by decide +kernel)), by decide +kernel, by decide⟩
theorem sta_X12_in : Cond.static yX12_in ∈ lw_tbl := (tb_6 (i := 49) (by decide +kernel))
abbrev cX12_got : ByteArray := prog_14_method_4_code
def yX12_got : MethodName := ⟨RX12, "got", "(I)I"⟩
abbrev M_X12_got : am_M := (yX12_got, cX12_got, 2, (some .int))
theorem cw_X12_got : am_cwd M_X12_got 1 := ⟨(tb_6 (i := 54) (by decide +kernel)), (tb_1 (i := 14) (by decide +kernel)), by decide +kernel, by decide⟩
theorem ins_X12_got : Cond.instanceMethod yX12_got ∈ lw_tbl := (tb_6 (i := 53) (by decide +kernel))
theorem sel_X12_got : Cond.selects yX12_got.cls yX12_got yX12_got ∈ lw_tbl := (tb_0 (i := 24) rfl)
abbrev cX12_has : ByteArray := prog_14_method_5_code
def yX12_has : MethodName := ⟨RX12, "has", "(II)Z"⟩
abbrev M_X12_has : am_M := (yX12_has, cX12_has, 3, (some .boolean))
theorem cw_X12_has : am_cwd M_X12_has 2 := ⟨(tb_6 (i := 68) (by decide +kernel)), (tb_1 (i := 14) (by decide +kernel)), by decide +kernel, by decide⟩
theorem ins_X12_has : Cond.instanceMethod yX12_has ∈ lw_tbl := (tb_6 (i := 67) (by decide +kernel))
theorem sel_X12_has : Cond.selects yX12_has.cls yX12_has yX12_has ∈ lw_tbl := (tb_0 (i := 25) rfl)
abbrev cX12_isMonth : ByteArray := prog_14_method_6_code
def yX12_isMonth : MethodName := ⟨RX12, "isMonth", "(I)Z"⟩
abbrev M_X12_isMonth : am_M := (yX12_isMonth, cX12_isMonth, 1, (some .boolean))
theorem cw_X12_isMonth : am_cwd M_X12_isMonth 1 := ⟨(tb_6 (i := 180) (by decide +kernel)), (tb_1 (i := 14) (by decide +kernel)), by decide +kernel, by decide⟩
theorem sta_X12_isMonth : Cond.static yX12_isMonth ∈ lw_tbl := (tb_6 (i := 179) (by decide +kernel))
abbrev cX12_isFallen : ByteArray := prog_14_method_7_code
def yX12_isFallen : MethodName := ⟨RX12, "isFallen", "()Z"⟩
abbrev M_X12_isFallen : am_M := (yX12_isFallen, cX12_isFallen, 1, (some .boolean))
theorem cw_X12_isFallen : am_cwd M_X12_isFallen 0 := ⟨(tb_6 (i := 76) (by decide +kernel)), (tb_1 (i := 14) (by decide +kernel)), by decide +kernel, by decide⟩
theorem ins_X12_isFallen : Cond.instanceMethod yX12_isFallen ∈ lw_tbl := (tb_6 (i := 75) (by decide +kernel))
theorem sel_X12_isFallen : Cond.selects yX12_isFallen.cls yX12_isFallen yX12_isFallen ∈ lw_tbl := (tb_0 (i := 26) rfl)
abbrev cX12_person : ByteArray := prog_14_method_8_code
def yX12_person : MethodName := ⟨RX12, "person", "(IZ)I"⟩
abbrev M_X12_person : am_M := (yX12_person, cX12_person, 4, (some .int))
theorem cw_X12_person : am_cwd M_X12_person 2 := ⟨(tb_6 (i := 46) (by decide +kernel)), (tb_1 (i := 14) (by decide +kernel)), by decide +kernel, by decide⟩
theorem ins_X12_person : Cond.instanceMethod yX12_person ∈ lw_tbl := (tb_6 (i := 44) (by decide +kernel))
theorem sel_X12_person : Cond.selects yX12_person.cls yX12_person yX12_person ∈ lw_tbl := (tb_6 (i := 45) (by decide +kernel))
abbrev cX12_terms : ByteArray := prog_14_method_9_code
def yX12_terms : MethodName := ⟨RX12, "terms", "(II)I"⟩
abbrev M_X12_terms : am_M := (yX12_terms, cX12_terms, 3, (some .int))
theorem cw_X12_terms : am_cwd M_X12_terms 2 := ⟨(tb_6 (i := 58) (by decide +kernel)), (tb_1 (i := 14) (by decide +kernel)), by decide +kernel, by decide⟩
theorem ins_X12_terms : Cond.instanceMethod yX12_terms ∈ lw_tbl := (tb_6 (i := 56) (by decide +kernel))
theorem sel_X12_terms : Cond.selects yX12_terms.cls yX12_terms yX12_terms ∈ lw_tbl := (tb_6 (i := 57) (by decide +kernel))
abbrev cX12_isSum : ByteArray := prog_14_method_10_code
def yX12_isSum : MethodName := ⟨RX12, "isSum", "(I)Z"⟩
abbrev M_X12_isSum : am_M := (yX12_isSum, cX12_isSum, 1, (some .boolean))
theorem cw_X12_isSum : am_cwd M_X12_isSum 1 := ⟨(tb_6 (i := 71) (by decide +kernel)), (tb_1 (i := 14) (by decide +kernel)), by decide +kernel, by decide⟩
theorem sta_X12_isSum : Cond.static yX12_isSum ∈ lw_tbl := (tb_6 (i := 70) (by decide +kernel))
abbrev cX12_addRow : ByteArray := prog_14_method_11_code
def yX12_addRow : MethodName := ⟨RX12, "addRow", "(IJ)V"⟩
abbrev M_X12_addRow : am_M := (yX12_addRow, cX12_addRow, 5, none)
theorem cw_X12_addRow : am_cwd M_X12_addRow 2 := ⟨(tb_6 (i := 80) (by decide +kernel)), (tb_1 (i := 14) (by decide +kernel)), by decide +kernel, by decide⟩
theorem ins_X12_addRow : Cond.instanceMethod yX12_addRow ∈ lw_tbl := (tb_6 (i := 79) (by decide +kernel))
theorem sel_X12_addRow : Cond.selects yX12_addRow.cls yX12_addRow yX12_addRow ∈ lw_tbl := (tb_0 (i := 27) rfl)
abbrev cX12_puts : ByteArray := prog_14_method_12_code
def yX12_puts : MethodName := ⟨RX12, "puts", "(II)I"⟩
abbrev M_X12_puts : am_M := (yX12_puts, cX12_puts, 3, (some .int))
theorem cw_X12_puts : am_cwd M_X12_puts 2 := ⟨(tb_6 (i := 64) (by decide +kernel)), (tb_1 (i := 14) (by decide +kernel)), by decide +kernel, by decide⟩
theorem ins_X12_puts : Cond.instanceMethod yX12_puts ∈ lw_tbl := (tb_6 (i := 62) (by decide +kernel))
theorem sel_X12_puts : Cond.selects yX12_puts.cls yX12_puts yX12_puts ∈ lw_tbl := (tb_6 (i := 63) (by decide +kernel))
abbrev cX12_draws : ByteArray := prog_14_method_13_code
def yX12_draws : MethodName := ⟨RX12, "draws", "(II)I"⟩
abbrev M_X12_draws : am_M := (yX12_draws, cX12_draws, 3, (some .int))
theorem cw_X12_draws : am_cwd M_X12_draws 2 := ⟨(tb_6 (i := 84) (by decide +kernel)), (tb_1 (i := 14) (by decide +kernel)), by decide +kernel, by decide⟩
theorem ins_X12_draws : Cond.instanceMethod yX12_draws ∈ lw_tbl := (tb_6 (i := 82) (by decide +kernel))
theorem sel_X12_draws : Cond.selects yX12_draws.cls yX12_draws yX12_draws ∈ lw_tbl := (tb_6 (i := 83) (by decide +kernel))
abbrev cX12_allShown : ByteArray := prog_14_method_14_code
def yX12_allShown : MethodName := ⟨RX12, "allShown", "()J"⟩
abbrev M_X12_allShown : am_M := (yX12_allShown, cX12_allShown, 4, (some .long))
theorem cw_X12_allShown : am_cwd M_X12_allShown 0 := ⟨(tb_6 (i := 94) (by decide +kernel)), (tb_1 (i := 14) (by decide +kernel)), by decide +kernel, by decide⟩
theorem ins_X12_allShown : Cond.instanceMethod yX12_allShown ∈ lw_tbl := (tb_6 (i := 93) (by decide +kernel))
theorem sel_X12_allShown : Cond.selects yX12_allShown.cls yX12_allShown yX12_allShown ∈ lw_tbl := (tb_0 (i := 28) rfl)
abbrev cX12_months : ByteArray := prog_14_method_15_code
def yX12_months : MethodName := ⟨RX12, "months", "(I)I"⟩
abbrev M_X12_months : am_M := (yX12_months, cX12_months, 6, (some .int))
theorem cw_X12_months : am_cwd M_X12_months 1 := ⟨(tb_6 (i := 88) (by decide +kernel)), (tb_1 (i := 14) (by decide +kernel)), by decide +kernel, by decide⟩
theorem ins_X12_months : Cond.instanceMethod yX12_months ∈ lw_tbl := (tb_6 (i := 86) (by decide +kernel))
theorem sel_X12_months : Cond.selects yX12_months.cls yX12_months yX12_months ∈ lw_tbl := (tb_6 (i := 87) (by decide +kernel))
abbrev cX12_shown : ByteArray := prog_14_method_16_code
def yX12_shown : MethodName := ⟨RX12, "shown", "(I)J"⟩
abbrev M_X12_shown : am_M := (yX12_shown, cX12_shown, 2, (some .long))
theorem cw_X12_shown : am_cwd M_X12_shown 1 := ⟨(tb_6 (i := 98) (by decide +kernel)), (tb_1 (i := 14) (by decide +kernel)), by decide +kernel, by decide⟩
theorem ins_X12_shown : Cond.instanceMethod yX12_shown ∈ lw_tbl := (tb_6 (i := 96) (by decide +kernel))
theorem sel_X12_shown : Cond.selects yX12_shown.cls yX12_shown yX12_shown ∈ lw_tbl := (tb_6 (i := 97) (by decide +kernel))
abbrev cX12_went : ByteArray := prog_14_method_17_code
def yX12_went : MethodName := ⟨RX12, "went", "(IIIZ)J"⟩
abbrev M_X12_went : am_M := (yX12_went, cX12_went, 11, (some .long))
theorem cw_X12_went : am_cwd M_X12_went 4 := ⟨(tb_6 (i := 106) (by decide +kernel)), (tb_1 (i := 14) (by decide +kernel)), by decide +kernel, by decide⟩
theorem ins_X12_went : Cond.instanceMethod yX12_went ∈ lw_tbl := (tb_6 (i := 105) (by decide +kernel))
theorem sel_X12_went : Cond.selects yX12_went.cls yX12_went yX12_went ∈ lw_tbl := (tb_0 (i := 29) rfl)
abbrev cX12_account : ByteArray := prog_14_method_18_code
def yX12_account : MethodName := ⟨RX12, "account", "(I)J"⟩
abbrev M_X12_account : am_M := (yX12_account, cX12_account, 2, (some .long))
theorem cw_X12_account : am_cwd M_X12_account 1 := ⟨(tb_6 (i := 102) (by decide +kernel)), (tb_1 (i := 14) (by decide +kernel)), by decide +kernel, by decide⟩
theorem ins_X12_account : Cond.instanceMethod yX12_account ∈ lw_tbl := (tb_6 (i := 100) (by decide +kernel))
theorem sel_X12_account : Cond.selects yX12_account.cls yX12_account yX12_account ∈ lw_tbl := (tb_6 (i := 101) (by decide +kernel))
abbrev cX12_isSpan : ByteArray := prog_14_method_19_code
def yX12_isSpan : MethodName := ⟨RX12, "isSpan", "(II)Z"⟩
abbrev M_X12_isSpan : am_M := (yX12_isSpan, cX12_isSpan, 2, (some .boolean))
theorem cw_X12_isSpan : am_cwd M_X12_isSpan 2 := ⟨(tb_6 (i := 115) (by decide +kernel)), (tb_1 (i := 14) (by decide +kernel)), by decide +kernel, by decide⟩
theorem sta_X12_isSpan : Cond.static yX12_isSpan ∈ lw_tbl := (tb_6 (i := 114) (by decide +kernel))
abbrev cX12_spans : ByteArray := prog_14_method_20_code
def yX12_spans : MethodName := ⟨RX12, "spans", "(IIIII)I"⟩
abbrev M_X12_spans : am_M := (yX12_spans, cX12_spans, 6, (some .int))
theorem cw_X12_spans : am_cwd M_X12_spans 5 := ⟨(tb_6 (i := 111) (by decide +kernel)), (tb_1 (i := 14) (by decide +kernel)), by decide +kernel, by decide⟩
theorem ins_X12_spans : Cond.instanceMethod yX12_spans ∈ lw_tbl := (tb_6 (i := 109) (by decide +kernel))
theorem sel_X12_spans : Cond.selects yX12_spans.cls yX12_spans yX12_spans ∈ lw_tbl := (tb_6 (i := 110) (by decide +kernel))
abbrev cX12_falls : ByteArray := prog_14_method_21_code
def yX12_falls : MethodName := ⟨RX12, "falls", "(I)I"⟩
abbrev M_X12_falls : am_M := (yX12_falls, cX12_falls, 5, (some .int))
theorem cw_X12_falls : am_cwd M_X12_falls 1 := ⟨(tb_6 (i := 119) (by decide +kernel)), (tb_1 (i := 14) (by decide +kernel)), by decide +kernel, by decide⟩
theorem ins_X12_falls : Cond.instanceMethod yX12_falls ∈ lw_tbl := (tb_6 (i := 117) (by decide +kernel))
theorem sel_X12_falls : Cond.selects yX12_falls.cls yX12_falls yX12_falls ∈ lw_tbl := (tb_6 (i := 118) (by decide +kernel))
abbrev cX12_isDay : ByteArray := prog_14_method_22_code
def yX12_isDay : MethodName := ⟨RX12, "isDay", "(I)Z"⟩
abbrev M_X12_isDay : am_M := (yX12_isDay, cX12_isDay, 1, (some .boolean))
theorem cw_X12_isDay : am_cwd M_X12_isDay 1 := ⟨(tb_6 (i := 126) (by decide +kernel)), (tb_1 (i := 14) (by decide +kernel)), by decide +kernel, by decide⟩
theorem sta_X12_isDay : Cond.static yX12_isDay ∈ lw_tbl := (tb_6 (i := 125) (by decide +kernel))
abbrev cX12_day : ByteArray := prog_14_method_23_code
def yX12_day : MethodName := ⟨RX12, "day", "(IIII)I"⟩
abbrev M_X12_day : am_M := (yX12_day, cX12_day, 5, (some .int))
theorem cw_X12_day : am_cwd M_X12_day 4 := ⟨(tb_6 (i := 123) (by decide +kernel)), (tb_1 (i := 14) (by decide +kernel)), by decide +kernel, by decide⟩
theorem ins_X12_day : Cond.instanceMethod yX12_day ∈ lw_tbl := (tb_6 (i := 121) (by decide +kernel))
theorem sel_X12_day : Cond.selects yX12_day.cls yX12_day yX12_day ∈ lw_tbl := (tb_6 (i := 122) (by decide +kernel))
abbrev cX12_trade : ByteArray := prog_14_method_24_code
def yX12_trade : MethodName := ⟨RX12, "trade", "(IIII)I"⟩
abbrev M_X12_trade : am_M := (yX12_trade, cX12_trade, 6, (some .int))
theorem cw_X12_trade : am_cwd M_X12_trade 4 := ⟨(tb_6 (i := 133) (by decide +kernel)), (tb_1 (i := 14) (by decide +kernel)), by decide +kernel, by decide⟩
theorem ins_X12_trade : Cond.instanceMethod yX12_trade ∈ lw_tbl := (tb_6 (i := 131) (by decide +kernel))
theorem sel_X12_trade : Cond.selects yX12_trade.cls yX12_trade yX12_trade ∈ lw_tbl := (tb_6 (i := 132) (by decide +kernel))
abbrev cX12_wrongOf : ByteArray := prog_14_method_25_code
def yX12_wrongOf : MethodName := ⟨RX12, "wrongOf", "(I)I"⟩
abbrev M_X12_wrongOf : am_M := (yX12_wrongOf, cX12_wrongOf, 6, (some .int))
theorem cw_X12_wrongOf : am_cwd M_X12_wrongOf 1 := ⟨(tb_6 (i := 142) (by decide +kernel)), (tb_1 (i := 14) (by decide +kernel)), by decide +kernel, by decide⟩
theorem ins_X12_wrongOf : Cond.instanceMethod yX12_wrongOf ∈ lw_tbl := (tb_6 (i := 141) (by decide +kernel))
theorem sel_X12_wrongOf : Cond.selects yX12_wrongOf.cls yX12_wrongOf yX12_wrongOf ∈ lw_tbl := (tb_0 (i := 30) rfl)
abbrev cX12_wrong : ByteArray := prog_14_method_26_code
def yX12_wrong : MethodName := ⟨RX12, "wrong", "(I)I"⟩
abbrev M_X12_wrong : am_M := (yX12_wrong, cX12_wrong, 2, (some .int))
theorem cw_X12_wrong : am_cwd M_X12_wrong 1 := ⟨(tb_6 (i := 138) (by decide +kernel)), (tb_1 (i := 14) (by decide +kernel)), by decide +kernel, by decide⟩
theorem ins_X12_wrong : Cond.instanceMethod yX12_wrong ∈ lw_tbl := (tb_6 (i := 136) (by decide +kernel))
theorem sel_X12_wrong : Cond.selects yX12_wrong.cls yX12_wrong yX12_wrong ∈ lw_tbl := (tb_6 (i := 137) (by decide +kernel))
abbrev cX12_first : ByteArray := prog_14_method_27_code
def yX12_first : MethodName := ⟨RX12, "first", "()I"⟩
abbrev M_X12_first : am_M := (yX12_first, cX12_first, 2, (some .int))
theorem cw_X12_first : am_cwd M_X12_first 0 := ⟨(tb_6 (i := 146) (by decide +kernel)), (tb_1 (i := 14) (by decide +kernel)), by decide +kernel, by decide⟩
theorem ins_X12_first : Cond.instanceMethod yX12_first ∈ lw_tbl := (tb_6 (i := 144) (by decide +kernel))
theorem sel_X12_first : Cond.selects yX12_first.cls yX12_first yX12_first ∈ lw_tbl := (tb_6 (i := 145) (by decide +kernel))
abbrev cX12_tell : ByteArray := prog_14_method_28_code
def yX12_tell : MethodName := ⟨RX12, "tell", "(JJ)V"⟩
abbrev M_X12_tell : am_M := (yX12_tell, cX12_tell, 11, none)
theorem cw_X12_tell : am_cwd M_X12_tell 2 := ⟨(tb_6 (i := 165) (by decide +kernel)), (tb_1 (i := 14) (by decide +kernel)), by decide +kernel, by decide⟩
theorem ins_X12_tell : Cond.instanceMethod yX12_tell ∈ lw_tbl := (tb_6 (i := 164) (by decide +kernel))
theorem sel_X12_tell : Cond.selects yX12_tell.cls yX12_tell yX12_tell ∈ lw_tbl := (tb_0 (i := 31) rfl)
abbrev cX12_power : ByteArray := prog_14_method_29_code
def yX12_power : MethodName := ⟨RX12, "power", "(JI)J"⟩
abbrev M_X12_power : am_M := (yX12_power, cX12_power, 6, (some .long))
theorem cw_X12_power : am_cwd M_X12_power 2 := ⟨(tb_6 (i := 161) (by decide +kernel)), (tb_1 (i := 14) (by decide +kernel)), by decide +kernel, by decide⟩
theorem sta_X12_power : Cond.static yX12_power ∈ lw_tbl := (tb_6 (i := 160) (by decide +kernel))
abbrev cX12_isEven : ByteArray := prog_14_method_30_code
def yX12_isEven : MethodName := ⟨RX12, "isEven", "(IIII)Z"⟩
abbrev M_X12_isEven : am_M := (yX12_isEven, cX12_isEven, 4, (some .boolean))
theorem cw_X12_isEven : am_cwd M_X12_isEven 4 := ⟨(tb_6 (i := 153) (by decide +kernel)), (tb_1 (i := 14) (by decide +kernel)), by decide +kernel, by decide⟩
theorem sta_X12_isEven : Cond.static yX12_isEven ∈ lw_tbl := (tb_6 (i := 152) (by decide +kernel))
abbrev cX12_evens : ByteArray := prog_14_method_31_code
def yX12_evens : MethodName := ⟨RX12, "evens", "(IIII)J"⟩
abbrev M_X12_evens : am_M := (yX12_evens, cX12_evens, 9, (some .long))
theorem cw_X12_evens : am_cwd M_X12_evens 4 := ⟨(tb_6 (i := 158) (by decide +kernel)), (tb_1 (i := 14) (by decide +kernel)), by decide +kernel, by decide⟩
theorem sta_X12_evens : Cond.static yX12_evens ∈ lw_tbl := (tb_6 (i := 157) (by decide +kernel))
abbrev cX12_even : ByteArray := prog_14_method_32_code
def yX12_even : MethodName := ⟨RX12, "even", "(IIII)I"⟩
abbrev M_X12_even : am_M := (yX12_even, cX12_even, 5, (some .int))
theorem cw_X12_even : am_cwd M_X12_even 4 := ⟨(tb_6 (i := 150) (by decide +kernel)), (tb_1 (i := 14) (by decide +kernel)), by decide +kernel, by decide⟩
theorem ins_X12_even : Cond.instanceMethod yX12_even ∈ lw_tbl := (tb_6 (i := 148) (by decide +kernel))
theorem sel_X12_even : Cond.selects yX12_even.cls yX12_even yX12_even ∈ lw_tbl := (tb_6 (i := 149) (by decide +kernel))
abbrev cX12_funds : ByteArray := prog_14_method_33_code
def yX12_funds : MethodName := ⟨RX12, "funds", "(IIIII)I"⟩
abbrev M_X12_funds : am_M := (yX12_funds, cX12_funds, 15, (some .int))
theorem cw_X12_funds : am_cwd M_X12_funds 5 := ⟨(tb_6 (i := 169) (by decide +kernel)), (tb_1 (i := 14) (by decide +kernel)), by decide +kernel, by decide⟩
theorem ins_X12_funds : Cond.instanceMethod yX12_funds ∈ lw_tbl := (tb_6 (i := 167) (by decide +kernel))
theorem sel_X12_funds : Cond.selects yX12_funds.cls yX12_funds yX12_funds ∈ lw_tbl := (tb_6 (i := 168) (by decide +kernel))
abbrev cX12_part : ByteArray := prog_14_method_34_code
def yX12_part : MethodName := ⟨RX12, "part", "(I)J"⟩
abbrev M_X12_part : am_M := (yX12_part, cX12_part, 2, (some .long))
theorem cw_X12_part : am_cwd M_X12_part 1 := ⟨(tb_6 (i := 173) (by decide +kernel)), (tb_1 (i := 14) (by decide +kernel)), by decide +kernel, by decide⟩
theorem ins_X12_part : Cond.instanceMethod yX12_part ∈ lw_tbl := (tb_6 (i := 171) (by decide +kernel))
theorem sel_X12_part : Cond.selects yX12_part.cls yX12_part yX12_part ∈ lw_tbl := (tb_6 (i := 172) (by decide +kernel))
abbrev cX12_index : ByteArray := prog_14_method_35_code
def yX12_index : MethodName := ⟨RX12, "index", "(II)I"⟩
abbrev M_X12_index : am_M := (yX12_index, cX12_index, 4, (some .int))
theorem cw_X12_index : am_cwd M_X12_index 2 := ⟨(tb_6 (i := 177) (by decide +kernel)), (tb_1 (i := 14) (by decide +kernel)), by decide +kernel, by decide⟩
theorem ins_X12_index : Cond.instanceMethod yX12_index ∈ lw_tbl := (tb_6 (i := 175) (by decide +kernel))
theorem sel_X12_index : Cond.selects yX12_index.cls yX12_index yX12_index ∈ lw_tbl := (tb_6 (i := 176) (by decide +kernel))
abbrev cX12_countOf : ByteArray := prog_14_method_36_code
def yX12_countOf : MethodName := ⟨RX12, "countOf", "(II)J"⟩
abbrev M_X12_countOf : am_M := (yX12_countOf, cX12_countOf, 8, (some .long))
theorem cw_X12_countOf : am_cwd M_X12_countOf 2 := ⟨(tb_6 (i := 193) (by decide +kernel)), (tb_1 (i := 14) (by decide +kernel)), by decide +kernel, by decide⟩
theorem ins_X12_countOf : Cond.instanceMethod yX12_countOf ∈ lw_tbl := (tb_6 (i := 192) (by decide +kernel))
theorem sel_X12_countOf : Cond.selects yX12_countOf.cls yX12_countOf yX12_countOf ∈ lw_tbl := (tb_0 (i := 33) rfl)
abbrev cX12_allCounts : ByteArray := prog_14_method_37_code
def yX12_allCounts : MethodName := ⟨RX12, "allCounts", "(I)J"⟩
abbrev M_X12_allCounts : am_M := (yX12_allCounts, cX12_allCounts, 5, (some .long))
theorem cw_X12_allCounts : am_cwd M_X12_allCounts 1 := ⟨(tb_6 (i := 189) (by decide +kernel)), (tb_1 (i := 14) (by decide +kernel)), by decide +kernel, by decide⟩
theorem ins_X12_allCounts : Cond.instanceMethod yX12_allCounts ∈ lw_tbl := (tb_6 (i := 188) (by decide +kernel))
theorem sel_X12_allCounts : Cond.selects yX12_allCounts.cls yX12_allCounts yX12_allCounts ∈ lw_tbl := (tb_0 (i := 32) rfl)
abbrev cX12_count : ByteArray := prog_14_method_38_code
def yX12_count : MethodName := ⟨RX12, "count", "(II)J"⟩
abbrev M_X12_count : am_M := (yX12_count, cX12_count, 3, (some .long))
theorem cw_X12_count : am_cwd M_X12_count 2 := ⟨(tb_6 (i := 185) (by decide +kernel)), (tb_1 (i := 14) (by decide +kernel)), by decide +kernel, by decide⟩
theorem ins_X12_count : Cond.instanceMethod yX12_count ∈ lw_tbl := (tb_6 (i := 183) (by decide +kernel))
theorem sel_X12_count : Cond.selects yX12_count.cls yX12_count yX12_count ∈ lw_tbl := (tb_6 (i := 184) (by decide +kernel))
abbrev cX12_putIn : ByteArray := prog_14_method_39_code
def yX12_putIn : MethodName := ⟨RX12, "putIn", "(I)J"⟩
abbrev M_X12_putIn : am_M := (yX12_putIn, cX12_putIn, 2, (some .long))
theorem cw_X12_putIn : am_cwd M_X12_putIn 1 := ⟨(tb_6 (i := 217) (by decide +kernel)), (tb_1 (i := 14) (by decide +kernel)), by decide +kernel, by decide⟩
theorem ins_X12_putIn : Cond.instanceMethod yX12_putIn ∈ lw_tbl := (tb_6 (i := 216) (by decide +kernel))
theorem sel_X12_putIn : Cond.selects yX12_putIn.cls yX12_putIn yX12_putIn ∈ lw_tbl := (tb_0 (i := 37) rfl)
abbrev cX12_drawn : ByteArray := prog_14_method_40_code
def yX12_drawn : MethodName := ⟨RX12, "drawn", "(I)J"⟩
abbrev M_X12_drawn : am_M := (yX12_drawn, cX12_drawn, 2, (some .long))
theorem cw_X12_drawn : am_cwd M_X12_drawn 1 := ⟨(tb_6 (i := 221) (by decide +kernel)), (tb_1 (i := 14) (by decide +kernel)), by decide +kernel, by decide⟩
theorem ins_X12_drawn : Cond.instanceMethod yX12_drawn ∈ lw_tbl := (tb_6 (i := 220) (by decide +kernel))
theorem sel_X12_drawn : Cond.selects yX12_drawn.cls yX12_drawn yX12_drawn ∈ lw_tbl := (tb_0 (i := 38) rfl)
abbrev cX12_wetBy : ByteArray := prog_14_method_41_code
def yX12_wetBy : MethodName := ⟨RX12, "wetBy", "(I)J"⟩
abbrev M_X12_wetBy : am_M := (yX12_wetBy, cX12_wetBy, 4, (some .long))
theorem cw_X12_wetBy : am_cwd M_X12_wetBy 1 := ⟨(tb_6 (i := 213) (by decide +kernel)), (tb_1 (i := 14) (by decide +kernel)), by decide +kernel, by decide⟩
theorem ins_X12_wetBy : Cond.instanceMethod yX12_wetBy ∈ lw_tbl := (tb_6 (i := 212) (by decide +kernel))
theorem sel_X12_wetBy : Cond.selects yX12_wetBy.cls yX12_wetBy yX12_wetBy ∈ lw_tbl := (tb_0 (i := 36) rfl)
abbrev cX12_findTide : ByteArray := prog_14_method_42_code
def yX12_findTide : MethodName := ⟨RX12, "findTide", "(J)V"⟩
abbrev M_X12_findTide : am_M := (yX12_findTide, cX12_findTide, 12, none)
theorem cw_X12_findTide : am_cwd M_X12_findTide 1 := ⟨(tb_6 (i := 209) (by decide +kernel)), (tb_1 (i := 14) (by decide +kernel)), by decide +kernel, by decide⟩
theorem ins_X12_findTide : Cond.instanceMethod yX12_findTide ∈ lw_tbl := (tb_6 (i := 208) (by decide +kernel))
theorem sel_X12_findTide : Cond.selects yX12_findTide.cls yX12_findTide yX12_findTide ∈ lw_tbl := (tb_0 (i := 35) rfl)
abbrev cX12_lowest : ByteArray := prog_14_method_43_code
def yX12_lowest : MethodName := ⟨RX12, "lowest", "(I)I"⟩
abbrev M_X12_lowest : am_M := (yX12_lowest, cX12_lowest, 4, (some .int))
theorem cw_X12_lowest : am_cwd M_X12_lowest 1 := ⟨(tb_6 (i := 225) (by decide +kernel)), (tb_1 (i := 14) (by decide +kernel)), by decide +kernel, by decide⟩
theorem ins_X12_lowest : Cond.instanceMethod yX12_lowest ∈ lw_tbl := (tb_6 (i := 224) (by decide +kernel))
theorem sel_X12_lowest : Cond.selects yX12_lowest.cls yX12_lowest yX12_lowest ∈ lw_tbl := (tb_0 (i := 39) rfl)
abbrev cX12_dealtTo : ByteArray := prog_14_method_44_code
def yX12_dealtTo : MethodName := ⟨RX12, "dealtTo", "(IIJ)J"⟩
abbrev M_X12_dealtTo : am_M := (yX12_dealtTo, cX12_dealtTo, 11, (some .long))
theorem cw_X12_dealtTo : am_cwd M_X12_dealtTo 3 := ⟨(tb_6 (i := 205) (by decide +kernel)), (tb_1 (i := 14) (by decide +kernel)), by decide +kernel, by decide⟩
theorem ins_X12_dealtTo : Cond.instanceMethod yX12_dealtTo ∈ lw_tbl := (tb_6 (i := 204) (by decide +kernel))
theorem sel_X12_dealtTo : Cond.selects yX12_dealtTo.cls yX12_dealtTo yX12_dealtTo ∈ lw_tbl := (tb_0 (i := 34) rfl)
abbrev cX12_isDealt : ByteArray := prog_14_method_45_code
def yX12_isDealt : MethodName := ⟨RX12, "isDealt", "(I)Z"⟩
abbrev M_X12_isDealt : am_M := (yX12_isDealt, cX12_isDealt, 1, (some .boolean))
theorem cw_X12_isDealt : am_cwd M_X12_isDealt 1 := ⟨(tb_6 (i := 200) (by decide +kernel)), (tb_1 (i := 14) (by decide +kernel)), by decide +kernel, by decide⟩
theorem sta_X12_isDealt : Cond.static yX12_isDealt ∈ lw_tbl := (tb_6 (i := 199) (by decide +kernel))
abbrev cX12_dealt : ByteArray := prog_14_method_46_code
def yX12_dealt : MethodName := ⟨RX12, "dealt", "(III)J"⟩
abbrev M_X12_dealt : am_M := (yX12_dealt, cX12_dealt, 4, (some .long))
theorem cw_X12_dealt : am_cwd M_X12_dealt 3 := ⟨(tb_6 (i := 197) (by decide +kernel)), (tb_1 (i := 14) (by decide +kernel)), by decide +kernel, by decide⟩
theorem ins_X12_dealt : Cond.instanceMethod yX12_dealt ∈ lw_tbl := (tb_6 (i := 195) (by decide +kernel))
theorem sel_X12_dealt : Cond.selects yX12_dealt.cls yX12_dealt yX12_dealt ∈ lw_tbl := (tb_6 (i := 196) (by decide +kernel))
abbrev cX12_tide : ByteArray := prog_14_method_47_code
def yX12_tide : MethodName := ⟨RX12, "tide", "(I)I"⟩
abbrev M_X12_tide : am_M := (yX12_tide, cX12_tide, 2, (some .int))
theorem cw_X12_tide : am_cwd M_X12_tide 1 := ⟨(tb_6 (i := 229) (by decide +kernel)), (tb_1 (i := 14) (by decide +kernel)), by decide +kernel, by decide⟩
theorem ins_X12_tide : Cond.instanceMethod yX12_tide ∈ lw_tbl := (tb_6 (i := 227) (by decide +kernel))
theorem sel_X12_tide : Cond.selects yX12_tide.cls yX12_tide yX12_tide ∈ lw_tbl := (tb_6 (i := 228) (by decide +kernel))
abbrev cX12_moved : ByteArray := prog_14_method_48_code
def yX12_moved : MethodName := ⟨RX12, "moved", "(II)I"⟩
abbrev M_X12_moved : am_M := (yX12_moved, cX12_moved, 7, (some .int))
theorem cw_X12_moved : am_cwd M_X12_moved 2 := ⟨(tb_6 (i := 233) (by decide +kernel)), (tb_1 (i := 14) (by decide +kernel)), by decide +kernel, by decide⟩
theorem ins_X12_moved : Cond.instanceMethod yX12_moved ∈ lw_tbl := (tb_6 (i := 231) (by decide +kernel))
theorem sel_X12_moved : Cond.selects yX12_moved.cls yX12_moved yX12_moved ∈ lw_tbl := (tb_6 (i := 232) (by decide +kernel))
abbrev cX12_gift : ByteArray := prog_14_method_49_code
def yX12_gift : MethodName := ⟨RX12, "gift", "(IIII)I"⟩
abbrev M_X12_gift : am_M := (yX12_gift, cX12_gift, 6, (some .int))
theorem cw_X12_gift : am_cwd M_X12_gift 4 := ⟨(tb_6 (i := 237) (by decide +kernel)), (tb_1 (i := 14) (by decide +kernel)), by decide +kernel, by decide⟩
theorem ins_X12_gift : Cond.instanceMethod yX12_gift ∈ lw_tbl := (tb_6 (i := 235) (by decide +kernel))
theorem sel_X12_gift : Cond.selects yX12_gift.cls yX12_gift yX12_gift ∈ lw_tbl := (tb_6 (i := 236) (by decide +kernel))
abbrev cX12_years : ByteArray := prog_14_method_50_code
def yX12_years : MethodName := ⟨RX12, "years", "(II)I"⟩
abbrev M_X12_years : am_M := (yX12_years, cX12_years, 3, (some .int))
theorem cw_X12_years : am_cwd M_X12_years 2 := ⟨(tb_7 (i := 1) (by decide +kernel)), (tb_1 (i := 14) (by decide +kernel)), by decide +kernel, by decide⟩
theorem ins_X12_years : Cond.instanceMethod yX12_years ∈ lw_tbl := (tb_6 (i := 239) (by decide +kernel))
theorem sel_X12_years : Cond.selects yX12_years.cls yX12_years yX12_years ∈ lw_tbl := (tb_7 (i := 0) (by decide +kernel))
abbrev cX12_toTake : ByteArray := prog_14_method_51_code
def yX12_toTake : MethodName := ⟨RX12, "toTake", "(I)J"⟩
abbrev M_X12_toTake : am_M := (yX12_toTake, cX12_toTake, 8, (some .long))
theorem cw_X12_toTake : am_cwd M_X12_toTake 1 := ⟨(tb_7 (i := 9) (by decide +kernel)), (tb_1 (i := 14) (by decide +kernel)), by decide +kernel, by decide⟩
theorem ins_X12_toTake : Cond.instanceMethod yX12_toTake ∈ lw_tbl := (tb_7 (i := 8) (by decide +kernel))
theorem sel_X12_toTake : Cond.selects yX12_toTake.cls yX12_toTake yX12_toTake ∈ lw_tbl := (tb_0 (i := 40) rfl)
abbrev cX12_take : ByteArray := prog_14_method_52_code
def yX12_take : MethodName := ⟨RX12, "take", "(II)J"⟩
abbrev M_X12_take : am_M := (yX12_take, cX12_take, 8, (some .long))
theorem cw_X12_take : am_cwd M_X12_take 2 := ⟨(tb_7 (i := 5) (by decide +kernel)), (tb_1 (i := 14) (by decide +kernel)), by decide +kernel, by decide⟩
theorem ins_X12_take : Cond.instanceMethod yX12_take ∈ lw_tbl := (tb_7 (i := 3) (by decide +kernel))
theorem sel_X12_take : Cond.selects yX12_take.cls yX12_take yX12_take ∈ lw_tbl := (tb_7 (i := 4) (by decide +kernel))
abbrev cX12_isHouse : ByteArray := prog_14_method_53_code
def yX12_isHouse : MethodName := ⟨RX12, "isHouse", "(I)Z"⟩
abbrev M_X12_isHouse : am_M := (yX12_isHouse, cX12_isHouse, 1, (some .boolean))
theorem cw_X12_isHouse : am_cwd M_X12_isHouse 1 := ⟨(tb_7 (i := 16) (by decide +kernel)), (tb_1 (i := 14) (by decide +kernel)), by decide +kernel, by decide⟩
theorem sta_X12_isHouse : Cond.static yX12_isHouse ∈ lw_tbl := (tb_7 (i := 15) (by decide +kernel))
abbrev cX12_coin : ByteArray := prog_14_method_54_code
def yX12_coin : MethodName := ⟨RX12, "coin", "(II)I"⟩
abbrev M_X12_coin : am_M := (yX12_coin, cX12_coin, 4, (some .int))
theorem cw_X12_coin : am_cwd M_X12_coin 2 := ⟨(tb_7 (i := 13) (by decide +kernel)), (tb_1 (i := 14) (by decide +kernel)), by decide +kernel, by decide⟩
theorem ins_X12_coin : Cond.instanceMethod yX12_coin ∈ lw_tbl := (tb_7 (i := 11) (by decide +kernel))
theorem sel_X12_coin : Cond.selects yX12_coin.cls yX12_coin yX12_coin ∈ lw_tbl := (tb_7 (i := 12) (by decide +kernel))
abbrev cX12_due : ByteArray := prog_14_method_55_code
def yX12_due : MethodName := ⟨RX12, "due", "(III)I"⟩
abbrev M_X12_due : am_M := (yX12_due, cX12_due, 5, (some .int))
theorem cw_X12_due : am_cwd M_X12_due 3 := ⟨(tb_7 (i := 20) (by decide +kernel)), (tb_1 (i := 14) (by decide +kernel)), by decide +kernel, by decide⟩
theorem ins_X12_due : Cond.instanceMethod yX12_due ∈ lw_tbl := (tb_7 (i := 18) (by decide +kernel))
theorem sel_X12_due : Cond.selects yX12_due.cls yX12_due yX12_due ∈ lw_tbl := (tb_7 (i := 19) (by decide +kernel))
abbrev cX12_struck : ByteArray := prog_14_method_56_code
def yX12_struck : MethodName := ⟨RX12, "struck", "(Z)I"⟩
abbrev M_X12_struck : am_M := (yX12_struck, cX12_struck, 2, (some .int))
theorem cw_X12_struck : am_cwd M_X12_struck 1 := ⟨(tb_7 (i := 24) (by decide +kernel)), (tb_1 (i := 14) (by decide +kernel)), by decide +kernel, by decide⟩
theorem ins_X12_struck : Cond.instanceMethod yX12_struck ∈ lw_tbl := (tb_7 (i := 22) (by decide +kernel))
theorem sel_X12_struck : Cond.selects yX12_struck.cls yX12_struck yX12_struck ∈ lw_tbl := (tb_7 (i := 23) (by decide +kernel))
abbrev cX12_findPays : ByteArray := prog_14_method_57_code
def yX12_findPays : MethodName := ⟨RX12, "findPays", "(Z)V"⟩
abbrev M_X12_findPays : am_M := (yX12_findPays, cX12_findPays, 7, none)
theorem cw_X12_findPays : am_cwd M_X12_findPays 1 := ⟨(tb_7 (i := 32) (by decide +kernel)), (tb_1 (i := 14) (by decide +kernel)), by decide +kernel, by decide⟩
theorem ins_X12_findPays : Cond.instanceMethod yX12_findPays ∈ lw_tbl := (tb_7 (i := 31) (by decide +kernel))
theorem sel_X12_findPays : Cond.selects yX12_findPays.cls yX12_findPays yX12_findPays ∈ lw_tbl := (tb_0 (i := 41) rfl)
abbrev cX12_pays : ByteArray := prog_14_method_58_code
def yX12_pays : MethodName := ⟨RX12, "pays", "(II)I"⟩
abbrev M_X12_pays : am_M := (yX12_pays, cX12_pays, 3, (some .int))
theorem cw_X12_pays : am_cwd M_X12_pays 2 := ⟨(tb_7 (i := 28) (by decide +kernel)), (tb_1 (i := 14) (by decide +kernel)), by decide +kernel, by decide⟩
theorem ins_X12_pays : Cond.instanceMethod yX12_pays ∈ lw_tbl := (tb_7 (i := 26) (by decide +kernel))
theorem sel_X12_pays : Cond.selects yX12_pays.cls yX12_pays yX12_pays ∈ lw_tbl := (tb_7 (i := 27) (by decide +kernel))
abbrev cX12_rounds : ByteArray := prog_14_method_59_code
def yX12_rounds : MethodName := ⟨RX12, "rounds", "(II)I"⟩
abbrev M_X12_rounds : am_M := (yX12_rounds, cX12_rounds, 5, (some .int))
theorem cw_X12_rounds : am_cwd M_X12_rounds 2 := ⟨(tb_7 (i := 36) (by decide +kernel)), (tb_1 (i := 14) (by decide +kernel)), by decide +kernel, by decide⟩
theorem ins_X12_rounds : Cond.instanceMethod yX12_rounds ∈ lw_tbl := (tb_7 (i := 34) (by decide +kernel))
theorem sel_X12_rounds : Cond.selects yX12_rounds.cls yX12_rounds yX12_rounds ∈ lw_tbl := (tb_7 (i := 35) (by decide +kernel))
abbrev cX12_letter : ByteArray := prog_14_method_60_code
def yX12_letter : MethodName := ⟨RX12, "letter", "(III)I"⟩
abbrev M_X12_letter : am_M := (yX12_letter, cX12_letter, 5, (some .int))
theorem cw_X12_letter : am_cwd M_X12_letter 3 := ⟨(tb_7 (i := 40) (by decide +kernel)), (tb_1 (i := 14) (by decide +kernel)), by decide +kernel, by decide⟩
theorem ins_X12_letter : Cond.instanceMethod yX12_letter ∈ lw_tbl := (tb_7 (i := 38) (by decide +kernel))
theorem sel_X12_letter : Cond.selects yX12_letter.cls yX12_letter yX12_letter ∈ lw_tbl := (tb_7 (i := 39) (by decide +kernel))
abbrev cX12_write : ByteArray := prog_14_method_61_code
def yX12_write : MethodName := ⟨RX12, "write", "(I)I"⟩
abbrev M_X12_write : am_M := (yX12_write, cX12_write, 2, (some .int))
theorem cw_X12_write : am_cwd M_X12_write 1 := ⟨(tb_7 (i := 44) (by decide +kernel)), (tb_1 (i := 14) (by decide +kernel)), by decide +kernel, by decide⟩
theorem ins_X12_write : Cond.instanceMethod yX12_write ∈ lw_tbl := (tb_7 (i := 42) (by decide +kernel))
theorem sel_X12_write : Cond.selects yX12_write.cls yX12_write yX12_write ∈ lw_tbl := (tb_7 (i := 43) (by decide +kernel))
abbrev cX12_erase : ByteArray := prog_14_method_62_code
def yX12_erase : MethodName := ⟨RX12, "erase", "()I"⟩
abbrev M_X12_erase : am_M := (yX12_erase, cX12_erase, 2, (some .int))
theorem cw_X12_erase : am_cwd M_X12_erase 0 := ⟨(tb_7 (i := 49) (by decide +kernel)), (tb_1 (i := 14) (by decide +kernel)), by decide +kernel, by decide⟩
theorem ins_X12_erase : Cond.instanceMethod yX12_erase ∈ lw_tbl := (tb_7 (i := 47) (by decide +kernel))
theorem sel_X12_erase : Cond.selects yX12_erase.cls yX12_erase yX12_erase ∈ lw_tbl := (tb_7 (i := 48) (by decide +kernel))
abbrev cX12_ahead : ByteArray := prog_14_method_63_code
def yX12_ahead : MethodName := ⟨RX12, "ahead", "()I"⟩
abbrev M_X12_ahead : am_M := (yX12_ahead, cX12_ahead, 1, (some .int))
theorem cw_X12_ahead : am_cwd M_X12_ahead 0 := ⟨(tb_7 (i := 61) (by decide +kernel)), (tb_1 (i := 14) (by decide +kernel)), by decide +kernel, by decide⟩
theorem ins_X12_ahead : Cond.instanceMethod yX12_ahead ∈ lw_tbl := (tb_7 (i := 60) (by decide +kernel))
theorem sel_X12_ahead : Cond.selects yX12_ahead.cls yX12_ahead yX12_ahead ∈ lw_tbl := (tb_0 (i := 43) rfl)
abbrev cX12_rank : ByteArray := prog_14_method_64_code
def yX12_rank : MethodName := ⟨RX12, "rank", "(I)I"⟩
abbrev M_X12_rank : am_M := (yX12_rank, cX12_rank, 1, (some .int))
theorem cw_X12_rank : am_cwd M_X12_rank 1 := ⟨(tb_7 (i := 82) (by decide +kernel)), (tb_1 (i := 14) (by decide +kernel)), by decide +kernel, by decide⟩
theorem sta_X12_rank : Cond.static yX12_rank ∈ lw_tbl := (tb_7 (i := 81) (by decide +kernel))
abbrev cX12_works : ByteArray := prog_14_method_65_code
def yX12_works : MethodName := ⟨RX12, "works", "()V"⟩
abbrev M_X12_works : am_M := (yX12_works, cX12_works, 7, none)
theorem cw_X12_works : am_cwd M_X12_works 0 := ⟨(tb_7 (i := 86) (by decide +kernel)), (tb_1 (i := 14) (by decide +kernel)), by decide +kernel, by decide⟩
theorem ins_X12_works : Cond.instanceMethod yX12_works ∈ lw_tbl := (tb_7 (i := 85) (by decide +kernel))
theorem sel_X12_works : Cond.selects yX12_works.cls yX12_works yX12_works ∈ lw_tbl := (tb_0 (i := 47) rfl)
abbrev cX12_worksDown : ByteArray := prog_14_method_66_code
def yX12_worksDown : MethodName := ⟨RX12, "worksDown", "(I)V"⟩
abbrev M_X12_worksDown : am_M := (yX12_worksDown, cX12_worksDown, 2, none)
theorem cw_X12_worksDown : am_cwd M_X12_worksDown 1 := ⟨(tb_7 (i := 79) (by decide +kernel)), (tb_1 (i := 14) (by decide +kernel)), by decide +kernel, by decide⟩
theorem ins_X12_worksDown : Cond.instanceMethod yX12_worksDown ∈ lw_tbl := (tb_7 (i := 78) (by decide +kernel))
theorem sel_X12_worksDown : Cond.selects yX12_worksDown.cls yX12_worksDown yX12_worksDown ∈ lw_tbl := (tb_0 (i := 46) rfl)
abbrev cX12_stands : ByteArray := prog_14_method_67_code
def yX12_stands : MethodName := ⟨RX12, "stands", "(J)V"⟩
abbrev M_X12_stands : am_M := (yX12_stands, cX12_stands, 5, none)
theorem cw_X12_stands : am_cwd M_X12_stands 1 := ⟨(tb_7 (i := 72) (by decide +kernel)), (tb_1 (i := 14) (by decide +kernel)), by decide +kernel, by decide⟩
theorem ins_X12_stands : Cond.instanceMethod yX12_stands ∈ lw_tbl := (tb_7 (i := 71) (by decide +kernel))
theorem sel_X12_stands : Cond.selects yX12_stands.cls yX12_stands yX12_stands ∈ lw_tbl := (tb_0 (i := 45) rfl)
abbrev cX12_nameOf : ByteArray := prog_14_method_68_code
def yX12_nameOf : MethodName := ⟨RX12, "nameOf", "(I)I"⟩
abbrev M_X12_nameOf : am_M := (yX12_nameOf, cX12_nameOf, 1, (some .int))
theorem cw_X12_nameOf : am_cwd M_X12_nameOf 1 := ⟨(tb_7 (i := 75) (by decide +kernel)), (tb_1 (i := 14) (by decide +kernel)), by decide +kernel, by decide⟩
theorem sta_X12_nameOf : Cond.static yX12_nameOf ∈ lw_tbl := (tb_7 (i := 74) (by decide +kernel))
abbrev cX12_digits : ByteArray := prog_14_method_69_code
def yX12_digits : MethodName := ⟨RX12, "digits", "()J"⟩
abbrev M_X12_digits : am_M := (yX12_digits, cX12_digits, 4, (some .long))
theorem cw_X12_digits : am_cwd M_X12_digits 0 := ⟨(tb_7 (i := 68) (by decide +kernel)), (tb_1 (i := 14) (by decide +kernel)), by decide +kernel, by decide⟩
theorem ins_X12_digits : Cond.instanceMethod yX12_digits ∈ lw_tbl := (tb_7 (i := 67) (by decide +kernel))
theorem sel_X12_digits : Cond.selects yX12_digits.cls yX12_digits yX12_digits ∈ lw_tbl := (tb_0 (i := 44) rfl)
abbrev cX12_reads : ByteArray := prog_14_method_70_code
def yX12_reads : MethodName := ⟨RX12, "reads", "()Z"⟩
abbrev M_X12_reads : am_M := (yX12_reads, cX12_reads, 5, (some .boolean))
theorem cw_X12_reads : am_cwd M_X12_reads 0 := ⟨(tb_7 (i := 57) (by decide +kernel)), (tb_1 (i := 14) (by decide +kernel)), by decide +kernel, by decide⟩
theorem ins_X12_reads : Cond.instanceMethod yX12_reads ∈ lw_tbl := (tb_7 (i := 56) (by decide +kernel))
theorem sel_X12_reads : Cond.selects yX12_reads.cls yX12_reads yX12_reads ∈ lw_tbl := (tb_0 (i := 42) rfl)
abbrev cX12_fault : ByteArray := prog_14_method_71_code
def yX12_fault : MethodName := ⟨RX12, "fault", "()I"⟩
abbrev M_X12_fault : am_M := (yX12_fault, cX12_fault, 2, (some .int))
theorem cw_X12_fault : am_cwd M_X12_fault 0 := ⟨(tb_7 (i := 53) (by decide +kernel)), (tb_1 (i := 14) (by decide +kernel)), by decide +kernel, by decide⟩
theorem ins_X12_fault : Cond.instanceMethod yX12_fault ∈ lw_tbl := (tb_7 (i := 51) (by decide +kernel))
theorem sel_X12_fault : Cond.selects yX12_fault.cls yX12_fault yX12_fault ∈ lw_tbl := (tb_7 (i := 52) (by decide +kernel))
abbrev cX12_lay : ByteArray := prog_14_method_72_code
def yX12_lay : MethodName := ⟨RX12, "lay", "(I)V"⟩
abbrev M_X12_lay : am_M := (yX12_lay, cX12_lay, 5, none)
theorem cw_X12_lay : am_cwd M_X12_lay 1 := ⟨(tb_7 (i := 95) (by decide +kernel)), (tb_1 (i := 14) (by decide +kernel)), by decide +kernel, by decide⟩
theorem ins_X12_lay : Cond.instanceMethod yX12_lay ∈ lw_tbl := (tb_7 (i := 94) (by decide +kernel))
theorem sel_X12_lay : Cond.selects yX12_lay.cls yX12_lay yX12_lay ∈ lw_tbl := (tb_0 (i := 48) rfl)
abbrev cX12_bound : ByteArray := prog_14_method_73_code
def yX12_bound : MethodName := ⟨RX12, "bound", "()J"⟩
abbrev M_X12_bound : am_M := (yX12_bound, cX12_bound, 5, (some .long))
theorem cw_X12_bound : am_cwd M_X12_bound 0 := ⟨(tb_7 (i := 90) (by decide +kernel)), (tb_1 (i := 14) (by decide +kernel)), by decide +kernel, by decide⟩
theorem ins_X12_bound : Cond.instanceMethod yX12_bound ∈ lw_tbl := (tb_7 (i := 88) (by decide +kernel))
theorem sel_X12_bound : Cond.selects yX12_bound.cls yX12_bound yX12_bound ∈ lw_tbl := (tb_7 (i := 89) (by decide +kernel))
abbrev cX12_lost : ByteArray := prog_14_method_74_code
def yX12_lost : MethodName := ⟨RX12, "lost", "(I)J"⟩
abbrev M_X12_lost : am_M := (yX12_lost, cX12_lost, 7, (some .long))
theorem cw_X12_lost : am_cwd M_X12_lost 1 := ⟨(tb_7 (i := 99) (by decide +kernel)), (tb_1 (i := 14) (by decide +kernel)), by decide +kernel, by decide⟩
theorem ins_X12_lost : Cond.instanceMethod yX12_lost ∈ lw_tbl := (tb_7 (i := 97) (by decide +kernel))
theorem sel_X12_lost : Cond.selects yX12_lost.cls yX12_lost yX12_lost ∈ lw_tbl := (tb_7 (i := 98) (by decide +kernel))
abbrev cX12_hand : ByteArray := prog_14_method_75_code
def yX12_hand : MethodName := ⟨RX12, "hand", "(II)I"⟩
abbrev M_X12_hand : am_M := (yX12_hand, cX12_hand, 4, (some .int))
theorem cw_X12_hand : am_cwd M_X12_hand 2 := ⟨(tb_7 (i := 103) (by decide +kernel)), (tb_1 (i := 14) (by decide +kernel)), by decide +kernel, by decide⟩
theorem ins_X12_hand : Cond.instanceMethod yX12_hand ∈ lw_tbl := (tb_7 (i := 101) (by decide +kernel))
theorem sel_X12_hand : Cond.selects yX12_hand.cls yX12_hand yX12_hand ∈ lw_tbl := (tb_7 (i := 102) (by decide +kernel))
abbrev cX12_mayHave : ByteArray := prog_14_method_76_code
def yX12_mayHave : MethodName := ⟨RX12, "mayHave", "(I)I"⟩
abbrev M_X12_mayHave : am_M := (yX12_mayHave, cX12_mayHave, 5, (some .int))
theorem cw_X12_mayHave : am_cwd M_X12_mayHave 1 := ⟨(tb_7 (i := 120) (by decide +kernel)), (tb_1 (i := 14) (by decide +kernel)), by decide +kernel, by decide⟩
theorem ins_X12_mayHave : Cond.instanceMethod yX12_mayHave ∈ lw_tbl := (tb_7 (i := 119) (by decide +kernel))
theorem sel_X12_mayHave : Cond.selects yX12_mayHave.cls yX12_mayHave yX12_mayHave ∈ lw_tbl := (tb_0 (i := 50) rfl)
abbrev cX12_size : ByteArray := prog_14_method_77_code
def yX12_size : MethodName := ⟨RX12, "size", "(I)I"⟩
abbrev M_X12_size : am_M := (yX12_size, cX12_size, 3, (some .int))
theorem cw_X12_size : am_cwd M_X12_size 1 := ⟨(tb_7 (i := 112) (by decide +kernel)), (tb_1 (i := 14) (by decide +kernel)), by decide +kernel, by decide⟩
theorem sta_X12_size : Cond.static yX12_size ∈ lw_tbl := (tb_7 (i := 111) (by decide +kernel))
abbrev cX12_doesHave : ByteArray := prog_14_method_78_code
def yX12_doesHave : MethodName := ⟨RX12, "doesHave", "(I)Z"⟩
abbrev M_X12_doesHave : am_M := (yX12_doesHave, cX12_doesHave, 4, (some .boolean))
theorem cw_X12_doesHave : am_cwd M_X12_doesHave 1 := ⟨(tb_7 (i := 116) (by decide +kernel)), (tb_1 (i := 14) (by decide +kernel)), by decide +kernel, by decide⟩
theorem ins_X12_doesHave : Cond.instanceMethod yX12_doesHave ∈ lw_tbl := (tb_7 (i := 115) (by decide +kernel))
theorem sel_X12_doesHave : Cond.selects yX12_doesHave.cls yX12_doesHave yX12_doesHave ∈ lw_tbl := (tb_0 (i := 49) rfl)
abbrev cX12_whose : ByteArray := prog_14_method_79_code
def yX12_whose : MethodName := ⟨RX12, "whose", "(I)I"⟩
abbrev M_X12_whose : am_M := (yX12_whose, cX12_whose, 7, (some .int))
theorem cw_X12_whose : am_cwd M_X12_whose 1 := ⟨(tb_7 (i := 109) (by decide +kernel)), (tb_1 (i := 14) (by decide +kernel)), by decide +kernel, by decide⟩
theorem ins_X12_whose : Cond.instanceMethod yX12_whose ∈ lw_tbl := (tb_7 (i := 107) (by decide +kernel))
theorem sel_X12_whose : Cond.selects yX12_whose.cls yX12_whose yX12_whose ∈ lw_tbl := (tb_7 (i := 108) (by decide +kernel))
abbrev cX12_suit : ByteArray := prog_14_method_80_code
def yX12_suit : MethodName := ⟨RX12, "suit", "(III)I"⟩
abbrev M_X12_suit : am_M := (yX12_suit, cX12_suit, 5, (some .int))
theorem cw_X12_suit : am_cwd M_X12_suit 3 := ⟨(tb_7 (i := 124) (by decide +kernel)), (tb_1 (i := 14) (by decide +kernel)), by decide +kernel, by decide⟩
theorem ins_X12_suit : Cond.instanceMethod yX12_suit ∈ lw_tbl := (tb_7 (i := 122) (by decide +kernel))
theorem sel_X12_suit : Cond.selects yX12_suit.cls yX12_suit yX12_suit ∈ lw_tbl := (tb_7 (i := 123) (by decide +kernel))
abbrev cX12_best : ByteArray := prog_14_method_81_code
def yX12_best : MethodName := ⟨RX12, "best", "(II)I"⟩
abbrev M_X12_best : am_M := (yX12_best, cX12_best, 14, (some .int))
theorem cw_X12_best : am_cwd M_X12_best 2 := ⟨(tb_7 (i := 129) (by decide +kernel)), (tb_1 (i := 14) (by decide +kernel)), by decide +kernel, by decide⟩
theorem ins_X12_best : Cond.instanceMethod yX12_best ∈ lw_tbl := (tb_7 (i := 127) (by decide +kernel))
theorem sel_X12_best : Cond.selects yX12_best.cls yX12_best yX12_best ∈ lw_tbl := (tb_7 (i := 128) (by decide +kernel))
abbrev cX12_sealOf : ByteArray := prog_14_method_82_code
def yX12_sealOf : MethodName := ⟨RX12, "sealOf", "(II)I"⟩
abbrev M_X12_sealOf : am_M := (yX12_sealOf, cX12_sealOf, 5, (some .int))
theorem cw_X12_sealOf : am_cwd M_X12_sealOf 2 := ⟨(tb_7 (i := 137) (by decide +kernel)), (tb_1 (i := 14) (by decide +kernel)), by decide +kernel, by decide⟩
theorem ins_X12_sealOf : Cond.instanceMethod yX12_sealOf ∈ lw_tbl := (tb_7 (i := 136) (by decide +kernel))
theorem sel_X12_sealOf : Cond.selects yX12_sealOf.cls yX12_sealOf yX12_sealOf ∈ lw_tbl := (tb_0 (i := 51) rfl)
abbrev cX12_keep : ByteArray := prog_14_method_83_code
def yX12_keep : MethodName := ⟨RX12, "keep", "()I"⟩
abbrev M_X12_keep : am_M := (yX12_keep, cX12_keep, 2, (some .int))
theorem cw_X12_keep : am_cwd M_X12_keep 0 := ⟨(tb_7 (i := 133) (by decide +kernel)), (tb_1 (i := 14) (by decide +kernel)), by decide +kernel, by decide⟩
theorem ins_X12_keep : Cond.instanceMethod yX12_keep ∈ lw_tbl := (tb_7 (i := 131) (by decide +kernel))
theorem sel_X12_keep : Cond.selects yX12_keep.cls yX12_keep yX12_keep ∈ lw_tbl := (tb_7 (i := 132) (by decide +kernel))
abbrev cX12_alter : ByteArray := prog_14_method_84_code
def yX12_alter : MethodName := ⟨RX12, "alter", "(II)I"⟩
abbrev M_X12_alter : am_M := (yX12_alter, cX12_alter, 3, (some .int))
theorem cw_X12_alter : am_cwd M_X12_alter 2 := ⟨(tb_7 (i := 141) (by decide +kernel)), (tb_1 (i := 14) (by decide +kernel)), by decide +kernel, by decide⟩
theorem ins_X12_alter : Cond.instanceMethod yX12_alter ∈ lw_tbl := (tb_7 (i := 139) (by decide +kernel))
theorem sel_X12_alter : Cond.selects yX12_alter.cls yX12_alter yX12_alter ∈ lw_tbl := (tb_7 (i := 140) (by decide +kernel))
abbrev cX12_inverse : ByteArray := prog_14_method_85_code
def yX12_inverse : MethodName := ⟨RX12, "inverse", "(I)I"⟩
abbrev M_X12_inverse : am_M := (yX12_inverse, cX12_inverse, 3, (some .int))
theorem cw_X12_inverse : am_cwd M_X12_inverse 1 := ⟨(tb_7 (i := 151) (by decide +kernel)), (tb_1 (i := 14) (by decide +kernel)), by decide +kernel, by decide⟩
theorem sta_X12_inverse : Cond.static yX12_inverse ∈ lw_tbl := (tb_7 (i := 150) (by decide +kernel))
abbrev cX12_wrapped : ByteArray := prog_14_method_86_code
def yX12_wrapped : MethodName := ⟨RX12, "wrapped", "(II)I"⟩
abbrev M_X12_wrapped : am_M := (yX12_wrapped, cX12_wrapped, 4, (some .int))
theorem cw_X12_wrapped : am_cwd M_X12_wrapped 2 := ⟨(tb_7 (i := 148) (by decide +kernel)), (tb_1 (i := 14) (by decide +kernel)), by decide +kernel, by decide⟩
theorem sta_X12_wrapped : Cond.static yX12_wrapped ∈ lw_tbl := (tb_7 (i := 147) (by decide +kernel))
abbrev cX12_check : ByteArray := prog_14_method_87_code
def yX12_check : MethodName := ⟨RX12, "check", "(I)I"⟩
abbrev M_X12_check : am_M := (yX12_check, cX12_check, 8, (some .int))
theorem cw_X12_check : am_cwd M_X12_check 1 := ⟨(tb_7 (i := 145) (by decide +kernel)), (tb_1 (i := 14) (by decide +kernel)), by decide +kernel, by decide⟩
theorem ins_X12_check : Cond.instanceMethod yX12_check ∈ lw_tbl := (tb_7 (i := 143) (by decide +kernel))
theorem sel_X12_check : Cond.selects yX12_check.cls yX12_check yX12_check ∈ lw_tbl := (tb_7 (i := 144) (by decide +kernel))
abbrev cX12_image : ByteArray := prog_14_method_88_code
def yX12_image : MethodName := ⟨RX12, "image", "(I)I"⟩
abbrev M_X12_image : am_M := (yX12_image, cX12_image, 3, (some .int))
theorem cw_X12_image : am_cwd M_X12_image 1 := ⟨(tb_7 (i := 155) (by decide +kernel)), (tb_1 (i := 14) (by decide +kernel)), by decide +kernel, by decide⟩
theorem ins_X12_image : Cond.instanceMethod yX12_image ∈ lw_tbl := (tb_7 (i := 153) (by decide +kernel))
theorem sel_X12_image : Cond.selects yX12_image.cls yX12_image yX12_image ∈ lw_tbl := (tb_7 (i := 154) (by decide +kernel))
abbrev cX12_from : ByteArray := prog_14_method_89_code
def yX12_from : MethodName := ⟨RX12, "from", "(I)I"⟩
abbrev M_X12_from : am_M := (yX12_from, cX12_from, 3, (some .int))
theorem cw_X12_from : am_cwd M_X12_from 1 := ⟨(tb_7 (i := 159) (by decide +kernel)), (tb_1 (i := 14) (by decide +kernel)), by decide +kernel, by decide⟩
theorem ins_X12_from : Cond.instanceMethod yX12_from ∈ lw_tbl := (tb_7 (i := 157) (by decide +kernel))
theorem sel_X12_from : Cond.selects yX12_from.cls yX12_from yX12_from ∈ lw_tbl := (tb_7 (i := 158) (by decide +kernel))
abbrev cX12_many : ByteArray := prog_14_method_90_code
def yX12_many : MethodName := ⟨RX12, "many", "(I)I"⟩
abbrev M_X12_many : am_M := (yX12_many, cX12_many, 4, (some .int))
theorem cw_X12_many : am_cwd M_X12_many 1 := ⟨(tb_7 (i := 163) (by decide +kernel)), (tb_1 (i := 14) (by decide +kernel)), by decide +kernel, by decide⟩
theorem ins_X12_many : Cond.instanceMethod yX12_many ∈ lw_tbl := (tb_7 (i := 161) (by decide +kernel))
theorem sel_X12_many : Cond.selects yX12_many.cls yX12_many yX12_many ∈ lw_tbl := (tb_7 (i := 162) (by decide +kernel))
abbrev cX12_sums : ByteArray := prog_14_method_91_code
def yX12_sums : MethodName := ⟨RX12, "sums", "(JII)J"⟩
abbrev M_X12_sums : am_M := (yX12_sums, cX12_sums, 8, (some .long))
theorem cw_X12_sums : am_cwd M_X12_sums 3 := ⟨(tb_7 (i := 175) (by decide +kernel)), (tb_1 (i := 14) (by decide +kernel)), by decide +kernel, by decide⟩
theorem ins_X12_sums : Cond.instanceMethod yX12_sums ∈ lw_tbl := (tb_7 (i := 174) (by decide +kernel))
theorem sel_X12_sums : Cond.selects yX12_sums.cls yX12_sums yX12_sums ∈ lw_tbl := (tb_0 (i := 52) rfl)
abbrev cX12_digest : ByteArray := prog_14_method_92_code
def yX12_digest : MethodName := ⟨RX12, "digest", "()J"⟩
abbrev M_X12_digest : am_M := (yX12_digest, cX12_digest, 4, (some .long))
theorem cw_X12_digest : am_cwd M_X12_digest 0 := ⟨(tb_7 (i := 167) (by decide +kernel)), (tb_1 (i := 14) (by decide +kernel)), by decide +kernel, by decide⟩
theorem ins_X12_digest : Cond.instanceMethod yX12_digest ∈ lw_tbl := (tb_7 (i := 165) (by decide +kernel))
theorem sel_X12_digest : Cond.selects yX12_digest.cls yX12_digest yX12_digest ∈ lw_tbl := (tb_7 (i := 166) (by decide +kernel))
abbrev cJ6_bitCount_0f7a4 : ByteArray := prog_16_method_49_code
def yJ6_bitCount_0f7a4 : MethodName := ⟨RJ6, "bitCount", "(I)I"⟩
abbrev M_J6_bitCount_0f7a4 : am_M := (yJ6_bitCount_0f7a4, cJ6_bitCount_0f7a4, 1, (some .int))
theorem cw_J6_bitCount_0f7a4 : am_cwd M_J6_bitCount_0f7a4 1 := ⟨(tb_5 (i := 49) (by decide +kernel)), (tb_1 (i := 22) (by decide +kernel)), by decide +kernel, by decide⟩
theorem sta_J6_bitCount_0f7a4 : Cond.static yJ6_bitCount_0f7a4 ∈ lw_tbl := (tb_5 (i := 48) (by decide +kernel))
abbrev cJ7_fill_d0a16 : ByteArray := prog_22_method_101_code
def yJ7_fill_d0a16 : MethodName := ⟨RJ7, "fill", "([JJ)V"⟩
abbrev M_J7_fill_d0a16 : am_M := (yJ7_fill_d0a16, cJ7_fill_d0a16, 5, none)
theorem cw_J7_fill_d0a16 : am_cwd M_J7_fill_d0a16 2 := ⟨(tb_4 (i := 41) (by decide +kernel)), (tb_1 (i := 6) (by decide +kernel)), by decide +kernel, by decide⟩
theorem sta_J7_fill_d0a16 : Cond.static yJ7_fill_d0a16 ∈ lw_tbl := (tb_4 (i := 40) (by decide +kernel))
abbrev cJ7_fill_53178 : ByteArray := prog_22_method_103_code
def yJ7_fill_53178 : MethodName := ⟨RJ7, "fill", "([II)V"⟩
abbrev M_J7_fill_53178 : am_M := (yJ7_fill_53178, cJ7_fill_53178, 4, none)
theorem cw_J7_fill_53178 : am_cwd M_J7_fill_53178 2 := ⟨(tb_1 (i := 196) (by decide +kernel)), (tb_1 (i := 6) (by decide +kernel)), by decide +kernel, by decide⟩
theorem sta_J7_fill_53178 : Cond.static yJ7_fill_53178 ∈ lw_tbl := (tb_1 (i := 195) (by decide +kernel))
