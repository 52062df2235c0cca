def am_fl (own : String) (index ci j : Nat) (C : String) (T : u_T) (N : Nat) : Prop := am_cls ci C T N ∧ j < N ∧ Cond.fieldLink own index (T j).1 (T j).2.1 (T j).2.2.1 ∈ lw_tbl
theorem fl_X0_9 : am_fl RX0 9 0 0 RX0 TX0 13 := ⟨cls_0, by decide, (tb_1 (i := 197) (by decide +kernel))⟩
theorem fl_X0_15 : am_fl RX0 15 0 1 RX0 TX0 13 := ⟨cls_0, by decide, (tb_1 (i := 199) (by decide +kernel))⟩
theorem fl_X0_18 : am_fl RX0 18 0 2 RX0 TX0 13 := ⟨cls_0, by decide, (tb_1 (i := 200) (by decide +kernel))⟩
theorem fl_X0_21 : am_fl RX0 21 0 3 RX0 TX0 13 := ⟨cls_0, by decide, (tb_1 (i := 201) (by decide +kernel))⟩
theorem fl_X0_24 : am_fl RX0 24 0 4 RX0 TX0 13 := ⟨cls_0, by decide, (tb_1 (i := 202) (by decide +kernel))⟩
theorem fl_X0_27 : am_fl RX0 27 0 6 RX0 TX0 13 := ⟨cls_0, by decide, (tb_1 (i := 205) (by decide +kernel))⟩
theorem fl_X0_31 : am_fl RX0 31 0 7 RX0 TX0 13 := ⟨cls_0, by decide, (tb_1 (i := 207) (by decide +kernel))⟩
theorem fl_X0_34 : am_fl RX0 34 0 8 RX0 TX0 13 := ⟨cls_0, by decide, (tb_1 (i := 209) (by decide +kernel))⟩
theorem fl_X0_37 : am_fl RX0 37 0 9 RX0 TX0 13 := ⟨cls_0, by decide, (tb_1 (i := 210) (by decide +kernel))⟩
theorem fl_X0_40 : am_fl RX0 40 0 10 RX0 TX0 13 := ⟨cls_0, by decide, (tb_1 (i := 211) (by decide +kernel))⟩
theorem fl_X0_43 : am_fl RX0 43 0 12 RX0 TX0 13 := ⟨cls_0, by decide, (tb_1 (i := 214) (by decide +kernel))⟩
theorem fl_X0_59 : am_fl RX0 59 4 2 RX4 TX4 20 := ⟨cls_4, by decide, (tb_1 (i := 48) (by decide +kernel))⟩
theorem fl_X0_66 : am_fl RX0 66 4 7 RX4 TX4 20 := ⟨cls_4, by decide, (tb_1 (i := 65) (by decide +kernel))⟩
theorem fl_X0_69 : am_fl RX0 69 4 4 RX4 TX4 20 := ⟨cls_4, by decide, (tb_1 (i := 57) (by decide +kernel))⟩
theorem fl_X0_72 : am_fl RX0 72 4 6 RX4 TX4 20 := ⟨cls_4, by decide, (tb_1 (i := 63) (by decide +kernel))⟩
theorem fl_X0_75 : am_fl RX0 75 4 8 RX4 TX4 20 := ⟨cls_4, by decide, (tb_1 (i := 68) (by decide +kernel))⟩
theorem fl_X0_78 : am_fl RX0 78 4 5 RX4 TX4 20 := ⟨cls_4, by decide, (tb_1 (i := 60) (by decide +kernel))⟩
theorem fl_X0_90 : am_fl RX0 90 4 3 RX4 TX4 20 := ⟨cls_4, by decide, (tb_1 (i := 54) (by decide +kernel))⟩
theorem fl_X0_103 : am_fl RX0 103 0 5 RX0 TX0 13 := ⟨cls_0, by decide, (tb_1 (i := 203) (by decide +kernel))⟩
theorem fl_X0_106 : am_fl RX0 106 4 1 RX4 TX4 20 := ⟨cls_4, by decide, (tb_1 (i := 46) (by decide +kernel))⟩
theorem fl_X0_123 : am_fl RX0 123 0 11 RX0 TX0 13 := ⟨cls_0, by decide, (tb_1 (i := 212) (by decide +kernel))⟩
theorem fl_X1_9 : am_fl RX1 9 1 1 RX1 TX1 9 := ⟨cls_1, by decide, (tb_2 (i := 149) (by decide +kernel))⟩
theorem fl_X1_15 : am_fl RX1 15 1 2 RX1 TX1 9 := ⟨cls_1, by decide, (tb_2 (i := 150) (by decide +kernel))⟩
theorem fl_X1_19 : am_fl RX1 19 1 3 RX1 TX1 9 := ⟨cls_1, by decide, (tb_2 (i := 151) (by decide +kernel))⟩
theorem fl_X1_22 : am_fl RX1 22 1 4 RX1 TX1 9 := ⟨cls_1, by decide, (tb_2 (i := 152) (by decide +kernel))⟩
theorem fl_X1_25 : am_fl RX1 25 1 5 RX1 TX1 9 := ⟨cls_1, by decide, (tb_2 (i := 153) (by decide +kernel))⟩
theorem fl_X1_28 : am_fl RX1 28 1 6 RX1 TX1 9 := ⟨cls_1, by decide, (tb_2 (i := 154) (by decide +kernel))⟩
theorem fl_X1_31 : am_fl RX1 31 1 7 RX1 TX1 9 := ⟨cls_1, by decide, (tb_2 (i := 155) (by decide +kernel))⟩
theorem fl_X1_34 : am_fl RX1 34 1 0 RX1 TX1 9 := ⟨cls_1, by decide, (tb_2 (i := 148) (by decide +kernel))⟩
theorem fl_X1_45 : am_fl RX1 45 1 8 RX1 TX1 9 := ⟨cls_1, by decide, (tb_2 (i := 157) (by decide +kernel))⟩
theorem fl_X1_54 : am_fl RX1 54 10 3 RX10 TX10 5 := ⟨cls_10, by decide, (tb_2 (i := 60) (by decide +kernel))⟩
theorem fl_X1_60 : am_fl RX1 60 10 0 RX10 TX10 5 := ⟨cls_10, by decide, (tb_2 (i := 54) (by decide +kernel))⟩
theorem fl_X1_70 : am_fl RX1 70 3 1 RX3 TX3 3 := ⟨cls_3, by decide, (tb_2 (i := 11) (by decide +kernel))⟩
theorem fl_X10_10 : am_fl RX10 10 10 0 RX10 TX10 5 := ⟨cls_10, by decide, (tb_2 (i := 52) (by decide +kernel))⟩
theorem fl_X10_19 : am_fl RX10 19 10 1 RX10 TX10 5 := ⟨cls_10, by decide, (tb_2 (i := 55) (by decide +kernel))⟩
theorem fl_X10_26 : am_fl RX10 26 10 2 RX10 TX10 5 := ⟨cls_10, by decide, (tb_2 (i := 57) (by decide +kernel))⟩
theorem fl_X10_33 : am_fl RX10 33 10 3 RX10 TX10 5 := ⟨cls_10, by decide, (tb_2 (i := 59) (by decide +kernel))⟩
theorem fl_X10_40 : am_fl RX10 40 10 4 RX10 TX10 5 := ⟨cls_10, by decide, (tb_2 (i := 62) (by decide +kernel))⟩
theorem fl_X11_10 : am_fl RX11 10 11 0 RX11 TX11 8 := ⟨cls_11, by decide, (tb_2 (i := 203) (by decide +kernel))⟩
theorem fl_X11_16 : am_fl RX11 16 11 1 RX11 TX11 8 := ⟨cls_11, by decide, (tb_2 (i := 204) (by decide +kernel))⟩
theorem fl_X11_23 : am_fl RX11 23 11 2 RX11 TX11 8 := ⟨cls_11, by decide, (tb_2 (i := 205) (by decide +kernel))⟩
theorem fl_X11_30 : am_fl RX11 30 11 3 RX11 TX11 8 := ⟨cls_11, by decide, (tb_2 (i := 206) (by decide +kernel))⟩
theorem fl_X11_37 : am_fl RX11 37 11 4 RX11 TX11 8 := ⟨cls_11, by decide, (tb_2 (i := 207) (by decide +kernel))⟩
theorem fl_X11_46 : am_fl RX11 46 11 5 RX11 TX11 8 := ⟨cls_11, by decide, (tb_2 (i := 208) (by decide +kernel))⟩
theorem fl_X11_50 : am_fl RX11 50 11 6 RX11 TX11 8 := ⟨cls_11, by decide, (tb_2 (i := 209) (by decide +kernel))⟩
theorem fl_X11_56 : am_fl RX11 56 11 7 RX11 TX11 8 := ⟨cls_11, by decide, (tb_2 (i := 210) (by decide +kernel))⟩
theorem fl_X11_64 : am_fl RX11 64 10 0 RX10 TX10 5 := ⟨cls_10, by decide, (tb_2 (i := 53) (by decide +kernel))⟩
theorem fl_X11_68 : am_fl RX11 68 4 3 RX4 TX4 20 := ⟨cls_4, by decide, (tb_1 (i := 51) (by decide +kernel))⟩
theorem fl_X11_78 : am_fl RX11 78 4 9 RX4 TX4 20 := ⟨cls_4, by decide, (tb_1 (i := 71) (by decide +kernel))⟩
theorem fl_X11_81 : am_fl RX11 81 4 10 RX4 TX4 20 := ⟨cls_4, by decide, (tb_1 (i := 74) (by decide +kernel))⟩
theorem fl_X11_89 : am_fl RX11 89 4 13 RX4 TX4 20 := ⟨cls_4, by decide, (tb_1 (i := 80) (by decide +kernel))⟩
theorem fl_X11_92 : am_fl RX11 92 4 7 RX4 TX4 20 := ⟨cls_4, by decide, (tb_1 (i := 67) (by decide +kernel))⟩
theorem fl_X11_99 : am_fl RX11 99 4 2 RX4 TX4 20 := ⟨cls_4, by decide, (tb_1 (i := 49) (by decide +kernel))⟩
theorem fl_X11_103 : am_fl RX11 103 4 11 RX4 TX4 20 := ⟨cls_4, by decide, (tb_1 (i := 76) (by decide +kernel))⟩
theorem fl_X11_107 : am_fl RX11 107 4 8 RX4 TX4 20 := ⟨cls_4, by decide, (tb_1 (i := 70) (by decide +kernel))⟩
theorem fl_X11_119 : am_fl RX11 119 4 12 RX4 TX4 20 := ⟨cls_4, by decide, (tb_1 (i := 78) (by decide +kernel))⟩
theorem fl_X11_135 : am_fl RX11 135 4 16 RX4 TX4 20 := ⟨cls_4, by decide, (tb_1 (i := 86) (by decide +kernel))⟩
theorem fl_X11_139 : am_fl RX11 139 4 17 RX4 TX4 20 := ⟨cls_4, by decide, (tb_1 (i := 88) (by decide +kernel))⟩
theorem fl_X11_142 : am_fl RX11 142 4 18 RX4 TX4 20 := ⟨cls_4, by decide, (tb_1 (i := 90) (by decide +kernel))⟩
theorem fl_X11_145 : am_fl RX11 145 4 19 RX4 TX4 20 := ⟨cls_4, by decide, (tb_1 (i := 92) (by decide +kernel))⟩
theorem fl_X11_153 : am_fl RX11 153 10 1 RX10 TX10 5 := ⟨cls_10, by decide, (tb_2 (i := 56) (by decide +kernel))⟩
theorem fl_X11_157 : am_fl RX11 157 6 0 RX6 TX6 13 := ⟨cls_6, by decide, (tb_1 (i := 143) (by decide +kernel))⟩
theorem fl_X11_162 : am_fl RX11 162 6 1 RX6 TX6 13 := ⟨cls_6, by decide, (tb_1 (i := 145) (by decide +kernel))⟩
theorem fl_X11_165 : am_fl RX11 165 6 2 RX6 TX6 13 := ⟨cls_6, by decide, (tb_1 (i := 147) (by decide +kernel))⟩
theorem fl_X11_168 : am_fl RX11 168 6 7 RX6 TX6 13 := ⟨cls_6, by decide, (tb_1 (i := 153) (by decide +kernel))⟩
theorem fl_X11_203 : am_fl RX11 203 2 0 RX2 TX2 2 := ⟨cls_2, by decide, (tb_2 (i := 113) (by decide +kernel))⟩
theorem fl_X11_206 : am_fl RX11 206 2 1 RX2 TX2 2 := ⟨cls_2, by decide, (tb_2 (i := 115) (by decide +kernel))⟩
theorem fl_X11_209 : am_fl RX11 209 10 2 RX10 TX10 5 := ⟨cls_10, by decide, (tb_2 (i := 58) (by decide +kernel))⟩
theorem fl_X11_213 : am_fl RX11 213 0 0 RX0 TX0 13 := ⟨cls_0, by decide, (tb_1 (i := 198) (by decide +kernel))⟩
theorem fl_X11_239 : am_fl RX11 239 9 2 RX9 TX9 4 := ⟨cls_9, by decide, (tb_2 (i := 130) (by decide +kernel))⟩
theorem fl_X11_240 : am_fl RX11 240 9 3 RX9 TX9 4 := ⟨cls_9, by decide, (tb_2 (i := 132) (by decide +kernel))⟩
theorem fl_X11_241 : am_fl RX11 241 0 5 RX0 TX0 13 := ⟨cls_0, by decide, (tb_1 (i := 204) (by decide +kernel))⟩
theorem fl_X11_247 : am_fl RX11 247 0 6 RX0 TX0 13 := ⟨cls_0, by decide, (tb_1 (i := 206) (by decide +kernel))⟩
theorem fl_X11_250 : am_fl RX11 250 0 7 RX0 TX0 13 := ⟨cls_0, by decide, (tb_1 (i := 208) (by decide +kernel))⟩
theorem fl_X11_259 : am_fl RX11 259 10 3 RX10 TX10 5 := ⟨cls_10, by decide, (tb_2 (i := 61) (by decide +kernel))⟩
theorem fl_X11_263 : am_fl RX11 263 3 0 RX3 TX3 3 := ⟨cls_3, by decide, (tb_2 (i := 9) (by decide +kernel))⟩
theorem fl_X11_268 : am_fl RX11 268 3 1 RX3 TX3 3 := ⟨cls_3, by decide, (tb_2 (i := 12) (by decide +kernel))⟩
theorem fl_X11_271 : am_fl RX11 271 3 2 RX3 TX3 3 := ⟨cls_3, by decide, (tb_2 (i := 14) (by decide +kernel))⟩
theorem fl_X11_279 : am_fl RX11 279 1 7 RX1 TX1 9 := ⟨cls_1, by decide, (tb_2 (i := 156) (by decide +kernel))⟩
theorem fl_X11_282 : am_fl RX11 282 1 8 RX1 TX1 9 := ⟨cls_1, by decide, (tb_2 (i := 158) (by decide +kernel))⟩
theorem fl_X11_288 : am_fl RX11 288 10 4 RX10 TX10 5 := ⟨cls_10, by decide, (tb_2 (i := 63) (by decide +kernel))⟩
theorem fl_X11_292 : am_fl RX11 292 5 3 RX5 TX5 6 := ⟨cls_5, by decide, (tb_2 (i := 32) (by decide +kernel))⟩
theorem fl_X11_301 : am_fl RX11 301 5 5 RX5 TX5 6 := ⟨cls_5, by decide, (tb_2 (i := 38) (by decide +kernel))⟩
theorem fl_X11_304 : am_fl RX11 304 5 4 RX5 TX5 6 := ⟨cls_5, by decide, (tb_2 (i := 35) (by decide +kernel))⟩
theorem fl_X11_324 : am_fl RX11 324 6 10 RX6 TX6 13 := ⟨cls_6, by decide, (tb_1 (i := 157) (by decide +kernel))⟩
theorem fl_X11_333 : am_fl RX11 333 0 11 RX0 TX0 13 := ⟨cls_0, by decide, (tb_1 (i := 213) (by decide +kernel))⟩
theorem fl_X11_349 : am_fl RX11 349 8 4 RX8 TX8 7 := ⟨cls_8, by decide, (tb_2 (i := 88) (by decide +kernel))⟩
theorem fl_X11_350 : am_fl RX11 350 8 2 RX8 TX8 7 := ⟨cls_8, by decide, (tb_2 (i := 85) (by decide +kernel))⟩
theorem fl_X12_7 : am_fl RX12 7 12 0 RX12 TX12 23 := ⟨cls_12, by decide, (tb_5 (i := 213) (by decide +kernel))⟩
theorem fl_X12_13 : am_fl RX12 13 12 1 RX12 TX12 23 := ⟨cls_12, by decide, (tb_5 (i := 214) (by decide +kernel))⟩
theorem fl_X12_16 : am_fl RX12 16 12 2 RX12 TX12 23 := ⟨cls_12, by decide, (tb_5 (i := 215) (by decide +kernel))⟩
theorem fl_X12_20 : am_fl RX12 20 12 5 RX12 TX12 23 := ⟨cls_12, by decide, (tb_5 (i := 218) (by decide +kernel))⟩
theorem fl_X12_23 : am_fl RX12 23 12 6 RX12 TX12 23 := ⟨cls_12, by decide, (tb_5 (i := 219) (by decide +kernel))⟩
theorem fl_X12_26 : am_fl RX12 26 12 7 RX12 TX12 23 := ⟨cls_12, by decide, (tb_5 (i := 220) (by decide +kernel))⟩
theorem fl_X12_29 : am_fl RX12 29 12 8 RX12 TX12 23 := ⟨cls_12, by decide, (tb_5 (i := 221) (by decide +kernel))⟩
theorem fl_X12_32 : am_fl RX12 32 12 9 RX12 TX12 23 := ⟨cls_12, by decide, (tb_5 (i := 222) (by decide +kernel))⟩
theorem fl_X12_35 : am_fl RX12 35 12 13 RX12 TX12 23 := ⟨cls_12, by decide, (tb_5 (i := 226) (by decide +kernel))⟩
theorem fl_X12_38 : am_fl RX12 38 12 15 RX12 TX12 23 := ⟨cls_12, by decide, (tb_5 (i := 228) (by decide +kernel))⟩
theorem fl_X12_42 : am_fl RX12 42 12 17 RX12 TX12 23 := ⟨cls_12, by decide, (tb_5 (i := 230) (by decide +kernel))⟩
theorem fl_X12_45 : am_fl RX12 45 12 19 RX12 TX12 23 := ⟨cls_12, by decide, (tb_5 (i := 232) (by decide +kernel))⟩
theorem fl_X12_154 : am_fl RX12 154 12 3 RX12 TX12 23 := ⟨cls_12, by decide, (tb_5 (i := 216) (by decide +kernel))⟩
theorem fl_X12_161 : am_fl RX12 161 12 4 RX12 TX12 23 := ⟨cls_12, by decide, (tb_5 (i := 217) (by decide +kernel))⟩
theorem fl_X12_192 : am_fl RX12 192 12 10 RX12 TX12 23 := ⟨cls_12, by decide, (tb_5 (i := 223) (by decide +kernel))⟩
theorem fl_X12_202 : am_fl RX12 202 12 11 RX12 TX12 23 := ⟨cls_12, by decide, (tb_5 (i := 224) (by decide +kernel))⟩
theorem fl_X12_207 : am_fl RX12 207 12 16 RX12 TX12 23 := ⟨cls_12, by decide, (tb_5 (i := 229) (by decide +kernel))⟩
theorem fl_X12_210 : am_fl RX12 210 12 14 RX12 TX12 23 := ⟨cls_12, by decide, (tb_5 (i := 227) (by decide +kernel))⟩
theorem fl_X12_223 : am_fl RX12 223 12 12 RX12 TX12 23 := ⟨cls_12, by decide, (tb_5 (i := 225) (by decide +kernel))⟩
theorem fl_X12_243 : am_fl RX12 243 12 18 RX12 TX12 23 := ⟨cls_12, by decide, (tb_5 (i := 231) (by decide +kernel))⟩
theorem fl_X12_269 : am_fl RX12 269 12 20 RX12 TX12 23 := ⟨cls_12, by decide, (tb_5 (i := 233) (by decide +kernel))⟩
theorem fl_X12_276 : am_fl RX12 276 12 21 RX12 TX12 23 := ⟨cls_12, by decide, (tb_5 (i := 234) (by decide +kernel))⟩
theorem fl_X12_279 : am_fl RX12 279 12 22 RX12 TX12 23 := ⟨cls_12, by decide, (tb_5 (i := 235) (by decide +kernel))⟩
theorem fl_X2_7 : am_fl RX2 7 2 0 RX2 TX2 2 := ⟨cls_2, by decide, (tb_2 (i := 112) (by decide +kernel))⟩
theorem fl_X2_13 : am_fl RX2 13 2 1 RX2 TX2 2 := ⟨cls_2, by decide, (tb_2 (i := 114) (by decide +kernel))⟩
theorem fl_X3_9 : am_fl RX3 9 3 0 RX3 TX3 3 := ⟨cls_3, by decide, (tb_2 (i := 8) (by decide +kernel))⟩
theorem fl_X3_15 : am_fl RX3 15 3 1 RX3 TX3 3 := ⟨cls_3, by decide, (tb_2 (i := 10) (by decide +kernel))⟩
theorem fl_X3_18 : am_fl RX3 18 3 2 RX3 TX3 3 := ⟨cls_3, by decide, (tb_2 (i := 13) (by decide +kernel))⟩
theorem fl_X3_22 : am_fl RX3 22 4 3 RX4 TX4 20 := ⟨cls_4, by decide, (tb_1 (i := 52) (by decide +kernel))⟩
theorem fl_X3_28 : am_fl RX3 28 4 0 RX4 TX4 20 := ⟨cls_4, by decide, (tb_1 (i := 44) (by decide +kernel))⟩
theorem fl_X4_9 : am_fl RX4 9 4 0 RX4 TX4 20 := ⟨cls_4, by decide, (tb_1 (i := 43) (by decide +kernel))⟩
theorem fl_X4_15 : am_fl RX4 15 4 1 RX4 TX4 20 := ⟨cls_4, by decide, (tb_1 (i := 45) (by decide +kernel))⟩
theorem fl_X4_18 : am_fl RX4 18 4 2 RX4 TX4 20 := ⟨cls_4, by decide, (tb_1 (i := 47) (by decide +kernel))⟩
theorem fl_X4_22 : am_fl RX4 22 4 4 RX4 TX4 20 := ⟨cls_4, by decide, (tb_1 (i := 55) (by decide +kernel))⟩
theorem fl_X4_25 : am_fl RX4 25 4 5 RX4 TX4 20 := ⟨cls_4, by decide, (tb_1 (i := 58) (by decide +kernel))⟩
theorem fl_X4_28 : am_fl RX4 28 4 6 RX4 TX4 20 := ⟨cls_4, by decide, (tb_1 (i := 61) (by decide +kernel))⟩
theorem fl_X4_31 : am_fl RX4 31 4 10 RX4 TX4 20 := ⟨cls_4, by decide, (tb_1 (i := 73) (by decide +kernel))⟩
theorem fl_X4_35 : am_fl RX4 35 4 13 RX4 TX4 20 := ⟨cls_4, by decide, (tb_1 (i := 79) (by decide +kernel))⟩
theorem fl_X4_38 : am_fl RX4 38 4 14 RX4 TX4 20 := ⟨cls_4, by decide, (tb_1 (i := 81) (by decide +kernel))⟩
theorem fl_X4_41 : am_fl RX4 41 4 15 RX4 TX4 20 := ⟨cls_4, by decide, (tb_1 (i := 83) (by decide +kernel))⟩
theorem fl_X4_44 : am_fl RX4 44 4 16 RX4 TX4 20 := ⟨cls_4, by decide, (tb_1 (i := 85) (by decide +kernel))⟩
theorem fl_X4_47 : am_fl RX4 47 4 17 RX4 TX4 20 := ⟨cls_4, by decide, (tb_1 (i := 87) (by decide +kernel))⟩
theorem fl_X4_50 : am_fl RX4 50 4 18 RX4 TX4 20 := ⟨cls_4, by decide, (tb_1 (i := 89) (by decide +kernel))⟩
theorem fl_X4_53 : am_fl RX4 53 4 19 RX4 TX4 20 := ⟨cls_4, by decide, (tb_1 (i := 91) (by decide +kernel))⟩
theorem fl_X4_56 : am_fl RX4 56 4 3 RX4 TX4 20 := ⟨cls_4, by decide, (tb_1 (i := 50) (by decide +kernel))⟩
theorem fl_X4_63 : am_fl RX4 63 4 7 RX4 TX4 20 := ⟨cls_4, by decide, (tb_1 (i := 66) (by decide +kernel))⟩
theorem fl_X4_66 : am_fl RX4 66 4 8 RX4 TX4 20 := ⟨cls_4, by decide, (tb_1 (i := 69) (by decide +kernel))⟩
theorem fl_X4_69 : am_fl RX4 69 4 11 RX4 TX4 20 := ⟨cls_4, by decide, (tb_1 (i := 75) (by decide +kernel))⟩
theorem fl_X4_73 : am_fl RX4 73 4 9 RX4 TX4 20 := ⟨cls_4, by decide, (tb_1 (i := 72) (by decide +kernel))⟩
theorem fl_X4_78 : am_fl RX4 78 4 12 RX4 TX4 20 := ⟨cls_4, by decide, (tb_1 (i := 77) (by decide +kernel))⟩
theorem fl_X5_9 : am_fl RX5 9 5 0 RX5 TX5 6 := ⟨cls_5, by decide, (tb_2 (i := 28) (by decide +kernel))⟩
theorem fl_X5_15 : am_fl RX5 15 5 1 RX5 TX5 6 := ⟨cls_5, by decide, (tb_2 (i := 29) (by decide +kernel))⟩
theorem fl_X5_18 : am_fl RX5 18 5 2 RX5 TX5 6 := ⟨cls_5, by decide, (tb_2 (i := 30) (by decide +kernel))⟩
theorem fl_X5_21 : am_fl RX5 21 5 4 RX5 TX5 6 := ⟨cls_5, by decide, (tb_2 (i := 33) (by decide +kernel))⟩
theorem fl_X5_24 : am_fl RX5 24 5 3 RX5 TX5 6 := ⟨cls_5, by decide, (tb_2 (i := 31) (by decide +kernel))⟩
theorem fl_X5_30 : am_fl RX5 30 5 5 RX5 TX5 6 := ⟨cls_5, by decide, (tb_2 (i := 37) (by decide +kernel))⟩
theorem fl_X6_9 : am_fl RX6 9 6 0 RX6 TX6 13 := ⟨cls_6, by decide, (tb_1 (i := 142) (by decide +kernel))⟩
theorem fl_X6_15 : am_fl RX6 15 6 1 RX6 TX6 13 := ⟨cls_6, by decide, (tb_1 (i := 144) (by decide +kernel))⟩
theorem fl_X6_18 : am_fl RX6 18 6 2 RX6 TX6 13 := ⟨cls_6, by decide, (tb_1 (i := 146) (by decide +kernel))⟩
theorem fl_X6_21 : am_fl RX6 21 6 3 RX6 TX6 13 := ⟨cls_6, by decide, (tb_1 (i := 148) (by decide +kernel))⟩
theorem fl_X6_24 : am_fl RX6 24 6 4 RX6 TX6 13 := ⟨cls_6, by decide, (tb_1 (i := 149) (by decide +kernel))⟩
theorem fl_X6_27 : am_fl RX6 27 6 5 RX6 TX6 13 := ⟨cls_6, by decide, (tb_1 (i := 150) (by decide +kernel))⟩
theorem fl_X6_30 : am_fl RX6 30 6 6 RX6 TX6 13 := ⟨cls_6, by decide, (tb_1 (i := 151) (by decide +kernel))⟩
theorem fl_X6_33 : am_fl RX6 33 6 8 RX6 TX6 13 := ⟨cls_6, by decide, (tb_1 (i := 154) (by decide +kernel))⟩
theorem fl_X6_36 : am_fl RX6 36 6 9 RX6 TX6 13 := ⟨cls_6, by decide, (tb_1 (i := 155) (by decide +kernel))⟩
theorem fl_X6_39 : am_fl RX6 39 6 11 RX6 TX6 13 := ⟨cls_6, by decide, (tb_1 (i := 158) (by decide +kernel))⟩
theorem fl_X6_42 : am_fl RX6 42 6 12 RX6 TX6 13 := ⟨cls_6, by decide, (tb_1 (i := 159) (by decide +kernel))⟩
theorem fl_X6_46 : am_fl RX6 46 6 7 RX6 TX6 13 := ⟨cls_6, by decide, (tb_1 (i := 152) (by decide +kernel))⟩
theorem fl_X6_50 : am_fl RX6 50 6 10 RX6 TX6 13 := ⟨cls_6, by decide, (tb_1 (i := 156) (by decide +kernel))⟩
theorem fl_X7_9 : am_fl RX7 9 7 0 RX7 TX7 6 := ⟨cls_7, by decide, (tb_2 (i := 184) (by decide +kernel))⟩
theorem fl_X7_15 : am_fl RX7 15 7 1 RX7 TX7 6 := ⟨cls_7, by decide, (tb_2 (i := 185) (by decide +kernel))⟩
theorem fl_X7_19 : am_fl RX7 19 5 4 RX5 TX5 6 := ⟨cls_5, by decide, (tb_2 (i := 34) (by decide +kernel))⟩
theorem fl_X7_30 : am_fl RX7 30 5 5 RX5 TX5 6 := ⟨cls_5, by decide, (tb_2 (i := 36) (by decide +kernel))⟩
theorem fl_X7_34 : am_fl RX7 34 7 2 RX7 TX7 6 := ⟨cls_7, by decide, (tb_2 (i := 186) (by decide +kernel))⟩
theorem fl_X7_39 : am_fl RX7 39 7 5 RX7 TX7 6 := ⟨cls_7, by decide, (tb_2 (i := 189) (by decide +kernel))⟩
theorem fl_X7_42 : am_fl RX7 42 4 14 RX4 TX4 20 := ⟨cls_4, by decide, (tb_1 (i := 82) (by decide +kernel))⟩
theorem fl_X7_47 : am_fl RX7 47 4 15 RX4 TX4 20 := ⟨cls_4, by decide, (tb_1 (i := 84) (by decide +kernel))⟩
theorem fl_X7_64 : am_fl RX7 64 7 3 RX7 TX7 6 := ⟨cls_7, by decide, (tb_2 (i := 187) (by decide +kernel))⟩
theorem fl_X7_67 : am_fl RX7 67 7 4 RX7 TX7 6 := ⟨cls_7, by decide, (tb_2 (i := 188) (by decide +kernel))⟩
theorem fl_X8_9 : am_fl RX8 9 8 0 RX8 TX8 7 := ⟨cls_8, by decide, (tb_2 (i := 82) (by decide +kernel))⟩
theorem fl_X8_15 : am_fl RX8 15 8 1 RX8 TX8 7 := ⟨cls_8, by decide, (tb_2 (i := 83) (by decide +kernel))⟩
theorem fl_X8_18 : am_fl RX8 18 8 2 RX8 TX8 7 := ⟨cls_8, by decide, (tb_2 (i := 84) (by decide +kernel))⟩
theorem fl_X8_21 : am_fl RX8 21 8 3 RX8 TX8 7 := ⟨cls_8, by decide, (tb_2 (i := 86) (by decide +kernel))⟩
theorem fl_X8_25 : am_fl RX8 25 8 5 RX8 TX8 7 := ⟨cls_8, by decide, (tb_2 (i := 89) (by decide +kernel))⟩
theorem fl_X8_29 : am_fl RX8 29 8 6 RX8 TX8 7 := ⟨cls_8, by decide, (tb_2 (i := 90) (by decide +kernel))⟩
theorem fl_X8_32 : am_fl RX8 32 4 7 RX4 TX4 20 := ⟨cls_4, by decide, (tb_1 (i := 64) (by decide +kernel))⟩
theorem fl_X8_37 : am_fl RX8 37 8 4 RX8 TX8 7 := ⟨cls_8, by decide, (tb_2 (i := 87) (by decide +kernel))⟩
theorem fl_X8_38 : am_fl RX8 38 4 4 RX4 TX4 20 := ⟨cls_4, by decide, (tb_1 (i := 56) (by decide +kernel))⟩
theorem fl_X8_47 : am_fl RX8 47 4 5 RX4 TX4 20 := ⟨cls_4, by decide, (tb_1 (i := 59) (by decide +kernel))⟩
theorem fl_X8_50 : am_fl RX8 50 4 6 RX4 TX4 20 := ⟨cls_4, by decide, (tb_1 (i := 62) (by decide +kernel))⟩
theorem fl_X9_9 : am_fl RX9 9 9 0 RX9 TX9 4 := ⟨cls_9, by decide, (tb_2 (i := 127) (by decide +kernel))⟩
theorem fl_X9_15 : am_fl RX9 15 9 1 RX9 TX9 4 := ⟨cls_9, by decide, (tb_2 (i := 128) (by decide +kernel))⟩
theorem fl_X9_18 : am_fl RX9 18 9 2 RX9 TX9 4 := ⟨cls_9, by decide, (tb_2 (i := 129) (by decide +kernel))⟩
theorem fl_X9_22 : am_fl RX9 22 9 3 RX9 TX9 4 := ⟨cls_9, by decide, (tb_2 (i := 131) (by decide +kernel))⟩
theorem fl_X9_29 : am_fl RX9 29 4 3 RX4 TX4 20 := ⟨cls_4, by decide, (tb_1 (i := 53) (by decide +kernel))⟩
theorem ml_X0_3 : Cond.methodLink RX0 3 Lib.objectInit ∈ lw_tbl := (tb_1 (i := 193) (by decide +kernel))
theorem ml_X0_47 : Cond.methodLink RX0 47 yJ7_fill_53178 ∈ lw_tbl := (tb_1 (i := 194) (by decide +kernel))
theorem ml_X0_53 : Cond.methodLink RX0 53 yX4_netOf ∈ lw_tbl := (tb_3 (i := 153) (by decide +kernel))
theorem ml_X0_62 : Cond.methodLink RX0 62 yX0_indexedOf ∈ lw_tbl := (tb_3 (i := 160) (by decide +kernel))
theorem ml_X0_85 : Cond.methodLink RX0 85 Lib.MathLoose.max_long.x ∈ lw_tbl := (tb_3 (i := 165) (by decide +kernel))
theorem ml_X0_93 : Cond.methodLink RX0 93 yX0_countOf ∈ lw_tbl := (tb_3 (i := 149) (by decide +kernel))
theorem ml_X0_97 : Cond.methodLink RX0 97 yX0_countOfAll ∈ lw_tbl := (tb_3 (i := 176) (by decide +kernel))
theorem ml_X0_100 : Cond.methodLink RX0 100 Lib.MathLoose.min_long.x ∈ lw_tbl := (tb_3 (i := 177) (by decide +kernel))
theorem ml_X0_109 : Cond.methodLink RX0 109 yX4_outOf ∈ lw_tbl := (tb_3 (i := 230) (by decide +kernel))
theorem ml_X0_112 : Cond.methodLink RX0 112 yX4_inOf ∈ lw_tbl := (tb_3 (i := 231) (by decide +kernel))
theorem ml_X0_116 : Cond.methodLink RX0 116 yX0_toTakeFrom ∈ lw_tbl := (tb_3 (i := 236) (by decide +kernel))
theorem ml_X0_119 : Cond.methodLink RX0 119 yX0_leadOn ∈ lw_tbl := (tb_3 (i := 237) (by decide +kernel))
theorem ml_X0_126 : Cond.methodLink RX0 126 yX0_monthsOf ∈ lw_tbl := (tb_5 (i := 69) (by decide +kernel))
theorem ml_X0_130 : Cond.methodLink RX0 130 yX0_gainOf ∈ lw_tbl := (tb_5 (i := 73) (by decide +kernel))
theorem ml_X0_135 : Cond.methodLink RX0 135 arraycopyName ∈ lw_tbl := (tb_5 (i := 130) (by decide +kernel))
theorem ml_X1_3 : Cond.methodLink RX1 3 Lib.objectInit ∈ lw_tbl := (tb_2 (i := 147) (by decide +kernel))
theorem ml_X1_38 : Cond.methodLink RX1 38 yX1_learn ∈ lw_tbl := (tb_4 (i := 25) (by decide +kernel))
theorem ml_X1_42 : Cond.methodLink RX1 42 yX1_begin ∈ lw_tbl := (tb_4 (i := 35) (by decide +kernel))
theorem ml_X1_50 : Cond.methodLink RX1 50 yX1_changesInRound ∈ lw_tbl := (tb_4 (i := 48) (by decide +kernel))
theorem ml_X1_64 : Cond.methodLink RX1 64 yX3_coinsOf ∈ lw_tbl := (tb_4 (i := 29) (by decide +kernel))
theorem ml_X1_71 : Cond.methodLink RX1 71 yJ7_fill_d0a16 ∈ lw_tbl := (tb_4 (i := 39) (by decide +kernel))
theorem ml_X1_77 : Cond.methodLink RX1 77 yX1_handOn ∈ lw_tbl := (tb_4 (i := 42) (by decide +kernel))
theorem ml_X1_81 : Cond.methodLink RX1 81 Lib.MathLoose.min_long.x ∈ lw_tbl := (tb_4 (i := 52) (by decide +kernel))
theorem ml_X10_1 : Cond.methodLink RX10 1 Lib.objectInit ∈ lw_tbl := (tb_1 (i := 36) (by decide +kernel))
theorem ml_X10_25 : Cond.methodLink RX10 25 yX0_init ∈ lw_tbl := (tb_1 (i := 190) (by decide +kernel))
theorem ml_X10_44 : Cond.methodLink RX10 44 yX4_copyFrom ∈ lw_tbl := (tb_5 (i := 116) (by decide +kernel))
theorem ml_X10_48 : Cond.methodLink RX10 48 yX6_copyFrom ∈ lw_tbl := (tb_5 (i := 121) (by decide +kernel))
theorem ml_X10_51 : Cond.methodLink RX10 51 yX0_copyFrom ∈ lw_tbl := (tb_5 (i := 126) (by decide +kernel))
theorem ml_X10_54 : Cond.methodLink RX10 54 yX3_copyFrom ∈ lw_tbl := (tb_5 (i := 131) (by decide +kernel))
theorem ml_X10_57 : Cond.methodLink RX10 57 yX5_copyFrom ∈ lw_tbl := (tb_5 (i := 136) (by decide +kernel))
theorem ml_X11_1 : Cond.methodLink RX11 1 Lib.objectInit ∈ lw_tbl := (tb_1 (i := 28) (by decide +kernel))
theorem ml_X11_43 : Cond.methodLink RX11 43 yX1_init ∈ lw_tbl := (tb_2 (i := 144) (by decide +kernel))
theorem ml_X11_60 : Cond.methodLink RX11 60 yX11_within ∈ lw_tbl := (tb_2 (i := 232) (by decide +kernel))
theorem ml_X11_74 : Cond.methodLink RX11 74 yX4_addPerson ∈ lw_tbl := (tb_2 (i := 235) (by decide +kernel))
theorem ml_X11_84 : Cond.methodLink RX11 84 yX4_has ∈ lw_tbl := (tb_3 (i := 7) (by decide +kernel))
theorem ml_X11_95 : Cond.methodLink RX11 95 yX4_addRow ∈ lw_tbl := (tb_3 (i := 13) (by decide +kernel))
theorem ml_X11_110 : Cond.methodLink RX11 110 yX4_endMonth ∈ lw_tbl := (tb_3 (i := 25) (by decide +kernel))
theorem ml_X11_115 : Cond.methodLink RX11 115 yX4_shownToAll ∈ lw_tbl := (tb_3 (i := 43) (by decide +kernel))
theorem ml_X11_122 : Cond.methodLink RX11 122 yX4_inOfAll ∈ lw_tbl := (tb_3 (i := 44) (by decide +kernel))
theorem ml_X11_126 : Cond.methodLink RX11 126 yX4_outOfAll ∈ lw_tbl := (tb_3 (i := 48) (by decide +kernel))
theorem ml_X11_131 : Cond.methodLink RX11 131 yX11_isSpan ∈ lw_tbl := (tb_3 (i := 57) (by decide +kernel))
theorem ml_X11_148 : Cond.methodLink RX11 148 yX4_firstBelow ∈ lw_tbl := (tb_3 (i := 64) (by decide +kernel))
theorem ml_X11_171 : Cond.methodLink RX11 171 yX6_addTrade ∈ lw_tbl := (tb_3 (i := 77) (by decide +kernel))
theorem ml_X11_175 : Cond.methodLink RX11 175 yX6_wrongOf ∈ lw_tbl := (tb_3 (i := 85) (by decide +kernel))
theorem ml_X11_179 : Cond.methodLink RX11 179 yX6_firstWrong ∈ lw_tbl := (tb_3 (i := 93) (by decide +kernel))
theorem ml_X11_183 : Cond.methodLink RX11 183 yX11_isEven ∈ lw_tbl := (tb_3 (i := 102) (by decide +kernel))
theorem ml_X11_187 : Cond.methodLink RX11 187 yX11_waysUp ∈ lw_tbl := (tb_3 (i := 105) (by decide +kernel))
theorem ml_X11_191 : Cond.methodLink RX11 191 yX11_power ∈ lw_tbl := (tb_3 (i := 114) (by decide +kernel))
theorem ml_X11_195 : Cond.methodLink RX11 195 yX2_become ∈ lw_tbl := (tb_3 (i := 117) (by decide +kernel))
theorem ml_X11_199 : Cond.methodLink RX11 199 yX11_partOf ∈ lw_tbl := (tb_3 (i := 129) (by decide +kernel))
theorem ml_X11_218 : Cond.methodLink RX11 218 yX0_countOfAll ∈ lw_tbl := (tb_3 (i := 145) (by decide +kernel))
theorem ml_X11_222 : Cond.methodLink RX11 222 yX0_countOf ∈ lw_tbl := (tb_3 (i := 166) (by decide +kernel))
theorem ml_X11_227 : Cond.methodLink RX11 227 yX0_dealtTo ∈ lw_tbl := (tb_3 (i := 172) (by decide +kernel))
theorem ml_X11_231 : Cond.methodLink RX11 231 yX9_rise ∈ lw_tbl := (tb_3 (i := 180) (by decide +kernel))
theorem ml_X11_235 : Cond.methodLink RX11 235 yX9_paidTo ∈ lw_tbl := (tb_3 (i := 196) (by decide +kernel))
theorem ml_X11_244 : Cond.methodLink RX11 244 yX0_addGift ∈ lw_tbl := (tb_3 (i := 214) (by decide +kernel))
theorem ml_X11_253 : Cond.methodLink RX11 253 yX0_toTakeFrom ∈ lw_tbl := (tb_3 (i := 226) (by decide +kernel))
theorem ml_X11_256 : Cond.methodLink RX11 256 yX0_takenFrom ∈ lw_tbl := (tb_3 (i := 232) (by decide +kernel))
theorem ml_X11_275 : Cond.methodLink RX11 275 yX11_agreed ∈ lw_tbl := (tb_4 (i := 17) (by decide +kernel))
theorem ml_X11_285 : Cond.methodLink RX11 285 yX1_fallen ∈ lw_tbl := (tb_4 (i := 57) (by decide +kernel))
theorem ml_X11_297 : Cond.methodLink RX11 297 yX5_addLetter ∈ lw_tbl := (tb_4 (i := 65) (by decide +kernel))
theorem ml_X11_307 : Cond.methodLink RX11 307 yX7_faultOf ∈ lw_tbl := (tb_4 (i := 81) (by decide +kernel))
theorem ml_X11_313 : Cond.methodLink RX11 313 yX7_learn ∈ lw_tbl := (tb_4 (i := 238) (by decide +kernel))
theorem ml_X11_317 : Cond.methodLink RX11 317 yX7_valueRead ∈ lw_tbl := (tb_5 (i := 12) (by decide +kernel))
theorem ml_X11_320 : Cond.methodLink RX11 320 yX4_lostBy ∈ lw_tbl := (tb_5 (i := 17) (by decide +kernel))
theorem ml_X11_327 : Cond.methodLink RX11 327 yX6_addHand ∈ lw_tbl := (tb_5 (i := 27) (by decide +kernel))
theorem ml_X11_330 : Cond.methodLink RX11 330 yX6_leastSets ∈ lw_tbl := (tb_5 (i := 35) (by decide +kernel))
theorem ml_X11_336 : Cond.methodLink RX11 336 yX0_addSuit ∈ lw_tbl := (tb_5 (i := 57) (by decide +kernel))
theorem ml_X11_339 : Cond.methodLink RX11 339 yX0_bestSet ∈ lw_tbl := (tb_5 (i := 65) (by decide +kernel))
theorem ml_X11_342 : Cond.methodLink RX11 342 yX0_gainOf ∈ lw_tbl := (tb_5 (i := 77) (by decide +kernel))
theorem ml_X11_345 : Cond.methodLink RX11 345 yX8_copyRows ∈ lw_tbl := (tb_5 (i := 82) (by decide +kernel))
theorem ml_X11_353 : Cond.methodLink RX11 353 yX8_findAltered ∈ lw_tbl := (tb_5 (i := 99) (by decide +kernel))
theorem ml_X11_356 : Cond.methodLink RX11 356 yX10_copyFrom ∈ lw_tbl := (tb_5 (i := 112) (by decide +kernel))
theorem ml_X11_360 : Cond.methodLink RX11 360 yX6_wrongOnes ∈ lw_tbl := (tb_5 (i := 149) (by decide +kernel))
theorem ml_X11_367 : Cond.methodLink RX11 367 yX11_many ∈ lw_tbl := (tb_5 (i := 159) (by decide +kernel))
theorem ml_X11_370 : Cond.methodLink RX11 370 yX11_account ∈ lw_tbl := (tb_5 (i := 160) (by decide +kernel))
theorem ml_X11_373 : Cond.methodLink RX11 373 yX4_digested ∈ lw_tbl := (tb_5 (i := 161) (by decide +kernel))
theorem ml_X11_377 : Cond.methodLink RX11 377 yX6_digestedTrades ∈ lw_tbl := (tb_5 (i := 166) (by decide +kernel))
theorem ml_X11_380 : Cond.methodLink RX11 380 yX0_digestedGifts ∈ lw_tbl := (tb_5 (i := 171) (by decide +kernel))
theorem ml_X11_383 : Cond.methodLink RX11 383 yX3_digested ∈ lw_tbl := (tb_5 (i := 176) (by decide +kernel))
theorem ml_X11_384 : Cond.methodLink RX11 384 yX5_digestedLetters ∈ lw_tbl := (tb_5 (i := 181) (by decide +kernel))
theorem ml_X11_387 : Cond.methodLink RX11 387 yX6_digestedHands ∈ lw_tbl := (tb_5 (i := 186) (by decide +kernel))
theorem ml_X11_390 : Cond.methodLink RX11 390 yX0_digestedSuits ∈ lw_tbl := (tb_5 (i := 190) (by decide +kernel))
theorem ml_X11_393 : Cond.methodLink RX11 393 yX5_digestedRules ∈ lw_tbl := (tb_5 (i := 194) (by decide +kernel))
theorem ml_X11_396 : Cond.methodLink RX11 396 yX8_digested ∈ lw_tbl := (tb_5 (i := 198) (by decide +kernel))
theorem ml_X11_397 : Cond.methodLink RX11 397 yX1_settle ∈ lw_tbl := (tb_4 (i := 21) (by decide +kernel))
theorem ml_X11_400 : Cond.methodLink RX11 400 yX11_choose ∈ lw_tbl := (tb_3 (i := 108) (by decide +kernel))
theorem ml_X11_403 : Cond.methodLink RX11 403 yX11_cut ∈ lw_tbl := (tb_3 (i := 111) (by decide +kernel))
theorem ml_X12_1 : Cond.methodLink RX12 1 Lib.objectInit ∈ lw_tbl := (tb_5 (i := 208) (by decide +kernel))
theorem ml_X12_56 : Cond.methodLink RX12 56 yX12_got ∈ lw_tbl := (tb_6 (i := 51) (by decide +kernel))
theorem ml_X12_60 : Cond.methodLink RX12 60 yX12_in ∈ lw_tbl := (tb_6 (i := 48) (by decide +kernel))
theorem ml_X12_74 : Cond.methodLink RX12 74 yX12_has ∈ lw_tbl := (tb_6 (i := 65) (by decide +kernel))
theorem ml_X12_78 : Cond.methodLink RX12 78 yX12_isSum ∈ lw_tbl := (tb_6 (i := 69) (by decide +kernel))
theorem ml_X12_82 : Cond.methodLink RX12 82 yX12_isFallen ∈ lw_tbl := (tb_6 (i := 73) (by decide +kernel))
theorem ml_X12_86 : Cond.methodLink RX12 86 yX12_addRow ∈ lw_tbl := (tb_6 (i := 77) (by decide +kernel))
theorem ml_X12_94 : Cond.methodLink RX12 94 yX12_allShown ∈ lw_tbl := (tb_6 (i := 91) (by decide +kernel))
theorem ml_X12_98 : Cond.methodLink RX12 98 yX12_went ∈ lw_tbl := (tb_6 (i := 103) (by decide +kernel))
theorem ml_X12_106 : Cond.methodLink RX12 106 yX12_isSpan ∈ lw_tbl := (tb_6 (i := 113) (by decide +kernel))
theorem ml_X12_111 : Cond.methodLink RX12 111 yX12_isDay ∈ lw_tbl := (tb_6 (i := 124) (by decide +kernel))
theorem ml_X12_120 : Cond.methodLink RX12 120 yX12_wrongOf ∈ lw_tbl := (tb_6 (i := 139) (by decide +kernel))
theorem ml_X12_127 : Cond.methodLink RX12 127 yX12_power ∈ lw_tbl := (tb_6 (i := 159) (by decide +kernel))
theorem ml_X12_131 : Cond.methodLink RX12 131 yX12_isEven ∈ lw_tbl := (tb_6 (i := 151) (by decide +kernel))
theorem ml_X12_135 : Cond.methodLink RX12 135 yX12_evens ∈ lw_tbl := (tb_6 (i := 156) (by decide +kernel))
theorem ml_X12_139 : Cond.methodLink RX12 139 yX12_tell ∈ lw_tbl := (tb_6 (i := 162) (by decide +kernel))
theorem ml_X12_143 : Cond.methodLink RX12 143 yX12_isMonth ∈ lw_tbl := (tb_6 (i := 178) (by decide +kernel))
theorem ml_X12_146 : Cond.methodLink RX12 146 yX12_countOf ∈ lw_tbl := (tb_6 (i := 190) (by decide +kernel))
theorem ml_X12_150 : Cond.methodLink RX12 150 yX12_allCounts ∈ lw_tbl := (tb_6 (i := 186) (by decide +kernel))
theorem ml_X12_158 : Cond.methodLink RX12 158 yX12_putIn ∈ lw_tbl := (tb_6 (i := 214) (by decide +kernel))
theorem ml_X12_164 : Cond.methodLink RX12 164 yX12_drawn ∈ lw_tbl := (tb_6 (i := 218) (by decide +kernel))
theorem ml_X12_167 : Cond.methodLink RX12 167 yX12_wetBy ∈ lw_tbl := (tb_6 (i := 210) (by decide +kernel))
theorem ml_X12_170 : Cond.methodLink RX12 170 yX12_lowest ∈ lw_tbl := (tb_6 (i := 222) (by decide +kernel))
theorem ml_X12_173 : Cond.methodLink RX12 173 yX12_findTide ∈ lw_tbl := (tb_6 (i := 206) (by decide +kernel))
theorem ml_X12_179 : Cond.methodLink RX12 179 yX12_isDealt ∈ lw_tbl := (tb_6 (i := 198) (by decide +kernel))
theorem ml_X12_182 : Cond.methodLink RX12 182 yX12_dealtTo ∈ lw_tbl := (tb_6 (i := 202) (by decide +kernel))
theorem ml_X12_186 : Cond.methodLink RX12 186 yX12_toTake ∈ lw_tbl := (tb_7 (i := 6) (by decide +kernel))
theorem ml_X12_189 : Cond.methodLink RX12 189 yX12_isHouse ∈ lw_tbl := (tb_7 (i := 14) (by decide +kernel))
theorem ml_X12_196 : Cond.methodLink RX12 196 yX12_findPays ∈ lw_tbl := (tb_7 (i := 29) (by decide +kernel))
theorem ml_X12_213 : Cond.methodLink RX12 213 yX12_rank ∈ lw_tbl := (tb_7 (i := 80) (by decide +kernel))
theorem ml_X12_216 : Cond.methodLink RX12 216 yX12_works ∈ lw_tbl := (tb_7 (i := 83) (by decide +kernel))
theorem ml_X12_226 : Cond.methodLink RX12 226 yX12_ahead ∈ lw_tbl := (tb_7 (i := 58) (by decide +kernel))
theorem ml_X12_230 : Cond.methodLink RX12 230 yX12_digits ∈ lw_tbl := (tb_7 (i := 65) (by decide +kernel))
theorem ml_X12_233 : Cond.methodLink RX12 233 yX12_stands ∈ lw_tbl := (tb_7 (i := 69) (by decide +kernel))
theorem ml_X12_236 : Cond.methodLink RX12 236 yX12_nameOf ∈ lw_tbl := (tb_7 (i := 73) (by decide +kernel))
theorem ml_X12_239 : Cond.methodLink RX12 239 yX12_worksDown ∈ lw_tbl := (tb_7 (i := 76) (by decide +kernel))
theorem ml_X12_246 : Cond.methodLink RX12 246 yX12_reads ∈ lw_tbl := (tb_7 (i := 54) (by decide +kernel))
theorem ml_X12_251 : Cond.methodLink RX12 251 yX12_lay ∈ lw_tbl := (tb_7 (i := 92) (by decide +kernel))
theorem ml_X12_258 : Cond.methodLink RX12 258 yX12_mayHave ∈ lw_tbl := (tb_7 (i := 117) (by decide +kernel))
theorem ml_X12_261 : Cond.methodLink RX12 261 yX12_size ∈ lw_tbl := (tb_7 (i := 110) (by decide +kernel))
theorem ml_X12_264 : Cond.methodLink RX12 264 yX12_doesHave ∈ lw_tbl := (tb_7 (i := 113) (by decide +kernel))
theorem ml_X12_272 : Cond.methodLink RX12 272 yX12_sealOf ∈ lw_tbl := (tb_7 (i := 134) (by decide +kernel))
theorem ml_X12_282 : Cond.methodLink RX12 282 yX12_wrapped ∈ lw_tbl := (tb_7 (i := 146) (by decide +kernel))
theorem ml_X12_285 : Cond.methodLink RX12 285 yX12_inverse ∈ lw_tbl := (tb_7 (i := 149) (by decide +kernel))
theorem ml_X12_292 : Cond.methodLink RX12 292 yX12_many ∈ lw_tbl := (tb_7 (i := 170) (by decide +kernel))
theorem ml_X12_295 : Cond.methodLink RX12 295 yX12_account ∈ lw_tbl := (tb_7 (i := 171) (by decide +kernel))
theorem ml_X12_298 : Cond.methodLink RX12 298 yX12_sums ∈ lw_tbl := (tb_7 (i := 172) (by decide +kernel))
theorem ml_X2_1 : Cond.methodLink RX2 1 Lib.objectInit ∈ lw_tbl := (tb_2 (i := 111) (by decide +kernel))
theorem ml_X2_16 : Cond.methodLink RX2 16 yX2_commonDivisor ∈ lw_tbl := (tb_3 (i := 121) (by decide +kernel))
theorem ml_X3_3 : Cond.methodLink RX3 3 Lib.objectInit ∈ lw_tbl := (tb_2 (i := 7) (by decide +kernel))
theorem ml_X3_31 : Cond.methodLink RX3 31 yX4_netOf ∈ lw_tbl := (tb_4 (i := 33) (by decide +kernel))
theorem ml_X3_35 : Cond.methodLink RX3 35 Lib.MathLoose.max_long.x ∈ lw_tbl := (tb_4 (i := 34) (by decide +kernel))
theorem ml_X3_43 : Cond.methodLink RX3 43 arraycopyName ∈ lw_tbl := (tb_5 (i := 135) (by decide +kernel))
theorem ml_X4_3 : Cond.methodLink RX4 3 Lib.objectInit ∈ lw_tbl := (tb_1 (i := 42) (by decide +kernel))
theorem ml_X4_81 : Cond.methodLink RX4 81 yX4_shownToAll ∈ lw_tbl := (tb_3 (i := 30) (by decide +kernel))
theorem ml_X4_85 : Cond.methodLink RX4 85 Lib.MathLoose.max_long.x ∈ lw_tbl := (tb_3 (i := 157) (by decide +kernel))
theorem ml_X4_91 : Cond.methodLink RX4 91 yX4_netOf ∈ lw_tbl := (tb_5 (i := 21) (by decide +kernel))
theorem ml_X4_97 : Cond.methodLink RX4 97 arraycopyName ∈ lw_tbl := (tb_5 (i := 120) (by decide +kernel))
theorem ml_X5_3 : Cond.methodLink RX5 3 Lib.objectInit ∈ lw_tbl := (tb_2 (i := 27) (by decide +kernel))
theorem ml_X5_33 : Cond.methodLink RX5 33 arraycopyName ∈ lw_tbl := (tb_5 (i := 140) (by decide +kernel))
theorem ml_X6_3 : Cond.methodLink RX6 3 Lib.objectInit ∈ lw_tbl := (tb_1 (i := 141) (by decide +kernel))
theorem ml_X6_53 : Cond.methodLink RX6 53 yX6_wrongOf ∈ lw_tbl := (tb_3 (i := 97) (by decide +kernel))
theorem ml_X6_57 : Cond.methodLink RX6 57 yX6_lookWhoCould ∈ lw_tbl := (tb_5 (i := 39) (by decide +kernel))
theorem ml_X6_60 : Cond.methodLink RX6 60 yX6_printsAll ∈ lw_tbl := (tb_5 (i := 43) (by decide +kernel))
theorem ml_X6_64 : Cond.methodLink RX6 64 yJ6_bitCount_0f7a4 ∈ lw_tbl := (tb_5 (i := 47) (by decide +kernel))
theorem ml_X6_71 : Cond.methodLink RX6 71 arraycopyName ∈ lw_tbl := (tb_5 (i := 125) (by decide +kernel))
theorem ml_X7_3 : Cond.methodLink RX7 3 Lib.objectInit ∈ lw_tbl := (tb_2 (i := 183) (by decide +kernel))
theorem ml_X7_24 : Cond.methodLink RX7 24 arraycopyName ∈ lw_tbl := (tb_4 (i := 85) (by decide +kernel))
theorem ml_X7_35 : Cond.methodLink RX7 35 yX7_valueRead ∈ lw_tbl := (tb_4 (i := 88) (by decide +kernel))
theorem ml_X7_50 : Cond.methodLink RX7 50 yX4_inOfAll ∈ lw_tbl := (tb_5 (i := 2) (by decide +kernel))
theorem ml_X7_54 : Cond.methodLink RX7 54 yX4_outOfAll ∈ lw_tbl := (tb_5 (i := 3) (by decide +kernel))
theorem ml_X7_57 : Cond.methodLink RX7 57 yX5_askedBy ∈ lw_tbl := (tb_5 (i := 4) (by decide +kernel))
theorem ml_X7_61 : Cond.methodLink RX7 61 yX5_readBy ∈ lw_tbl := (tb_5 (i := 8) (by decide +kernel))
theorem ml_X7_70 : Cond.methodLink RX7 70 yX7_anyHolds ∈ lw_tbl := (tb_4 (i := 92) (by decide +kernel))
theorem ml_X7_74 : Cond.methodLink RX7 74 yX7_next ∈ lw_tbl := (tb_4 (i := 116) (by decide +kernel))
theorem ml_X7_78 : Cond.methodLink RX7 78 yX7_refuse ∈ lw_tbl := (tb_4 (i := 120) (by decide +kernel))
theorem ml_X7_81 : Cond.methodLink RX7 81 yX7_allHold ∈ lw_tbl := (tb_4 (i := 96) (by decide +kernel))
theorem ml_X7_84 : Cond.methodLink RX7 84 yX7_takes ∈ lw_tbl := (tb_4 (i := 137) (by decide +kernel))
theorem ml_X7_88 : Cond.methodLink RX7 88 yX7_truth ∈ lw_tbl := (tb_4 (i := 141) (by decide +kernel))
theorem ml_X7_92 : Cond.methodLink RX7 92 yX7_held ∈ lw_tbl := (tb_4 (i := 100) (by decide +kernel))
theorem ml_X7_95 : Cond.methodLink RX7 95 yX7_added ∈ lw_tbl := (tb_4 (i := 104) (by decide +kernel))
theorem ml_X7_98 : Cond.methodLink RX7 98 yX7_multiplied ∈ lw_tbl := (tb_4 (i := 108) (by decide +kernel))
theorem ml_X7_101 : Cond.methodLink RX7 101 yX7_unit ∈ lw_tbl := (tb_4 (i := 112) (by decide +kernel))
theorem ml_X7_108 : Cond.methodLink RX7 108 yX7_isDigit ∈ lw_tbl := (tb_4 (i := 124) (by decide +kernel))
theorem ml_X7_112 : Cond.methodLink RX7 112 yX7_number ∈ lw_tbl := (tb_4 (i := 127) (by decide +kernel))
theorem ml_X7_115 : Cond.methodLink RX7 115 yX7_inBrackets ∈ lw_tbl := (tb_4 (i := 133) (by decide +kernel))
theorem ml_X8_3 : Cond.methodLink RX8 3 Lib.objectInit ∈ lw_tbl := (tb_2 (i := 81) (by decide +kernel))
theorem ml_X8_41 : Cond.methodLink RX8 41 arraycopyName ∈ lw_tbl := (tb_5 (i := 86) (by decide +kernel))
theorem ml_X8_53 : Cond.methodLink RX8 53 yX8_sealed ∈ lw_tbl := (tb_5 (i := 87) (by decide +kernel))
theorem ml_X8_57 : Cond.methodLink RX8 57 yX8_lookWhichFit ∈ lw_tbl := (tb_5 (i := 103) (by decide +kernel))
theorem ml_X9_3 : Cond.methodLink RX9 3 Lib.objectInit ∈ lw_tbl := (tb_2 (i := 126) (by decide +kernel))
theorem ml_X9_25 : Cond.methodLink RX9 25 yX9_lookAt ∈ lw_tbl := (tb_3 (i := 184) (by decide +kernel))
theorem ml_X9_35 : Cond.methodLink RX9 35 yX4_inOf ∈ lw_tbl := (tb_3 (i := 188) (by decide +kernel))
theorem ml_X9_39 : Cond.methodLink RX9 39 yX4_outOf ∈ lw_tbl := (tb_3 (i := 192) (by decide +kernel))
theorem ml_X9_47 : Cond.methodLink RX9 47 Lib.MathLoose.max_long.x ∈ lw_tbl := (tb_3 (i := 201) (by decide +kernel))
theorem ct_J6_265 : Cond.constant RJ6 265 (1431655765) ∈ lw_tbl := (tb_5 (i := 50) (by decide +kernel))
theorem ct_J6_266 : Cond.constant RJ6 266 (858993459) ∈ lw_tbl := (tb_5 (i := 51) (by decide +kernel))
theorem ct_J6_267 : Cond.constant RJ6 267 (252645135) ∈ lw_tbl := (tb_5 (i := 52) (by decide +kernel))
theorem ct_X0_133 : Cond.constantLong RX0 133 (31) ∈ lw_tbl := (tb_5 (i := 175) (by decide +kernel))
theorem ct_X1_49 : Cond.constant RX1 49 (1000000) ∈ lw_tbl := (tb_4 (i := 47) (by decide +kernel))
theorem ct_X11_88 : Cond.constant RX11 88 (1000000) ∈ lw_tbl := (tb_3 (i := 12) (by decide +kernel))
theorem ct_X11_113 : Cond.constantLong RX11 113 (-1) ∈ lw_tbl := (tb_3 (i := 38) (by decide +kernel))
theorem ct_X11_129 : Cond.constantLong RX11 129 (-2) ∈ lw_tbl := (tb_3 (i := 52) (by decide +kernel))
theorem ct_X11_152 : Cond.constant RX11 152 (100000) ∈ lw_tbl := (tb_3 (i := 72) (by decide +kernel))
theorem ct_X11_226 : Cond.constant RX11 226 (10000000) ∈ lw_tbl := (tb_3 (i := 171) (by decide +kernel))
theorem ct_X11_311 : Cond.constantLong RX11 311 (-3) ∈ lw_tbl := (tb_4 (i := 237) (by decide +kernel))
theorem ct_X11_323 : Cond.constant RX11 323 (1073741823) ∈ lw_tbl := (tb_5 (i := 26) (by decide +kernel))
theorem ct_X11_363 : Cond.constantLong RX11 363 (383) ∈ lw_tbl := (tb_5 (i := 157) (by decide +kernel))
theorem ct_X11_365 : Cond.constantLong RX11 365 (31) ∈ lw_tbl := (tb_5 (i := 158) (by decide +kernel))
theorem ct_X11_407 : Cond.constantLong RX11 407 (2) ∈ lw_tbl := (tb_3 (i := 132) (by decide +kernel))
theorem ct_X12_48 : Cond.constantLong RX12 48 (100) ∈ lw_tbl := (tb_5 (i := 209) (by decide +kernel))
theorem ct_X12_50 : Cond.constantLong RX12 50 (10) ∈ lw_tbl := (tb_5 (i := 210) (by decide +kernel))
theorem ct_X12_52 : Cond.constantLong RX12 52 (-1) ∈ lw_tbl := (tb_5 (i := 211) (by decide +kernel))
theorem ct_X12_54 : Cond.constantLong RX12 54 (60) ∈ lw_tbl := (tb_5 (i := 212) (by decide +kernel))
theorem ct_X12_64 : Cond.constantLong RX12 64 (59) ∈ lw_tbl := (tb_6 (i := 181) (by decide +kernel))
theorem ct_X12_66 : Cond.constantLong RX12 66 (7) ∈ lw_tbl := (tb_6 (i := 47) (by decide +kernel))
theorem ct_X12_68 : Cond.constantLong RX12 68 (20) ∈ lw_tbl := (tb_6 (i := 59) (by decide +kernel))
theorem ct_X12_70 : Cond.constantLong RX12 70 (50) ∈ lw_tbl := (tb_6 (i := 60) (by decide +kernel))
theorem ct_X12_72 : Cond.constantLong RX12 72 (1000000) ∈ lw_tbl := (tb_6 (i := 72) (by decide +kernel))
theorem ct_X12_90 : Cond.constantLong RX12 90 (12) ∈ lw_tbl := (tb_6 (i := 89) (by decide +kernel))
theorem ct_X12_92 : Cond.constantLong RX12 92 (1000) ∈ lw_tbl := (tb_6 (i := 90) (by decide +kernel))
theorem ct_X12_102 : Cond.constantLong RX12 102 (-2) ∈ lw_tbl := (tb_6 (i := 107) (by decide +kernel))
theorem ct_X12_104 : Cond.constantLong RX12 104 (11) ∈ lw_tbl := (tb_6 (i := 112) (by decide +kernel))
theorem ct_X12_109 : Cond.constantLong RX12 109 (29) ∈ lw_tbl := (tb_6 (i := 127) (by decide +kernel))
theorem ct_X12_114 : Cond.constantLong RX12 114 (10000) ∈ lw_tbl := (tb_6 (i := 128) (by decide +kernel))
theorem ct_X12_116 : Cond.constantLong RX12 116 (100000) ∈ lw_tbl := (tb_6 (i := 129) (by decide +kernel))
theorem ct_X12_118 : Cond.constantLong RX12 118 (3) ∈ lw_tbl := (tb_6 (i := 134) (by decide +kernel))
theorem ct_X12_123 : Cond.constantLong RX12 123 (18) ∈ lw_tbl := (tb_6 (i := 154) (by decide +kernel))
theorem ct_X12_125 : Cond.constantLong RX12 125 (2) ∈ lw_tbl := (tb_6 (i := 155) (by decide +kernel))
theorem ct_X12_177 : Cond.constantLong RX12 177 (10000000) ∈ lw_tbl := (tb_6 (i := 201) (by decide +kernel))
theorem ct_X12_200 : Cond.constantLong RX12 200 (127) ∈ lw_tbl := (tb_7 (i := 45) (by decide +kernel))
theorem ct_X12_205 : Cond.constantLong RX12 205 (32) ∈ lw_tbl := (tb_7 (i := 62) (by decide +kernel))
theorem ct_X12_219 : Cond.constantLong RX12 219 (48) ∈ lw_tbl := (tb_7 (i := 63) (by decide +kernel))
theorem ct_X12_221 : Cond.constantLong RX12 221 (57) ∈ lw_tbl := (tb_7 (i := 64) (by decide +kernel))
theorem ct_X12_249 : Cond.constantLong RX12 249 (-3) ∈ lw_tbl := (tb_7 (i := 91) (by decide +kernel))
theorem ct_X12_254 : Cond.constantLong RX12 254 (1073741823) ∈ lw_tbl := (tb_7 (i := 104) (by decide +kernel))
theorem ct_X12_256 : Cond.constantLong RX12 256 (15) ∈ lw_tbl := (tb_7 (i := 105) (by decide +kernel))
theorem ct_X12_267 : Cond.constantLong RX12 267 (24) ∈ lw_tbl := (tb_7 (i := 125) (by decide +kernel))
theorem ct_X12_288 : Cond.constantLong RX12 288 (31) ∈ lw_tbl := (tb_7 (i := 169) (by decide +kernel))
theorem ct_X12_290 : Cond.constantLong RX12 290 (383) ∈ lw_tbl := (tb_7 (i := 168) (by decide +kernel))
theorem ct_X3_41 : Cond.constantLong RX3 41 (31) ∈ lw_tbl := (tb_5 (i := 180) (by decide +kernel))
theorem ct_X4_76 : Cond.constantLong RX4 76 (1000) ∈ lw_tbl := (tb_3 (i := 29) (by decide +kernel))
theorem ct_X4_95 : Cond.constantLong RX4 95 (31) ∈ lw_tbl := (tb_5 (i := 165) (by decide +kernel))
theorem ct_X5_28 : Cond.constantLong RX5 28 (31) ∈ lw_tbl := (tb_5 (i := 185) (by decide +kernel))
theorem ct_X6_69 : Cond.constantLong RX6 69 (31) ∈ lw_tbl := (tb_5 (i := 170) (by decide +kernel))
theorem ct_X7_125 : Cond.constantLong RX7 125 (10) ∈ lw_tbl := (tb_4 (i := 131) (by decide +kernel))
theorem ct_X7_127 : Cond.constantLong RX7 127 (48) ∈ lw_tbl := (tb_4 (i := 132) (by decide +kernel))
theorem ct_X8_60 : Cond.constant RX8 60 (35937) ∈ lw_tbl := (tb_5 (i := 107) (by decide +kernel))
theorem ct_X8_61 : Cond.constantLong RX8 61 (31) ∈ lw_tbl := (tb_5 (i := 202) (by decide +kernel))
theorem nl_X11_9 : (RX11, 9, yX10_init, "SteadyFund") ∈ am_nest := List.mem_of_getElem? (i := 0) rfl
theorem nl_X10_9 : (RX10, 9, yX4_init, "SteadyFund") ∈ am_nest := List.mem_of_getElem? (i := 1) rfl
theorem nl_X10_18 : (RX10, 18, yX6_init, "SteadyFund") ∈ am_nest := List.mem_of_getElem? (i := 2) rfl
theorem nl_X10_32 : (RX10, 32, yX3_init, "SteadyFund") ∈ am_nest := List.mem_of_getElem? (i := 3) rfl
theorem nl_X10_39 : (RX10, 39, yX5_init, "SteadyFund") ∈ am_nest := List.mem_of_getElem? (i := 4) rfl
theorem nl_X11_22 : (RX11, 22, yX8_init, "SteadyFund") ∈ am_nest := List.mem_of_getElem? (i := 5) rfl
theorem nl_X11_29 : (RX11, 29, yX2_init, "SteadyFund") ∈ am_nest := List.mem_of_getElem? (i := 6) rfl
theorem nl_X11_36 : (RX11, 36, yX9_init, "SteadyFund") ∈ am_nest := List.mem_of_getElem? (i := 7) rfl
theorem nl_X11_55 : (RX11, 55, yX7_init, "SteadyFund") ∈ am_nest := List.mem_of_getElem? (i := 8) rfl
theorem nl_X4_59 : (RX4, 59, yX11_within, "SteadyFund") ∈ am_nest := List.mem_of_getElem? (i := 9) rfl
theorem nl_X2_20 : (RX2, 20, yX11_cut, "SteadyFund") ∈ am_nest := List.mem_of_getElem? (i := 10) rfl
theorem nl_X0_81 : (RX0, 81, yX11_cut, "SteadyFund") ∈ am_nest := List.mem_of_getElem? (i := 11) rfl
theorem nl_X9_43 : (RX9, 43, yX11_cut, "SteadyFund") ∈ am_nest := List.mem_of_getElem? (i := 12) rfl
theorem nl_X1_87 : (RX1, 87, yX11_cut, "SteadyFund") ∈ am_nest := List.mem_of_getElem? (i := 13) rfl
theorem nl_X7_104 : (RX7, 104, yX11_cut, "SteadyFund") ∈ am_nest := List.mem_of_getElem? (i := 14) rfl
theorem kb_m128 : (Int8.ofInt (-128)).toInt32 = -128 := by decide
theorem kb_m127 : (Int8.ofInt (-127)).toInt32 = -127 := by decide
theorem kb_m126 : (Int8.ofInt (-126)).toInt32 = -126 := by decide
theorem kb_m125 : (Int8.ofInt (-125)).toInt32 = -125 := by decide
theorem kb_m124 : (Int8.ofInt (-124)).toInt32 = -124 := by decide
theorem kb_m123 : (Int8.ofInt (-123)).toInt32 = -123 := by decide
theorem kb_m122 : (Int8.ofInt (-122)).toInt32 = -122 := by decide
theorem kb_m121 : (Int8.ofInt (-121)).toInt32 = -121 := by decide
theorem kb_m120 : (Int8.ofInt (-120)).toInt32 = -120 := by decide
theorem kb_m119 : (Int8.ofInt (-119)).toInt32 = -119 := by decide
theorem kb_m118 : (Int8.ofInt (-118)).toInt32 = -118 := by decide
theorem kb_m117 : (Int8.ofInt (-117)).toInt32 = -117 := by decide
theorem kb_m116 : (Int8.ofInt (-116)).toInt32 = -116 := by decide
theorem kb_m115 : (Int8.ofInt (-115)).toInt32 = -115 := by decide
theorem kb_m114 : (Int8.ofInt (-114)).toInt32 = -114 := by decide
theorem kb_m113 : (Int8.ofInt (-113)).toInt32 = -113 := by decide
theorem kb_m112 : (Int8.ofInt (-112)).toInt32 = -112 := by decide
theorem kb_m111 : (Int8.ofInt (-111)).toInt32 = -111 := by decide
theorem kb_m110 : (Int8.ofInt (-110)).toInt32 = -110 := by decide
theorem kb_m109 : (Int8.ofInt (-109)).toInt32 = -109 := by decide
theorem kb_m108 : (Int8.ofInt (-108)).toInt32 = -108 := by decide
theorem kb_m107 : (Int8.ofInt (-107)).toInt32 = -107 := by decide
theorem kb_m106 : (Int8.ofInt (-106)).toInt32 = -106 := by decide
theorem kb_m105 : (Int8.ofInt (-105)).toInt32 = -105 := by decide
theorem kb_m104 : (Int8.ofInt (-104)).toInt32 = -104 := by decide
theorem kb_m103 : (Int8.ofInt (-103)).toInt32 = -103 := by decide
theorem kb_m102 : (Int8.ofInt (-102)).toInt32 = -102 := by decide
theorem kb_m101 : (Int8.ofInt (-101)).toInt32 = -101 := by decide
theorem kb_m100 : (Int8.ofInt (-100)).toInt32 = -100 := by decide
theorem kb_m99 : (Int8.ofInt (-99)).toInt32 = -99 := by decide
theorem kb_m98 : (Int8.ofInt (-98)).toInt32 = -98 := by decide
theorem kb_m97 : (Int8.ofInt (-97)).toInt32 = -97 := by decide
theorem kb_m96 : (Int8.ofInt (-96)).toInt32 = -96 := by decide
theorem kb_m95 : (Int8.ofInt (-95)).toInt32 = -95 := by decide
theorem kb_m94 : (Int8.ofInt (-94)).toInt32 = -94 := by decide
theorem kb_m93 : (Int8.ofInt (-93)).toInt32 = -93 := by decide
theorem kb_m92 : (Int8.ofInt (-92)).toInt32 = -92 := by decide
theorem kb_m91 : (Int8.ofInt (-91)).toInt32 = -91 := by decide
theorem kb_m90 : (Int8.ofInt (-90)).toInt32 = -90 := by decide
theorem kb_m89 : (Int8.ofInt (-89)).toInt32 = -89 := by decide
theorem kb_m88 : (Int8.ofInt (-88)).toInt32 = -88 := by decide
theorem kb_m87 : (Int8.ofInt (-87)).toInt32 = -87 := by decide
theorem kb_m86 : (Int8.ofInt (-86)).toInt32 = -86 := by decide
theorem kb_m85 : (Int8.ofInt (-85)).toInt32 = -85 := by decide
theorem kb_m84 : (Int8.ofInt (-84)).toInt32 = -84 := by decide
theorem kb_m83 : (Int8.ofInt (-83)).toInt32 = -83 := by decide
theorem kb_m82 : (Int8.ofInt (-82)).toInt32 = -82 := by decide
theorem kb_m81 : (Int8.ofInt (-81)).toInt32 = -81 := by decide
theorem kb_m80 : (Int8.ofInt (-80)).toInt32 = -80 := by decide
theorem kb_m79 : (Int8.ofInt (-79)).toInt32 = -79 := by decide
theorem kb_m78 : (Int8.ofInt (-78)).toInt32 = -78 := by decide
theorem kb_m77 : (Int8.ofInt (-77)).toInt32 = -77 := by decide
theorem kb_m76 : (Int8.ofInt (-76)).toInt32 = -76 := by decide
theorem kb_m75 : (Int8.ofInt (-75)).toInt32 = -75 := by decide
theorem kb_m74 : (Int8.ofInt (-74)).toInt32 = -74 := by decide
theorem kb_m73 : (Int8.ofInt (-73)).toInt32 = -73 := by decide
theorem kb_m72 : (Int8.ofInt (-72)).toInt32 = -72 := by decide
theorem kb_m71 : (Int8.ofInt (-71)).toInt32 = -71 := by decide
theorem kb_m70 : (Int8.ofInt (-70)).toInt32 = -70 := by decide
theorem kb_m69 : (Int8.ofInt (-69)).toInt32 = -69 := by decide
theorem kb_m68 : (Int8.ofInt (-68)).toInt32 = -68 := by decide
theorem kb_m67 : (Int8.ofInt (-67)).toInt32 = -67 := by decide
theorem kb_m66 : (Int8.ofInt (-66)).toInt32 = -66 := by decide
theorem kb_m65 : (Int8.ofInt (-65)).toInt32 = -65 := by decide
theorem kb_m64 : (Int8.ofInt (-64)).toInt32 = -64 := by decide
theorem kb_m63 : (Int8.ofInt (-63)).toInt32 = -63 := by decide
theorem kb_m62 : (Int8.ofInt (-62)).toInt32 = -62 := by decide
theorem kb_m61 : (Int8.ofInt (-61)).toInt32 = -61 := by decide
theorem kb_m60 : (Int8.ofInt (-60)).toInt32 = -60 := by decide
theorem kb_m59 : (Int8.ofInt (-59)).toInt32 = -59 := by decide
theorem kb_m58 : (Int8.ofInt (-58)).toInt32 = -58 := by decide
theorem kb_m57 : (Int8.ofInt (-57)).toInt32 = -57 := by decide
theorem kb_m56 : (Int8.ofInt (-56)).toInt32 = -56 := by decide
theorem kb_m55 : (Int8.ofInt (-55)).toInt32 = -55 := by decide
theorem kb_m54 : (Int8.ofInt (-54)).toInt32 = -54 := by decide
theorem kb_m53 : (Int8.ofInt (-53)).toInt32 = -53 := by decide
theorem kb_m52 : (Int8.ofInt (-52)).toInt32 = -52 := by decide
theorem kb_m51 : (Int8.ofInt (-51)).toInt32 = -51 := by decide
theorem kb_m50 : (Int8.ofInt (-50)).toInt32 = -50 := by decide
theorem kb_m49 : (Int8.ofInt (-49)).toInt32 = -49 := by decide
theorem kb_m48 : (Int8.ofInt (-48)).toInt32 = -48 := by decide
theorem kb_m47 : (Int8.ofInt (-47)).toInt32 = -47 := by decide
theorem kb_m46 : (Int8.ofInt (-46)).toInt32 = -46 := by decide
theorem kb_m45 : (Int8.ofInt (-45)).toInt32 = -45 := by decide
theorem kb_m44 : (Int8.ofInt (-44)).toInt32 = -44 := by decide
theorem kb_m43 : (Int8.ofInt (-43)).toInt32 = -43 := by decide
theorem kb_m42 : (Int8.ofInt (-42)).toInt32 = -42 := by decide
theorem kb_m41 : (Int8.ofInt (-41)).toInt32 = -41 := by decide
theorem kb_m40 : (Int8.ofInt (-40)).toInt32 = -40 := by decide
theorem kb_m39 : (Int8.ofInt (-39)).toInt32 = -39 := by decide
theorem kb_m38 : (Int8.ofInt (-38)).toInt32 = -38 := by decide
theorem kb_m37 : (Int8.ofInt (-37)).toInt32 = -37 := by decide
theorem kb_m36 : (Int8.ofInt (-36)).toInt32 = -36 := by decide
theorem kb_m35 : (Int8.ofInt (-35)).toInt32 = -35 := by decide
theorem kb_m34 : (Int8.ofInt (-34)).toInt32 = -34 := by decide
theorem kb_m33 : (Int8.ofInt (-33)).toInt32 = -33 := by decide
theorem kb_m32 : (Int8.ofInt (-32)).toInt32 = -32 := by decide
theorem kb_m31 : (Int8.ofInt (-31)).toInt32 = -31 := by decide
theorem kb_m30 : (Int8.ofInt (-30)).toInt32 = -30 := by decide
theorem kb_m29 : (Int8.ofInt (-29)).toInt32 = -29 := by decide
theorem kb_m28 : (Int8.ofInt (-28)).toInt32 = -28 := by decide
theorem kb_m27 : (Int8.ofInt (-27)).toInt32 = -27 := by decide
theorem kb_m26 : (Int8.ofInt (-26)).toInt32 = -26 := by decide
theorem kb_m25 : (Int8.ofInt (-25)).toInt32 = -25 := by decide
theorem kb_m24 : (Int8.ofInt (-24)).toInt32 = -24 := by decide
theorem kb_m23 : (Int8.ofInt (-23)).toInt32 = -23 := by decide
theorem kb_m22 : (Int8.ofInt (-22)).toInt32 = -22 := by decide
theorem kb_m21 : (Int8.ofInt (-21)).toInt32 = -21 := by decide
theorem kb_m20 : (Int8.ofInt (-20)).toInt32 = -20 := by decide
theorem kb_m19 : (Int8.ofInt (-19)).toInt32 = -19 := by decide
theorem kb_m18 : (Int8.ofInt (-18)).toInt32 = -18 := by decide
theorem kb_m17 : (Int8.ofInt (-17)).toInt32 = -17 := by decide
theorem kb_m16 : (Int8.ofInt (-16)).toInt32 = -16 := by decide
theorem kb_m15 : (Int8.ofInt (-15)).toInt32 = -15 := by decide
theorem kb_m14 : (Int8.ofInt (-14)).toInt32 = -14 := by decide
theorem kb_m13 : (Int8.ofInt (-13)).toInt32 = -13 := by decide
theorem kb_m12 : (Int8.ofInt (-12)).toInt32 = -12 := by decide
theorem kb_m11 : (Int8.ofInt (-11)).toInt32 = -11 := by decide
theorem kb_m10 : (Int8.ofInt (-10)).toInt32 = -10 := by decide
theorem kb_m9 : (Int8.ofInt (-9)).toInt32 = -9 := by decide
theorem kb_m8 : (Int8.ofInt (-8)).toInt32 = -8 := by decide
theorem kb_m7 : (Int8.ofInt (-7)).toInt32 = -7 := by decide
theorem kb_m6 : (Int8.ofInt (-6)).toInt32 = -6 := by decide
theorem kb_m5 : (Int8.ofInt (-5)).toInt32 = -5 := by decide
theorem kb_m4 : (Int8.ofInt (-4)).toInt32 = -4 := by decide
theorem kb_m3 : (Int8.ofInt (-3)).toInt32 = -3 := by decide
theorem kb_m2 : (Int8.ofInt (-2)).toInt32 = -2 := by decide
theorem kb_m1 : (Int8.ofInt (-1)).toInt32 = -1 := by decide
theorem kb_0 : (Int8.ofInt (0)).toInt32 = 0 := by decide
theorem kb_1 : (Int8.ofInt (1)).toInt32 = 1 := by decide
theorem kb_2 : (Int8.ofInt (2)).toInt32 = 2 := by decide
theorem kb_3 : (Int8.ofInt (3)).toInt32 = 3 := by decide
theorem kb_4 : (Int8.ofInt (4)).toInt32 = 4 := by decide
theorem kb_5 : (Int8.ofInt (5)).toInt32 = 5 := by decide
theorem kb_6 : (Int8.ofInt (6)).toInt32 = 6 := by decide
theorem kb_7 : (Int8.ofInt (7)).toInt32 = 7 := by decide
theorem kb_8 : (Int8.ofInt (8)).toInt32 = 8 := by decide
theorem kb_9 : (Int8.ofInt (9)).toInt32 = 9 := by decide
theorem kb_10 : (Int8.ofInt (10)).toInt32 = 10 := by decide
theorem kb_11 : (Int8.ofInt (11)).toInt32 = 11 := by decide
theorem kb_12 : (Int8.ofInt (12)).toInt32 = 12 := by decide
theorem kb_13 : (Int8.ofInt (13)).toInt32 = 13 := by decide
theorem kb_14 : (Int8.ofInt (14)).toInt32 = 14 := by decide
theorem kb_15 : (Int8.ofInt (15)).toInt32 = 15 := by decide
theorem kb_16 : (Int8.ofInt (16)).toInt32 = 16 := by decide
theorem kb_17 : (Int8.ofInt (17)).toInt32 = 17 := by decide
theorem kb_18 : (Int8.ofInt (18)).toInt32 = 18 := by decide
theorem kb_19 : (Int8.ofInt (19)).toInt32 = 19 := by decide
theorem kb_20 : (Int8.ofInt (20)).toInt32 = 20 := by decide
theorem kb_21 : (Int8.ofInt (21)).toInt32 = 21 := by decide
theorem kb_22 : (Int8.ofInt (22)).toInt32 = 22 := by decide
theorem kb_23 : (Int8.ofInt (23)).toInt32 = 23 := by decide
theorem kb_24 : (Int8.ofInt (24)).toInt32 = 24 := by decide
theorem kb_25 : (Int8.ofInt (25)).toInt32 = 25 := by decide
theorem kb_26 : (Int8.ofInt (26)).toInt32 = 26 := by decide
theorem kb_27 : (Int8.ofInt (27)).toInt32 = 27 := by decide
theorem kb_28 : (Int8.ofInt (28)).toInt32 = 28 := by decide
theorem kb_29 : (Int8.ofInt (29)).toInt32 = 29 := by decide
theorem kb_30 : (Int8.ofInt (30)).toInt32 = 30 := by decide
theorem kb_31 : (Int8.ofInt (31)).toInt32 = 31 := by decide
theorem kb_32 : (Int8.ofInt (32)).toInt32 = 32 := by decide
theorem kb_33 : (Int8.ofInt (33)).toInt32 = 33 := by decide
theorem kb_34 : (Int8.ofInt (34)).toInt32 = 34 := by decide
theorem kb_35 : (Int8.ofInt (35)).toInt32 = 35 := by decide
theorem kb_36 : (Int8.ofInt (36)).toInt32 = 36 := by decide
theorem kb_37 : (Int8.ofInt (37)).toInt32 = 37 := by decide
theorem kb_38 : (Int8.ofInt (38)).toInt32 = 38 := by decide
theorem kb_39 : (Int8.ofInt (39)).toInt32 = 39 := by decide
theorem kb_40 : (Int8.ofInt (40)).toInt32 = 40 := by decide
theorem kb_41 : (Int8.ofInt (41)).toInt32 = 41 := by decide
theorem kb_42 : (Int8.ofInt (42)).toInt32 = 42 := by decide
theorem kb_43 : (Int8.ofInt (43)).toInt32 = 43 := by decide
theorem kb_44 : (Int8.ofInt (44)).toInt32 = 44 := by decide
theorem kb_45 : (Int8.ofInt (45)).toInt32 = 45 := by decide
theorem kb_46 : (Int8.ofInt (46)).toInt32 = 46 := by decide
theorem kb_47 : (Int8.ofInt (47)).toInt32 = 47 := by decide
theorem kb_48 : (Int8.ofInt (48)).toInt32 = 48 := by decide
theorem kb_49 : (Int8.ofInt (49)).toInt32 = 49 := by decide
theorem kb_50 : (Int8.ofInt (50)).toInt32 = 50 := by decide
theorem kb_51 : (Int8.ofInt (51)).toInt32 = 51 := by decide
theorem kb_52 : (Int8.ofInt (52)).toInt32 = 52 := by decide
theorem kb_53 : (Int8.ofInt (53)).toInt32 = 53 := by decide
theorem kb_54 : (Int8.ofInt (54)).toInt32 = 54 := by decide
theorem kb_55 : (Int8.ofInt (55)).toInt32 = 55 := by decide
theorem kb_56 : (Int8.ofInt (56)).toInt32 = 56 := by decide
theorem kb_57 : (Int8.ofInt (57)).toInt32 = 57 := by decide
theorem kb_58 : (Int8.ofInt (58)).toInt32 = 58 := by decide
theorem kb_59 : (Int8.ofInt (59)).toInt32 = 59 := by decide
theorem kb_60 : (Int8.ofInt (60)).toInt32 = 60 := by decide
theorem kb_61 : (Int8.ofInt (61)).toInt32 = 61 := by decide
theorem kb_62 : (Int8.ofInt (62)).toInt32 = 62 := by decide
theorem kb_63 : (Int8.ofInt (63)).toInt32 = 63 := by decide
theorem kb_64 : (Int8.ofInt (64)).toInt32 = 64 := by decide
theorem kb_65 : (Int8.ofInt (65)).toInt32 = 65 := by decide
theorem kb_66 : (Int8.ofInt (66)).toInt32 = 66 := by decide
theorem kb_67 : (Int8.ofInt (67)).toInt32 = 67 := by decide
theorem kb_68 : (Int8.ofInt (68)).toInt32 = 68 := by decide
theorem kb_69 : (Int8.ofInt (69)).toInt32 = 69 := by decide
theorem kb_70 : (Int8.ofInt (70)).toInt32 = 70 := by decide
theorem kb_71 : (Int8.ofInt (71)).toInt32 = 71 := by decide
theorem kb_72 : (Int8.ofInt (72)).toInt32 = 72 := by decide
theorem kb_73 : (Int8.ofInt (73)).toInt32 = 73 := by decide
theorem kb_74 : (Int8.ofInt (74)).toInt32 = 74 := by decide
theorem kb_75 : (Int8.ofInt (75)).toInt32 = 75 := by decide
theorem kb_76 : (Int8.ofInt (76)).toInt32 = 76 := by decide
theorem kb_77 : (Int8.ofInt (77)).toInt32 = 77 := by decide
theorem kb_78 : (Int8.ofInt (78)).toInt32 = 78 := by decide
theorem kb_79 : (Int8.ofInt (79)).toInt32 = 79 := by decide
theorem kb_80 : (Int8.ofInt (80)).toInt32 = 80 := by decide
theorem kb_81 : (Int8.ofInt (81)).toInt32 = 81 := by decide
theorem kb_82 : (Int8.ofInt (82)).toInt32 = 82 := by decide
theorem kb_83 : (Int8.ofInt (83)).toInt32 = 83 := by decide
theorem kb_84 : (Int8.ofInt (84)).toInt32 = 84 := by decide
theorem kb_85 : (Int8.ofInt (85)).toInt32 = 85 := by decide
theorem kb_86 : (Int8.ofInt (86)).toInt32 = 86 := by decide
theorem kb_87 : (Int8.ofInt (87)).toInt32 = 87 := by decide
theorem kb_88 : (Int8.ofInt (88)).toInt32 = 88 := by decide
theorem kb_89 : (Int8.ofInt (89)).toInt32 = 89 := by decide
theorem kb_90 : (Int8.ofInt (90)).toInt32 = 90 := by decide
theorem kb_91 : (Int8.ofInt (91)).toInt32 = 91 := by decide
theorem kb_92 : (Int8.ofInt (92)).toInt32 = 92 := by decide
theorem kb_93 : (Int8.ofInt (93)).toInt32 = 93 := by decide
theorem kb_94 : (Int8.ofInt (94)).toInt32 = 94 := by decide
theorem kb_95 : (Int8.ofInt (95)).toInt32 = 95 := by decide
theorem kb_96 : (Int8.ofInt (96)).toInt32 = 96 := by decide
theorem kb_97 : (Int8.ofInt (97)).toInt32 = 97 := by decide
theorem kb_98 : (Int8.ofInt (98)).toInt32 = 98 := by decide
theorem kb_99 : (Int8.ofInt (99)).toInt32 = 99 := by decide
theorem kb_100 : (Int8.ofInt (100)).toInt32 = 100 := by decide
theorem kb_101 : (Int8.ofInt (101)).toInt32 = 101 := by decide
theorem kb_102 : (Int8.ofInt (102)).toInt32 = 102 := by decide
theorem kb_103 : (Int8.ofInt (103)).toInt32 = 103 := by decide
theorem kb_104 : (Int8.ofInt (104)).toInt32 = 104 := by decide
theorem kb_105 : (Int8.ofInt (105)).toInt32 = 105 := by decide
theorem kb_106 : (Int8.ofInt (106)).toInt32 = 106 := by decide
theorem kb_107 : (Int8.ofInt (107)).toInt32 = 107 := by decide
theorem kb_108 : (Int8.ofInt (108)).toInt32 = 108 := by decide
theorem kb_109 : (Int8.ofInt (109)).toInt32 = 109 := by decide
theorem kb_110 : (Int8.ofInt (110)).toInt32 = 110 := by decide
theorem kb_111 : (Int8.ofInt (111)).toInt32 = 111 := by decide
theorem kb_112 : (Int8.ofInt (112)).toInt32 = 112 := by decide
theorem kb_113 : (Int8.ofInt (113)).toInt32 = 113 := by decide
theorem kb_114 : (Int8.ofInt (114)).toInt32 = 114 := by decide
theorem kb_115 : (Int8.ofInt (115)).toInt32 = 115 := by decide
theorem kb_116 : (Int8.ofInt (116)).toInt32 = 116 := by decide
theorem kb_117 : (Int8.ofInt (117)).toInt32 = 117 := by decide
theorem kb_118 : (Int8.ofInt (118)).toInt32 = 118 := by decide
theorem kb_119 : (Int8.ofInt (119)).toInt32 = 119 := by decide
theorem kb_120 : (Int8.ofInt (120)).toInt32 = 120 := by decide
theorem kb_121 : (Int8.ofInt (121)).toInt32 = 121 := by decide
theorem kb_122 : (Int8.ofInt (122)).toInt32 = 122 := by decide
theorem kb_123 : (Int8.ofInt (123)).toInt32 = 123 := by decide
theorem kb_124 : (Int8.ofInt (124)).toInt32 = 124 := by decide
theorem kb_125 : (Int8.ofInt (125)).toInt32 = 125 := by decide
theorem kb_126 : (Int8.ofInt (126)).toInt32 = 126 := by decide
theorem kb_127 : (Int8.ofInt (127)).toInt32 = 127 := by decide
theorem ki_m1 : Int32.ofInt (-1) = -1 := by decide
theorem ki_0 : Int32.ofInt (0) = 0 := by decide
theorem ki_1 : Int32.ofInt (1) = 1 := by decide
theorem ki_2 : Int32.ofInt (2) = 2 := by decide
theorem ki_3 : Int32.ofInt (3) = 3 := by decide
theorem ki_4 : Int32.ofInt (4) = 4 := by decide
theorem ki_5 : Int32.ofInt (5) = 5 := by decide
theorem ks_128 : (Int16.ofInt (128)).toInt32 = 128 := by decide
theorem ks_200 : (Int16.ofInt (200)).toInt32 = 200 := by decide
theorem ks_300 : (Int16.ofInt (300)).toInt32 = 300 := by decide
theorem ks_336 : (Int16.ofInt (336)).toInt32 = 336 := by decide
theorem ks_384 : (Int16.ofInt (384)).toInt32 = 384 := by decide
theorem ks_504 : (Int16.ofInt (504)).toInt32 = 504 := by decide
theorem ks_664 : (Int16.ofInt (664)).toInt32 = 664 := by decide
theorem ks_724 : (Int16.ofInt (724)).toInt32 = 724 := by decide
theorem ks_844 : (Int16.ofInt (844)).toInt32 = 844 := by decide
theorem ks_852 : (Int16.ofInt (852)).toInt32 = 852 := by decide
theorem ks_916 : (Int16.ofInt (916)).toInt32 = 916 := by decide
theorem ks_976 : (Int16.ofInt (976)).toInt32 = 976 := by decide
theorem ks_1000 : (Int16.ofInt (1000)).toInt32 = 1000 := by decide
theorem ks_1001 : (Int16.ofInt (1001)).toInt32 = 1001 := by decide
theorem ks_1002 : (Int16.ofInt (1002)).toInt32 = 1002 := by decide
theorem ks_1016 : (Int16.ofInt (1016)).toInt32 = 1016 := by decide
theorem ks_1032 : (Int16.ofInt (1032)).toInt32 = 1032 := by decide
theorem ks_1056 : (Int16.ofInt (1056)).toInt32 = 1056 := by decide
theorem ks_1116 : (Int16.ofInt (1116)).toInt32 = 1116 := by decide
theorem ks_1176 : (Int16.ofInt (1176)).toInt32 = 1176 := by decide
theorem ks_1177 : (Int16.ofInt (1177)).toInt32 = 1177 := by decide
theorem ks_1178 : (Int16.ofInt (1178)).toInt32 = 1178 := by decide
theorem ks_1179 : (Int16.ofInt (1179)).toInt32 = 1179 := by decide
theorem ks_1180 : (Int16.ofInt (1180)).toInt32 = 1180 := by decide
theorem ks_1181 : (Int16.ofInt (1181)).toInt32 = 1181 := by decide
theorem ks_1182 : (Int16.ofInt (1182)).toInt32 = 1182 := by decide
theorem ks_1183 : (Int16.ofInt (1183)).toInt32 = 1183 := by decide
theorem ks_1184 : (Int16.ofInt (1184)).toInt32 = 1184 := by decide
theorem ks_1185 : (Int16.ofInt (1185)).toInt32 = 1185 := by decide
theorem ks_1186 : (Int16.ofInt (1186)).toInt32 = 1186 := by decide
theorem ks_1187 : (Int16.ofInt (1187)).toInt32 = 1187 := by decide
theorem ks_1188 : (Int16.ofInt (1188)).toInt32 = 1188 := by decide
theorem ks_1189 : (Int16.ofInt (1189)).toInt32 = 1189 := by decide
theorem ks_1190 : (Int16.ofInt (1190)).toInt32 = 1190 := by decide
theorem ks_1191 : (Int16.ofInt (1191)).toInt32 = 1191 := by decide
theorem ks_1192 : (Int16.ofInt (1192)).toInt32 = 1192 := by decide
theorem ks_1193 : (Int16.ofInt (1193)).toInt32 = 1193 := by decide
theorem ks_1194 : (Int16.ofInt (1194)).toInt32 = 1194 := by decide
theorem ks_1200 : (Int16.ofInt (1200)).toInt32 = 1200 := by decide
theorem ks_2400 : (Int16.ofInt (2400)).toInt32 = 2400 := by decide
theorem ks_10000 : (Int16.ofInt (10000)).toInt32 = 10000 := by decide
theorem ks_29791 : (Int16.ofInt (29791)).toInt32 = 29791 := by decide
theorem kl_0 : Int64.ofNat ((0 : Fin 2) : Nat) = 0 := by decide
theorem kl_1 : Int64.ofNat ((1 : Fin 2) : Nat) = 1 := by decide
