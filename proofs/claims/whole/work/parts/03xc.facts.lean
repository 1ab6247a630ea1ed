theorem cl_X5_47 : CS RX5 47 yX10_within cX10_within 3 (some .boolean) 3 := ⟨Or.inr ⟨"SunTable", nw_of (tbl_4 (List.mem_of_getElem? (i := 55) (by decide +kernel))) rfl⟩, tm_tX10_within, tm_iX10, tm_cX10_within, ⟨by decide, by decide, by decide +kernel⟩, by decide⟩
theorem cl_X6_30 : CS RX6 30 yX10_copyRow cX10_copyRow 2 none 2 := ⟨Or.inr ⟨"SunTable", nw_of (tbl_3 (List.mem_of_getElem? (i := 187) (by decide +kernel))) rfl⟩, tm_tX10_copyRow, tm_iX10, tm_cX10_copyRow, ⟨by decide, by decide, by decide +kernel⟩, by decide⟩
theorem cl_X6_47 : CV RX6 47 yX6_mayBuy 6 cX6_mayBuy 3 (some .boolean) 2 := ⟨Or.inl (tg_of (tbl_4 (List.mem_of_getElem? (i := 15) (by decide +kernel))) (by decide +kernel)), tm_mX6_mayBuy, tm_sX6_mayBuy, tm_iX6, tm_cX6_mayBuy, rfl, ⟨by decide, by decide, by decide +kernel⟩, by decide, by decide⟩
theorem cl_X6_51 : CV RX6 51 yX6_moveMen 6 cX6_moveMen 4 none 3 := ⟨Or.inl (tg_of (tbl_4 (List.mem_of_getElem? (i := 101) (by decide +kernel))) (by decide +kernel)), tm_mX6_moveMen, tm_sX6_moveMen, tm_iX6, tm_cX6_moveMen, rfl, ⟨by decide, by decide, by decide +kernel⟩, by decide, by decide⟩
theorem cl_X6_55 : CV RX6 55 yX6_addSun 6 cX6_addSun 3 none 2 := ⟨Or.inl (tg_of (tbl_4 (List.mem_of_getElem? (i := 109) (by decide +kernel))) (by decide +kernel)), tm_mX6_addSun, tm_sX6_addSun, tm_iX6, tm_cX6_addSun, rfl, ⟨by decide, by decide, by decide +kernel⟩, by decide, by decide⟩
theorem cl_X6_59 : CV RX6 59 yX6_addMen 6 cX6_addMen 3 none 2 := ⟨Or.inl (tg_of (tbl_4 (List.mem_of_getElem? (i := 105) (by decide +kernel))) (by decide +kernel)), tm_mX6_addMen, tm_sX6_addMen, tm_iX6, tm_cX6_addMen, rfl, ⟨by decide, by decide, by decide +kernel⟩, by decide, by decide⟩
theorem cl_X6_68 : CS RX6 68 yX10_total cX10_total 3 (some .int) 1 := ⟨Or.inr ⟨"SunTable", nw_of (tbl_5 (List.mem_of_getElem? (i := 43) (by decide +kernel))) rfl⟩, tm_tX10_total, tm_iX10, tm_cX10_total, ⟨by decide, by decide, by decide +kernel⟩, by decide⟩
theorem cl_X7_15 : CV RX7 15 yX5_clear 5 cX5_clear 3 none 0 := ⟨Or.inl (tg_of (tbl_3 (List.mem_of_getElem? (i := 112) (by decide +kernel))) (by decide +kernel)), tm_mX5_clear, tm_sX5_clear, tm_iX5, tm_cX5_clear, rfl, ⟨by decide, by decide, by decide +kernel⟩, by decide, by decide⟩
theorem cl_X7_20 : CV RX7 20 yX7_readClause 7 cX7_readClause 5 (some .boolean) 2 := ⟨Or.inl (tg_of (tbl_3 (List.mem_of_getElem? (i := 116) (by decide +kernel))) (by decide +kernel)), tm_mX7_readClause, tm_sX7_readClause, tm_iX7, tm_cX7_readClause, rfl, ⟨by decide, by decide, by decide +kernel⟩, by decide, by decide⟩
theorem cl_X7_30 : CV RX7 30 yX2_sign 2 cX2_sign 1 (some .int) 0 := ⟨Or.inl (tg_of (tbl_3 (List.mem_of_getElem? (i := 120) (by decide +kernel))) (by decide +kernel)), tm_mX2_sign, tm_sX2_sign, tm_iX2, tm_cX2_sign, rfl, ⟨by decide, by decide, by decide +kernel⟩, by decide, by decide⟩
theorem cl_X7_38 : CV RX7 38 yX2_demand 2 cX2_demand 2 (some .boolean) 1 := ⟨Or.inl (tg_of (tbl_3 (List.mem_of_getElem? (i := 156) (by decide +kernel))) (by decide +kernel)), tm_mX2_demand, tm_sX2_demand, tm_iX2, tm_cX2_demand, rfl, ⟨by decide, by decide, by decide +kernel⟩, by decide, by decide⟩
theorem cl_X7_42 : CV RX7 42 yX2_fail 2 cX2_fail 2 (some .boolean) 1 := ⟨Or.inl (tg_of (tbl_3 (List.mem_of_getElem? (i := 124) (by decide +kernel))) (by decide +kernel)), tm_mX2_fail, tm_sX2_fail, tm_iX2, tm_cX2_fail, rfl, ⟨by decide, by decide, by decide +kernel⟩, by decide, by decide⟩
theorem cl_X7_48 : CV RX7 48 yX2_step 2 cX2_step 1 none 0 := ⟨Or.inl (tg_of (tbl_3 (List.mem_of_getElem? (i := 128) (by decide +kernel))) (by decide +kernel)), tm_mX2_step, tm_sX2_step, tm_iX2, tm_cX2_step, rfl, ⟨by decide, by decide, by decide +kernel⟩, by decide, by decide⟩
theorem cl_X7_51 : CV RX7 51 yX7_readRates 7 cX7_readRates 2 (some .boolean) 1 := ⟨Or.inl (tg_of (tbl_3 (List.mem_of_getElem? (i := 132) (by decide +kernel))) (by decide +kernel)), tm_mX7_readRates, tm_sX7_readRates, tm_iX7, tm_cX7_readRates, rfl, ⟨by decide, by decide, by decide +kernel⟩, by decide, by decide⟩
theorem cl_X7_55 : CV RX7 55 yX7_readLand 7 cX7_readLand 3 (some .boolean) 1 := ⟨Or.inl (tg_of (tbl_3 (List.mem_of_getElem? (i := 148) (by decide +kernel))) (by decide +kernel)), tm_mX7_readLand, tm_sX7_readLand, tm_iX7, tm_cX7_readLand, rfl, ⟨by decide, by decide, by decide +kernel⟩, by decide, by decide⟩
theorem cl_X7_58 : CV RX7 58 yX7_readSun 7 cX7_readSun 3 (some .boolean) 1 := ⟨Or.inl (tg_of (tbl_3 (List.mem_of_getElem? (i := 152) (by decide +kernel))) (by decide +kernel)), tm_mX7_readSun, tm_sX7_readSun, tm_iX7, tm_cX7_readSun, rfl, ⟨by decide, by decide, by decide +kernel⟩, by decide, by decide⟩
theorem cl_X7_61 : CV RX7 61 yX2_takeNumber 2 cX2_takeNumber 4 (some .boolean) 2 := ⟨Or.inl (tg_of (tbl_3 (List.mem_of_getElem? (i := 136) (by decide +kernel))) (by decide +kernel)), tm_mX2_takeNumber, tm_sX2_takeNumber, tm_iX2, tm_cX2_takeNumber, rfl, ⟨by decide, by decide, by decide +kernel⟩, by decide, by decide⟩
theorem cl_X8_102 : CS RX8 102 yX8_has cX8_has 2 (some .boolean) 2 := ⟨Or.inl (tg_of (tbl_4 (List.mem_of_getElem? (i := 71) (by decide +kernel))) (by decide +kernel)), tm_tX8_has, tm_iX8, tm_cX8_has, ⟨by decide, by decide, by decide +kernel⟩, by decide⟩
theorem cl_X8_112 : CV RX8 112 yX8_tellLand 8 cX8_tellLand 3 none 2 := ⟨Or.inl (tg_of (tbl_4 (List.mem_of_getElem? (i := 74) (by decide +kernel))) (by decide +kernel)), tm_mX8_tellLand, tm_sX8_tellLand, tm_iX8, tm_cX8_tellLand, rfl, ⟨by decide, by decide, by decide +kernel⟩, by decide, by decide⟩
theorem cl_X8_116 : CV RX8 116 yX6_mayBuy 6 cX6_mayBuy 3 (some .boolean) 2 := ⟨Or.inl (tg_of (tbl_4 (List.mem_of_getElem? (i := 70) (by decide +kernel))) (by decide +kernel)), tm_mX6_mayBuy, tm_sX6_mayBuy, tm_iX6, tm_cX6_mayBuy, rfl, ⟨by decide, by decide, by decide +kernel⟩, by decide, by decide⟩
theorem cl_X8_119 : CV RX8 119 yX8_tellOther 8 cX8_tellOther 3 none 2 := ⟨Or.inl (tg_of (tbl_4 (List.mem_of_getElem? (i := 82) (by decide +kernel))) (by decide +kernel)), tm_mX8_tellOther, tm_sX8_tellOther, tm_iX8, tm_cX8_tellOther, rfl, ⟨by decide, by decide, by decide +kernel⟩, by decide, by decide⟩
theorem cl_X8_122 : CV RX8 122 yX3_sumFor 3 cX3_sumFor 3 (some .long) 1 := ⟨Or.inl (tg_of (tbl_4 (List.mem_of_getElem? (i := 86) (by decide +kernel))) (by decide +kernel)), tm_mX3_sumFor, tm_sX3_sumFor, tm_iX3, tm_cX3_sumFor, rfl, ⟨by decide, by decide, by decide +kernel⟩, by decide, by decide⟩
theorem cl_X8_128 : CS RX8 128 yX10_within cX10_within 3 (some .boolean) 3 := ⟨Or.inr ⟨"SunTable", nw_of (tbl_4 (List.mem_of_getElem? (i := 69) (by decide +kernel))) rfl⟩, tm_tX10_within, tm_iX10, tm_cX10_within, ⟨by decide, by decide, by decide +kernel⟩, by decide⟩
theorem cl_X8_135 : CV RX8 135 yX5_soonOf 5 cX5_soonOf 3 (some .int) 2 := ⟨Or.inl (tg_of (tbl_4 (List.mem_of_getElem? (i := 78) (by decide +kernel))) (by decide +kernel)), tm_mX5_soonOf, tm_sX5_soonOf, tm_iX5, tm_cX5_soonOf, rfl, ⟨by decide, by decide, by decide +kernel⟩, by decide, by decide⟩
theorem cl_X8_49 : CS RX8 49 yX10_total cX10_total 3 (some .int) 1 := ⟨Or.inr ⟨"SunTable", nw_of (tbl_4 (List.mem_of_getElem? (i := 198) (by decide +kernel))) rfl⟩, tm_tX10_total, tm_iX10, tm_cX10_total, ⟨by decide, by decide, by decide +kernel⟩, by decide⟩
theorem cl_X8_53 : CV RX8 53 yX8_pass 8 cX8_pass 6 (some .int) 1 := ⟨Or.inl (tg_of (tbl_4 (List.mem_of_getElem? (i := 201) (by decide +kernel))) (by decide +kernel)), tm_mX8_pass, tm_sX8_pass, tm_iX8, tm_cX8_pass, rfl, ⟨by decide, by decide, by decide +kernel⟩, by decide, by decide⟩
theorem cl_X8_71 : CV RX8 71 yX5_toldFor 5 cX5_toldFor 3 (some .int) 2 := ⟨Or.inl (tg_of (tbl_4 (List.mem_of_getElem? (i := 51) (by decide +kernel))) (by decide +kernel)), tm_mX5_toldFor, tm_sX5_toldFor, tm_iX5, tm_cX5_toldFor, rfl, ⟨by decide, by decide, by decide +kernel⟩, by decide, by decide⟩
theorem cl_X8_74 : CV RX8 74 yX6_addSun 6 cX6_addSun 3 none 2 := ⟨Or.inl (tg_of (tbl_4 (List.mem_of_getElem? (i := 56) (by decide +kernel))) (by decide +kernel)), tm_mX6_addSun, tm_sX6_addSun, tm_iX6, tm_cX6_addSun, rfl, ⟨by decide, by decide, by decide +kernel⟩, by decide, by decide⟩
theorem cl_X8_78 : CV RX8 78 yX8_pick 8 cX8_pick 11 (some .int) 3 := ⟨Or.inl (tg_of (tbl_4 (List.mem_of_getElem? (i := 61) (by decide +kernel))) (by decide +kernel)), tm_mX8_pick, tm_sX8_pick, tm_iX8, tm_cX8_pick, rfl, ⟨by decide, by decide, by decide +kernel⟩, by decide, by decide⟩
theorem cl_X8_85 : CV RX8 85 yX6_buy 6 cX6_buy 3 none 2 := ⟨Or.inl (tg_of (tbl_4 (List.mem_of_getElem? (i := 97) (by decide +kernel))) (by decide +kernel)), tm_mX6_buy, tm_sX6_buy, tm_iX6, tm_cX6_buy, rfl, ⟨by decide, by decide, by decide +kernel⟩, by decide, by decide⟩
theorem cl_X8_88 : CV RX8 88 yX6_harvest 6 cX6_harvest 3 none 1 := ⟨Or.inl (tg_of (tbl_4 (List.mem_of_getElem? (i := 110) (by decide +kernel))) (by decide +kernel)), tm_mX6_harvest, tm_sX6_harvest, tm_iX6, tm_cX6_harvest, rfl, ⟨by decide, by decide, by decide +kernel⟩, by decide, by decide⟩
theorem cl_X8_98 : CV RX8 98 yX8_pickChosen 8 cX8_pickChosen 3 (some .int) 2 := ⟨Or.inl (tg_of (tbl_4 (List.mem_of_getElem? (i := 65) (by decide +kernel))) (by decide +kernel)), tm_mX8_pickChosen, tm_sX8_pickChosen, tm_iX8, tm_cX8_pickChosen, rfl, ⟨by decide, by decide, by decide +kernel⟩, by decide, by decide⟩
theorem cl_X9_46 : CV RX9 46 yX5_copyFrom 5 cX5_copyFrom 3 none 1 := ⟨Or.inl (tg_of (tbl_3 (List.mem_of_getElem? (i := 172) (by decide +kernel))) (by decide +kernel)), tm_mX5_copyFrom, tm_sX5_copyFrom, tm_iX5, tm_cX5_copyFrom, rfl, ⟨by decide, by decide, by decide +kernel⟩, by decide, by decide⟩
theorem cl_X9_50 : CV RX9 50 yX6_begin 6 cX6_begin 3 none 1 := ⟨Or.inl (tg_of (tbl_3 (List.mem_of_getElem? (i := 183) (by decide +kernel))) (by decide +kernel)), tm_mX6_begin, tm_sX6_begin, tm_iX6, tm_cX6_begin, rfl, ⟨by decide, by decide, by decide +kernel⟩, by decide, by decide⟩
theorem cl_X9_59 : CV RX9 59 yX6_copyFrom 6 cX6_copyFrom 2 none 1 := ⟨Or.inl (tg_of (tbl_5 (List.mem_of_getElem? (i := 118) (by decide +kernel))) (by decide +kernel)), tm_mX6_copyFrom, tm_sX6_copyFrom, tm_iX6, tm_cX6_copyFrom, rfl, ⟨by decide, by decide, by decide +kernel⟩, by decide, by decide⟩
theorem cl_X9_62 : CV RX9 62 yX0_copyFrom 0 cX0_copyFrom 3 none 1 := ⟨Or.inl (tg_of (tbl_5 (List.mem_of_getElem? (i := 119) (by decide +kernel))) (by decide +kernel)), tm_mX0_copyFrom, tm_sX0_copyFrom, tm_iX0, tm_cX0_copyFrom, rfl, ⟨by decide, by decide, by decide +kernel⟩, by decide, by decide⟩
theorem cl_X9_65 : CS RX9 65 yX10_copyRow cX10_copyRow 2 none 2 := ⟨Or.inr ⟨"SunTable", nw_of (tbl_5 (List.mem_of_getElem? (i := 123) (by decide +kernel))) rfl⟩, tm_tX10_copyRow, tm_iX10, tm_cX10_copyRow, ⟨by decide, by decide, by decide +kernel⟩, by decide⟩
theorem fl_X0_11 : FL RX0 11 0 0 := ⟨by decide, Or.inl (tg_of (tbl_2 (List.mem_of_getElem? (i := 8) (by decide +kernel))) (by decide +kernel))⟩
theorem fl_X0_18 : FL RX0 18 0 1 := ⟨by decide, Or.inl (tg_of (tbl_2 (List.mem_of_getElem? (i := 9) (by decide +kernel))) (by decide +kernel))⟩
theorem fl_X10_103 : FL RX10 103 9 0 := ⟨by decide, Or.inr ⟨"SunTable", nw_of (tbl_2 (List.mem_of_getElem? (i := 19) (by decide +kernel))) rfl⟩⟩
theorem fl_X10_106 : FL RX10 106 5 3 := ⟨by decide, Or.inr ⟨"SunTable", nw_of (tbl_1 (List.mem_of_getElem? (i := 112) (by decide +kernel))) rfl⟩⟩
theorem fl_X10_109 : FL RX10 109 10 5 := ⟨by decide, Or.inl (tg_of (tbl_2 (List.mem_of_getElem? (i := 153) (by decide +kernel))) (by decide +kernel))⟩
theorem fl_X10_115 : FL RX10 115 9 7 := ⟨by decide, Or.inr ⟨"SunTable", nw_of (tbl_2 (List.mem_of_getElem? (i := 32) (by decide +kernel))) rfl⟩⟩
theorem fl_X10_12 : FL RX10 12 10 0 := ⟨by decide, Or.inl (tg_of (tbl_2 (List.mem_of_getElem? (i := 148) (by decide +kernel))) (by decide +kernel))⟩
theorem fl_X10_122 : FL RX10 122 9 1 := ⟨by decide, Or.inr ⟨"SunTable", nw_of (tbl_2 (List.mem_of_getElem? (i := 22) (by decide +kernel))) rfl⟩⟩
theorem fl_X10_126 : FL RX10 126 6 0 := ⟨by decide, Or.inr ⟨"SunTable", nw_of (tbl_1 (List.mem_of_getElem? (i := 196) (by decide +kernel))) rfl⟩⟩
theorem fl_X10_132 : FL RX10 132 6 1 := ⟨by decide, Or.inr ⟨"SunTable", nw_of (tbl_1 (List.mem_of_getElem? (i := 199) (by decide +kernel))) rfl⟩⟩
theorem fl_X10_135 : FL RX10 135 6 2 := ⟨by decide, Or.inr ⟨"SunTable", nw_of (tbl_1 (List.mem_of_getElem? (i := 203) (by decide +kernel))) rfl⟩⟩
theorem fl_X10_138 : FL RX10 138 6 3 := ⟨by decide, Or.inr ⟨"SunTable", nw_of (tbl_1 (List.mem_of_getElem? (i := 207) (by decide +kernel))) rfl⟩⟩
theorem fl_X10_145 : FL RX10 145 6 4 := ⟨by decide, Or.inr ⟨"SunTable", nw_of (tbl_1 (List.mem_of_getElem? (i := 210) (by decide +kernel))) rfl⟩⟩
theorem fl_X10_148 : FL RX10 148 5 7 := ⟨by decide, Or.inr ⟨"SunTable", nw_of (tbl_1 (List.mem_of_getElem? (i := 125) (by decide +kernel))) rfl⟩⟩
theorem fl_X10_152 : FL RX10 152 5 0 := ⟨by decide, Or.inr ⟨"SunTable", nw_of (tbl_1 (List.mem_of_getElem? (i := 101) (by decide +kernel))) rfl⟩⟩
theorem fl_X10_156 : FL RX10 156 6 6 := ⟨by decide, Or.inr ⟨"SunTable", nw_of (tbl_1 (List.mem_of_getElem? (i := 219) (by decide +kernel))) rfl⟩⟩
theorem fl_X10_159 : FL RX10 159 9 2 := ⟨by decide, Or.inr ⟨"SunTable", nw_of (tbl_2 (List.mem_of_getElem? (i := 24) (by decide +kernel))) rfl⟩⟩
theorem fl_X10_202 : FL RX10 202 6 5 := ⟨by decide, Or.inr ⟨"SunTable", nw_of (tbl_1 (List.mem_of_getElem? (i := 215) (by decide +kernel))) rfl⟩⟩
theorem fl_X10_209 : FL RX10 209 0 1 := ⟨by decide, Or.inr ⟨"SunTable", nw_of (tbl_2 (List.mem_of_getElem? (i := 11) (by decide +kernel))) rfl⟩⟩
theorem fl_X10_21 : FL RX10 21 10 1 := ⟨by decide, Or.inl (tg_of (tbl_2 (List.mem_of_getElem? (i := 149) (by decide +kernel))) (by decide +kernel))⟩
theorem fl_X10_222 : FL RX10 222 1 11 := ⟨by decide, Or.inr ⟨"SunTable", nw_of (tbl_2 (List.mem_of_getElem? (i := 122) (by decide +kernel))) rfl⟩⟩
theorem fl_X10_225 : FL RX10 225 1 6 := ⟨by decide, Or.inr ⟨"SunTable", nw_of (tbl_2 (List.mem_of_getElem? (i := 115) (by decide +kernel))) rfl⟩⟩
theorem fl_X10_234 : FL RX10 234 1 10 := ⟨by decide, Or.inr ⟨"SunTable", nw_of (tbl_2 (List.mem_of_getElem? (i := 120) (by decide +kernel))) rfl⟩⟩
theorem fl_X10_266 : FL RX10 266 9 6 := ⟨by decide, Or.inr ⟨"SunTable", nw_of (tbl_2 (List.mem_of_getElem? (i := 29) (by decide +kernel))) rfl⟩⟩
theorem fl_X10_278 : FL RX10 278 9 8 := ⟨by decide, Or.inr ⟨"SunTable", nw_of (tbl_2 (List.mem_of_getElem? (i := 35) (by decide +kernel))) rfl⟩⟩
theorem fl_X10_28 : FL RX10 28 10 2 := ⟨by decide, Or.inl (tg_of (tbl_2 (List.mem_of_getElem? (i := 150) (by decide +kernel))) (by decide +kernel))⟩
theorem fl_X10_284 : FL RX10 284 5 2 := ⟨by decide, Or.inr ⟨"SunTable", nw_of (tbl_1 (List.mem_of_getElem? (i := 108) (by decide +kernel))) rfl⟩⟩
theorem fl_X10_291 : FL RX10 291 6 7 := ⟨by decide, Or.inr ⟨"SunTable", nw_of (tbl_1 (List.mem_of_getElem? (i := 221) (by decide +kernel))) rfl⟩⟩
theorem fl_X10_35 : FL RX10 35 10 3 := ⟨by decide, Or.inl (tg_of (tbl_2 (List.mem_of_getElem? (i := 151) (by decide +kernel))) (by decide +kernel))⟩
theorem fl_X10_41 : FL RX10 41 10 4 := ⟨by decide, Or.inl (tg_of (tbl_2 (List.mem_of_getElem? (i := 152) (by decide +kernel))) (by decide +kernel))⟩
theorem fl_X10_49 : FL RX10 49 10 6 := ⟨by decide, Or.inl (tg_of (tbl_2 (List.mem_of_getElem? (i := 154) (by decide +kernel))) (by decide +kernel))⟩
theorem fl_X10_53 : FL RX10 53 10 7 := ⟨by decide, Or.inl (tg_of (tbl_2 (List.mem_of_getElem? (i := 155) (by decide +kernel))) (by decide +kernel))⟩
theorem fl_X10_57 : FL RX10 57 10 8 := ⟨by decide, Or.inl (tg_of (tbl_2 (List.mem_of_getElem? (i := 156) (by decide +kernel))) (by decide +kernel))⟩
theorem fl_X10_64 : FL RX10 64 10 9 := ⟨by decide, Or.inl (tg_of (tbl_2 (List.mem_of_getElem? (i := 157) (by decide +kernel))) (by decide +kernel))⟩
theorem fl_X10_73 : FL RX10 73 10 10 := ⟨by decide, Or.inl (tg_of (tbl_2 (List.mem_of_getElem? (i := 158) (by decide +kernel))) (by decide +kernel))⟩
theorem fl_X10_77 : FL RX10 77 2 1 := ⟨by decide, Or.inr ⟨"SunTable", nw_of (tbl_1 (List.mem_of_getElem? (i := 36) (by decide +kernel))) rfl⟩⟩
theorem fl_X11_100 : FL RX11 100 11 40 := ⟨by decide, Or.inl (tg_of (tbl_5 (List.mem_of_getElem? (i := 173) (by decide +kernel))) (by decide +kernel))⟩
theorem fl_X11_103 : FL RX11 103 11 44 := ⟨by decide, Or.inl (tg_of (tbl_5 (List.mem_of_getElem? (i := 177) (by decide +kernel))) (by decide +kernel))⟩
theorem fl_X11_106 : FL RX11 106 11 45 := ⟨by decide, Or.inl (tg_of (tbl_5 (List.mem_of_getElem? (i := 178) (by decide +kernel))) (by decide +kernel))⟩
theorem fl_X11_109 : FL RX11 109 11 49 := ⟨by decide, Or.inl (tg_of (tbl_5 (List.mem_of_getElem? (i := 182) (by decide +kernel))) (by decide +kernel))⟩
theorem fl_X11_112 : FL RX11 112 11 50 := ⟨by decide, Or.inl (tg_of (tbl_5 (List.mem_of_getElem? (i := 183) (by decide +kernel))) (by decide +kernel))⟩
theorem fl_X11_115 : FL RX11 115 11 51 := ⟨by decide, Or.inl (tg_of (tbl_5 (List.mem_of_getElem? (i := 184) (by decide +kernel))) (by decide +kernel))⟩
theorem fl_X11_118 : FL RX11 118 11 52 := ⟨by decide, Or.inl (tg_of (tbl_5 (List.mem_of_getElem? (i := 185) (by decide +kernel))) (by decide +kernel))⟩
theorem fl_X11_121 : FL RX11 121 11 53 := ⟨by decide, Or.inl (tg_of (tbl_5 (List.mem_of_getElem? (i := 186) (by decide +kernel))) (by decide +kernel))⟩
theorem fl_X11_124 : FL RX11 124 11 54 := ⟨by decide, Or.inl (tg_of (tbl_5 (List.mem_of_getElem? (i := 187) (by decide +kernel))) (by decide +kernel))⟩
theorem fl_X11_127 : FL RX11 127 11 55 := ⟨by decide, Or.inl (tg_of (tbl_5 (List.mem_of_getElem? (i := 188) (by decide +kernel))) (by decide +kernel))⟩
theorem fl_X11_13 : FL RX11 13 11 2 := ⟨by decide, Or.inl (tg_of (tbl_5 (List.mem_of_getElem? (i := 135) (by decide +kernel))) (by decide +kernel))⟩
theorem fl_X11_138 : FL RX11 138 11 19 := ⟨by decide, Or.inl (tg_of (tbl_5 (List.mem_of_getElem? (i := 152) (by decide +kernel))) (by decide +kernel))⟩
theorem fl_X11_16 : FL RX11 16 11 3 := ⟨by decide, Or.inl (tg_of (tbl_5 (List.mem_of_getElem? (i := 136) (by decide +kernel))) (by decide +kernel))⟩
theorem fl_X11_165 : FL RX11 165 11 21 := ⟨by decide, Or.inl (tg_of (tbl_5 (List.mem_of_getElem? (i := 154) (by decide +kernel))) (by decide +kernel))⟩
theorem fl_X11_168 : FL RX11 168 11 20 := ⟨by decide, Or.inl (tg_of (tbl_5 (List.mem_of_getElem? (i := 153) (by decide +kernel))) (by decide +kernel))⟩
theorem fl_X11_19 : FL RX11 19 11 4 := ⟨by decide, Or.inl (tg_of (tbl_5 (List.mem_of_getElem? (i := 137) (by decide +kernel))) (by decide +kernel))⟩
theorem fl_X11_195 : FL RX11 195 11 22 := ⟨by decide, Or.inl (tg_of (tbl_5 (List.mem_of_getElem? (i := 155) (by decide +kernel))) (by decide +kernel))⟩
theorem fl_X11_198 : FL RX11 198 11 24 := ⟨by decide, Or.inl (tg_of (tbl_5 (List.mem_of_getElem? (i := 157) (by decide +kernel))) (by decide +kernel))⟩
theorem fl_X11_201 : FL RX11 201 11 26 := ⟨by decide, Or.inl (tg_of (tbl_5 (List.mem_of_getElem? (i := 159) (by decide +kernel))) (by decide +kernel))⟩
theorem fl_X11_22 : FL RX11 22 11 5 := ⟨by decide, Or.inl (tg_of (tbl_5 (List.mem_of_getElem? (i := 138) (by decide +kernel))) (by decide +kernel))⟩
theorem fl_X11_236 : FL RX11 236 11 27 := ⟨by decide, Or.inl (tg_of (tbl_5 (List.mem_of_getElem? (i := 160) (by decide +kernel))) (by decide +kernel))⟩
theorem fl_X11_239 : FL RX11 239 11 25 := ⟨by decide, Or.inl (tg_of (tbl_5 (List.mem_of_getElem? (i := 158) (by decide +kernel))) (by decide +kernel))⟩
theorem fl_X11_25 : FL RX11 25 11 6 := ⟨by decide, Or.inl (tg_of (tbl_5 (List.mem_of_getElem? (i := 139) (by decide +kernel))) (by decide +kernel))⟩
theorem fl_X11_28 : FL RX11 28 11 7 := ⟨by decide, Or.inl (tg_of (tbl_5 (List.mem_of_getElem? (i := 140) (by decide +kernel))) (by decide +kernel))⟩
theorem fl_X11_298 : FL RX11 298 11 46 := ⟨by decide, Or.inl (tg_of (tbl_5 (List.mem_of_getElem? (i := 179) (by decide +kernel))) (by decide +kernel))⟩
theorem fl_X11_31 : FL RX11 31 11 8 := ⟨by decide, Or.inl (tg_of (tbl_5 (List.mem_of_getElem? (i := 141) (by decide +kernel))) (by decide +kernel))⟩
theorem fl_X11_311 : FL RX11 311 11 23 := ⟨by decide, Or.inl (tg_of (tbl_5 (List.mem_of_getElem? (i := 156) (by decide +kernel))) (by decide +kernel))⟩
theorem fl_X11_331 : FL RX11 331 11 39 := ⟨by decide, Or.inl (tg_of (tbl_5 (List.mem_of_getElem? (i := 172) (by decide +kernel))) (by decide +kernel))⟩
theorem fl_X11_34 : FL RX11 34 11 9 := ⟨by decide, Or.inl (tg_of (tbl_5 (List.mem_of_getElem? (i := 142) (by decide +kernel))) (by decide +kernel))⟩
theorem fl_X11_363 : FL RX11 363 11 42 := ⟨by decide, Or.inl (tg_of (tbl_5 (List.mem_of_getElem? (i := 175) (by decide +kernel))) (by decide +kernel))⟩
theorem fl_X11_366 : FL RX11 366 11 43 := ⟨by decide, Or.inl (tg_of (tbl_5 (List.mem_of_getElem? (i := 176) (by decide +kernel))) (by decide +kernel))⟩
theorem fl_X11_37 : FL RX11 37 11 10 := ⟨by decide, Or.inl (tg_of (tbl_5 (List.mem_of_getElem? (i := 143) (by decide +kernel))) (by decide +kernel))⟩
theorem fl_X11_370 : FL RX11 370 11 41 := ⟨by decide, Or.inl (tg_of (tbl_5 (List.mem_of_getElem? (i := 174) (by decide +kernel))) (by decide +kernel))⟩
theorem fl_X11_388 : FL RX11 388 11 48 := ⟨by decide, Or.inl (tg_of (tbl_5 (List.mem_of_getElem? (i := 181) (by decide +kernel))) (by decide +kernel))⟩
theorem fl_X11_391 : FL RX11 391 11 47 := ⟨by decide, Or.inl (tg_of (tbl_5 (List.mem_of_getElem? (i := 180) (by decide +kernel))) (by decide +kernel))⟩
theorem fl_X11_40 : FL RX11 40 11 11 := ⟨by decide, Or.inl (tg_of (tbl_5 (List.mem_of_getElem? (i := 144) (by decide +kernel))) (by decide +kernel))⟩
theorem fl_X11_43 : FL RX11 43 11 12 := ⟨by decide, Or.inl (tg_of (tbl_5 (List.mem_of_getElem? (i := 145) (by decide +kernel))) (by decide +kernel))⟩
theorem fl_X11_46 : FL RX11 46 11 13 := ⟨by decide, Or.inl (tg_of (tbl_5 (List.mem_of_getElem? (i := 146) (by decide +kernel))) (by decide +kernel))⟩
theorem fl_X11_483 : FL RX11 483 11 57 := ⟨by decide, Or.inl (tg_of (tbl_5 (List.mem_of_getElem? (i := 190) (by decide +kernel))) (by decide +kernel))⟩
theorem fl_X11_486 : FL RX11 486 11 56 := ⟨by decide, Or.inl (tg_of (tbl_5 (List.mem_of_getElem? (i := 189) (by decide +kernel))) (by decide +kernel))⟩
theorem fl_X11_49 : FL RX11 49 11 14 := ⟨by decide, Or.inl (tg_of (tbl_5 (List.mem_of_getElem? (i := 147) (by decide +kernel))) (by decide +kernel))⟩
theorem fl_X11_52 : FL RX11 52 11 15 := ⟨by decide, Or.inl (tg_of (tbl_5 (List.mem_of_getElem? (i := 148) (by decide +kernel))) (by decide +kernel))⟩
theorem fl_X11_55 : FL RX11 55 11 16 := ⟨by decide, Or.inl (tg_of (tbl_5 (List.mem_of_getElem? (i := 149) (by decide +kernel))) (by decide +kernel))⟩
theorem fl_X11_58 : FL RX11 58 11 17 := ⟨by decide, Or.inl (tg_of (tbl_5 (List.mem_of_getElem? (i := 150) (by decide +kernel))) (by decide +kernel))⟩
theorem fl_X11_61 : FL RX11 61 11 18 := ⟨by decide, Or.inl (tg_of (tbl_5 (List.mem_of_getElem? (i := 151) (by decide +kernel))) (by decide +kernel))⟩
theorem fl_X11_64 : FL RX11 64 11 28 := ⟨by decide, Or.inl (tg_of (tbl_5 (List.mem_of_getElem? (i := 161) (by decide +kernel))) (by decide +kernel))⟩
theorem fl_X11_68 : FL RX11 68 11 29 := ⟨by decide, Or.inl (tg_of (tbl_5 (List.mem_of_getElem? (i := 162) (by decide +kernel))) (by decide +kernel))⟩
theorem fl_X11_72 : FL RX11 72 11 30 := ⟨by decide, Or.inl (tg_of (tbl_5 (List.mem_of_getElem? (i := 163) (by decide +kernel))) (by decide +kernel))⟩
theorem fl_X11_75 : FL RX11 75 11 31 := ⟨by decide, Or.inl (tg_of (tbl_5 (List.mem_of_getElem? (i := 164) (by decide +kernel))) (by decide +kernel))⟩
theorem fl_X11_78 : FL RX11 78 11 32 := ⟨by decide, Or.inl (tg_of (tbl_5 (List.mem_of_getElem? (i := 165) (by decide +kernel))) (by decide +kernel))⟩
theorem fl_X11_81 : FL RX11 81 11 33 := ⟨by decide, Or.inl (tg_of (tbl_5 (List.mem_of_getElem? (i := 166) (by decide +kernel))) (by decide +kernel))⟩
theorem fl_X11_84 : FL RX11 84 11 34 := ⟨by decide, Or.inl (tg_of (tbl_5 (List.mem_of_getElem? (i := 167) (by decide +kernel))) (by decide +kernel))⟩
theorem fl_X11_87 : FL RX11 87 11 35 := ⟨by decide, Or.inl (tg_of (tbl_5 (List.mem_of_getElem? (i := 168) (by decide +kernel))) (by decide +kernel))⟩
theorem fl_X11_9 : FL RX11 9 11 1 := ⟨by decide, Or.inl (tg_of (tbl_5 (List.mem_of_getElem? (i := 134) (by decide +kernel))) (by decide +kernel))⟩
theorem fl_X11_90 : FL RX11 90 11 36 := ⟨by decide, Or.inl (tg_of (tbl_5 (List.mem_of_getElem? (i := 169) (by decide +kernel))) (by decide +kernel))⟩
theorem fl_X11_93 : FL RX11 93 11 37 := ⟨by decide, Or.inl (tg_of (tbl_5 (List.mem_of_getElem? (i := 170) (by decide +kernel))) (by decide +kernel))⟩
theorem fl_X11_97 : FL RX11 97 11 38 := ⟨by decide, Or.inl (tg_of (tbl_5 (List.mem_of_getElem? (i := 171) (by decide +kernel))) (by decide +kernel))⟩
theorem fl_X1_104 : FL RX1 104 6 3 := ⟨by decide, Or.inr ⟨"SunTable", nw_of (tbl_1 (List.mem_of_getElem? (i := 205) (by decide +kernel))) rfl⟩⟩
theorem fl_X1_111 : FL RX1 111 5 3 := ⟨by decide, Or.inr ⟨"SunTable", nw_of (tbl_1 (List.mem_of_getElem? (i := 113) (by decide +kernel))) rfl⟩⟩
theorem fl_X1_116 : FL RX1 116 8 5 := ⟨by decide, Or.inr ⟨"SunTable", nw_of (tbl_2 (List.mem_of_getElem? (i := 71) (by decide +kernel))) rfl⟩⟩
theorem fl_X1_119 : FL RX1 119 8 6 := ⟨by decide, Or.inr ⟨"SunTable", nw_of (tbl_2 (List.mem_of_getElem? (i := 73) (by decide +kernel))) rfl⟩⟩
theorem fl_X1_12 : FL RX1 12 1 2 := ⟨by decide, Or.inl (tg_of (tbl_2 (List.mem_of_getElem? (i := 110) (by decide +kernel))) (by decide +kernel))⟩
theorem fl_X1_123 : FL RX1 123 6 5 := ⟨by decide, Or.inr ⟨"SunTable", nw_of (tbl_1 (List.mem_of_getElem? (i := 214) (by decide +kernel))) rfl⟩⟩
theorem fl_X1_138 : FL RX1 138 1 10 := ⟨by decide, Or.inl (tg_of (tbl_2 (List.mem_of_getElem? (i := 119) (by decide +kernel))) (by decide +kernel))⟩
theorem fl_X1_148 : FL RX1 148 8 3 := ⟨by decide, Or.inr ⟨"SunTable", nw_of (tbl_2 (List.mem_of_getElem? (i := 67) (by decide +kernel))) rfl⟩⟩
theorem fl_X1_166 : FL RX1 166 8 2 := ⟨by decide, Or.inr ⟨"SunTable", nw_of (tbl_2 (List.mem_of_getElem? (i := 65) (by decide +kernel))) rfl⟩⟩
theorem fl_X1_169 : FL RX1 169 8 7 := ⟨by decide, Or.inr ⟨"SunTable", nw_of (tbl_2 (List.mem_of_getElem? (i := 75) (by decide +kernel))) rfl⟩⟩
theorem fl_X1_193 : FL RX1 193 6 4 := ⟨by decide, Or.inr ⟨"SunTable", nw_of (tbl_1 (List.mem_of_getElem? (i := 211) (by decide +kernel))) rfl⟩⟩
theorem fl_X1_203 : FL RX1 203 9 8 := ⟨by decide, Or.inr ⟨"SunTable", nw_of (tbl_2 (List.mem_of_getElem? (i := 34) (by decide +kernel))) rfl⟩⟩
theorem fl_X1_21 : FL RX1 21 1 3 := ⟨by decide, Or.inl (tg_of (tbl_2 (List.mem_of_getElem? (i := 111) (by decide +kernel))) (by decide +kernel))⟩
theorem fl_X1_25 : FL RX1 25 1 4 := ⟨by decide, Or.inl (tg_of (tbl_2 (List.mem_of_getElem? (i := 112) (by decide +kernel))) (by decide +kernel))⟩
theorem fl_X1_29 : FL RX1 29 1 5 := ⟨by decide, Or.inl (tg_of (tbl_2 (List.mem_of_getElem? (i := 113) (by decide +kernel))) (by decide +kernel))⟩
theorem fl_X1_33 : FL RX1 33 1 6 := ⟨by decide, Or.inl (tg_of (tbl_2 (List.mem_of_getElem? (i := 114) (by decide +kernel))) (by decide +kernel))⟩
theorem fl_X1_36 : FL RX1 36 1 7 := ⟨by decide, Or.inl (tg_of (tbl_2 (List.mem_of_getElem? (i := 116) (by decide +kernel))) (by decide +kernel))⟩
theorem fl_X1_42 : FL RX1 42 1 8 := ⟨by decide, Or.inl (tg_of (tbl_2 (List.mem_of_getElem? (i := 117) (by decide +kernel))) (by decide +kernel))⟩
theorem fl_X1_45 : FL RX1 45 1 9 := ⟨by decide, Or.inl (tg_of (tbl_2 (List.mem_of_getElem? (i := 118) (by decide +kernel))) (by decide +kernel))⟩
theorem fl_X1_48 : FL RX1 48 1 0 := ⟨by decide, Or.inl (tg_of (tbl_2 (List.mem_of_getElem? (i := 108) (by decide +kernel))) (by decide +kernel))⟩
theorem fl_X1_52 : FL RX1 52 1 1 := ⟨by decide, Or.inl (tg_of (tbl_2 (List.mem_of_getElem? (i := 109) (by decide +kernel))) (by decide +kernel))⟩
theorem fl_X1_56 : FL RX1 56 9 1 := ⟨by decide, Or.inr ⟨"SunTable", nw_of (tbl_2 (List.mem_of_getElem? (i := 21) (by decide +kernel))) rfl⟩⟩
theorem fl_X1_65 : FL RX1 65 9 0 := ⟨by decide, Or.inr ⟨"SunTable", nw_of (tbl_2 (List.mem_of_getElem? (i := 18) (by decide +kernel))) rfl⟩⟩
theorem fl_X1_69 : FL RX1 69 9 7 := ⟨by decide, Or.inr ⟨"SunTable", nw_of (tbl_2 (List.mem_of_getElem? (i := 31) (by decide +kernel))) rfl⟩⟩
theorem fl_X1_88 : FL RX1 88 6 2 := ⟨by decide, Or.inr ⟨"SunTable", nw_of (tbl_1 (List.mem_of_getElem? (i := 202) (by decide +kernel))) rfl⟩⟩
theorem fl_X1_91 : FL RX1 91 6 6 := ⟨by decide, Or.inr ⟨"SunTable", nw_of (tbl_1 (List.mem_of_getElem? (i := 217) (by decide +kernel))) rfl⟩⟩
theorem fl_X1_94 : FL RX1 94 8 4 := ⟨by decide, Or.inr ⟨"SunTable", nw_of (tbl_2 (List.mem_of_getElem? (i := 69) (by decide +kernel))) rfl⟩⟩
theorem fl_X1_97 : FL RX1 97 1 11 := ⟨by decide, Or.inl (tg_of (tbl_2 (List.mem_of_getElem? (i := 121) (by decide +kernel))) (by decide +kernel))⟩
theorem fl_X2_104 : FL RX2 104 2 8 := ⟨by decide, Or.inl (tg_of (tbl_1 (List.mem_of_getElem? (i := 47) (by decide +kernel))) (by decide +kernel))⟩
theorem fl_X2_15 : FL RX2 15 2 2 := ⟨by decide, Or.inl (tg_of (tbl_1 (List.mem_of_getElem? (i := 38) (by decide +kernel))) (by decide +kernel))⟩
theorem fl_X2_18 : FL RX2 18 2 3 := ⟨by decide, Or.inl (tg_of (tbl_1 (List.mem_of_getElem? (i := 39) (by decide +kernel))) (by decide +kernel))⟩
theorem fl_X2_21 : FL RX2 21 2 4 := ⟨by decide, Or.inl (tg_of (tbl_1 (List.mem_of_getElem? (i := 40) (by decide +kernel))) (by decide +kernel))⟩
theorem fl_X2_24 : FL RX2 24 2 1 := ⟨by decide, Or.inl (tg_of (tbl_1 (List.mem_of_getElem? (i := 37) (by decide +kernel))) (by decide +kernel))⟩
theorem fl_X2_28 : FL RX2 28 2 5 := ⟨by decide, Or.inl (tg_of (tbl_1 (List.mem_of_getElem? (i := 41) (by decide +kernel))) (by decide +kernel))⟩
theorem fl_X2_31 : FL RX2 31 2 6 := ⟨by decide, Or.inl (tg_of (tbl_1 (List.mem_of_getElem? (i := 42) (by decide +kernel))) (by decide +kernel))⟩
theorem fl_X2_34 : FL RX2 34 2 7 := ⟨by decide, Or.inl (tg_of (tbl_1 (List.mem_of_getElem? (i := 45) (by decide +kernel))) (by decide +kernel))⟩
theorem fl_X2_9 : FL RX2 9 2 0 := ⟨by decide, Or.inl (tg_of (tbl_1 (List.mem_of_getElem? (i := 35) (by decide +kernel))) (by decide +kernel))⟩
theorem fl_X3_15 : FL RX3 15 3 1 := ⟨by decide, Or.inl (tg_of (tbl_1 (List.mem_of_getElem? (i := 154) (by decide +kernel))) (by decide +kernel))⟩
theorem fl_X3_18 : FL RX3 18 3 3 := ⟨by decide, Or.inl (tg_of (tbl_1 (List.mem_of_getElem? (i := 157) (by decide +kernel))) (by decide +kernel))⟩
theorem fl_X3_21 : FL RX3 21 3 4 := ⟨by decide, Or.inl (tg_of (tbl_1 (List.mem_of_getElem? (i := 158) (by decide +kernel))) (by decide +kernel))⟩
theorem fl_X3_24 : FL RX3 24 3 5 := ⟨by decide, Or.inl (tg_of (tbl_1 (List.mem_of_getElem? (i := 159) (by decide +kernel))) (by decide +kernel))⟩
theorem fl_X3_27 : FL RX3 27 3 7 := ⟨by decide, Or.inl (tg_of (tbl_1 (List.mem_of_getElem? (i := 161) (by decide +kernel))) (by decide +kernel))⟩
theorem fl_X3_31 : FL RX3 31 3 2 := ⟨by decide, Or.inl (tg_of (tbl_1 (List.mem_of_getElem? (i := 155) (by decide +kernel))) (by decide +kernel))⟩
theorem fl_X3_35 : FL RX3 35 3 6 := ⟨by decide, Or.inl (tg_of (tbl_1 (List.mem_of_getElem? (i := 160) (by decide +kernel))) (by decide +kernel))⟩
theorem fl_X3_9 : FL RX3 9 3 0 := ⟨by decide, Or.inl (tg_of (tbl_1 (List.mem_of_getElem? (i := 153) (by decide +kernel))) (by decide +kernel))⟩
theorem fl_X4_20 : FL RX4 20 4 1 := ⟨by decide, Or.inl (tg_of (tbl_1 (List.mem_of_getElem? (i := 85) (by decide +kernel))) (by decide +kernel))⟩
theorem fl_X4_28 : FL RX4 28 2 7 := ⟨by decide, Or.inr ⟨"SunTable", nw_of (tbl_1 (List.mem_of_getElem? (i := 44) (by decide +kernel))) rfl⟩⟩
theorem fl_X4_33 : FL RX4 33 3 2 := ⟨by decide, Or.inr ⟨"SunTable", nw_of (tbl_1 (List.mem_of_getElem? (i := 156) (by decide +kernel))) rfl⟩⟩
theorem fl_X4_9 : FL RX4 9 4 0 := ⟨by decide, Or.inl (tg_of (tbl_1 (List.mem_of_getElem? (i := 84) (by decide +kernel))) (by decide +kernel))⟩
theorem fl_X5_15 : FL RX5 15 5 5 := ⟨by decide, Or.inl (tg_of (tbl_1 (List.mem_of_getElem? (i := 117) (by decide +kernel))) (by decide +kernel))⟩
theorem fl_X5_18 : FL RX5 18 5 6 := ⟨by decide, Or.inl (tg_of (tbl_1 (List.mem_of_getElem? (i := 120) (by decide +kernel))) (by decide +kernel))⟩
theorem fl_X5_23 : FL RX5 23 5 7 := ⟨by decide, Or.inl (tg_of (tbl_1 (List.mem_of_getElem? (i := 123) (by decide +kernel))) (by decide +kernel))⟩
theorem fl_X5_26 : FL RX5 26 5 8 := ⟨by decide, Or.inl (tg_of (tbl_1 (List.mem_of_getElem? (i := 126) (by decide +kernel))) (by decide +kernel))⟩
theorem fl_X5_29 : FL RX5 29 5 0 := ⟨by decide, Or.inl (tg_of (tbl_1 (List.mem_of_getElem? (i := 99) (by decide +kernel))) (by decide +kernel))⟩
theorem fl_X5_33 : FL RX5 33 5 1 := ⟨by decide, Or.inl (tg_of (tbl_1 (List.mem_of_getElem? (i := 102) (by decide +kernel))) (by decide +kernel))⟩
theorem fl_X5_37 : FL RX5 37 5 2 := ⟨by decide, Or.inl (tg_of (tbl_1 (List.mem_of_getElem? (i := 105) (by decide +kernel))) (by decide +kernel))⟩
theorem fl_X5_40 : FL RX5 40 5 3 := ⟨by decide, Or.inl (tg_of (tbl_1 (List.mem_of_getElem? (i := 109) (by decide +kernel))) (by decide +kernel))⟩
theorem fl_X5_9 : FL RX5 9 5 4 := ⟨by decide, Or.inl (tg_of (tbl_1 (List.mem_of_getElem? (i := 114) (by decide +kernel))) (by decide +kernel))⟩
theorem fl_X6_15 : FL RX6 15 6 1 := ⟨by decide, Or.inl (tg_of (tbl_1 (List.mem_of_getElem? (i := 197) (by decide +kernel))) (by decide +kernel))⟩
theorem fl_X6_18 : FL RX6 18 6 2 := ⟨by decide, Or.inl (tg_of (tbl_1 (List.mem_of_getElem? (i := 200) (by decide +kernel))) (by decide +kernel))⟩
theorem fl_X6_21 : FL RX6 21 6 3 := ⟨by decide, Or.inl (tg_of (tbl_1 (List.mem_of_getElem? (i := 204) (by decide +kernel))) (by decide +kernel))⟩
theorem fl_X6_24 : FL RX6 24 6 4 := ⟨by decide, Or.inl (tg_of (tbl_1 (List.mem_of_getElem? (i := 208) (by decide +kernel))) (by decide +kernel))⟩
theorem fl_X6_27 : FL RX6 27 5 4 := ⟨by decide, Or.inr ⟨"SunTable", nw_of (tbl_1 (List.mem_of_getElem? (i := 115) (by decide +kernel))) rfl⟩⟩
theorem fl_X6_34 : FL RX6 34 5 5 := ⟨by decide, Or.inr ⟨"SunTable", nw_of (tbl_1 (List.mem_of_getElem? (i := 118) (by decide +kernel))) rfl⟩⟩
theorem fl_X6_35 : FL RX6 35 5 6 := ⟨by decide, Or.inr ⟨"SunTable", nw_of (tbl_1 (List.mem_of_getElem? (i := 121) (by decide +kernel))) rfl⟩⟩
theorem fl_X6_36 : FL RX6 36 5 1 := ⟨by decide, Or.inr ⟨"SunTable", nw_of (tbl_1 (List.mem_of_getElem? (i := 103) (by decide +kernel))) rfl⟩⟩
theorem fl_X6_40 : FL RX6 40 6 5 := ⟨by decide, Or.inl (tg_of (tbl_1 (List.mem_of_getElem? (i := 212) (by decide +kernel))) (by decide +kernel))⟩
theorem fl_X6_41 : FL RX6 41 6 6 := ⟨by decide, Or.inl (tg_of (tbl_1 (List.mem_of_getElem? (i := 216) (by decide +kernel))) (by decide +kernel))⟩
theorem fl_X6_44 : FL RX6 44 6 7 := ⟨by decide, Or.inl (tg_of (tbl_1 (List.mem_of_getElem? (i := 220) (by decide +kernel))) (by decide +kernel))⟩
theorem fl_X6_9 : FL RX6 9 6 0 := ⟨by decide, Or.inl (tg_of (tbl_1 (List.mem_of_getElem? (i := 194) (by decide +kernel))) (by decide +kernel))⟩
theorem fl_X7_24 : FL RX7 24 2 7 := ⟨by decide, Or.inr ⟨"SunTable", nw_of (tbl_1 (List.mem_of_getElem? (i := 43) (by decide +kernel))) rfl⟩⟩
theorem fl_X7_34 : FL RX7 34 5 0 := ⟨by decide, Or.inr ⟨"SunTable", nw_of (tbl_1 (List.mem_of_getElem? (i := 100) (by decide +kernel))) rfl⟩⟩
theorem fl_X7_45 : FL RX7 45 5 3 := ⟨by decide, Or.inr ⟨"SunTable", nw_of (tbl_1 (List.mem_of_getElem? (i := 110) (by decide +kernel))) rfl⟩⟩
theorem fl_X7_65 : FL RX7 65 2 8 := ⟨by decide, Or.inr ⟨"SunTable", nw_of (tbl_1 (List.mem_of_getElem? (i := 46) (by decide +kernel))) rfl⟩⟩
theorem fl_X7_68 : FL RX7 68 5 1 := ⟨by decide, Or.inr ⟨"SunTable", nw_of (tbl_1 (List.mem_of_getElem? (i := 104) (by decide +kernel))) rfl⟩⟩
theorem fl_X7_71 : FL RX7 71 5 2 := ⟨by decide, Or.inr ⟨"SunTable", nw_of (tbl_1 (List.mem_of_getElem? (i := 106) (by decide +kernel))) rfl⟩⟩
theorem fl_X7_74 : FL RX7 74 5 4 := ⟨by decide, Or.inr ⟨"SunTable", nw_of (tbl_1 (List.mem_of_getElem? (i := 116) (by decide +kernel))) rfl⟩⟩
theorem fl_X7_78 : FL RX7 78 5 5 := ⟨by decide, Or.inr ⟨"SunTable", nw_of (tbl_1 (List.mem_of_getElem? (i := 119) (by decide +kernel))) rfl⟩⟩
theorem fl_X7_81 : FL RX7 81 5 6 := ⟨by decide, Or.inr ⟨"SunTable", nw_of (tbl_1 (List.mem_of_getElem? (i := 122) (by decide +kernel))) rfl⟩⟩
theorem fl_X7_84 : FL RX7 84 5 7 := ⟨by decide, Or.inr ⟨"SunTable", nw_of (tbl_1 (List.mem_of_getElem? (i := 124) (by decide +kernel))) rfl⟩⟩
theorem fl_X7_9 : FL RX7 9 7 0 := ⟨by decide, Or.inl (tg_of (tbl_1 (List.mem_of_getElem? (i := 74) (by decide +kernel))) (by decide +kernel))⟩
theorem fl_X8_106 : FL RX8 106 6 0 := ⟨by decide, Or.inr ⟨"SunTable", nw_of (tbl_1 (List.mem_of_getElem? (i := 195) (by decide +kernel))) rfl⟩⟩
theorem fl_X8_109 : FL RX8 109 6 5 := ⟨by decide, Or.inr ⟨"SunTable", nw_of (tbl_1 (List.mem_of_getElem? (i := 213) (by decide +kernel))) rfl⟩⟩
theorem fl_X8_132 : FL RX8 132 6 3 := ⟨by decide, Or.inr ⟨"SunTable", nw_of (tbl_1 (List.mem_of_getElem? (i := 206) (by decide +kernel))) rfl⟩⟩
theorem fl_X8_15 : FL RX8 15 8 0 := ⟨by decide, Or.inl (tg_of (tbl_2 (List.mem_of_getElem? (i := 62) (by decide +kernel))) (by decide +kernel))⟩
theorem fl_X8_19 : FL RX8 19 8 1 := ⟨by decide, Or.inl (tg_of (tbl_2 (List.mem_of_getElem? (i := 63) (by decide +kernel))) (by decide +kernel))⟩
theorem fl_X8_23 : FL RX8 23 8 2 := ⟨by decide, Or.inl (tg_of (tbl_2 (List.mem_of_getElem? (i := 64) (by decide +kernel))) (by decide +kernel))⟩
theorem fl_X8_27 : FL RX8 27 8 3 := ⟨by decide, Or.inl (tg_of (tbl_2 (List.mem_of_getElem? (i := 66) (by decide +kernel))) (by decide +kernel))⟩
theorem fl_X8_30 : FL RX8 30 8 4 := ⟨by decide, Or.inl (tg_of (tbl_2 (List.mem_of_getElem? (i := 68) (by decide +kernel))) (by decide +kernel))⟩
theorem fl_X8_33 : FL RX8 33 8 5 := ⟨by decide, Or.inl (tg_of (tbl_2 (List.mem_of_getElem? (i := 70) (by decide +kernel))) (by decide +kernel))⟩
theorem fl_X8_36 : FL RX8 36 8 6 := ⟨by decide, Or.inl (tg_of (tbl_2 (List.mem_of_getElem? (i := 72) (by decide +kernel))) (by decide +kernel))⟩
theorem fl_X8_40 : FL RX8 40 8 7 := ⟨by decide, Or.inl (tg_of (tbl_2 (List.mem_of_getElem? (i := 74) (by decide +kernel))) (by decide +kernel))⟩
theorem fl_X8_43 : FL RX8 43 6 2 := ⟨by decide, Or.inr ⟨"SunTable", nw_of (tbl_1 (List.mem_of_getElem? (i := 201) (by decide +kernel))) rfl⟩⟩
theorem fl_X8_57 : FL RX8 57 5 3 := ⟨by decide, Or.inr ⟨"SunTable", nw_of (tbl_1 (List.mem_of_getElem? (i := 111) (by decide +kernel))) rfl⟩⟩
theorem fl_X8_68 : FL RX8 68 6 6 := ⟨by decide, Or.inr ⟨"SunTable", nw_of (tbl_1 (List.mem_of_getElem? (i := 218) (by decide +kernel))) rfl⟩⟩
theorem fl_X8_82 : FL RX8 82 6 4 := ⟨by decide, Or.inr ⟨"SunTable", nw_of (tbl_1 (List.mem_of_getElem? (i := 209) (by decide +kernel))) rfl⟩⟩
theorem fl_X8_9 : FL RX8 9 8 8 := ⟨by decide, Or.inl (tg_of (tbl_2 (List.mem_of_getElem? (i := 76) (by decide +kernel))) (by decide +kernel))⟩
theorem fl_X8_92 : FL RX8 92 6 1 := ⟨by decide, Or.inr ⟨"SunTable", nw_of (tbl_1 (List.mem_of_getElem? (i := 198) (by decide +kernel))) rfl⟩⟩
theorem fl_X8_95 : FL RX8 95 5 2 := ⟨by decide, Or.inr ⟨"SunTable", nw_of (tbl_1 (List.mem_of_getElem? (i := 107) (by decide +kernel))) rfl⟩⟩
theorem fl_X9_12 : FL RX9 12 9 0 := ⟨by decide, Or.inl (tg_of (tbl_2 (List.mem_of_getElem? (i := 17) (by decide +kernel))) (by decide +kernel))⟩
theorem fl_X9_21 : FL RX9 21 9 1 := ⟨by decide, Or.inl (tg_of (tbl_2 (List.mem_of_getElem? (i := 20) (by decide +kernel))) (by decide +kernel))⟩
theorem fl_X9_28 : FL RX9 28 9 2 := ⟨by decide, Or.inl (tg_of (tbl_2 (List.mem_of_getElem? (i := 23) (by decide +kernel))) (by decide +kernel))⟩
theorem fl_X9_32 : FL RX9 32 9 3 := ⟨by decide, Or.inl (tg_of (tbl_2 (List.mem_of_getElem? (i := 25) (by decide +kernel))) (by decide +kernel))⟩
theorem fl_X9_36 : FL RX9 36 9 4 := ⟨by decide, Or.inl (tg_of (tbl_2 (List.mem_of_getElem? (i := 26) (by decide +kernel))) (by decide +kernel))⟩
theorem fl_X9_39 : FL RX9 39 9 5 := ⟨by decide, Or.inl (tg_of (tbl_2 (List.mem_of_getElem? (i := 27) (by decide +kernel))) (by decide +kernel))⟩
theorem fl_X9_42 : FL RX9 42 9 7 := ⟨by decide, Or.inl (tg_of (tbl_2 (List.mem_of_getElem? (i := 30) (by decide +kernel))) (by decide +kernel))⟩
theorem fl_X9_53 : FL RX9 53 0 1 := ⟨by decide, Or.inr ⟨"SunTable", nw_of (tbl_2 (List.mem_of_getElem? (i := 10) (by decide +kernel))) rfl⟩⟩
theorem fl_X9_56 : FL RX9 56 9 6 := ⟨by decide, Or.inl (tg_of (tbl_2 (List.mem_of_getElem? (i := 28) (by decide +kernel))) (by decide +kernel))⟩
theorem fl_X9_69 : FL RX9 69 9 8 := ⟨by decide, Or.inl (tg_of (tbl_2 (List.mem_of_getElem? (i := 33) (by decide +kernel))) (by decide +kernel))⟩
theorem kc_J6_265 : Cond.constant RJ6 265 (1431655765 : Int32) ∈ tg := tg_of (tbl_5 (List.mem_of_getElem? (i := 23) (by decide +kernel))) (by decide +kernel)
theorem kc_J6_266 : Cond.constant RJ6 266 (858993459 : Int32) ∈ tg := tg_of (tbl_5 (List.mem_of_getElem? (i := 24) (by decide +kernel))) (by decide +kernel)
theorem kc_J6_267 : Cond.constant RJ6 267 (252645135 : Int32) ∈ tg := tg_of (tbl_5 (List.mem_of_getElem? (i := 25) (by decide +kernel))) (by decide +kernel)
theorem kc_X10_241 : Cond.constant RX10 241 (-100000 : Int32) ∈ tg := tg_of (tbl_4 (List.mem_of_getElem? (i := 219) (by decide +kernel))) (by decide +kernel)
theorem kc_X11_175 : Cond.constantLong RX11 175 (48 : Int64) ∈ tg := tg_of (tbl_6 (List.mem_of_getElem? (i := 141) (by decide +kernel))) (by decide +kernel)
theorem kc_X11_177 : Cond.constantLong RX11 177 (57 : Int64) ∈ tg := tg_of (tbl_6 (List.mem_of_getElem? (i := 142) (by decide +kernel))) (by decide +kernel)
theorem kc_X11_212 : Cond.constant RX11 212 (99999 : Int32) ∈ tg := tg_of (tbl_6 (List.mem_of_getElem? (i := 132) (by decide +kernel))) (by decide +kernel)
theorem kc_X11_317 : Cond.constantLong RX11 317 (-1 : Int64) ∈ tg := tg_of (tbl_6 (List.mem_of_getElem? (i := 235) (by decide +kernel))) (by decide +kernel)
theorem kc_X11_347 : Cond.constantLong RX11 347 (60 : Int64) ∈ tg := tg_of (tbl_7 (List.mem_of_getElem? (i := 19) (by decide +kernel))) (by decide +kernel)
theorem kc_X11_411 : Cond.constantLong RX11 411 (99 : Int64) ∈ tg := tg_of (tbl_7 (List.mem_of_getElem? (i := 101) (by decide +kernel))) (by decide +kernel)
theorem kc_X11_413 : Cond.constantLong RX11 413 (9 : Int64) ∈ tg := tg_of (tbl_7 (List.mem_of_getElem? (i := 110) (by decide +kernel))) (by decide +kernel)
theorem kc_X11_428 : Cond.constantLong RX11 428 (100 : Int64) ∈ tg := tg_of (tbl_7 (List.mem_of_getElem? (i := 115) (by decide +kernel))) (by decide +kernel)
theorem kc_X11_430 : Cond.constantLong RX11 430 (3 : Int64) ∈ tg := tg_of (tbl_7 (List.mem_of_getElem? (i := 116) (by decide +kernel))) (by decide +kernel)
theorem kc_X11_435 : Cond.constantLong RX11 435 (4 : Int64) ∈ tg := tg_of (tbl_7 (List.mem_of_getElem? (i := 145) (by decide +kernel))) (by decide +kernel)
theorem kc_X11_444 : Cond.constant RX11 444 (-100000 : Int32) ∈ tg := tg_of (tbl_7 (List.mem_of_getElem? (i := 170) (by decide +kernel))) (by decide +kernel)
theorem kc_X11_448 : Cond.constantLong RX11 448 (9999 : Int64) ∈ tg := tg_of (tbl_7 (List.mem_of_getElem? (i := 179) (by decide +kernel))) (by decide +kernel)
theorem kc_X11_457 : Cond.constantLong RX11 457 (2 : Int64) ∈ tg := tg_of (tbl_7 (List.mem_of_getElem? (i := 195) (by decide +kernel))) (by decide +kernel)
theorem kc_X11_468 : Cond.constantLong RX11 468 (1103515245 : Int64) ∈ tg := tg_of (tbl_8 (List.mem_of_getElem? (i := 4) (by decide +kernel))) (by decide +kernel)
theorem kc_X11_470 : Cond.constantLong RX11 470 (12345 : Int64) ∈ tg := tg_of (tbl_8 (List.mem_of_getElem? (i := 5) (by decide +kernel))) (by decide +kernel)
theorem kc_X11_472 : Cond.constantLong RX11 472 (2147483648 : Int64) ∈ tg := tg_of (tbl_8 (List.mem_of_getElem? (i := 6) (by decide +kernel))) (by decide +kernel)
theorem kc_X11_474 : Cond.constant RX11 474 (65536 : Int32) ∈ tg := tg_of (tbl_8 (List.mem_of_getElem? (i := 7) (by decide +kernel))) (by decide +kernel)
theorem kc_X11_478 : Cond.constantLong RX11 478 (10 : Int64) ∈ tg := tg_of (tbl_7 (List.mem_of_getElem? (i := 235) (by decide +kernel))) (by decide +kernel)
theorem kc_X1_209 : Cond.constantLong RX1 209 (1103515245 : Int64) ∈ tg := tg_of (tbl_5 (List.mem_of_getElem? (i := 102) (by decide +kernel))) (by decide +kernel)
theorem kc_X1_211 : Cond.constantLong RX1 211 (12345 : Int64) ∈ tg := tg_of (tbl_5 (List.mem_of_getElem? (i := 103) (by decide +kernel))) (by decide +kernel)
theorem kc_X1_213 : Cond.constantLong RX1 213 (2147483647 : Int64) ∈ tg := tg_of (tbl_5 (List.mem_of_getElem? (i := 104) (by decide +kernel))) (by decide +kernel)
theorem km_X10_196 : Cond.methodLink RX10 196 Lib.Math.min.name ∈ tg := tg_of (tbl_3 (List.mem_of_getElem? (i := 179) (by decide +kernel))) (by decide +kernel)
theorem km_X10_298 : Cond.methodLink RX10 298 arraycopyName ∈ tg := tg_of (tbl_3 (List.mem_of_getElem? (i := 180) (by decide +kernel))) (by decide +kernel)
theorem km_X1_187 : Cond.methodLink RX1 187 Lib.Math.max.name ∈ tg := tg_of (tbl_5 (List.mem_of_getElem? (i := 70) (by decide +kernel))) (by decide +kernel)
theorem km_X6_62 : Cond.methodLink RX6 62 Lib.Math.min.name ∈ tg := tg_of (tbl_4 (List.mem_of_getElem? (i := 60) (by decide +kernel))) (by decide +kernel)
theorem km_X8_62 : Cond.methodLink RX8 62 Lib.Math.min.name ∈ tg := tg_of (tbl_4 (List.mem_of_getElem? (i := 50) (by decide +kernel))) (by decide +kernel)
theorem km_X9_72 : Cond.methodLink RX9 72 Lib.Math.max.name ∈ tg := tg_of (tbl_5 (List.mem_of_getElem? (i := 69) (by decide +kernel))) (by decide +kernel)
