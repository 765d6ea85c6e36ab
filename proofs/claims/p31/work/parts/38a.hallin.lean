/-! ===== the hall among the tables' words, piece by piece ===== -/
set_option maxRecDepth 20000 in
theorem hallc_0 : GoodIn lw_tbl [.code yL_hall cL_hall 11 (some .boolean)] := goodIn_p _ [43] (by decide +kernel) (by decide +kernel)
set_option maxRecDepth 20000 in
theorem hallc_1 : GoodIn lw_tbl wsL_hall_r1 := goodIn_p _ [48, 51] (by decide +kernel) (by decide +kernel)
set_option maxRecDepth 20000 in
theorem hallc_2 : GoodIn lw_tbl wsL_hall_r2 := goodIn_p _ [56] (by decide +kernel) (by decide +kernel)
set_option maxRecDepth 20000 in
theorem hallc_3 : GoodIn lw_tbl wsL_hall_r3 := goodIn_p _ [100, 119, 136] (by decide +kernel) (by decide +kernel)
set_option maxRecDepth 20000 in
theorem hallc_4 : GoodIn lw_tbl wsL_hall_r4 := goodIn_p _ [146, 165, 181] (by decide +kernel) (by decide +kernel)
set_option maxRecDepth 20000 in
theorem hallc_5 : GoodIn lw_tbl wsL_hall_r5 := goodIn_p _ [198, 210, 213, 241] (by decide +kernel) (by decide +kernel)
set_option maxRecDepth 20000 in
theorem hallc_6 : GoodIn lw_tbl wsL_hall_r6 := goodIn_p _ [248, 251, 323, 328, 334] (by decide +kernel) (by decide +kernel)
set_option maxRecDepth 20000 in
theorem hallc_7 : GoodIn lw_tbl wsL_hall_r7 := goodIn_p _ [338, 358, 363, 366, 370] (by decide +kernel) (by decide +kernel)
set_option maxRecDepth 20000 in
theorem hallc_8 : GoodIn lw_tbl wsL_hall_r8 := goodIn_p _ [374, 378, 382, 385, 389, 393] (by decide +kernel) (by decide +kernel)
