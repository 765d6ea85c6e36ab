set_option maxRecDepth 20000 in
theorem hallc_9 : GoodIn lw_tbl wsL_hall_r9 := goodIn_p _ [396, 400, 404, 408, 412, 416] (by decide +kernel) (by decide +kernel)
set_option maxRecDepth 20000 in
theorem hallc_10 : GoodIn lw_tbl wsL_hall_r10 := goodIn_p _ [420, 424, 427, 430, 433, 437] (by decide +kernel) (by decide +kernel)
set_option maxRecDepth 20000 in
theorem hallc_11 : GoodIn lw_tbl wsL_hall_r11 := goodIn_p _ [441, 447, 453, 457, 461, 464] (by decide +kernel) (by decide +kernel)
set_option maxRecDepth 20000 in
theorem hallc_12 : GoodIn lw_tbl wsL_hall_r12 := goodIn_p _ [468, 473, 476, 480, 484] (by decide +kernel) (by decide +kernel)
set_option maxRecDepth 20000 in
theorem hallc_13 : GoodIn lw_tbl wsL_hall_r13 := goodIn_p _ [489, 493, 497, 500, 504, 508] (by decide +kernel) (by decide +kernel)
set_option maxRecDepth 20000 in
theorem hallc_14 : GoodIn lw_tbl wsL_hall_r14 := goodIn_p _ [512, 516, 520, 525, 528, 532] (by decide +kernel) (by decide +kernel)
set_option maxRecDepth 20000 in
theorem hallc_15 : GoodIn lw_tbl wsL_hall_r15 := goodIn_p _ [536, 543, 547, 552, 556] (by decide +kernel) (by decide +kernel)
set_option maxRecDepth 20000 in
theorem hallc_16 : GoodIn lw_tbl wsL_hall_r16 := goodIn_p _ [559, 564, 568, 575] (by decide +kernel) (by decide +kernel)
