set_option maxRecDepth 20000 in
theorem hallc_17 : GoodIn lw_tbl wsL_hall_r17 := goodIn_p _ [579, 582, 585, 590, 594, 598] (by decide +kernel) (by decide +kernel)
set_option maxRecDepth 20000 in
theorem hallc_18 : GoodIn lw_tbl wsL_hall_r18 := goodIn_p _ [602, 607, 613, 617, 621] (by decide +kernel) (by decide +kernel)
set_option maxRecDepth 20000 in
theorem hallc_19 : GoodIn lw_tbl wsL_hall_r19 := goodIn_p _ [625, 629, 632, 636, 640, 644] (by decide +kernel) (by decide +kernel)
set_option maxRecDepth 20000 in
theorem hallc_20 : GoodIn lw_tbl wsL_hall_r20 := goodIn_p _ [648, 652, 656, 659, 666] (by decide +kernel) (by decide +kernel)
set_option maxRecDepth 20000 in
theorem hallc_21 : GoodIn lw_tbl wsL_hall_r21 := goodIn_p _ [671, 675, 679, 684, 690] (by decide +kernel) (by decide +kernel)
set_option maxRecDepth 20000 in
theorem hallc_22 : GoodIn lw_tbl wsL_hall_r22 := goodIn_p _ [694, 713, 717, 721, 725, 729] (by decide +kernel) (by decide +kernel)
set_option maxRecDepth 20000 in
theorem hallc_23 : GoodIn lw_tbl wsL_hall_r23 := goodIn_p _ [733, 737] (by decide +kernel) (by decide +kernel)
set_option maxRecDepth 20000 in
theorem hallp_0 : GoodIn lw_tbl (wsX80) := goodIn_of _ (by decide +kernel)
set_option maxRecDepth 20000 in
theorem hallp_1 : GoodIn lw_tbl (wsX00) := goodIn_of _ (by decide +kernel)
set_option maxRecDepth 20000 in
theorem hallp_2 : GoodIn lw_tbl (wsX50) := goodIn_of _ (by decide +kernel)
set_option maxRecDepth 20000 in
theorem hallp_3 : GoodIn lw_tbl (wsX20) := goodIn_of _ (by decide +kernel)
set_option maxRecDepth 20000 in
theorem hallp_4 : GoodIn lw_tbl (wsX10) := goodIn_of _ (by decide +kernel)
set_option maxRecDepth 20000 in
theorem hallp_5 : GoodIn lw_tbl (wsX70) := goodIn_of _ (by decide +kernel)
set_option maxRecDepth 20000 in
theorem hallp_6 : GoodIn lw_tbl (wsX30) := goodIn_of _ (by decide +kernel)
set_option maxRecDepth 20000 in
theorem hallp_7 : GoodIn lw_tbl (wsX40) := goodIn_of _ (by decide +kernel)
set_option maxRecDepth 20000 in
theorem hallp_8 : GoodIn lw_tbl (wsX60) := goodIn_of _ (by decide +kernel)
set_option maxRecDepth 20000 in
theorem hallp_9 : GoodIn lw_tbl ((vx_atS RX8 212 "java/lang/IllegalArgumentException" ["java/lang/RuntimeException", "java/lang/Exception"]).filter goodWord) := goodIn_of _ (by decide +kernel)
set_option maxRecDepth 20000 in
theorem hallp_10 : GoodIn lw_tbl ((vx_atS RX8 167 "java/lang/IndexOutOfBoundsException" ["java/lang/RuntimeException", "java/lang/Exception"]).filter goodWord) := goodIn_of _ (by decide +kernel)
set_option maxRecDepth 20000 in
theorem hallp_11 : GoodIn lw_tbl ((vx_atS RX8 160 "java/lang/IllegalStateException" ["java/lang/RuntimeException", "java/lang/Exception"]).filter goodWord) := goodIn_of _ (by decide +kernel)
theorem ggT_L_hall : GoodIn lw_tbl wsL_hall := goodIn_app (a := [.code yL_hall cL_hall 11 (some .boolean)]) hallc_0 (goodIn_app (goodIn_app (goodIn_app (goodIn_app (goodIn_app (goodIn_app (goodIn_app (goodIn_app (goodIn_app (goodIn_app (goodIn_app (goodIn_app (goodIn_app hallc_1 (goodIn_app hallc_2 (goodIn_app hallc_3 (goodIn_app hallc_4 (goodIn_app hallc_5 (goodIn_app hallc_6 (goodIn_app hallc_7 (goodIn_app hallc_8 (goodIn_app hallc_9 (goodIn_app hallc_10 (goodIn_app hallc_11 (goodIn_app hallc_12 (goodIn_app hallc_13 (goodIn_app hallc_14 (goodIn_app hallc_15 (goodIn_app hallc_16 (goodIn_app hallc_17 (goodIn_app hallc_18 (goodIn_app hallc_19 (goodIn_app hallc_20 (goodIn_app hallc_21 (goodIn_app hallc_22 hallc_23)))))))))))))))))))))) hallp_0) hallp_1) hallp_2) hallp_3) hallp_4) hallp_5) hallp_6) hallp_7) hallp_8) hallp_9) hallp_10) hallp_11)
set_option maxRecDepth 20000 in
theorem gT_L_hall : GoodIn lw_tbl (va_wsS RL 156 yL_hall wsL_hall) := goodIn_app (goodIn_of _ (by decide +kernel)) ggT_L_hall
