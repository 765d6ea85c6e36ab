theorem dX9_placeOf_50 : decode cX9_placeOf 50 = .ok (.goto 4, 3) := by decide +kernel
theorem dX9_placeOf_53 : decode cX9_placeOf 53 = .ok (.iconst 0, 1) := by decide +kernel
theorem dX9_placeOf_54 : decode cX9_placeOf 54 = .ok (.iadd, 1) := by decide +kernel
theorem dX9_placeOf_55 : decode cX9_placeOf 55 = .ok (.istore_n 2, 1) := by decide +kernel
theorem dX9_placeOf_56 : decode cX9_placeOf 56 = .ok (.iinc 5 1, 3) := by decide +kernel
theorem dX9_placeOf_59 : decode cX9_placeOf 59 = .ok (.goto (-48), 3) := by decide +kernel
theorem dX9_placeOf_62 : decode cX9_placeOf 62 = .ok (.iload_n 2, 1) := by decide +kernel
theorem dX9_placeOf_63 : decode cX9_placeOf 63 = .ok (.ireturn, 1) := by decide +kernel
set_option maxRecDepth 20000 in
theorem ggX9_ranked_X9_can : GoodIn wsX9_ranked wsX9_can := goodIn_r _ [6, 7, 35, 36, 37, 38, 39, 40, 41, 42, 43, 44, 45, 46, 47] (by decide +kernel) (by decide +kernel)
set_option maxRecDepth 20000 in
theorem gX9_ranked_X9_can : GoodIn wsX9_ranked (wsV RX9 55 RX9 yX9_can wsX9_can) := goodIn_app (goodIn_of _ (by decide +kernel)) ggX9_ranked_X9_can
set_option maxRecDepth 20000 in
theorem ggX9_ranked_X9_placeOf : GoodIn wsX9_ranked wsX9_placeOf := goodIn_r _ [11, 1, 12, 13, 14, 5, 15, 16, 17, 18, 19, 20, 21, 22, 23, 24, 25, 26, 27, 28, 29, 30, 31, 32, 33, 34, 35, 36, 37, 38, 39, 40, 41, 42, 43, 44, 45, 46, 47] (by decide +kernel) (by decide +kernel)
set_option maxRecDepth 20000 in
theorem gX9_ranked_X9_placeOf : GoodIn wsX9_ranked (wsV RX9 148 RX9 yX9_placeOf wsX9_placeOf) := goodIn_app (goodIn_of _ (by decide +kernel)) ggX9_ranked_X9_placeOf
theorem dX9_ranked_0 : decode cX9_ranked 0 = .ok (.aload_n 0, 1) := by decide +kernel
theorem dX9_ranked_1 : decode cX9_ranked 1 = .ok (.iload_n 1, 1) := by decide +kernel
theorem dX9_ranked_2 : decode cX9_ranked 2 = .ok (.ifCond .lt 7, 3) := by decide +kernel
theorem dX9_ranked_5 : decode cX9_ranked 5 = .ok (.iconst 0, 1) := by decide +kernel
theorem dX9_ranked_6 : decode cX9_ranked 6 = .ok (.goto 4, 3) := by decide +kernel
theorem dX9_ranked_9 : decode cX9_ranked 9 = .ok (.iconst 1, 1) := by decide +kernel
theorem dX9_ranked_10 : decode cX9_ranked 10 = .ok (.invokevirtual 55, 3) := by decide +kernel
theorem dX9_ranked_13 : decode cX9_ranked 13 = .ok (.ifCond .ne 5, 3) := by decide +kernel
theorem dX9_ranked_16 : decode cX9_ranked 16 = .ok (.iconst 0, 1) := by decide +kernel
theorem dX9_ranked_17 : decode cX9_ranked 17 = .ok (.ireturn, 1) := by decide +kernel
theorem dX9_ranked_18 : decode cX9_ranked 18 = .ok (.iconst (-1), 1) := by decide +kernel
theorem dX9_ranked_19 : decode cX9_ranked 19 = .ok (.istore_n 2, 1) := by decide +kernel
theorem dX9_ranked_20 : decode cX9_ranked 20 = .ok (.iconst 0, 1) := by decide +kernel
theorem dX9_ranked_21 : decode cX9_ranked 21 = .ok (.istore_n 3, 1) := by decide +kernel
theorem dX9_ranked_22 : decode cX9_ranked 22 = .ok (.iload_n 3, 1) := by decide +kernel
theorem dX9_ranked_23 : decode cX9_ranked 23 = .ok (.aload_n 0, 1) := by decide +kernel
theorem dX9_ranked_24 : decode cX9_ranked 24 = .ok (.getfield 7, 3) := by decide +kernel
theorem dX9_ranked_27 : decode cX9_ranked 27 = .ok (.if_icmp .ge 24, 3) := by decide +kernel
theorem dX9_ranked_30 : decode cX9_ranked 30 = .ok (.aload_n 0, 1) := by decide +kernel
theorem dX9_ranked_31 : decode cX9_ranked 31 = .ok (.iload_n 3, 1) := by decide +kernel
theorem dX9_ranked_32 : decode cX9_ranked 32 = .ok (.invokevirtual 148, 3) := by decide +kernel
theorem dX9_ranked_35 : decode cX9_ranked 35 = .ok (.iload_n 1, 1) := by decide +kernel
theorem dX9_ranked_36 : decode cX9_ranked 36 = .ok (.if_icmp .ne 7, 3) := by decide +kernel
theorem dX9_ranked_39 : decode cX9_ranked 39 = .ok (.iload_n 3, 1) := by decide +kernel
theorem dX9_ranked_40 : decode cX9_ranked 40 = .ok (.goto 4, 3) := by decide +kernel
theorem dX9_ranked_43 : decode cX9_ranked 43 = .ok (.iload_n 2, 1) := by decide +kernel
theorem dX9_ranked_44 : decode cX9_ranked 44 = .ok (.istore_n 2, 1) := by decide +kernel
theorem dX9_ranked_45 : decode cX9_ranked 45 = .ok (.iinc 3 1, 3) := by decide +kernel
theorem dX9_ranked_48 : decode cX9_ranked 48 = .ok (.goto (-26), 3) := by decide +kernel
theorem dX9_ranked_51 : decode cX9_ranked 51 = .ok (.iload_n 2, 1) := by decide +kernel
theorem dX9_ranked_52 : decode cX9_ranked 52 = .ok (.ireturn, 1) := by decide +kernel
theorem dX9_drawn_0 : decode cX9_drawn 0 = .ok (.sipush 7919, 3) := by decide +kernel
theorem dX9_drawn_3 : decode cX9_drawn 3 = .ok (.iload_n 0, 1) := by decide +kernel
theorem dX9_drawn_4 : decode cX9_drawn 4 = .ok (.imul, 1) := by decide +kernel
theorem dX9_drawn_5 : decode cX9_drawn 5 = .ok (.sipush 12345, 3) := by decide +kernel
theorem dX9_drawn_8 : decode cX9_drawn 8 = .ok (.iadd, 1) := by decide +kernel
theorem dX9_drawn_9 : decode cX9_drawn 9 = .ok (.ldc 151, 2) := by decide +kernel
theorem dX9_drawn_11 : decode cX9_drawn 11 = .ok (.irem, 1) := by decide +kernel
theorem dX9_drawn_12 : decode cX9_drawn 12 = .ok (.ireturn, 1) := by decide +kernel
set_option maxRecDepth 20000 in
theorem ggX9_isSeed_X9_isIn : GoodIn wsX9_isSeed wsX9_isIn := goodIn_r _ [5] (by decide +kernel) (by decide +kernel)
set_option maxRecDepth 20000 in
theorem gX9_isSeed_X9_isIn : GoodIn wsX9_isSeed (va_wsS RX9 51 yX9_isIn wsX9_isIn) := goodIn_app (goodIn_of _ (by decide +kernel)) ggX9_isSeed_X9_isIn
theorem dX9_isSeed_0 : decode cX9_isSeed 0 = .ok (.iload_n 0, 1) := by decide +kernel
theorem dX9_isSeed_1 : decode cX9_isSeed 1 = .ok (.iconst 0, 1) := by decide +kernel
theorem dX9_isSeed_2 : decode cX9_isSeed 2 = .ok (.ldc 152, 2) := by decide +kernel
theorem dX9_isSeed_4 : decode cX9_isSeed 4 = .ok (.invokestatic 51, 3) := by decide +kernel
theorem dX9_isSeed_7 : decode cX9_isSeed 7 = .ok (.ireturn, 1) := by decide +kernel
set_option maxRecDepth 20000 in
theorem ggX9_walk_X9_isState : GoodIn wsX9_walk wsX9_isState := goodIn_r _ [6, 7, 8, 9, 5, 10, 29, 30, 31, 32, 33, 34, 35, 36, 37, 38, 39, 40, 41] (by decide +kernel) (by decide +kernel)
set_option maxRecDepth 20000 in
theorem gX9_walk_X9_isState : GoodIn wsX9_walk (wsV RX9 59 RX9 yX9_isState wsX9_isState) := goodIn_app (goodIn_of _ (by decide +kernel)) ggX9_walk_X9_isState
set_option maxRecDepth 20000 in
theorem ggX9_walk_X9_isSeed : GoodIn wsX9_walk wsX9_isSeed := goodIn_r _ [13, 14, 8, 9, 5, 10] (by decide +kernel) (by decide +kernel)
set_option maxRecDepth 20000 in
theorem gX9_walk_X9_isSeed : GoodIn wsX9_walk (va_wsS RX9 153 yX9_isSeed wsX9_isSeed) := goodIn_app (goodIn_of _ (by decide +kernel)) ggX9_walk_X9_isSeed
set_option maxRecDepth 20000 in
theorem ggX9_walk_X9_isIn : GoodIn wsX9_walk wsX9_isIn := goodIn_r _ [10] (by decide +kernel) (by decide +kernel)
set_option maxRecDepth 20000 in
theorem gX9_walk_X9_isIn : GoodIn wsX9_walk (va_wsS RX9 51 yX9_isIn wsX9_isIn) := goodIn_app (goodIn_of _ (by decide +kernel)) ggX9_walk_X9_isIn
set_option maxRecDepth 20000 in
theorem ggX9_walk_X9_can : GoodIn wsX9_walk wsX9_can := goodIn_r _ [18, 19, 29, 30, 31, 32, 33, 34, 35, 36, 37, 38, 39, 40, 41] (by decide +kernel) (by decide +kernel)
set_option maxRecDepth 20000 in
theorem gX9_walk_X9_can : GoodIn wsX9_walk (wsV RX9 55 RX9 yX9_can wsX9_can) := goodIn_app (goodIn_of _ (by decide +kernel)) ggX9_walk_X9_can
set_option maxRecDepth 20000 in
theorem ggX9_walk_X9_drawn : GoodIn wsX9_walk wsX9_drawn := goodIn_r _ [22, 23] (by decide +kernel) (by decide +kernel)
set_option maxRecDepth 20000 in
theorem gX9_walk_X9_drawn : GoodIn wsX9_walk (va_wsS RX9 156 yX9_drawn wsX9_drawn) := goodIn_app (goodIn_of _ (by decide +kernel)) ggX9_walk_X9_drawn
set_option maxRecDepth 20000 in
theorem ggX9_walk_X9_goes : GoodIn wsX9_walk wsX9_goes := goodIn_r _ [27, 28, 29, 30, 31, 32, 33, 34, 35, 36, 37, 38, 39, 40, 41] (by decide +kernel) (by decide +kernel)
set_option maxRecDepth 20000 in
theorem gX9_walk_X9_goes : GoodIn wsX9_walk (wsV RX9 65 RX9 yX9_goes wsX9_goes) := goodIn_app (goodIn_of _ (by decide +kernel)) ggX9_walk_X9_goes
theorem dX9_walk_0 : decode cX9_walk 0 = .ok (.aload_n 0, 1) := by decide +kernel
theorem dX9_walk_1 : decode cX9_walk 1 = .ok (.aload_n 0, 1) := by decide +kernel
theorem dX9_walk_2 : decode cX9_walk 2 = .ok (.iload_n 1, 1) := by decide +kernel
theorem dX9_walk_3 : decode cX9_walk 3 = .ok (.invokevirtual 59, 3) := by decide +kernel
theorem dX9_walk_6 : decode cX9_walk 6 = .ok (.ifCond .ne 7, 3) := by decide +kernel
theorem dX9_walk_9 : decode cX9_walk 9 = .ok (.iconst 1, 1) := by decide +kernel
theorem dX9_walk_10 : decode cX9_walk 10 = .ok (.goto 26, 3) := by decide +kernel
theorem dX9_walk_13 : decode cX9_walk 13 = .ok (.iload_n 2, 1) := by decide +kernel
theorem dX9_walk_14 : decode cX9_walk 14 = .ok (.invokestatic 153, 3) := by decide +kernel
theorem dX9_walk_17 : decode cX9_walk 17 = .ok (.ifCond .eq 18, 3) := by decide +kernel
theorem dX9_walk_20 : decode cX9_walk 20 = .ok (.iload_n 3, 1) := by decide +kernel
theorem dX9_walk_21 : decode cX9_walk 21 = .ok (.iconst 0, 1) := by decide +kernel
theorem dX9_walk_22 : decode cX9_walk 22 = .ok (.sipush 1000, 3) := by decide +kernel
theorem dX9_walk_25 : decode cX9_walk 25 = .ok (.invokestatic 51, 3) := by decide +kernel
theorem dX9_walk_28 : decode cX9_walk 28 = .ok (.ifCond .eq 7, 3) := by decide +kernel
theorem dX9_walk_31 : decode cX9_walk 31 = .ok (.iconst 0, 1) := by decide +kernel
theorem dX9_walk_32 : decode cX9_walk 32 = .ok (.goto 4, 3) := by decide +kernel
theorem dX9_walk_35 : decode cX9_walk 35 = .ok (.iconst 2, 1) := by decide +kernel
theorem dX9_walk_36 : decode cX9_walk 36 = .ok (.invokevirtual 55, 3) := by decide +kernel
theorem dX9_walk_39 : decode cX9_walk 39 = .ok (.ifCond .ne 5, 3) := by decide +kernel
theorem dX9_walk_42 : decode cX9_walk 42 = .ok (.iconst 0, 1) := by decide +kernel
theorem dX9_walk_43 : decode cX9_walk 43 = .ok (.ireturn, 1) := by decide +kernel
theorem dX9_walk_44 : decode cX9_walk 44 = .ok (.iload_n 1, 1) := by decide +kernel
theorem dX9_walk_45 : decode cX9_walk 45 = .ok (.istore 4, 2) := by decide +kernel
theorem dX9_walk_47 : decode cX9_walk 47 = .ok (.iload_n 2, 1) := by decide +kernel
theorem dX9_walk_48 : decode cX9_walk 48 = .ok (.istore 5, 2) := by decide +kernel
theorem dX9_walk_50 : decode cX9_walk 50 = .ok (.iconst 0, 1) := by decide +kernel
theorem dX9_walk_51 : decode cX9_walk 51 = .ok (.istore 6, 2) := by decide +kernel
theorem dX9_walk_53 : decode cX9_walk 53 = .ok (.iload 6, 2) := by decide +kernel
theorem dX9_walk_55 : decode cX9_walk 55 = .ok (.iload_n 3, 1) := by decide +kernel
theorem dX9_walk_56 : decode cX9_walk 56 = .ok (.if_icmp .ge 31, 3) := by decide +kernel
theorem dX9_walk_59 : decode cX9_walk 59 = .ok (.iload 5, 2) := by decide +kernel
theorem dX9_walk_61 : decode cX9_walk 61 = .ok (.invokestatic 156, 3) := by decide +kernel
theorem dX9_walk_64 : decode cX9_walk 64 = .ok (.istore 5, 2) := by decide +kernel
theorem dX9_walk_66 : decode cX9_walk 66 = .ok (.aload_n 0, 1) := by decide +kernel
theorem dX9_walk_67 : decode cX9_walk 67 = .ok (.iload 4, 2) := by decide +kernel
theorem dX9_walk_69 : decode cX9_walk 69 = .ok (.iload 5, 2) := by decide +kernel
theorem dX9_walk_71 : decode cX9_walk 71 = .ok (.aload_n 0, 1) := by decide +kernel
theorem dX9_walk_72 : decode cX9_walk 72 = .ok (.getfield 13, 3) := by decide +kernel
theorem dX9_walk_75 : decode cX9_walk 75 = .ok (.irem, 1) := by decide +kernel
theorem dX9_walk_76 : decode cX9_walk 76 = .ok (.invokevirtual 65, 3) := by decide +kernel
theorem dX9_walk_79 : decode cX9_walk 79 = .ok (.istore 4, 2) := by decide +kernel
theorem dX9_walk_81 : decode cX9_walk 81 = .ok (.iinc 6 1, 3) := by decide +kernel
theorem dX9_walk_84 : decode cX9_walk 84 = .ok (.goto (-31), 3) := by decide +kernel
theorem dX9_walk_87 : decode cX9_walk 87 = .ok (.iload 4, 2) := by decide +kernel
theorem dX9_walk_89 : decode cX9_walk 89 = .ok (.ireturn, 1) := by decide +kernel
theorem dX9_isOne_0 : decode cX9_isOne 0 = .ok (.iconst 1, 1) := by decide +kernel
theorem dX9_isOne_1 : decode cX9_isOne 1 = .ok (.istore_n 1, 1) := by decide +kernel
theorem dX9_isOne_2 : decode cX9_isOne 2 = .ok (.iconst 1, 1) := by decide +kernel
theorem dX9_isOne_3 : decode cX9_isOne 3 = .ok (.istore_n 2, 1) := by decide +kernel
theorem dX9_isOne_4 : decode cX9_isOne 4 = .ok (.iload_n 2, 1) := by decide +kernel
theorem dX9_isOne_5 : decode cX9_isOne 5 = .ok (.aload_n 0, 1) := by decide +kernel
theorem dX9_isOne_6 : decode cX9_isOne 6 = .ok (.getfield 7, 3) := by decide +kernel
theorem dX9_isOne_9 : decode cX9_isOne 9 = .ok (.if_icmp .ge 34, 3) := by decide +kernel
theorem dX9_isOne_12 : decode cX9_isOne 12 = .ok (.iload_n 1, 1) := by decide +kernel
theorem dX9_isOne_13 : decode cX9_isOne 13 = .ok (.ifCond .eq 22, 3) := by decide +kernel
theorem dX9_isOne_16 : decode cX9_isOne 16 = .ok (.aload_n 0, 1) := by decide +kernel
theorem dX9_isOne_17 : decode cX9_isOne 17 = .ok (.getfield 42, 3) := by decide +kernel
theorem dX9_isOne_20 : decode cX9_isOne 20 = .ok (.iload_n 2, 1) := by decide +kernel
theorem dX9_isOne_21 : decode cX9_isOne 21 = .ok (.iaload, 1) := by decide +kernel
theorem dX9_isOne_22 : decode cX9_isOne 22 = .ok (.aload_n 0, 1) := by decide +kernel
theorem dX9_isOne_23 : decode cX9_isOne 23 = .ok (.getfield 42, 3) := by decide +kernel
theorem dX9_isOne_26 : decode cX9_isOne 26 = .ok (.iconst 0, 1) := by decide +kernel
theorem dX9_isOne_27 : decode cX9_isOne 27 = .ok (.iaload, 1) := by decide +kernel
theorem dX9_isOne_28 : decode cX9_isOne 28 = .ok (.if_icmp .ne 7, 3) := by decide +kernel
theorem dX9_isOne_31 : decode cX9_isOne 31 = .ok (.iconst 1, 1) := by decide +kernel
theorem dX9_isOne_32 : decode cX9_isOne 32 = .ok (.goto 4, 3) := by decide +kernel
theorem dX9_isOne_35 : decode cX9_isOne 35 = .ok (.iconst 0, 1) := by decide +kernel
theorem dX9_isOne_36 : decode cX9_isOne 36 = .ok (.istore_n 1, 1) := by decide +kernel
theorem dX9_isOne_37 : decode cX9_isOne 37 = .ok (.iinc 2 1, 3) := by decide +kernel
theorem dX9_isOne_40 : decode cX9_isOne 40 = .ok (.goto (-36), 3) := by decide +kernel
theorem dX9_isOne_43 : decode cX9_isOne 43 = .ok (.iload_n 1, 1) := by decide +kernel
theorem dX9_isOne_44 : decode cX9_isOne 44 = .ok (.ireturn, 1) := by decide +kernel
set_option maxRecDepth 20000 in
theorem ggX9_draw_X9_isSeed : GoodIn wsX9_draw wsX9_isSeed := goodIn_r _ [8, 9, 10, 11, 7, 12] (by decide +kernel) (by decide +kernel)
set_option maxRecDepth 20000 in
theorem gX9_draw_X9_isSeed : GoodIn wsX9_draw (va_wsS RX9 153 yX9_isSeed wsX9_isSeed) := goodIn_app (goodIn_of _ (by decide +kernel)) ggX9_draw_X9_isSeed
set_option maxRecDepth 20000 in
theorem ggX9_draw_X9_can : GoodIn wsX9_draw wsX9_can := goodIn_r _ [16, 17, 31, 32, 33, 34, 35, 36, 37, 38, 39, 40, 41, 42, 43] (by decide +kernel) (by decide +kernel)
set_option maxRecDepth 20000 in
theorem gX9_draw_X9_can : GoodIn wsX9_draw (wsV RX9 55 RX9 yX9_can wsX9_can) := goodIn_app (goodIn_of _ (by decide +kernel)) ggX9_draw_X9_can
set_option maxRecDepth 20000 in
theorem ggX9_draw_X9_isOne : GoodIn wsX9_draw wsX9_isOne := goodIn_r _ [21, 1, 2, 31, 32, 33, 34, 35, 36, 37, 38, 39, 40, 41, 42, 43] (by decide +kernel) (by decide +kernel)
set_option maxRecDepth 20000 in
theorem gX9_draw_X9_isOne : GoodIn wsX9_draw (wsV RX9 159 RX9 yX9_isOne wsX9_isOne) := goodIn_app (goodIn_of _ (by decide +kernel)) ggX9_draw_X9_isOne
set_option maxRecDepth 20000 in
theorem ggX9_draw_X9_drawn : GoodIn wsX9_draw wsX9_drawn := goodIn_r _ [24, 25] (by decide +kernel) (by decide +kernel)
set_option maxRecDepth 20000 in
theorem gX9_draw_X9_drawn : GoodIn wsX9_draw (va_wsS RX9 156 yX9_drawn wsX9_drawn) := goodIn_app (goodIn_of _ (by decide +kernel)) ggX9_draw_X9_drawn
set_option maxRecDepth 20000 in
theorem ggX9_draw_X9_goes : GoodIn wsX9_draw wsX9_goes := goodIn_r _ [29, 30, 31, 32, 33, 34, 35, 36, 37, 38, 39, 40, 41, 42, 43] (by decide +kernel) (by decide +kernel)
set_option maxRecDepth 20000 in
theorem gX9_draw_X9_goes : GoodIn wsX9_draw (wsV RX9 65 RX9 yX9_goes wsX9_goes) := goodIn_app (goodIn_of _ (by decide +kernel)) ggX9_draw_X9_goes
theorem dX9_draw_0 : decode cX9_draw 0 = .ok (.aload_n 0, 1) := by decide +kernel
theorem dX9_draw_1 : decode cX9_draw 1 = .ok (.iload_n 1, 1) := by decide +kernel
theorem dX9_draw_2 : decode cX9_draw 2 = .ok (.invokestatic 153, 3) := by decide +kernel
theorem dX9_draw_5 : decode cX9_draw 5 = .ok (.ifCond .eq 7, 3) := by decide +kernel
theorem dX9_draw_8 : decode cX9_draw 8 = .ok (.iconst 0, 1) := by decide +kernel
theorem dX9_draw_9 : decode cX9_draw 9 = .ok (.goto 4, 3) := by decide +kernel
theorem dX9_draw_12 : decode cX9_draw 12 = .ok (.iconst 1, 1) := by decide +kernel
theorem dX9_draw_13 : decode cX9_draw 13 = .ok (.invokevirtual 55, 3) := by decide +kernel
theorem dX9_draw_16 : decode cX9_draw 16 = .ok (.ifCond .ne 5, 3) := by decide +kernel
theorem dX9_draw_19 : decode cX9_draw 19 = .ok (.iconst 0, 1) := by decide +kernel
theorem dX9_draw_20 : decode cX9_draw 20 = .ok (.ireturn, 1) := by decide +kernel
theorem dX9_draw_21 : decode cX9_draw 21 = .ok (.iconst 0, 1) := by decide +kernel
theorem dX9_draw_22 : decode cX9_draw 22 = .ok (.istore_n 2, 1) := by decide +kernel
theorem dX9_draw_23 : decode cX9_draw 23 = .ok (.iload_n 2, 1) := by decide +kernel
theorem dX9_draw_24 : decode cX9_draw 24 = .ok (.aload_n 0, 1) := by decide +kernel
theorem dX9_draw_25 : decode cX9_draw 25 = .ok (.getfield 7, 3) := by decide +kernel
theorem dX9_draw_28 : decode cX9_draw 28 = .ok (.if_icmp .ge 16, 3) := by decide +kernel
theorem dX9_draw_31 : decode cX9_draw 31 = .ok (.aload_n 0, 1) := by decide +kernel
theorem dX9_draw_32 : decode cX9_draw 32 = .ok (.getfield 42, 3) := by decide +kernel
theorem dX9_draw_35 : decode cX9_draw 35 = .ok (.iload_n 2, 1) := by decide +kernel
theorem dX9_draw_36 : decode cX9_draw 36 = .ok (.iload_n 2, 1) := by decide +kernel
theorem dX9_draw_37 : decode cX9_draw 37 = .ok (.iastore, 1) := by decide +kernel
theorem dX9_draw_38 : decode cX9_draw 38 = .ok (.iinc 2 1, 3) := by decide +kernel
theorem dX9_draw_41 : decode cX9_draw 41 = .ok (.goto (-18), 3) := by decide +kernel
theorem dX9_draw_44 : decode cX9_draw 44 = .ok (.iload_n 1, 1) := by decide +kernel
theorem dX9_draw_45 : decode cX9_draw 45 = .ok (.istore_n 2, 1) := by decide +kernel
theorem dX9_draw_46 : decode cX9_draw 46 = .ok (.iconst 0, 1) := by decide +kernel
theorem dX9_draw_47 : decode cX9_draw 47 = .ok (.istore_n 3, 1) := by decide +kernel
theorem dX9_draw_48 : decode cX9_draw 48 = .ok (.iload_n 3, 1) := by decide +kernel
theorem dX9_draw_49 : decode cX9_draw 49 = .ok (.sipush 200, 3) := by decide +kernel
theorem dX9_draw_52 : decode cX9_draw 52 = .ok (.if_icmp .ge 95, 3) := by decide +kernel
theorem dX9_draw_55 : decode cX9_draw 55 = .ok (.aload_n 0, 1) := by decide +kernel
theorem dX9_draw_56 : decode cX9_draw 56 = .ok (.invokevirtual 159, 3) := by decide +kernel
theorem dX9_draw_59 : decode cX9_draw 59 = .ok (.ifCond .ne 88, 3) := by decide +kernel
theorem dX9_draw_62 : decode cX9_draw 62 = .ok (.iload_n 2, 1) := by decide +kernel
theorem dX9_draw_63 : decode cX9_draw 63 = .ok (.invokestatic 156, 3) := by decide +kernel
theorem dX9_draw_66 : decode cX9_draw 66 = .ok (.istore_n 2, 1) := by decide +kernel
theorem dX9_draw_67 : decode cX9_draw 67 = .ok (.iinc 3 1, 3) := by decide +kernel
theorem dX9_draw_70 : decode cX9_draw 70 = .ok (.iconst 0, 1) := by decide +kernel
theorem dX9_draw_71 : decode cX9_draw 71 = .ok (.istore 4, 2) := by decide +kernel
theorem dX9_draw_73 : decode cX9_draw 73 = .ok (.iload 4, 2) := by decide +kernel
theorem dX9_draw_75 : decode cX9_draw 75 = .ok (.aload_n 0, 1) := by decide +kernel
theorem dX9_draw_76 : decode cX9_draw 76 = .ok (.getfield 7, 3) := by decide +kernel
theorem dX9_draw_79 : decode cX9_draw 79 = .ok (.if_icmp .ge 33, 3) := by decide +kernel
theorem dX9_draw_82 : decode cX9_draw 82 = .ok (.aload_n 0, 1) := by decide +kernel
theorem dX9_draw_83 : decode cX9_draw 83 = .ok (.getfield 45, 3) := by decide +kernel
theorem dX9_draw_86 : decode cX9_draw 86 = .ok (.iload 4, 2) := by decide +kernel
theorem dX9_draw_88 : decode cX9_draw 88 = .ok (.aload_n 0, 1) := by decide +kernel
theorem dX9_draw_89 : decode cX9_draw 89 = .ok (.getfield 42, 3) := by decide +kernel
theorem dX9_draw_92 : decode cX9_draw 92 = .ok (.aload_n 0, 1) := by decide +kernel
theorem dX9_draw_93 : decode cX9_draw 93 = .ok (.iload 4, 2) := by decide +kernel
theorem dX9_draw_95 : decode cX9_draw 95 = .ok (.iload_n 2, 1) := by decide +kernel
theorem dX9_draw_96 : decode cX9_draw 96 = .ok (.aload_n 0, 1) := by decide +kernel
theorem dX9_draw_97 : decode cX9_draw 97 = .ok (.getfield 13, 3) := by decide +kernel
theorem dX9_draw_100 : decode cX9_draw 100 = .ok (.irem, 1) := by decide +kernel
theorem dX9_draw_101 : decode cX9_draw 101 = .ok (.invokevirtual 65, 3) := by decide +kernel
theorem dX9_draw_104 : decode cX9_draw 104 = .ok (.iaload, 1) := by decide +kernel
theorem dX9_draw_105 : decode cX9_draw 105 = .ok (.iastore, 1) := by decide +kernel
theorem dX9_draw_106 : decode cX9_draw 106 = .ok (.iinc 4 1, 3) := by decide +kernel
theorem dX9_draw_109 : decode cX9_draw 109 = .ok (.goto (-36), 3) := by decide +kernel
theorem dX9_draw_112 : decode cX9_draw 112 = .ok (.iconst 0, 1) := by decide +kernel
theorem dX9_draw_113 : decode cX9_draw 113 = .ok (.istore 4, 2) := by decide +kernel
theorem dX9_draw_115 : decode cX9_draw 115 = .ok (.iload 4, 2) := by decide +kernel
theorem dX9_draw_117 : decode cX9_draw 117 = .ok (.aload_n 0, 1) := by decide +kernel
theorem dX9_draw_118 : decode cX9_draw 118 = .ok (.getfield 7, 3) := by decide +kernel
theorem dX9_draw_121 : decode cX9_draw 121 = .ok (.if_icmp .ge 23, 3) := by decide +kernel
theorem dX9_draw_124 : decode cX9_draw 124 = .ok (.aload_n 0, 1) := by decide +kernel
theorem dX9_draw_125 : decode cX9_draw 125 = .ok (.getfield 42, 3) := by decide +kernel
theorem dX9_draw_128 : decode cX9_draw 128 = .ok (.iload 4, 2) := by decide +kernel
theorem dX9_draw_130 : decode cX9_draw 130 = .ok (.aload_n 0, 1) := by decide +kernel
theorem dX9_draw_131 : decode cX9_draw 131 = .ok (.getfield 45, 3) := by decide +kernel
theorem dX9_draw_134 : decode cX9_draw 134 = .ok (.iload 4, 2) := by decide +kernel
theorem dX9_draw_136 : decode cX9_draw 136 = .ok (.iaload, 1) := by decide +kernel
theorem dX9_draw_137 : decode cX9_draw 137 = .ok (.iastore, 1) := by decide +kernel
theorem dX9_draw_138 : decode cX9_draw 138 = .ok (.iinc 4 1, 3) := by decide +kernel
theorem dX9_draw_141 : decode cX9_draw 141 = .ok (.goto (-26), 3) := by decide +kernel
theorem dX9_draw_144 : decode cX9_draw 144 = .ok (.goto (-96), 3) := by decide +kernel
theorem dX9_draw_147 : decode cX9_draw 147 = .ok (.aload_n 0, 1) := by decide +kernel
theorem dX9_draw_148 : decode cX9_draw 148 = .ok (.invokevirtual 159, 3) := by decide +kernel
theorem dX9_draw_151 : decode cX9_draw 151 = .ok (.ifCond .eq 17, 3) := by decide +kernel
theorem dX9_draw_154 : decode cX9_draw 154 = .ok (.bipush 6, 2) := by decide +kernel
theorem dX9_draw_156 : decode cX9_draw 156 = .ok (.iload_n 3, 1) := by decide +kernel
theorem dX9_draw_157 : decode cX9_draw 157 = .ok (.imul, 1) := by decide +kernel
theorem dX9_draw_158 : decode cX9_draw 158 = .ok (.aload_n 0, 1) := by decide +kernel
theorem dX9_draw_159 : decode cX9_draw 159 = .ok (.getfield 42, 3) := by decide +kernel
theorem dX9_draw_162 : decode cX9_draw 162 = .ok (.iconst 0, 1) := by decide +kernel
theorem dX9_draw_163 : decode cX9_draw 163 = .ok (.iaload, 1) := by decide +kernel
theorem dX9_draw_164 : decode cX9_draw 164 = .ok (.iadd, 1) := by decide +kernel
theorem dX9_draw_165 : decode cX9_draw 165 = .ok (.goto 4, 3) := by decide +kernel
theorem dX9_draw_168 : decode cX9_draw 168 = .ok (.iconst (-1), 1) := by decide +kernel
theorem dX9_draw_169 : decode cX9_draw 169 = .ok (.ireturn, 1) := by decide +kernel
set_option maxRecDepth 20000 in
theorem ggX9_driftOf_X9_goes : GoodIn wsX9_driftOf wsX9_goes := goodIn_r _ [7, 8, 9, 10, 11, 12, 13, 14, 15, 16, 17, 18, 19, 20, 21] (by decide +kernel) (by decide +kernel)
set_option maxRecDepth 20000 in
theorem gX9_driftOf_X9_goes : GoodIn wsX9_driftOf (wsV RX9 65 RX9 yX9_goes wsX9_goes) := goodIn_app (goodIn_of _ (by decide +kernel)) ggX9_driftOf_X9_goes
theorem dX9_driftOf_0 : decode cX9_driftOf 0 = .ok (.lconst 0, 1) := by decide +kernel
theorem dX9_driftOf_1 : decode cX9_driftOf 1 = .ok (.lstore_n 2, 1) := by decide +kernel
theorem dX9_driftOf_2 : decode cX9_driftOf 2 = .ok (.iconst 0, 1) := by decide +kernel
theorem dX9_driftOf_3 : decode cX9_driftOf 3 = .ok (.istore 4, 2) := by decide +kernel
theorem dX9_driftOf_5 : decode cX9_driftOf 5 = .ok (.iload 4, 2) := by decide +kernel
theorem dX9_driftOf_7 : decode cX9_driftOf 7 = .ok (.aload_n 0, 1) := by decide +kernel
theorem dX9_driftOf_8 : decode cX9_driftOf 8 = .ok (.getfield 13, 3) := by decide +kernel
theorem dX9_driftOf_11 : decode cX9_driftOf 11 = .ok (.if_icmp .ge 32, 3) := by decide +kernel
theorem dX9_driftOf_14 : decode cX9_driftOf 14 = .ok (.lload_n 2, 1) := by decide +kernel
theorem dX9_driftOf_15 : decode cX9_driftOf 15 = .ok (.aload_n 0, 1) := by decide +kernel
theorem dX9_driftOf_16 : decode cX9_driftOf 16 = .ok (.getfield 20, 3) := by decide +kernel
theorem dX9_driftOf_19 : decode cX9_driftOf 19 = .ok (.aload_n 0, 1) := by decide +kernel
theorem dX9_driftOf_20 : decode cX9_driftOf 20 = .ok (.iload_n 1, 1) := by decide +kernel
theorem dX9_driftOf_21 : decode cX9_driftOf 21 = .ok (.iload 4, 2) := by decide +kernel
theorem dX9_driftOf_23 : decode cX9_driftOf 23 = .ok (.invokevirtual 65, 3) := by decide +kernel
theorem dX9_driftOf_26 : decode cX9_driftOf 26 = .ok (.iaload, 1) := by decide +kernel
theorem dX9_driftOf_27 : decode cX9_driftOf 27 = .ok (.aload_n 0, 1) := by decide +kernel
theorem dX9_driftOf_28 : decode cX9_driftOf 28 = .ok (.getfield 20, 3) := by decide +kernel
theorem dX9_driftOf_31 : decode cX9_driftOf 31 = .ok (.iload_n 1, 1) := by decide +kernel
theorem dX9_driftOf_32 : decode cX9_driftOf 32 = .ok (.iaload, 1) := by decide +kernel
theorem dX9_driftOf_33 : decode cX9_driftOf 33 = .ok (.isub, 1) := by decide +kernel
theorem dX9_driftOf_34 : decode cX9_driftOf 34 = .ok (.i2l, 1) := by decide +kernel
theorem dX9_driftOf_35 : decode cX9_driftOf 35 = .ok (.ladd, 1) := by decide +kernel
theorem dX9_driftOf_36 : decode cX9_driftOf 36 = .ok (.lstore_n 2, 1) := by decide +kernel
theorem dX9_driftOf_37 : decode cX9_driftOf 37 = .ok (.iinc 4 1, 3) := by decide +kernel
theorem dX9_driftOf_40 : decode cX9_driftOf 40 = .ok (.goto (-35), 3) := by decide +kernel
theorem dX9_driftOf_43 : decode cX9_driftOf 43 = .ok (.lload_n 2, 1) := by decide +kernel
theorem dX9_driftOf_44 : decode cX9_driftOf 44 = .ok (.lreturn, 1) := by decide +kernel
set_option maxRecDepth 20000 in
theorem ggX9_drift_X9_isState : GoodIn wsX9_drift wsX9_isState := goodIn_r _ [5, 6, 7, 8, 4, 9, 26, 27, 28, 29, 30, 31, 32, 33, 34, 35, 36, 37, 38] (by decide +kernel) (by decide +kernel)
set_option maxRecDepth 20000 in
theorem gX9_drift_X9_isState : GoodIn wsX9_drift (wsV RX9 59 RX9 yX9_isState wsX9_isState) := goodIn_app (goodIn_of _ (by decide +kernel)) ggX9_drift_X9_isState
set_option maxRecDepth 20000 in
theorem ggX9_drift_X9_can : GoodIn wsX9_drift wsX9_can := goodIn_r _ [13, 14, 26, 27, 28, 29, 30, 31, 32, 33, 34, 35, 36, 37, 38] (by decide +kernel) (by decide +kernel)
set_option maxRecDepth 20000 in
theorem gX9_drift_X9_can : GoodIn wsX9_drift (wsV RX9 55 RX9 yX9_can wsX9_can) := goodIn_app (goodIn_of _ (by decide +kernel)) ggX9_drift_X9_can
set_option maxRecDepth 20000 in
theorem ggX9_drift_X9_driftOf : GoodIn wsX9_drift wsX9_driftOf := goodIn_r _ [18, 19, 20, 21, 22, 23, 4, 24, 25, 26, 27, 28, 29, 30, 31, 32, 33, 34, 35, 36, 37, 38] (by decide +kernel) (by decide +kernel)
set_option maxRecDepth 20000 in
theorem gX9_drift_X9_driftOf : GoodIn wsX9_drift (wsV RX9 163 RX9 yX9_driftOf wsX9_driftOf) := goodIn_app (goodIn_of _ (by decide +kernel)) ggX9_drift_X9_driftOf
theorem dX9_drift_0 : decode cX9_drift 0 = .ok (.aload_n 0, 1) := by decide +kernel
theorem dX9_drift_1 : decode cX9_drift 1 = .ok (.aload_n 0, 1) := by decide +kernel
theorem dX9_drift_2 : decode cX9_drift 2 = .ok (.iload_n 1, 1) := by decide +kernel
theorem dX9_drift_3 : decode cX9_drift 3 = .ok (.invokevirtual 59, 3) := by decide +kernel
theorem dX9_drift_6 : decode cX9_drift 6 = .ok (.ifCond .eq 7, 3) := by decide +kernel
theorem dX9_drift_9 : decode cX9_drift 9 = .ok (.iconst 0, 1) := by decide +kernel
theorem dX9_drift_10 : decode cX9_drift 10 = .ok (.goto 4, 3) := by decide +kernel
theorem dX9_drift_13 : decode cX9_drift 13 = .ok (.iconst 1, 1) := by decide +kernel
theorem dX9_drift_14 : decode cX9_drift 14 = .ok (.invokevirtual 55, 3) := by decide +kernel
theorem dX9_drift_17 : decode cX9_drift 17 = .ok (.ifCond .eq 11, 3) := by decide +kernel
theorem dX9_drift_20 : decode cX9_drift 20 = .ok (.aload_n 0, 1) := by decide +kernel
theorem dX9_drift_21 : decode cX9_drift 21 = .ok (.iload_n 1, 1) := by decide +kernel
theorem dX9_drift_22 : decode cX9_drift 22 = .ok (.invokevirtual 163, 3) := by decide +kernel
theorem dX9_drift_25 : decode cX9_drift 25 = .ok (.goto 4, 3) := by decide +kernel
theorem dX9_drift_28 : decode cX9_drift 28 = .ok (.lconst 0, 1) := by decide +kernel
theorem dX9_drift_29 : decode cX9_drift 29 = .ok (.lreturn, 1) := by decide +kernel
set_option maxRecDepth 20000 in
theorem ggX9_isFair_X9_driftOf : GoodIn wsX9_isFair wsX9_driftOf := goodIn_r _ [7, 8, 9, 10, 11, 12, 6, 13, 14, 15, 16, 17, 18, 19, 20, 21, 22, 23, 24, 25, 26, 27] (by decide +kernel) (by decide +kernel)
set_option maxRecDepth 20000 in
theorem gX9_isFair_X9_driftOf : GoodIn wsX9_isFair (wsV RX9 163 RX9 yX9_driftOf wsX9_driftOf) := goodIn_app (goodIn_of _ (by decide +kernel)) ggX9_isFair_X9_driftOf
theorem dX9_isFair_0 : decode cX9_isFair 0 = .ok (.aload_n 0, 1) := by decide +kernel
theorem dX9_isFair_1 : decode cX9_isFair 1 = .ok (.iconst 0, 1) := by decide +kernel
theorem dX9_isFair_2 : decode cX9_isFair 2 = .ok (.putfield 48, 3) := by decide +kernel
theorem dX9_isFair_5 : decode cX9_isFair 5 = .ok (.iconst 1, 1) := by decide +kernel
theorem dX9_isFair_6 : decode cX9_isFair 6 = .ok (.istore_n 1, 1) := by decide +kernel
theorem dX9_isFair_7 : decode cX9_isFair 7 = .ok (.iconst 0, 1) := by decide +kernel
theorem dX9_isFair_8 : decode cX9_isFair 8 = .ok (.istore_n 2, 1) := by decide +kernel
theorem dX9_isFair_9 : decode cX9_isFair 9 = .ok (.iload_n 2, 1) := by decide +kernel
theorem dX9_isFair_10 : decode cX9_isFair 10 = .ok (.aload_n 0, 1) := by decide +kernel
theorem dX9_isFair_11 : decode cX9_isFair 11 = .ok (.getfield 7, 3) := by decide +kernel
theorem dX9_isFair_14 : decode cX9_isFair 14 = .ok (.if_icmp .ge 29, 3) := by decide +kernel
theorem dX9_isFair_17 : decode cX9_isFair 17 = .ok (.iload_n 1, 1) := by decide +kernel
theorem dX9_isFair_18 : decode cX9_isFair 18 = .ok (.ifCond .eq 17, 3) := by decide +kernel
theorem dX9_isFair_21 : decode cX9_isFair 21 = .ok (.aload_n 0, 1) := by decide +kernel
theorem dX9_isFair_22 : decode cX9_isFair 22 = .ok (.iload_n 2, 1) := by decide +kernel
theorem dX9_isFair_23 : decode cX9_isFair 23 = .ok (.invokevirtual 163, 3) := by decide +kernel
theorem dX9_isFair_26 : decode cX9_isFair 26 = .ok (.lconst 0, 1) := by decide +kernel
theorem dX9_isFair_27 : decode cX9_isFair 27 = .ok (.lcmp, 1) := by decide +kernel
theorem dX9_isFair_28 : decode cX9_isFair 28 = .ok (.ifCond .ne 7, 3) := by decide +kernel
theorem dX9_isFair_31 : decode cX9_isFair 31 = .ok (.iconst 1, 1) := by decide +kernel
theorem dX9_isFair_32 : decode cX9_isFair 32 = .ok (.goto 4, 3) := by decide +kernel
theorem dX9_isFair_35 : decode cX9_isFair 35 = .ok (.iconst 0, 1) := by decide +kernel
theorem dX9_isFair_36 : decode cX9_isFair 36 = .ok (.istore_n 1, 1) := by decide +kernel
theorem dX9_isFair_37 : decode cX9_isFair 37 = .ok (.iinc 2 1, 3) := by decide +kernel
theorem dX9_isFair_40 : decode cX9_isFair 40 = .ok (.goto (-31), 3) := by decide +kernel
theorem dX9_isFair_43 : decode cX9_isFair 43 = .ok (.iload_n 1, 1) := by decide +kernel
theorem dX9_isFair_44 : decode cX9_isFair 44 = .ok (.ireturn, 1) := by decide +kernel
set_option maxRecDepth 20000 in
theorem ggX9_plays_X9_goes : GoodIn wsX9_plays wsX9_goes := goodIn_r _ [11, 12, 17, 18, 19, 20, 21, 22, 23, 24, 25, 26, 27, 28, 29] (by decide +kernel) (by decide +kernel)
set_option maxRecDepth 20000 in
theorem gX9_plays_X9_goes : GoodIn wsX9_plays (wsV RX9 65 RX9 yX9_goes wsX9_goes) := goodIn_app (goodIn_of _ (by decide +kernel)) ggX9_plays_X9_goes
set_option maxRecDepth 20000 in
theorem ggX9_plays_X9_power : GoodIn wsX9_plays wsX9_power := goodIn_r _ [16, 6, 17, 18, 19, 20, 21, 22, 23, 24, 25, 26, 27, 28, 29] (by decide +kernel) (by decide +kernel)
set_option maxRecDepth 20000 in
theorem gX9_plays_X9_power : GoodIn wsX9_plays (wsV RX9 77 RX9 yX9_power wsX9_power) := goodIn_app (goodIn_of _ (by decide +kernel)) ggX9_plays_X9_power
theorem dX9_plays_0 : decode cX9_plays 0 = .ok (.iconst 0, 1) := by decide +kernel
theorem dX9_plays_1 : decode cX9_plays 1 = .ok (.istore_n 2, 1) := by decide +kernel
theorem dX9_plays_2 : decode cX9_plays 2 = .ok (.iload_n 2, 1) := by decide +kernel
theorem dX9_plays_3 : decode cX9_plays 3 = .ok (.aload_n 0, 1) := by decide +kernel
theorem dX9_plays_4 : decode cX9_plays 4 = .ok (.getfield 7, 3) := by decide +kernel
theorem dX9_plays_7 : decode cX9_plays 7 = .ok (.if_icmp .ge 35, 3) := by decide +kernel
theorem dX9_plays_10 : decode cX9_plays 10 = .ok (.aload_n 0, 1) := by decide +kernel
theorem dX9_plays_11 : decode cX9_plays 11 = .ok (.getfield 26, 3) := by decide +kernel
theorem dX9_plays_14 : decode cX9_plays 14 = .ok (.iload_n 2, 1) := by decide +kernel
theorem dX9_plays_15 : decode cX9_plays 15 = .ok (.aload_n 0, 1) := by decide +kernel
theorem dX9_plays_16 : decode cX9_plays 16 = .ok (.getfield 20, 3) := by decide +kernel
theorem dX9_plays_19 : decode cX9_plays 19 = .ok (.iload_n 2, 1) := by decide +kernel
theorem dX9_plays_20 : decode cX9_plays 20 = .ok (.iaload, 1) := by decide +kernel
theorem dX9_plays_21 : decode cX9_plays 21 = .ok (.i2l, 1) := by decide +kernel
theorem dX9_plays_22 : decode cX9_plays 22 = .ok (.lastore, 1) := by decide +kernel
theorem dX9_plays_23 : decode cX9_plays 23 = .ok (.aload_n 0, 1) := by decide +kernel
theorem dX9_plays_24 : decode cX9_plays 24 = .ok (.getfield 33, 3) := by decide +kernel
theorem dX9_plays_27 : decode cX9_plays 27 = .ok (.iload_n 2, 1) := by decide +kernel
theorem dX9_plays_28 : decode cX9_plays 28 = .ok (.aload_n 0, 1) := by decide +kernel
theorem dX9_plays_29 : decode cX9_plays 29 = .ok (.getfield 20, 3) := by decide +kernel
theorem dX9_plays_32 : decode cX9_plays 32 = .ok (.iload_n 2, 1) := by decide +kernel
theorem dX9_plays_33 : decode cX9_plays 33 = .ok (.iaload, 1) := by decide +kernel
theorem dX9_plays_34 : decode cX9_plays 34 = .ok (.i2l, 1) := by decide +kernel
theorem dX9_plays_35 : decode cX9_plays 35 = .ok (.lastore, 1) := by decide +kernel
theorem dX9_plays_36 : decode cX9_plays 36 = .ok (.iinc 2 1, 3) := by decide +kernel
theorem dX9_plays_39 : decode cX9_plays 39 = .ok (.goto (-37), 3) := by decide +kernel
theorem dX9_plays_42 : decode cX9_plays 42 = .ok (.iconst 1, 1) := by decide +kernel
theorem dX9_plays_43 : decode cX9_plays 43 = .ok (.istore_n 2, 1) := by decide +kernel
theorem dX9_plays_44 : decode cX9_plays 44 = .ok (.iload_n 2, 1) := by decide +kernel
theorem dX9_plays_45 : decode cX9_plays 45 = .ok (.iload_n 1, 1) := by decide +kernel
theorem dX9_plays_46 : decode cX9_plays 46 = .ok (.if_icmp .gt 143, 3) := by decide +kernel
theorem dX9_plays_49 : decode cX9_plays 49 = .ok (.iconst 0, 1) := by decide +kernel
theorem dX9_plays_50 : decode cX9_plays 50 = .ok (.istore_n 3, 1) := by decide +kernel
theorem dX9_plays_51 : decode cX9_plays 51 = .ok (.iload_n 3, 1) := by decide +kernel
theorem dX9_plays_52 : decode cX9_plays 52 = .ok (.aload_n 0, 1) := by decide +kernel
theorem dX9_plays_53 : decode cX9_plays 53 = .ok (.getfield 7, 3) := by decide +kernel
theorem dX9_plays_56 : decode cX9_plays 56 = .ok (.if_icmp .ge 21, 3) := by decide +kernel
theorem dX9_plays_59 : decode cX9_plays 59 = .ok (.aload_n 0, 1) := by decide +kernel
theorem dX9_plays_60 : decode cX9_plays 60 = .ok (.getfield 30, 3) := by decide +kernel
theorem dX9_plays_63 : decode cX9_plays 63 = .ok (.iload_n 3, 1) := by decide +kernel
theorem dX9_plays_64 : decode cX9_plays 64 = .ok (.aload_n 0, 1) := by decide +kernel
theorem dX9_plays_65 : decode cX9_plays 65 = .ok (.getfield 26, 3) := by decide +kernel
theorem dX9_plays_68 : decode cX9_plays 68 = .ok (.iload_n 3, 1) := by decide +kernel
theorem dX9_plays_69 : decode cX9_plays 69 = .ok (.laload, 1) := by decide +kernel
theorem dX9_plays_70 : decode cX9_plays 70 = .ok (.lastore, 1) := by decide +kernel
theorem dX9_plays_71 : decode cX9_plays 71 = .ok (.iinc 3 1, 3) := by decide +kernel
theorem dX9_plays_74 : decode cX9_plays 74 = .ok (.goto (-23), 3) := by decide +kernel
theorem dX9_plays_77 : decode cX9_plays 77 = .ok (.iconst 0, 1) := by decide +kernel
theorem dX9_plays_78 : decode cX9_plays 78 = .ok (.istore_n 3, 1) := by decide +kernel
theorem dX9_plays_79 : decode cX9_plays 79 = .ok (.iload_n 3, 1) := by decide +kernel
theorem dX9_plays_80 : decode cX9_plays 80 = .ok (.aload_n 0, 1) := by decide +kernel
theorem dX9_plays_81 : decode cX9_plays 81 = .ok (.getfield 7, 3) := by decide +kernel
theorem dX9_plays_84 : decode cX9_plays 84 = .ok (.if_icmp .ge 99, 3) := by decide +kernel
theorem dX9_plays_87 : decode cX9_plays 87 = .ok (.aload_n 0, 1) := by decide +kernel
theorem dX9_plays_88 : decode cX9_plays 88 = .ok (.getfield 33, 3) := by decide +kernel
theorem dX9_plays_91 : decode cX9_plays 91 = .ok (.iload_n 3, 1) := by decide +kernel
theorem dX9_plays_92 : decode cX9_plays 92 = .ok (.lconst 0, 1) := by decide +kernel
theorem dX9_plays_93 : decode cX9_plays 93 = .ok (.lastore, 1) := by decide +kernel
theorem dX9_plays_94 : decode cX9_plays 94 = .ok (.iconst 0, 1) := by decide +kernel
theorem dX9_plays_95 : decode cX9_plays 95 = .ok (.istore 4, 2) := by decide +kernel
theorem dX9_plays_97 : decode cX9_plays 97 = .ok (.iload 4, 2) := by decide +kernel
theorem dX9_plays_99 : decode cX9_plays 99 = .ok (.aload_n 0, 1) := by decide +kernel
theorem dX9_plays_100 : decode cX9_plays 100 = .ok (.getfield 13, 3) := by decide +kernel
theorem dX9_plays_103 : decode cX9_plays 103 = .ok (.if_icmp .ge 30, 3) := by decide +kernel
theorem dX9_plays_106 : decode cX9_plays 106 = .ok (.aload_n 0, 1) := by decide +kernel
theorem dX9_plays_107 : decode cX9_plays 107 = .ok (.getfield 33, 3) := by decide +kernel
theorem dX9_plays_110 : decode cX9_plays 110 = .ok (.iload_n 3, 1) := by decide +kernel
theorem dX9_plays_111 : decode cX9_plays 111 = .ok (.dup2, 1) := by decide +kernel
theorem dX9_plays_112 : decode cX9_plays 112 = .ok (.laload, 1) := by decide +kernel
theorem dX9_plays_113 : decode cX9_plays 113 = .ok (.aload_n 0, 1) := by decide +kernel
theorem dX9_plays_114 : decode cX9_plays 114 = .ok (.getfield 30, 3) := by decide +kernel
theorem dX9_plays_117 : decode cX9_plays 117 = .ok (.aload_n 0, 1) := by decide +kernel
theorem dX9_plays_118 : decode cX9_plays 118 = .ok (.iload_n 3, 1) := by decide +kernel
theorem dX9_plays_119 : decode cX9_plays 119 = .ok (.iload 4, 2) := by decide +kernel
theorem dX9_plays_121 : decode cX9_plays 121 = .ok (.invokevirtual 65, 3) := by decide +kernel
theorem dX9_plays_124 : decode cX9_plays 124 = .ok (.laload, 1) := by decide +kernel
theorem dX9_plays_125 : decode cX9_plays 125 = .ok (.ladd, 1) := by decide +kernel
theorem dX9_plays_126 : decode cX9_plays 126 = .ok (.lastore, 1) := by decide +kernel
theorem dX9_plays_127 : decode cX9_plays 127 = .ok (.iinc 4 1, 3) := by decide +kernel
theorem dX9_plays_130 : decode cX9_plays 130 = .ok (.goto (-33), 3) := by decide +kernel
theorem dX9_plays_133 : decode cX9_plays 133 = .ok (.aload_n 0, 1) := by decide +kernel
theorem dX9_plays_134 : decode cX9_plays 134 = .ok (.getfield 20, 3) := by decide +kernel
theorem dX9_plays_137 : decode cX9_plays 137 = .ok (.iload_n 3, 1) := by decide +kernel
theorem dX9_plays_138 : decode cX9_plays 138 = .ok (.iaload, 1) := by decide +kernel
theorem dX9_plays_139 : decode cX9_plays 139 = .ok (.i2l, 1) := by decide +kernel
theorem dX9_plays_140 : decode cX9_plays 140 = .ok (.aload_n 0, 1) := by decide +kernel
theorem dX9_plays_141 : decode cX9_plays 141 = .ok (.iload_n 2, 1) := by decide +kernel
theorem dX9_plays_142 : decode cX9_plays 142 = .ok (.invokevirtual 77, 3) := by decide +kernel
theorem dX9_plays_145 : decode cX9_plays 145 = .ok (.lmul, 1) := by decide +kernel
theorem dX9_plays_146 : decode cX9_plays 146 = .ok (.lstore 4, 2) := by decide +kernel
theorem dX9_plays_148 : decode cX9_plays 148 = .ok (.aload_n 0, 1) := by decide +kernel
theorem dX9_plays_149 : decode cX9_plays 149 = .ok (.getfield 26, 3) := by decide +kernel
theorem dX9_plays_152 : decode cX9_plays 152 = .ok (.iload_n 3, 1) := by decide +kernel
theorem dX9_plays_153 : decode cX9_plays 153 = .ok (.lload 4, 2) := by decide +kernel
theorem dX9_plays_155 : decode cX9_plays 155 = .ok (.aload_n 0, 1) := by decide +kernel
theorem dX9_plays_156 : decode cX9_plays 156 = .ok (.getfield 33, 3) := by decide +kernel
theorem dX9_plays_159 : decode cX9_plays 159 = .ok (.iload_n 3, 1) := by decide +kernel
theorem dX9_plays_160 : decode cX9_plays 160 = .ok (.laload, 1) := by decide +kernel
theorem dX9_plays_161 : decode cX9_plays 161 = .ok (.lcmp, 1) := by decide +kernel
theorem dX9_plays_162 : decode cX9_plays 162 = .ok (.ifCond .ge 12, 3) := by decide +kernel
theorem dX9_plays_165 : decode cX9_plays 165 = .ok (.aload_n 0, 1) := by decide +kernel
theorem dX9_plays_166 : decode cX9_plays 166 = .ok (.getfield 33, 3) := by decide +kernel
theorem dX9_plays_169 : decode cX9_plays 169 = .ok (.iload_n 3, 1) := by decide +kernel
theorem dX9_plays_170 : decode cX9_plays 170 = .ok (.laload, 1) := by decide +kernel
theorem dX9_plays_171 : decode cX9_plays 171 = .ok (.goto 5, 3) := by decide +kernel
theorem dX9_plays_174 : decode cX9_plays 174 = .ok (.lload 4, 2) := by decide +kernel
theorem dX9_plays_176 : decode cX9_plays 176 = .ok (.lastore, 1) := by decide +kernel
theorem dX9_plays_177 : decode cX9_plays 177 = .ok (.iinc 3 1, 3) := by decide +kernel
theorem dX9_plays_180 : decode cX9_plays 180 = .ok (.goto (-101), 3) := by decide +kernel
theorem dX9_plays_183 : decode cX9_plays 183 = .ok (.iinc 2 1, 3) := by decide +kernel
theorem dX9_plays_186 : decode cX9_plays 186 = .ok (.goto (-142), 3) := by decide +kernel
theorem dX9_plays_189 : decode cX9_plays 189 = .ok (.return_, 1) := by decide +kernel
set_option maxRecDepth 20000 in
theorem ggX9_best_X9_isState : GoodIn wsX9_best wsX9_isState := goodIn_r _ [6, 7, 8, 9, 5, 10, 36, 37, 38, 39, 40, 41, 42, 43, 44, 45, 46, 47, 48] (by decide +kernel) (by decide +kernel)
set_option maxRecDepth 20000 in
theorem gX9_best_X9_isState : GoodIn wsX9_best (wsV RX9 59 RX9 yX9_isState wsX9_isState) := goodIn_app (goodIn_of _ (by decide +kernel)) ggX9_best_X9_isState
set_option maxRecDepth 20000 in
theorem ggX9_best_X9_areSteps : GoodIn wsX9_best wsX9_areSteps := goodIn_r _ [13, 8, 9, 5, 10] (by decide +kernel) (by decide +kernel)
set_option maxRecDepth 20000 in
theorem gX9_best_X9_areSteps : GoodIn wsX9_best (va_wsS RX9 74 yX9_areSteps wsX9_areSteps) := goodIn_app (goodIn_of _ (by decide +kernel)) ggX9_best_X9_areSteps
set_option maxRecDepth 20000 in
theorem ggX9_best_X9_can : GoodIn wsX9_best wsX9_can := goodIn_r _ [17, 18, 36, 37, 38, 39, 40, 41, 42, 43, 44, 45, 46, 47, 48] (by decide +kernel) (by decide +kernel)
set_option maxRecDepth 20000 in
theorem gX9_best_X9_can : GoodIn wsX9_best (wsV RX9 55 RX9 yX9_can wsX9_can) := goodIn_app (goodIn_of _ (by decide +kernel)) ggX9_best_X9_can
set_option maxRecDepth 20000 in
theorem ggX9_best_X9_plays : GoodIn wsX9_best wsX9_plays := goodIn_r _ [22, 7, 1, 23, 24, 25, 26, 27, 28, 29, 5, 30, 31, 32, 33, 34, 35, 36, 37, 38, 39, 40, 41, 42, 43, 44, 45, 46, 47, 48] (by decide +kernel) (by decide +kernel)
set_option maxRecDepth 20000 in
theorem gX9_best_X9_plays : GoodIn wsX9_best (wsV RX9 166 RX9 yX9_plays wsX9_plays) := goodIn_app (goodIn_of _ (by decide +kernel)) ggX9_best_X9_plays
theorem dX9_best_0 : decode cX9_best 0 = .ok (.aload_n 0, 1) := by decide +kernel
theorem dX9_best_1 : decode cX9_best 1 = .ok (.aload_n 0, 1) := by decide +kernel
theorem dX9_best_2 : decode cX9_best 2 = .ok (.iload_n 1, 1) := by decide +kernel
theorem dX9_best_3 : decode cX9_best 3 = .ok (.invokevirtual 59, 3) := by decide +kernel
theorem dX9_best_6 : decode cX9_best 6 = .ok (.ifCond .ne 7, 3) := by decide +kernel
theorem dX9_best_9 : decode cX9_best 9 = .ok (.iconst 1, 1) := by decide +kernel
theorem dX9_best_10 : decode cX9_best 10 = .ok (.goto 15, 3) := by decide +kernel
theorem dX9_best_13 : decode cX9_best 13 = .ok (.iload_n 2, 1) := by decide +kernel
theorem dX9_best_14 : decode cX9_best 14 = .ok (.invokestatic 74, 3) := by decide +kernel
theorem dX9_best_17 : decode cX9_best 17 = .ok (.ifCond .eq 7, 3) := by decide +kernel
theorem dX9_best_20 : decode cX9_best 20 = .ok (.iconst 0, 1) := by decide +kernel
theorem dX9_best_21 : decode cX9_best 21 = .ok (.goto 4, 3) := by decide +kernel
theorem dX9_best_24 : decode cX9_best 24 = .ok (.iconst 2, 1) := by decide +kernel
theorem dX9_best_25 : decode cX9_best 25 = .ok (.invokevirtual 55, 3) := by decide +kernel
theorem dX9_best_28 : decode cX9_best 28 = .ok (.ifCond .ne 5, 3) := by decide +kernel
theorem dX9_best_31 : decode cX9_best 31 = .ok (.lconst 0, 1) := by decide +kernel
theorem dX9_best_32 : decode cX9_best 32 = .ok (.lreturn, 1) := by decide +kernel
theorem dX9_best_33 : decode cX9_best 33 = .ok (.aload_n 0, 1) := by decide +kernel
theorem dX9_best_34 : decode cX9_best 34 = .ok (.iload_n 2, 1) := by decide +kernel
theorem dX9_best_35 : decode cX9_best 35 = .ok (.invokevirtual 166, 3) := by decide +kernel
theorem dX9_best_38 : decode cX9_best 38 = .ok (.aload_n 0, 1) := by decide +kernel
theorem dX9_best_39 : decode cX9_best 39 = .ok (.getfield 26, 3) := by decide +kernel
theorem dX9_best_42 : decode cX9_best 42 = .ok (.iload_n 1, 1) := by decide +kernel
theorem dX9_best_43 : decode cX9_best 43 = .ok (.laload, 1) := by decide +kernel
theorem dX9_best_44 : decode cX9_best 44 = .ok (.lreturn, 1) := by decide +kernel
set_option maxRecDepth 20000 in
theorem ggX9_stops_X9_isState : GoodIn wsX9_stops wsX9_isState := goodIn_r _ [7, 8, 9, 10, 6, 11, 36, 37, 38, 39, 40, 41, 42, 43, 44, 45, 46, 47, 48] (by decide +kernel) (by decide +kernel)
set_option maxRecDepth 20000 in
theorem gX9_stops_X9_isState : GoodIn wsX9_stops (wsV RX9 59 RX9 yX9_isState wsX9_isState) := goodIn_app (goodIn_of _ (by decide +kernel)) ggX9_stops_X9_isState
set_option maxRecDepth 20000 in
theorem ggX9_stops_X9_areSteps : GoodIn wsX9_stops wsX9_areSteps := goodIn_r _ [14, 9, 10, 6, 11] (by decide +kernel) (by decide +kernel)
set_option maxRecDepth 20000 in
theorem gX9_stops_X9_areSteps : GoodIn wsX9_stops (va_wsS RX9 74 yX9_areSteps wsX9_areSteps) := goodIn_app (goodIn_of _ (by decide +kernel)) ggX9_stops_X9_areSteps
set_option maxRecDepth 20000 in
theorem ggX9_stops_X9_can : GoodIn wsX9_stops wsX9_can := goodIn_r _ [18, 19, 36, 37, 38, 39, 40, 41, 42, 43, 44, 45, 46, 47, 48] (by decide +kernel) (by decide +kernel)
set_option maxRecDepth 20000 in
theorem gX9_stops_X9_can : GoodIn wsX9_stops (wsV RX9 55 RX9 yX9_can wsX9_can) := goodIn_app (goodIn_of _ (by decide +kernel)) ggX9_stops_X9_can
set_option maxRecDepth 20000 in
theorem ggX9_stops_X9_plays : GoodIn wsX9_stops wsX9_plays := goodIn_r _ [23, 8, 24, 1, 2, 25, 26, 27, 28, 29, 6, 30, 31, 32, 33, 34, 35, 36, 37, 38, 39, 40, 41, 42, 43, 44, 45, 46, 47, 48] (by decide +kernel) (by decide +kernel)
set_option maxRecDepth 20000 in
theorem gX9_stops_X9_plays : GoodIn wsX9_stops (wsV RX9 166 RX9 yX9_plays wsX9_plays) := goodIn_app (goodIn_of _ (by decide +kernel)) ggX9_stops_X9_plays
set_option maxRecDepth 20000 in
theorem ggX9_stops_X9_power : GoodIn wsX9_stops wsX9_power := goodIn_r _ [35, 26, 36, 37, 38, 39, 40, 41, 42, 43, 44, 45, 46, 47, 48] (by decide +kernel) (by decide +kernel)
set_option maxRecDepth 20000 in
theorem gX9_stops_X9_power : GoodIn wsX9_stops (wsV RX9 77 RX9 yX9_power wsX9_power) := goodIn_app (goodIn_of _ (by decide +kernel)) ggX9_stops_X9_power
theorem dX9_stops_0 : decode cX9_stops 0 = .ok (.aload_n 0, 1) := by decide +kernel
theorem dX9_stops_1 : decode cX9_stops 1 = .ok (.aload_n 0, 1) := by decide +kernel
theorem dX9_stops_2 : decode cX9_stops 2 = .ok (.iload_n 1, 1) := by decide +kernel
theorem dX9_stops_3 : decode cX9_stops 3 = .ok (.invokevirtual 59, 3) := by decide +kernel
theorem dX9_stops_6 : decode cX9_stops 6 = .ok (.ifCond .ne 7, 3) := by decide +kernel
theorem dX9_stops_9 : decode cX9_stops 9 = .ok (.iconst 1, 1) := by decide +kernel
theorem dX9_stops_10 : decode cX9_stops 10 = .ok (.goto 15, 3) := by decide +kernel
theorem dX9_stops_13 : decode cX9_stops 13 = .ok (.iload_n 2, 1) := by decide +kernel
theorem dX9_stops_14 : decode cX9_stops 14 = .ok (.invokestatic 74, 3) := by decide +kernel
theorem dX9_stops_17 : decode cX9_stops 17 = .ok (.ifCond .eq 7, 3) := by decide +kernel
theorem dX9_stops_20 : decode cX9_stops 20 = .ok (.iconst 0, 1) := by decide +kernel
theorem dX9_stops_21 : decode cX9_stops 21 = .ok (.goto 4, 3) := by decide +kernel
theorem dX9_stops_24 : decode cX9_stops 24 = .ok (.iconst 2, 1) := by decide +kernel
theorem dX9_stops_25 : decode cX9_stops 25 = .ok (.invokevirtual 55, 3) := by decide +kernel
theorem dX9_stops_28 : decode cX9_stops 28 = .ok (.ifCond .ne 5, 3) := by decide +kernel
theorem dX9_stops_31 : decode cX9_stops 31 = .ok (.iconst 0, 1) := by decide +kernel
theorem dX9_stops_32 : decode cX9_stops 32 = .ok (.ireturn, 1) := by decide +kernel
theorem dX9_stops_33 : decode cX9_stops 33 = .ok (.aload_n 0, 1) := by decide +kernel
theorem dX9_stops_34 : decode cX9_stops 34 = .ok (.iload_n 2, 1) := by decide +kernel
theorem dX9_stops_35 : decode cX9_stops 35 = .ok (.invokevirtual 166, 3) := by decide +kernel
theorem dX9_stops_38 : decode cX9_stops 38 = .ok (.aload_n 0, 1) := by decide +kernel
theorem dX9_stops_39 : decode cX9_stops 39 = .ok (.getfield 20, 3) := by decide +kernel
theorem dX9_stops_42 : decode cX9_stops 42 = .ok (.iload_n 1, 1) := by decide +kernel
theorem dX9_stops_43 : decode cX9_stops 43 = .ok (.iaload, 1) := by decide +kernel
theorem dX9_stops_44 : decode cX9_stops 44 = .ok (.i2l, 1) := by decide +kernel
theorem dX9_stops_45 : decode cX9_stops 45 = .ok (.aload_n 0, 1) := by decide +kernel
theorem dX9_stops_46 : decode cX9_stops 46 = .ok (.iload_n 2, 1) := by decide +kernel
theorem dX9_stops_47 : decode cX9_stops 47 = .ok (.invokevirtual 77, 3) := by decide +kernel
theorem dX9_stops_50 : decode cX9_stops 50 = .ok (.lmul, 1) := by decide +kernel
theorem dX9_stops_51 : decode cX9_stops 51 = .ok (.aload_n 0, 1) := by decide +kernel
theorem dX9_stops_52 : decode cX9_stops 52 = .ok (.getfield 33, 3) := by decide +kernel
theorem dX9_stops_55 : decode cX9_stops 55 = .ok (.iload_n 1, 1) := by decide +kernel
theorem dX9_stops_56 : decode cX9_stops 56 = .ok (.laload, 1) := by decide +kernel
theorem dX9_stops_57 : decode cX9_stops 57 = .ok (.lcmp, 1) := by decide +kernel
theorem dX9_stops_58 : decode cX9_stops 58 = .ok (.ifCond .lt 7, 3) := by decide +kernel
theorem dX9_stops_61 : decode cX9_stops 61 = .ok (.iconst 1, 1) := by decide +kernel
theorem dX9_stops_62 : decode cX9_stops 62 = .ok (.goto 4, 3) := by decide +kernel
theorem dX9_stops_65 : decode cX9_stops 65 = .ok (.iconst 0, 1) := by decide +kernel
theorem dX9_stops_66 : decode cX9_stops 66 = .ok (.ireturn, 1) := by decide +kernel
set_option maxRecDepth 20000 in
theorem ggX9_reverses_X9_wholeRest : GoodIn wsX9_reverses wsX9_wholeRest := goodIn_r _ [7, 2, 8, 9, 10, 6, 11, 12, 13, 14, 15, 16, 17, 18, 19, 20, 21, 22, 23, 24, 25, 26, 27, 28, 29, 30, 31, 32, 33, 34, 35, 36, 37, 38, 39, 40, 41, 42, 43] (by decide +kernel) (by decide +kernel)
set_option maxRecDepth 20000 in
theorem gX9_reverses_X9_wholeRest : GoodIn wsX9_reverses (wsV RX9 144 RX9 yX9_wholeRest wsX9_wholeRest) := goodIn_app (goodIn_of _ (by decide +kernel)) ggX9_reverses_X9_wholeRest
set_option maxRecDepth 20000 in
theorem ggX9_reverses_X9_restOf : GoodIn wsX9_reverses wsX9_restOf := goodIn_r _ [11, 2, 12, 13, 14, 15, 16, 6, 17, 18, 19, 20, 21, 22, 23, 24, 25, 26, 27, 28, 29, 30, 31, 32, 33, 34, 35, 36, 37, 38, 39, 40, 41, 42, 43] (by decide +kernel) (by decide +kernel)
set_option maxRecDepth 20000 in
theorem gX9_reverses_X9_restOf : GoodIn wsX9_reverses (wsV RX9 141 RX9 yX9_restOf wsX9_restOf) := goodIn_app (goodIn_of _ (by decide +kernel)) ggX9_reverses_X9_restOf
set_option maxRecDepth 20000 in
theorem ggX9_reverses_X9_weigh : GoodIn wsX9_reverses wsX9_weigh := goodIn_r _ [22, 18, 23, 24, 25, 6, 26, 27, 31, 32, 33, 34, 35, 36, 37, 38, 39, 40, 41, 42, 43] (by decide +kernel) (by decide +kernel)
set_option maxRecDepth 20000 in
theorem gX9_reverses_X9_weigh : GoodIn wsX9_reverses (wsV RX9 71 RX9 yX9_weigh wsX9_weigh) := goodIn_app (goodIn_of _ (by decide +kernel)) ggX9_reverses_X9_weigh
theorem dX9_reverses_0 : decode cX9_reverses 0 = .ok (.aload_n 0, 1) := by decide +kernel
theorem dX9_reverses_1 : decode cX9_reverses 1 = .ok (.iconst 0, 1) := by decide +kernel
theorem dX9_reverses_2 : decode cX9_reverses 2 = .ok (.putfield 48, 3) := by decide +kernel
theorem dX9_reverses_5 : decode cX9_reverses 5 = .ok (.aload_n 0, 1) := by decide +kernel
theorem dX9_reverses_6 : decode cX9_reverses 6 = .ok (.invokevirtual 144, 3) := by decide +kernel
theorem dX9_reverses_9 : decode cX9_reverses 9 = .ok (.lconst 0, 1) := by decide +kernel
theorem dX9_reverses_10 : decode cX9_reverses 10 = .ok (.lcmp, 1) := by decide +kernel
theorem dX9_reverses_11 : decode cX9_reverses 11 = .ok (.ifCond .eq 7, 3) := by decide +kernel
theorem dX9_reverses_14 : decode cX9_reverses 14 = .ok (.iconst 1, 1) := by decide +kernel
theorem dX9_reverses_15 : decode cX9_reverses 15 = .ok (.goto 4, 3) := by decide +kernel
theorem dX9_reverses_18 : decode cX9_reverses 18 = .ok (.iconst 0, 1) := by decide +kernel
theorem dX9_reverses_19 : decode cX9_reverses 19 = .ok (.istore_n 1, 1) := by decide +kernel
theorem dX9_reverses_20 : decode cX9_reverses 20 = .ok (.iconst 0, 1) := by decide +kernel
theorem dX9_reverses_21 : decode cX9_reverses 21 = .ok (.istore_n 2, 1) := by decide +kernel
theorem dX9_reverses_22 : decode cX9_reverses 22 = .ok (.iload_n 2, 1) := by decide +kernel
theorem dX9_reverses_23 : decode cX9_reverses 23 = .ok (.aload_n 0, 1) := by decide +kernel
theorem dX9_reverses_24 : decode cX9_reverses 24 = .ok (.getfield 7, 3) := by decide +kernel
theorem dX9_reverses_27 : decode cX9_reverses 27 = .ok (.if_icmp .ge 62, 3) := by decide +kernel
theorem dX9_reverses_30 : decode cX9_reverses 30 = .ok (.iconst 0, 1) := by decide +kernel
theorem dX9_reverses_31 : decode cX9_reverses 31 = .ok (.istore_n 3, 1) := by decide +kernel
theorem dX9_reverses_32 : decode cX9_reverses 32 = .ok (.iload_n 3, 1) := by decide +kernel
theorem dX9_reverses_33 : decode cX9_reverses 33 = .ok (.iload_n 2, 1) := by decide +kernel
theorem dX9_reverses_34 : decode cX9_reverses 34 = .ok (.if_icmp .ge 49, 3) := by decide +kernel
theorem dX9_reverses_37 : decode cX9_reverses 37 = .ok (.iload_n 1, 1) := by decide +kernel
theorem dX9_reverses_38 : decode cX9_reverses 38 = .ok (.ifCond .eq 45, 3) := by decide +kernel
theorem dX9_reverses_41 : decode cX9_reverses 41 = .ok (.aload_n 0, 1) := by decide +kernel
theorem dX9_reverses_42 : decode cX9_reverses 42 = .ok (.iload_n 2, 1) := by decide +kernel
theorem dX9_reverses_43 : decode cX9_reverses 43 = .ok (.invokevirtual 141, 3) := by decide +kernel
theorem dX9_reverses_46 : decode cX9_reverses 46 = .ok (.aload_n 0, 1) := by decide +kernel
theorem dX9_reverses_47 : decode cX9_reverses 47 = .ok (.iload_n 2, 1) := by decide +kernel
theorem dX9_reverses_48 : decode cX9_reverses 48 = .ok (.iload_n 3, 1) := by decide +kernel
theorem dX9_reverses_49 : decode cX9_reverses 49 = .ok (.invokevirtual 71, 3) := by decide +kernel
theorem dX9_reverses_52 : decode cX9_reverses 52 = .ok (.i2l, 1) := by decide +kernel
theorem dX9_reverses_53 : decode cX9_reverses 53 = .ok (.lmul, 1) := by decide +kernel
theorem dX9_reverses_54 : decode cX9_reverses 54 = .ok (.aload_n 0, 1) := by decide +kernel
theorem dX9_reverses_55 : decode cX9_reverses 55 = .ok (.iload_n 3, 1) := by decide +kernel
theorem dX9_reverses_56 : decode cX9_reverses 56 = .ok (.invokevirtual 141, 3) := by decide +kernel
theorem dX9_reverses_59 : decode cX9_reverses 59 = .ok (.aload_n 0, 1) := by decide +kernel
theorem dX9_reverses_60 : decode cX9_reverses 60 = .ok (.iload_n 3, 1) := by decide +kernel
theorem dX9_reverses_61 : decode cX9_reverses 61 = .ok (.iload_n 2, 1) := by decide +kernel
theorem dX9_reverses_62 : decode cX9_reverses 62 = .ok (.invokevirtual 71, 3) := by decide +kernel
theorem dX9_reverses_65 : decode cX9_reverses 65 = .ok (.i2l, 1) := by decide +kernel
theorem dX9_reverses_66 : decode cX9_reverses 66 = .ok (.lmul, 1) := by decide +kernel
theorem dX9_reverses_67 : decode cX9_reverses 67 = .ok (.lcmp, 1) := by decide +kernel
theorem dX9_reverses_68 : decode cX9_reverses 68 = .ok (.ifCond .ne 7, 3) := by decide +kernel
theorem dX9_reverses_71 : decode cX9_reverses 71 = .ok (.iconst 1, 1) := by decide +kernel
theorem dX9_reverses_72 : decode cX9_reverses 72 = .ok (.goto 4, 3) := by decide +kernel
theorem dX9_reverses_75 : decode cX9_reverses 75 = .ok (.iconst 0, 1) := by decide +kernel
theorem dX9_reverses_76 : decode cX9_reverses 76 = .ok (.istore_n 1, 1) := by decide +kernel
theorem dX9_reverses_77 : decode cX9_reverses 77 = .ok (.iinc 3 1, 3) := by decide +kernel
theorem dX9_reverses_80 : decode cX9_reverses 80 = .ok (.goto (-48), 3) := by decide +kernel
theorem dX9_reverses_83 : decode cX9_reverses 83 = .ok (.iinc 2 1, 3) := by decide +kernel
theorem dX9_reverses_86 : decode cX9_reverses 86 = .ok (.goto (-64), 3) := by decide +kernel
theorem dX9_reverses_89 : decode cX9_reverses 89 = .ok (.iload_n 1, 1) := by decide +kernel
theorem dX9_reverses_90 : decode cX9_reverses 90 = .ok (.ireturn, 1) := by decide +kernel
set_option maxRecDepth 20000 in
theorem ggX9_weighColour_X9_weigh : GoodIn wsX9_weighColour wsX9_weigh := goodIn_r _ [7, 8, 9, 10, 11, 6, 12, 13, 14, 15, 16, 17, 18, 19, 20, 21, 22, 23, 24, 25, 26] (by decide +kernel) (by decide +kernel)
set_option maxRecDepth 20000 in
theorem gX9_weighColour_X9_weigh : GoodIn wsX9_weighColour (wsV RX9 71 RX9 yX9_weigh wsX9_weigh) := goodIn_app (goodIn_of _ (by decide +kernel)) ggX9_weighColour_X9_weigh
theorem dX9_weighColour_0 : decode cX9_weighColour 0 = .ok (.iconst 0, 1) := by decide +kernel
theorem dX9_weighColour_1 : decode cX9_weighColour 1 = .ok (.istore_n 3, 1) := by decide +kernel
theorem dX9_weighColour_2 : decode cX9_weighColour 2 = .ok (.iconst 0, 1) := by decide +kernel
theorem dX9_weighColour_3 : decode cX9_weighColour 3 = .ok (.istore 4, 2) := by decide +kernel
theorem dX9_weighColour_5 : decode cX9_weighColour 5 = .ok (.iload 4, 2) := by decide +kernel
theorem dX9_weighColour_7 : decode cX9_weighColour 7 = .ok (.aload_n 0, 1) := by decide +kernel
theorem dX9_weighColour_8 : decode cX9_weighColour 8 = .ok (.getfield 7, 3) := by decide +kernel
theorem dX9_weighColour_11 : decode cX9_weighColour 11 = .ok (.if_icmp .ge 34, 3) := by decide +kernel
theorem dX9_weighColour_14 : decode cX9_weighColour 14 = .ok (.iload_n 3, 1) := by decide +kernel
theorem dX9_weighColour_15 : decode cX9_weighColour 15 = .ok (.aload_n 0, 1) := by decide +kernel
theorem dX9_weighColour_16 : decode cX9_weighColour 16 = .ok (.getfield 23, 3) := by decide +kernel
theorem dX9_weighColour_19 : decode cX9_weighColour 19 = .ok (.iload 4, 2) := by decide +kernel
theorem dX9_weighColour_21 : decode cX9_weighColour 21 = .ok (.iaload, 1) := by decide +kernel
theorem dX9_weighColour_22 : decode cX9_weighColour 22 = .ok (.iload_n 2, 1) := by decide +kernel
theorem dX9_weighColour_23 : decode cX9_weighColour 23 = .ok (.if_icmp .ne 13, 3) := by decide +kernel
theorem dX9_weighColour_26 : decode cX9_weighColour 26 = .ok (.aload_n 0, 1) := by decide +kernel
theorem dX9_weighColour_27 : decode cX9_weighColour 27 = .ok (.iload_n 1, 1) := by decide +kernel
theorem dX9_weighColour_28 : decode cX9_weighColour 28 = .ok (.iload 4, 2) := by decide +kernel
theorem dX9_weighColour_30 : decode cX9_weighColour 30 = .ok (.invokevirtual 71, 3) := by decide +kernel
theorem dX9_weighColour_33 : decode cX9_weighColour 33 = .ok (.goto 4, 3) := by decide +kernel
theorem dX9_weighColour_36 : decode cX9_weighColour 36 = .ok (.iconst 0, 1) := by decide +kernel
theorem dX9_weighColour_37 : decode cX9_weighColour 37 = .ok (.iadd, 1) := by decide +kernel
theorem dX9_weighColour_38 : decode cX9_weighColour 38 = .ok (.istore_n 3, 1) := by decide +kernel
theorem dX9_weighColour_39 : decode cX9_weighColour 39 = .ok (.iinc 4 1, 3) := by decide +kernel
theorem dX9_weighColour_42 : decode cX9_weighColour 42 = .ok (.goto (-37), 3) := by decide +kernel
theorem dX9_weighColour_45 : decode cX9_weighColour 45 = .ok (.iload_n 3, 1) := by decide +kernel
theorem dX9_weighColour_46 : decode cX9_weighColour 46 = .ok (.ireturn, 1) := by decide +kernel
set_option maxRecDepth 20000 in
theorem ggX9_isLumped_X9_weighColour : GoodIn wsX9_isLumped wsX9_weighColour := goodIn_r _ [8, 2, 3, 9, 10, 11, 7, 12, 13, 14, 15, 16, 17, 18, 19, 20, 21, 22, 23, 24, 25, 26, 27, 28, 29, 30, 31] (by decide +kernel) (by decide +kernel)
set_option maxRecDepth 20000 in
theorem gX9_isLumped_X9_weighColour : GoodIn wsX9_isLumped (wsV RX9 169 RX9 yX9_weighColour wsX9_weighColour) := goodIn_app (goodIn_of _ (by decide +kernel)) ggX9_isLumped_X9_weighColour
theorem dX9_isLumped_0 : decode cX9_isLumped 0 = .ok (.aload_n 0, 1) := by decide +kernel
theorem dX9_isLumped_1 : decode cX9_isLumped 1 = .ok (.iconst 0, 1) := by decide +kernel
theorem dX9_isLumped_2 : decode cX9_isLumped 2 = .ok (.putfield 48, 3) := by decide +kernel
theorem dX9_isLumped_5 : decode cX9_isLumped 5 = .ok (.iconst 1, 1) := by decide +kernel
theorem dX9_isLumped_6 : decode cX9_isLumped 6 = .ok (.istore_n 1, 1) := by decide +kernel
theorem dX9_isLumped_7 : decode cX9_isLumped 7 = .ok (.iconst 0, 1) := by decide +kernel
theorem dX9_isLumped_8 : decode cX9_isLumped 8 = .ok (.istore_n 2, 1) := by decide +kernel
theorem dX9_isLumped_9 : decode cX9_isLumped 9 = .ok (.iload_n 2, 1) := by decide +kernel
theorem dX9_isLumped_10 : decode cX9_isLumped 10 = .ok (.aload_n 0, 1) := by decide +kernel
theorem dX9_isLumped_11 : decode cX9_isLumped 11 = .ok (.getfield 7, 3) := by decide +kernel
theorem dX9_isLumped_14 : decode cX9_isLumped 14 = .ok (.if_icmp .ge 80, 3) := by decide +kernel
theorem dX9_isLumped_17 : decode cX9_isLumped 17 = .ok (.iconst 0, 1) := by decide +kernel
theorem dX9_isLumped_18 : decode cX9_isLumped 18 = .ok (.istore_n 3, 1) := by decide +kernel
theorem dX9_isLumped_19 : decode cX9_isLumped 19 = .ok (.iload_n 3, 1) := by decide +kernel
theorem dX9_isLumped_20 : decode cX9_isLumped 20 = .ok (.iload_n 2, 1) := by decide +kernel
theorem dX9_isLumped_21 : decode cX9_isLumped 21 = .ok (.if_icmp .ge 67, 3) := by decide +kernel
theorem dX9_isLumped_24 : decode cX9_isLumped 24 = .ok (.iconst 0, 1) := by decide +kernel
theorem dX9_isLumped_25 : decode cX9_isLumped 25 = .ok (.istore 4, 2) := by decide +kernel
theorem dX9_isLumped_27 : decode cX9_isLumped 27 = .ok (.iload 4, 2) := by decide +kernel
theorem dX9_isLumped_29 : decode cX9_isLumped 29 = .ok (.bipush 6, 2) := by decide +kernel
theorem dX9_isLumped_31 : decode cX9_isLumped 31 = .ok (.if_icmp .ge 51, 3) := by decide +kernel
theorem dX9_isLumped_34 : decode cX9_isLumped 34 = .ok (.iload_n 1, 1) := by decide +kernel
theorem dX9_isLumped_35 : decode cX9_isLumped 35 = .ok (.ifCond .eq 39, 3) := by decide +kernel
theorem dX9_isLumped_38 : decode cX9_isLumped 38 = .ok (.aload_n 0, 1) := by decide +kernel
theorem dX9_isLumped_39 : decode cX9_isLumped 39 = .ok (.getfield 23, 3) := by decide +kernel
theorem dX9_isLumped_42 : decode cX9_isLumped 42 = .ok (.iload_n 2, 1) := by decide +kernel
theorem dX9_isLumped_43 : decode cX9_isLumped 43 = .ok (.iaload, 1) := by decide +kernel
theorem dX9_isLumped_44 : decode cX9_isLumped 44 = .ok (.aload_n 0, 1) := by decide +kernel
theorem dX9_isLumped_45 : decode cX9_isLumped 45 = .ok (.getfield 23, 3) := by decide +kernel
theorem dX9_isLumped_48 : decode cX9_isLumped 48 = .ok (.iload_n 3, 1) := by decide +kernel
theorem dX9_isLumped_49 : decode cX9_isLumped 49 = .ok (.iaload, 1) := by decide +kernel
theorem dX9_isLumped_50 : decode cX9_isLumped 50 = .ok (.if_icmp .ne 20, 3) := by decide +kernel
theorem dX9_isLumped_53 : decode cX9_isLumped 53 = .ok (.aload_n 0, 1) := by decide +kernel
theorem dX9_isLumped_54 : decode cX9_isLumped 54 = .ok (.iload_n 2, 1) := by decide +kernel
theorem dX9_isLumped_55 : decode cX9_isLumped 55 = .ok (.iload 4, 2) := by decide +kernel
theorem dX9_isLumped_57 : decode cX9_isLumped 57 = .ok (.invokevirtual 169, 3) := by decide +kernel
theorem dX9_isLumped_60 : decode cX9_isLumped 60 = .ok (.aload_n 0, 1) := by decide +kernel
theorem dX9_isLumped_61 : decode cX9_isLumped 61 = .ok (.iload_n 3, 1) := by decide +kernel
theorem dX9_isLumped_62 : decode cX9_isLumped 62 = .ok (.iload 4, 2) := by decide +kernel
theorem dX9_isLumped_64 : decode cX9_isLumped 64 = .ok (.invokevirtual 169, 3) := by decide +kernel
theorem dX9_isLumped_67 : decode cX9_isLumped 67 = .ok (.if_icmp .ne 7, 3) := by decide +kernel
theorem dX9_isLumped_70 : decode cX9_isLumped 70 = .ok (.iconst 1, 1) := by decide +kernel
theorem dX9_isLumped_71 : decode cX9_isLumped 71 = .ok (.goto 4, 3) := by decide +kernel
theorem dX9_isLumped_74 : decode cX9_isLumped 74 = .ok (.iconst 0, 1) := by decide +kernel
theorem dX9_isLumped_75 : decode cX9_isLumped 75 = .ok (.istore_n 1, 1) := by decide +kernel
theorem dX9_isLumped_76 : decode cX9_isLumped 76 = .ok (.iinc 4 1, 3) := by decide +kernel
theorem dX9_isLumped_79 : decode cX9_isLumped 79 = .ok (.goto (-52), 3) := by decide +kernel
theorem dX9_isLumped_82 : decode cX9_isLumped 82 = .ok (.iinc 3 1, 3) := by decide +kernel
theorem dX9_isLumped_85 : decode cX9_isLumped 85 = .ok (.goto (-66), 3) := by decide +kernel
theorem dX9_isLumped_88 : decode cX9_isLumped 88 = .ok (.iinc 2 1, 3) := by decide +kernel
theorem dX9_isLumped_91 : decode cX9_isLumped 91 = .ok (.goto (-82), 3) := by decide +kernel
theorem dX9_isLumped_94 : decode cX9_isLumped 94 = .ok (.iload_n 1, 1) := by decide +kernel
theorem dX9_isLumped_95 : decode cX9_isLumped 95 = .ok (.ireturn, 1) := by decide +kernel
theorem dJ6_bitCount_0f7a4_0 : decode cJ6_bitCount_0f7a4 0 = .ok (.iload_n 0, 1) := by decide +kernel
theorem dJ6_bitCount_0f7a4_1 : decode cJ6_bitCount_0f7a4 1 = .ok (.iload_n 0, 1) := by decide +kernel
theorem dJ6_bitCount_0f7a4_2 : decode cJ6_bitCount_0f7a4 2 = .ok (.iconst 1, 1) := by decide +kernel
theorem dJ6_bitCount_0f7a4_3 : decode cJ6_bitCount_0f7a4 3 = .ok (.iushr, 1) := by decide +kernel
theorem dJ6_bitCount_0f7a4_4 : decode cJ6_bitCount_0f7a4 4 = .ok (.ldc_w 265, 3) := by decide +kernel
theorem dJ6_bitCount_0f7a4_7 : decode cJ6_bitCount_0f7a4 7 = .ok (.iand, 1) := by decide +kernel
theorem dJ6_bitCount_0f7a4_8 : decode cJ6_bitCount_0f7a4 8 = .ok (.isub, 1) := by decide +kernel
theorem dJ6_bitCount_0f7a4_9 : decode cJ6_bitCount_0f7a4 9 = .ok (.istore_n 0, 1) := by decide +kernel
theorem dJ6_bitCount_0f7a4_10 : decode cJ6_bitCount_0f7a4 10 = .ok (.iload_n 0, 1) := by decide +kernel
theorem dJ6_bitCount_0f7a4_11 : decode cJ6_bitCount_0f7a4 11 = .ok (.ldc_w 266, 3) := by decide +kernel
theorem dJ6_bitCount_0f7a4_14 : decode cJ6_bitCount_0f7a4 14 = .ok (.iand, 1) := by decide +kernel
theorem dJ6_bitCount_0f7a4_15 : decode cJ6_bitCount_0f7a4 15 = .ok (.iload_n 0, 1) := by decide +kernel
theorem dJ6_bitCount_0f7a4_16 : decode cJ6_bitCount_0f7a4 16 = .ok (.iconst 2, 1) := by decide +kernel
theorem dJ6_bitCount_0f7a4_17 : decode cJ6_bitCount_0f7a4 17 = .ok (.iushr, 1) := by decide +kernel
theorem dJ6_bitCount_0f7a4_18 : decode cJ6_bitCount_0f7a4 18 = .ok (.ldc_w 266, 3) := by decide +kernel
theorem dJ6_bitCount_0f7a4_21 : decode cJ6_bitCount_0f7a4 21 = .ok (.iand, 1) := by decide +kernel
theorem dJ6_bitCount_0f7a4_22 : decode cJ6_bitCount_0f7a4 22 = .ok (.iadd, 1) := by decide +kernel
theorem dJ6_bitCount_0f7a4_23 : decode cJ6_bitCount_0f7a4 23 = .ok (.istore_n 0, 1) := by decide +kernel
theorem dJ6_bitCount_0f7a4_24 : decode cJ6_bitCount_0f7a4 24 = .ok (.iload_n 0, 1) := by decide +kernel
theorem dJ6_bitCount_0f7a4_25 : decode cJ6_bitCount_0f7a4 25 = .ok (.iload_n 0, 1) := by decide +kernel
theorem dJ6_bitCount_0f7a4_26 : decode cJ6_bitCount_0f7a4 26 = .ok (.iconst 4, 1) := by decide +kernel
theorem dJ6_bitCount_0f7a4_27 : decode cJ6_bitCount_0f7a4 27 = .ok (.iushr, 1) := by decide +kernel
theorem dJ6_bitCount_0f7a4_28 : decode cJ6_bitCount_0f7a4 28 = .ok (.iadd, 1) := by decide +kernel
theorem dJ6_bitCount_0f7a4_29 : decode cJ6_bitCount_0f7a4 29 = .ok (.ldc_w 267, 3) := by decide +kernel
theorem dJ6_bitCount_0f7a4_32 : decode cJ6_bitCount_0f7a4 32 = .ok (.iand, 1) := by decide +kernel
theorem dJ6_bitCount_0f7a4_33 : decode cJ6_bitCount_0f7a4 33 = .ok (.istore_n 0, 1) := by decide +kernel
theorem dJ6_bitCount_0f7a4_34 : decode cJ6_bitCount_0f7a4 34 = .ok (.iload_n 0, 1) := by decide +kernel
theorem dJ6_bitCount_0f7a4_35 : decode cJ6_bitCount_0f7a4 35 = .ok (.iload_n 0, 1) := by decide +kernel
theorem dJ6_bitCount_0f7a4_36 : decode cJ6_bitCount_0f7a4 36 = .ok (.bipush 8, 2) := by decide +kernel
theorem dJ6_bitCount_0f7a4_38 : decode cJ6_bitCount_0f7a4 38 = .ok (.iushr, 1) := by decide +kernel
theorem dJ6_bitCount_0f7a4_39 : decode cJ6_bitCount_0f7a4 39 = .ok (.iadd, 1) := by decide +kernel
theorem dJ6_bitCount_0f7a4_40 : decode cJ6_bitCount_0f7a4 40 = .ok (.istore_n 0, 1) := by decide +kernel
theorem dJ6_bitCount_0f7a4_41 : decode cJ6_bitCount_0f7a4 41 = .ok (.iload_n 0, 1) := by decide +kernel
theorem dJ6_bitCount_0f7a4_42 : decode cJ6_bitCount_0f7a4 42 = .ok (.iload_n 0, 1) := by decide +kernel
theorem dJ6_bitCount_0f7a4_43 : decode cJ6_bitCount_0f7a4 43 = .ok (.bipush 16, 2) := by decide +kernel
theorem dJ6_bitCount_0f7a4_45 : decode cJ6_bitCount_0f7a4 45 = .ok (.iushr, 1) := by decide +kernel
theorem dJ6_bitCount_0f7a4_46 : decode cJ6_bitCount_0f7a4 46 = .ok (.iadd, 1) := by decide +kernel
theorem dJ6_bitCount_0f7a4_47 : decode cJ6_bitCount_0f7a4 47 = .ok (.istore_n 0, 1) := by decide +kernel
theorem dJ6_bitCount_0f7a4_48 : decode cJ6_bitCount_0f7a4 48 = .ok (.iload_n 0, 1) := by decide +kernel
theorem dJ6_bitCount_0f7a4_49 : decode cJ6_bitCount_0f7a4 49 = .ok (.bipush 63, 2) := by decide +kernel
theorem dJ6_bitCount_0f7a4_51 : decode cJ6_bitCount_0f7a4 51 = .ok (.iand, 1) := by decide +kernel
theorem dJ6_bitCount_0f7a4_52 : decode cJ6_bitCount_0f7a4 52 = .ok (.ireturn, 1) := by decide +kernel
theorem dJ9_max_f86c9_0 : decode cJ9_max_f86c9 0 = .ok (.lload_n 0, 1) := by decide +kernel
theorem dJ9_max_f86c9_1 : decode cJ9_max_f86c9 1 = .ok (.lload_n 2, 1) := by decide +kernel
theorem dJ9_max_f86c9_2 : decode cJ9_max_f86c9 2 = .ok (.lcmp, 1) := by decide +kernel
theorem dJ9_max_f86c9_3 : decode cJ9_max_f86c9 3 = .ok (.ifCond .lt 7, 3) := by decide +kernel
theorem dJ9_max_f86c9_6 : decode cJ9_max_f86c9 6 = .ok (.lload_n 0, 1) := by decide +kernel
theorem dJ9_max_f86c9_7 : decode cJ9_max_f86c9 7 = .ok (.goto 4, 3) := by decide +kernel
theorem dJ9_max_f86c9_10 : decode cJ9_max_f86c9 10 = .ok (.lload_n 2, 1) := by decide +kernel
theorem dJ9_max_f86c9_11 : decode cJ9_max_f86c9 11 = .ok (.lreturn, 1) := by decide +kernel
theorem dJ7_fill_d0a16_0 : decode cJ7_fill_d0a16 0 = .ok (.iconst 0, 1) := by decide +kernel
theorem dJ7_fill_d0a16_1 : decode cJ7_fill_d0a16 1 = .ok (.istore_n 3, 1) := by decide +kernel
theorem dJ7_fill_d0a16_2 : decode cJ7_fill_d0a16 2 = .ok (.aload_n 0, 1) := by decide +kernel
theorem dJ7_fill_d0a16_3 : decode cJ7_fill_d0a16 3 = .ok (.arraylength, 1) := by decide +kernel
theorem dJ7_fill_d0a16_4 : decode cJ7_fill_d0a16 4 = .ok (.istore 4, 2) := by decide +kernel
theorem dJ7_fill_d0a16_6 : decode cJ7_fill_d0a16 6 = .ok (.iload_n 3, 1) := by decide +kernel
theorem dJ7_fill_d0a16_7 : decode cJ7_fill_d0a16 7 = .ok (.iload 4, 2) := by decide +kernel
theorem dJ7_fill_d0a16_9 : decode cJ7_fill_d0a16 9 = .ok (.if_icmp .ge 13, 3) := by decide +kernel
theorem dJ7_fill_d0a16_12 : decode cJ7_fill_d0a16 12 = .ok (.aload_n 0, 1) := by decide +kernel
theorem dJ7_fill_d0a16_13 : decode cJ7_fill_d0a16 13 = .ok (.iload_n 3, 1) := by decide +kernel
theorem dJ7_fill_d0a16_14 : decode cJ7_fill_d0a16 14 = .ok (.lload_n 1, 1) := by decide +kernel
theorem dJ7_fill_d0a16_15 : decode cJ7_fill_d0a16 15 = .ok (.lastore, 1) := by decide +kernel
theorem dJ7_fill_d0a16_16 : decode cJ7_fill_d0a16 16 = .ok (.iinc 3 1, 3) := by decide +kernel
theorem dJ7_fill_d0a16_19 : decode cJ7_fill_d0a16 19 = .ok (.goto (-13), 3) := by decide +kernel
theorem dJ7_fill_d0a16_22 : decode cJ7_fill_d0a16 22 = .ok (.return_, 1) := by decide +kernel
theorem dJ7_fill_53178_0 : decode cJ7_fill_53178 0 = .ok (.iconst 0, 1) := by decide +kernel
theorem dJ7_fill_53178_1 : decode cJ7_fill_53178 1 = .ok (.istore_n 2, 1) := by decide +kernel
theorem dJ7_fill_53178_2 : decode cJ7_fill_53178 2 = .ok (.aload_n 0, 1) := by decide +kernel
theorem dJ7_fill_53178_3 : decode cJ7_fill_53178 3 = .ok (.arraylength, 1) := by decide +kernel
theorem dJ7_fill_53178_4 : decode cJ7_fill_53178 4 = .ok (.istore_n 3, 1) := by decide +kernel
theorem dJ7_fill_53178_5 : decode cJ7_fill_53178 5 = .ok (.iload_n 2, 1) := by decide +kernel
theorem dJ7_fill_53178_6 : decode cJ7_fill_53178 6 = .ok (.iload_n 3, 1) := by decide +kernel
theorem dJ7_fill_53178_7 : decode cJ7_fill_53178 7 = .ok (.if_icmp .ge 13, 3) := by decide +kernel
theorem dJ7_fill_53178_10 : decode cJ7_fill_53178 10 = .ok (.aload_n 0, 1) := by decide +kernel
theorem dJ7_fill_53178_11 : decode cJ7_fill_53178 11 = .ok (.iload_n 2, 1) := by decide +kernel
theorem dJ7_fill_53178_12 : decode cJ7_fill_53178 12 = .ok (.iload_n 1, 1) := by decide +kernel
theorem dJ7_fill_53178_13 : decode cJ7_fill_53178 13 = .ok (.iastore, 1) := by decide +kernel
theorem dJ7_fill_53178_14 : decode cJ7_fill_53178 14 = .ok (.iinc 2 1, 3) := by decide +kernel
theorem dJ7_fill_53178_17 : decode cJ7_fill_53178 17 = .ok (.goto (-12), 3) := by decide +kernel
theorem dJ7_fill_53178_20 : decode cJ7_fill_53178 20 = .ok (.return_, 1) := by decide +kernel
set_option maxRecDepth 20000 in
theorem ggL_begin_X8_begin : GoodIn wsL_begin wsX8_begin := goodIn_ca (goodIn_r _ [6, 7, 8, 9, 10, 11, 5, 12, 13, 14, 15, 16, 17, 18, 19, 20, 21, 22, 23, 24, 25, 26, 27, 28, 29, 30, 31, 32, 33, 34, 35, 36, 37, 38, 39, 40, 41, 42, 43, 44, 45, 46, 47, 48, 49, 50, 51, 52, 53, 54, 55, 56, 57, 58] (by decide +kernel) (by decide +kernel)) (goodIn_sub (fun _ h => List.mem_cons_of_mem _ (List.mem_append_right _ h)) (by decide +kernel))
set_option maxRecDepth 20000 in
theorem gL_begin_X8_begin : GoodIn wsL_begin (wsV RL 7 RX8 yX8_begin wsX8_begin) := goodIn_app (goodIn_of _ (by decide +kernel)) ggL_begin_X8_begin
theorem dL_begin_0 : decode cL_begin 0 = .ok (.aload_n 0, 1) := by decide +kernel
theorem dL_begin_1 : decode cL_begin 1 = .ok (.iload_n 1, 1) := by decide +kernel
theorem dL_begin_2 : decode cL_begin 2 = .ok (.iload_n 2, 1) := by decide +kernel
theorem dL_begin_3 : decode cL_begin 3 = .ok (.invokevirtual 7, 3) := by decide +kernel
theorem dL_begin_6 : decode cL_begin 6 = .ok (.goto 6, 3) := by decide +kernel
theorem dL_begin_9 : decode cL_begin 9 = .ok (.astore_n 3, 1) := by decide +kernel
theorem dL_begin_10 : decode cL_begin 10 = .ok (.iconst 1, 1) := by decide +kernel
theorem dL_begin_11 : decode cL_begin 11 = .ok (.ireturn, 1) := by decide +kernel
theorem dL_begin_12 : decode cL_begin 12 = .ok (.iconst 0, 1) := by decide +kernel
theorem dL_begin_13 : decode cL_begin 13 = .ok (.ireturn, 1) := by decide +kernel
set_option maxRecDepth 20000 in
theorem ggL_lead_X8_lead : GoodIn wsL_lead wsX8_lead := goodIn_ca (goodIn_r _ [6, 7, 8, 9, 10, 5, 11, 12, 13, 14, 15, 16, 17, 18, 19, 20, 21, 22, 23, 24, 25, 26, 27, 28, 29, 30, 31, 32, 33, 34, 35, 36, 37, 38] (by decide +kernel) (by decide +kernel)) (goodIn_sub (fun _ h => List.mem_cons_of_mem _ (List.mem_append_right _ h)) (by decide +kernel))
set_option maxRecDepth 20000 in
theorem gL_lead_X8_lead : GoodIn wsL_lead (wsV RL 15 RX8 yX8_lead wsX8_lead) := goodIn_app (goodIn_of _ (by decide +kernel)) ggL_lead_X8_lead
theorem dL_lead_0 : decode cL_lead 0 = .ok (.aload 4, 2) := by decide +kernel
theorem dL_lead_2 : decode cL_lead 2 = .ok (.iconst 0, 1) := by decide +kernel
theorem dL_lead_3 : decode cL_lead 3 = .ok (.aload_n 0, 1) := by decide +kernel
theorem dL_lead_4 : decode cL_lead 4 = .ok (.iload_n 1, 1) := by decide +kernel
theorem dL_lead_5 : decode cL_lead 5 = .ok (.iload_n 2, 1) := by decide +kernel
theorem dL_lead_6 : decode cL_lead 6 = .ok (.iload_n 3, 1) := by decide +kernel
theorem dL_lead_7 : decode cL_lead 7 = .ok (.invokevirtual 15, 3) := by decide +kernel
theorem dL_lead_10 : decode cL_lead 10 = .ok (.i2l, 1) := by decide +kernel
theorem dL_lead_11 : decode cL_lead 11 = .ok (.lastore, 1) := by decide +kernel
theorem dL_lead_12 : decode cL_lead 12 = .ok (.goto 7, 3) := by decide +kernel
theorem dL_lead_15 : decode cL_lead 15 = .ok (.astore 5, 2) := by decide +kernel
theorem dL_lead_17 : decode cL_lead 17 = .ok (.iconst 1, 1) := by decide +kernel
theorem dL_lead_18 : decode cL_lead 18 = .ok (.ireturn, 1) := by decide +kernel
theorem dL_lead_19 : decode cL_lead 19 = .ok (.iconst 0, 1) := by decide +kernel
theorem dL_lead_20 : decode cL_lead 20 = .ok (.ireturn, 1) := by decide +kernel
set_option maxRecDepth 20000 in
theorem ggL_swap_X8_swap : GoodIn wsL_swap wsX8_swap := goodIn_ca (goodIn_r _ [6, 7, 8, 9, 10, 5, 11, 12, 13, 14, 15, 16, 17, 18, 19, 20, 21, 22, 23, 24, 25, 26, 27, 28, 29, 30, 31, 32, 33, 34, 35, 36, 37] (by decide +kernel) (by decide +kernel)) (goodIn_sub (fun _ h => List.mem_cons_of_mem _ (List.mem_append_right _ h)) (by decide +kernel))
set_option maxRecDepth 20000 in
theorem gL_swap_X8_swap : GoodIn wsL_swap (wsV RL 21 RX8 yX8_swap wsX8_swap) := goodIn_app (goodIn_of _ (by decide +kernel)) ggL_swap_X8_swap
theorem dL_swap_0 : decode cL_swap 0 = .ok (.aload_n 0, 1) := by decide +kernel
theorem dL_swap_1 : decode cL_swap 1 = .ok (.iload_n 1, 1) := by decide +kernel
theorem dL_swap_2 : decode cL_swap 2 = .ok (.iload_n 2, 1) := by decide +kernel
theorem dL_swap_3 : decode cL_swap 3 = .ok (.iload_n 3, 1) := by decide +kernel
theorem dL_swap_4 : decode cL_swap 4 = .ok (.invokevirtual 21, 3) := by decide +kernel
theorem dL_swap_7 : decode cL_swap 7 = .ok (.goto 7, 3) := by decide +kernel
theorem dL_swap_10 : decode cL_swap 10 = .ok (.astore 4, 2) := by decide +kernel
theorem dL_swap_12 : decode cL_swap 12 = .ok (.iconst 1, 1) := by decide +kernel
theorem dL_swap_13 : decode cL_swap 13 = .ok (.ireturn, 1) := by decide +kernel
theorem dL_swap_14 : decode cL_swap 14 = .ok (.iconst 0, 1) := by decide +kernel
theorem dL_swap_15 : decode cL_swap 15 = .ok (.ireturn, 1) := by decide +kernel
set_option maxRecDepth 20000 in
theorem ggL_pay_X8_pay : GoodIn wsL_pay wsX8_pay := goodIn_ca (goodIn_ca (goodIn_r _ [7, 8, 9, 10, 11, 12, 13, 6, 14, 15, 16, 17, 18, 19, 20, 21, 22, 23, 24, 25, 26, 27, 28, 29, 30, 31, 32, 33, 34, 35, 36, 37, 38, 39, 40, 41, 42, 43, 44] (by decide +kernel) (by decide +kernel)) (goodIn_sub (fun _ h => List.mem_cons_of_mem _ (List.mem_append_left _ (List.mem_append_right _ h))) (by decide +kernel))) (goodIn_sub (fun _ h => List.mem_cons_of_mem _ (List.mem_append_right _ h)) (by decide +kernel))
set_option maxRecDepth 20000 in
theorem gL_pay_X8_pay : GoodIn wsL_pay (wsV RL 25 RX8 yX8_pay wsX8_pay) := goodIn_app (goodIn_of _ (by decide +kernel)) ggL_pay_X8_pay
theorem dL_pay_0 : decode cL_pay 0 = .ok (.aload_n 3, 1) := by decide +kernel
theorem dL_pay_1 : decode cL_pay 1 = .ok (.iconst 0, 1) := by decide +kernel
theorem dL_pay_2 : decode cL_pay 2 = .ok (.aload_n 0, 1) := by decide +kernel
theorem dL_pay_3 : decode cL_pay 3 = .ok (.iload_n 1, 1) := by decide +kernel
theorem dL_pay_4 : decode cL_pay 4 = .ok (.iload_n 2, 1) := by decide +kernel
theorem dL_pay_5 : decode cL_pay 5 = .ok (.invokevirtual 25, 3) := by decide +kernel
theorem dL_pay_8 : decode cL_pay 8 = .ok (.i2l, 1) := by decide +kernel
theorem dL_pay_9 : decode cL_pay 9 = .ok (.lastore, 1) := by decide +kernel
theorem dL_pay_10 : decode cL_pay 10 = .ok (.goto 11, 3) := by decide +kernel
theorem dL_pay_13 : decode cL_pay 13 = .ok (.astore 4, 2) := by decide +kernel
theorem dL_pay_15 : decode cL_pay 15 = .ok (.iconst 1, 1) := by decide +kernel
theorem dL_pay_16 : decode cL_pay 16 = .ok (.ireturn, 1) := by decide +kernel
theorem dL_pay_17 : decode cL_pay 17 = .ok (.astore 4, 2) := by decide +kernel
theorem dL_pay_19 : decode cL_pay 19 = .ok (.iconst 2, 1) := by decide +kernel
theorem dL_pay_20 : decode cL_pay 20 = .ok (.ireturn, 1) := by decide +kernel
theorem dL_pay_21 : decode cL_pay 21 = .ok (.iconst 0, 1) := by decide +kernel
theorem dL_pay_22 : decode cL_pay 22 = .ok (.ireturn, 1) := by decide +kernel
set_option maxRecDepth 20000 in
theorem ggL_colour_X8_colour : GoodIn wsL_colour wsX8_colour := goodIn_ca (goodIn_ca (goodIn_r _ [7, 8, 9, 10, 11, 6, 12, 13, 14, 15, 16, 17, 18, 19, 20, 21, 22, 23, 24, 25, 26, 27, 28, 29, 30, 31, 32, 33, 34, 35, 36, 37, 38, 39, 40, 41] (by decide +kernel) (by decide +kernel)) (goodIn_sub (fun _ h => List.mem_cons_of_mem _ (List.mem_append_left _ (List.mem_append_right _ h))) (by decide +kernel))) (goodIn_sub (fun _ h => List.mem_cons_of_mem _ (List.mem_append_right _ h)) (by decide +kernel))
set_option maxRecDepth 20000 in
theorem gL_colour_X8_colour : GoodIn wsL_colour (wsV RL 29 RX8 yX8_colour wsX8_colour) := goodIn_app (goodIn_of _ (by decide +kernel)) ggL_colour_X8_colour
theorem dL_colour_0 : decode cL_colour 0 = .ok (.aload_n 3, 1) := by decide +kernel
theorem dL_colour_1 : decode cL_colour 1 = .ok (.iconst 0, 1) := by decide +kernel
theorem dL_colour_2 : decode cL_colour 2 = .ok (.aload_n 0, 1) := by decide +kernel
theorem dL_colour_3 : decode cL_colour 3 = .ok (.iload_n 1, 1) := by decide +kernel
theorem dL_colour_4 : decode cL_colour 4 = .ok (.iload_n 2, 1) := by decide +kernel
theorem dL_colour_5 : decode cL_colour 5 = .ok (.invokevirtual 29, 3) := by decide +kernel
theorem dL_colour_8 : decode cL_colour 8 = .ok (.i2l, 1) := by decide +kernel
theorem dL_colour_9 : decode cL_colour 9 = .ok (.lastore, 1) := by decide +kernel
theorem dL_colour_10 : decode cL_colour 10 = .ok (.goto 11, 3) := by decide +kernel
